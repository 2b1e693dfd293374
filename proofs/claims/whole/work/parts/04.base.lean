/-! ===== ONE JUDGEMENT OVER THE MACHINE: words, pictures of the heap, V ===== -/
/-- the words that every method takes with it -/
def TB : List Cond := lw_tbl.filter goodWord
theorem tb_in (i : Nat) {w : Cond} (h : lw_tbl[i]? = some w) (g : goodWord w = true) : w ∈ TB := List.mem_filter.mpr ⟨List.mem_of_getElem? h, g⟩
theorem tb_good : ∀ w ∈ TB, (w.onTables && w.keeps) = true ∨ ∃ ty, w = .arrayClass ty := fun w h => good_of_word (List.mem_filter.mp h).2
/-- base of the new cells, the script's address, class numbers, slots of fields, classes of arrays by kind -/
abbrev GG : Type := Nat × Nat × (Nat → ClassId) × (Nat → Nat → Nat) × (Nat → ClassId)
/-- how many cells, how many slots, each cell's kind, each array's length, references -/
abbrev Sh : Type := Nat × Nat × (Nat → Nat) × (Nat → Nat) × (Nat → Nat → Nat)
/-- the shape, and the ints -/
abbrev Hp : Type := Sh × (Nat → Nat → Int32)
/-- name, bytes, locals, what it returns, its handlers -/
abbrev MR : Type := MethodName × ByteArray × Nat × Option FieldType × List (Nat × Nat × Nat × Nat)
abbrev OU : Type := Option Value ⊕ String
abbrev nH (h : Hp) : Nat := h.1.1
abbrev zH (h : Hp) : Nat := h.1.2.1
abbrev kH (h : Hp) : Nat → Nat := h.1.2.2.1
abbrev lH (h : Hp) : Nat → Nat := h.1.2.2.2.1
abbrev rH (h : Hp) : Nat → Nat → Nat := h.1.2.2.2.2
/-- the kind of elements by the kind of array: 1 int, 2 byte, 3 boolean, 4 long, 5 State, 6 Image, 7 int[] -/
def aty : Nat → FieldType := fun k => match k with
  | 1 => .int
  | 2 => .byte
  | 3 => .boolean
  | 4 => .long
  | 5 => .object RX5
  | 6 => .object RX1
  | _ => .array .int
/-- the classes whose objects there are: kind 10 and the class's number -/
def cT : Nat → vw_C := fun ci => match ci with
  | 0 => (RX0, TX0, 2)
  | 1 => (RX1, TX1, 2)
  | 2 => (RX2, TX2, 6)
  | 3 => (RX3, TX3, 10)
  | 4 => (RX4, TX4, 8)
  | 5 => (RX5, TX5, 16)
  | 6 => (RX6, TX6, 1)
  | 7 => (RX7, TX7, 4)
  | 8 => (RX10, TX10, 38)
  | _ => (RX9, TX9, 17)
def cty : Nat → Nat → FieldType := fun ci => match ci with
  | 0 => tyX0
  | 1 => tyX1
  | 2 => tyX2
  | 3 => tyX3
  | 4 => tyX4
  | 5 => tyX5
  | 6 => tyX6
  | 7 => tyX7
  | 8 => tyX10
  | _ => tyX9
/-- own cells from 8 on; 1 the script, 2 the String of words, 3 its bytes, 4 a formatter: what was there before -/
def adG (G : GG) (q : Nat) : Nat := if q = 1 then G.2.1 else if q < 8 then G.2.2.2.1 100 q else G.1 + (q - 8)
/-- the formatter of Preconditions, or null -/
def fmtG (G : GG) : Nat := if G.2.2.2.1 101 0 = 0 then 0 else 4
def trV (G : GG) : Value → Value
  | .ref q => if q = 0 then .null else .ref (adG G q)
  | v => v
theorem trV_cat (G : GG) (v : Value) : (trV G v).category = v.category := by
  cases v with
  | ref q => unfold trV; dsimp only; split <;> rfl
  | _ => rfl
theorem trV_ref (G : GG) {q : Nat} (h : q ≠ 0) : trV G (.ref q) = .ref (adG G q) := if_neg h
theorem adG_own (G : GG) {a : Nat} (ha : 8 ≤ a) : adG G a = G.1 + (a - 8) := by
  unfold adG
  rw [if_neg (by omega), if_neg (by omega)]
theorem adG_inj (G : GG) {a b : Nat} (ha : 8 ≤ a) (hb : 8 ≤ b) (h : adG G a = adG G b) : a = b := by
  rw [adG_own G ha, adG_own G hb] at h
  omega
theorem adG_ge (G : GG) {a : Nat} (ha : 8 ≤ a) : G.1 ≤ adG G a := by
  rw [adG_own G ha]
  omega
/-- what an array of a kind holds at a place -/
def aV (G : GG) (k : Nat) (I : Nat → Int32) (R : Nat → Nat) (j : Nat) : Value := if k = 4 then .long (I j).toInt64 else if 5 ≤ k then trV G (.ref (R j)) else .int (I j)
/-- what an object of a class holds in a field -/
def oV (G : GG) (ci : Nat) (I : Nat → Int32) (R : Nat → Nat) (j : Nat) : Value := if (cty ci j).isReference then trV G (.ref (R j)) else .int (I j)
def CR (G : GG) (h : Hp) (H : Heap) (r : Nat) : Prop :=
  (1 ≤ kH h r → kH h r < 8 → H[adG G r]? = some (arrV (G.2.2.2.2 (kH h r)) (lH h r) (aV G (kH h r) (h.2 r) (rH h r)))) ∧
  (10 ≤ kH h r → kH h r < 20 → t_OB (adG G r) (G.2.2.1 (kH h r - 10)) (cT (kH h r - 10)).2.2 (G.2.2.2.1 (kH h r - 10)) H (oV G (kH h r - 10) (h.2 r) (rH h r))) ∧
  (kH h r = 2 → ∀ j, j < lH h r → fits .byte (.int (h.2 r j)) = true)
def nestW : List (String × Nat × MethodName × String) := [(RX9, 18, yX0_init, RX9), (RX9, 35, yX2_init, RX9), (RX9, 42, yX6_init, RX9), (RX6, 11, yX2_init, RX9), (RX9, 53, yX3_init, RX9), (RX3, 11, yX4_init, RX9), (RX9, 395, yX1_init, RX9), (RX1, 18, yX0_init, RX9)]
def strW : List (String × Nat × String) := [(RX9, 184, "no such length"), (RX9, 404, "no such number"), (RX9, 413, "no such block"), (RX9, 416, "no such place"), (RX9, 408, "no such node"), (RX9, 245, "no such name"), (RX9, 418, "no such change"), (RX9, 422, "not so many changes")]
def xIA : String := "java/lang/IllegalArgumentException"
def xIO : String := "java/lang/IndexOutOfBoundsException"
def xNS : String := "java/util/NoSuchElementException"
def xNP : String := "java/lang/NullPointerException"
def castW : List (String × String) := [(xIA, xIA), (xIO, xIO), (xNS, xNS), (xNP, xNP)]
def ncW : List (String × String) := [(xIO, xIA), (xIA, xNS), (xNP, xIA), (xIO, xNP)]
def txW : String := "make dir  link grow put  cut  drop sweepwritesync crashagainsize "
/-- the bytes of the words -/
def byW : List Int32 := [109, 97, 107, 101, 32, 100, 105, 114, 32, 32, 108, 105, 110, 107, 32, 103, 114, 111, 119, 32, 112, 117, 116, 32, 32, 99, 117, 116, 32, 32, 100, 114, 111, 112, 32, 115, 119, 101, 101, 112, 119, 114, 105, 116, 101, 115, 121, 110, 99, 32, 99, 114, 97, 115, 104, 97, 103, 97, 105, 110, 115, 105, 122, 101, 32]
/-- what the tables say, at any state -/
def KR (G : GG) (U : State) : Prop :=
  (∀ ci, ci < 10 → u_Kn U (cT ci).1 (cT ci).2.1 (cT ci).2.2 (G.2.2.1 ci) (G.2.2.2.1 ci)) ∧
  (∀ k, 1 ≤ k → k < 8 → ArrOfT U (G.2.2.2.2 k) (aty k) ∧ va_RA U (G.2.2.2.2 k) (aty k)) ∧
  (∀ q ∈ nestW, va_Nw (.methodLinkNest q.1 q.2.1 q.2.2.1 q.2.2.2) U) ∧
  (va_AO RX5 U ∧ va_AO RX1 U) ∧
  (∀ q ∈ strW, ∃ a, vk_R q.1 q.2.1 q.2.2 a U) ∧
  (∀ q ∈ castW, va_Nw (.castable q.1 q.2) U) ∧ (∀ q ∈ ncW, va_Nc q.1 q.2 U) ∧
  (Cond.arrayOver (.array .int)).before #[] U = true ∧ vk_R RX3 108 txW (adG G 2) U
theorem ao_moved {u U : State} (hvm : u.vm.Alike U.vm) (h : (Cond.arrayOver (.array .int)).before #[] u = true) : (Cond.arrayOver (.array .int)).before #[] U = true := by
  obtain ⟨comp, c, k, h1, h2, h3, h4, h5⟩ := arrayOverA_spec h
  obtain ⟨k', hk', he⟩ := hvm.2.2 _ _ h3
  have hi : (U.vm.classes.findIdx? fun (x : Class) => match x.kind with | .array component _ => component == comp | _ => false) = some c := by
    rw [hvm.findIdx?_eq _ (fun _ => rfl)]
    exact h2
  have hkind : k'.kind = .array comp (.array .int) := by rw [he]; exact h4
  have f1 : U.vm.findClass (FieldType.array .int).toString = some comp := by rw [hvm.findClass]; exact h1
  have f2 : U.vm.findClass ("[" ++ (FieldType.array .int).toString) = some c := by rw [hvm.findClass]; exact h5
  unfold Cond.before Cond.holds
  simp only [Cond.value]
  rw [f1, Option.bind_some]
  refine (congrArg (fun o : Option Nat => (o.bind (fun c => (U.vm.classes[c]?).map fun (k : Class) => match k.kind with | .array _ ty => decide (ty = FieldType.array .int) && decide (U.vm.findClass ("[" ++ (FieldType.array .int).toString) = some c) | _ => false)) == some true) hi).trans ?_
  simp [hk', hkind, f2]
theorem KR.moved {G : GG} {s U : State} (hW : s.WarmedH U.vm) (h : KR G s) : KR G U := by
  obtain ⟨h1, h2, h3, h4, h5, h6, h7, h8, h9⟩ := h
  refine ⟨fun ci hc => u_Kn_moved hW.alike (h1 ci hc), fun k a b => ⟨arrOfT_moved hW.alike (h2 k a b).1, va_RA.moved hW.alike (h2 k a b).2⟩, fun q hq => va_Nw.warmM hW (h3 q hq), ⟨va_AO.moved hW.alike h4.1, va_AO.moved hW.alike h4.2⟩, fun q hq => ?_, fun q hq => va_Nw.warmC hW (h6 q hq), fun q hq => (h7 q hq).moved hW.alike, ao_moved hW.alike h8, vk_R.warm hW h9⟩
  obtain ⟨a, ha⟩ := h5 q hq
  exact ⟨a, vk_R.warm hW ha⟩
def ZR (G : GG) (U : State) (H : Heap) : Prop := vx_Zq Bundle.tN "UNASSIGNED_STACK" Bundle.steD (fun q => G.1 ≤ q) U H ∧ vx_Zq Bundle.tN "SUPPRESSED_SENTINEL" Bundle.listD (fun q => G.1 ≤ q) U H
/-- the String of words, and two statics -/
def YR (G : GG) (U : State) (H : Heap) : Prop := vk_S 1 [65] [byW] (fun _ => adG G 2) (fun _ => adG G 3) (fun q => G.1 ≤ q) U H ∧ va_Z "java/lang/String" "COMPACT_STRINGS" "Z" (.int 1) (fun q => G.1 ≤ q) U H ∧ va_Z "jdk/internal/util/Preconditions" "SIOOBE_FORMATTER" "Ljava/util/function/BiFunction;" (trV G (.ref (fmtG G))) (fun q => G.1 ≤ q) U H
theorem YR.moved {G : GG} {u U : State} {H : Heap} (hvm : u.vm.Alike U.vm) (h : YR G u H) : YR G U H := ⟨vk_S.moved hvm h.1, va_Z.moved hvm h.2.1, va_Z.moved hvm h.2.2⟩
theorem YR.kept {G : GG} {U : State} {H H1 : Heap} (h : YR G U H) (hq : ∀ a : Nat, a < H.size → ¬ G.1 ≤ a → H1[a]? = H[a]?) : YR G U H1 := ⟨vk_S.kept h.1 hq, va_Z.kept h.2.1 hq, va_Z.kept h.2.2 hq⟩
/-- the script, which nobody writes -/
def XR (G : GG) (h : Hp) (U : State) (H : Heap) : Prop := va_X G.2.1 (lH h 1) (h.2 1) U H ∧ YR G U H
def WR (G : GG) (h : Hp) (U : State) (H : Heap) : Prop :=
  8 ≤ nH h ∧ H.size = G.1 + (nH h - 8) ∧ G.2.1 < G.1 ∧ (kH h 0 = 0 ∧ kH h 1 = 8 ∧ ∀ q, 2 ≤ q → q < 8 → kH h q = 0) ∧ (∀ r, nH h ≤ r → kH h r = 0) ∧ (∀ r, 8 ≤ r → r < nH h → CR G h H r) ∧ KR G U ∧ ZR G U H ∧ XR G h U H
theorem WR.in {G : GG} {h : Hp} {U : State} {H : Heap} (w : WR G h U H) {r k : Nat} (hk : kH h r = k) (h0 : 1 ≤ k) (h8 : k ≠ 8) : 8 ≤ r ∧ r < nH h := by
  obtain ⟨w1, w2, w3, ⟨k0, k1, k2⟩, w5, w6⟩ := w
  refine ⟨?_, ?_⟩
  · rcases Nat.lt_or_ge r 8 with hl | hg
    · have : r = 0 ∨ r = 1 ∨ 2 ≤ r := by omega
      rcases this with rfl | rfl | q
      · omega
      · omega
      · have := k2 r q hl; omega
    · exact hg
  · rcases Nat.lt_or_ge r (nH h) with hl | hg
    · exact hl
    · have := w5 r hg
      omega
theorem va_X.keep {b L : Nat} {xs : Nat → Int32} {U : State} {H H' : Heap} (h : va_X b L xs U H) (e : H'[b]? = H[b]?) : va_X b L xs U H' := by
  obtain ⟨scr, h1, h2⟩ := h
  exact ⟨scr, by rw [e]; exact h1, h2⟩
theorem va_X.move {b L : Nat} {xs : Nat → Int32} {s U : State} {H : Heap} (hvm : s.vm.Alike U.vm) (h : va_X b L xs s H) : va_X b L xs U H := by
  obtain ⟨scr, h1, h2, h3⟩ := h
  exact ⟨scr, h1, State.isArrayOf_alike hvm h2, h3⟩
theorem WR.moved {G : GG} {h : Hp} {s U : State} {H : Heap} (hW : s.WarmedH U.vm) (w : WR G h s H) : WR G h U H := by
  obtain ⟨w1, w2, w3, w4, w5, w6, w7, w8, w9⟩ := w
  exact ⟨w1, w2, w3, w4, w5, w6, w7.moved hW, ⟨vx_Zq.moved hW.alike w8.1, vx_Zq.moved hW.alike w8.2⟩, va_X.move hW.alike w9.1, w9.2.moved hW.alike⟩
/-- one cell is written -/
theorem WR.set {G : GG} {h h' : Hp} {s : State} {H H' : Heap} (w : WR G h s H) {r : Nat} (hr : 8 ≤ r) (hsz : H'.size = H.size) (ho : ∀ q, q ≠ adG G r → H'[q]? = H[q]?)
    (hn : nH h' = nH h) (hk : kH h' = kH h) (hl : lH h' = lH h) (hI : ∀ a, a ≠ r → h'.2 a = h.2 a) (hR : ∀ a, a ≠ r → rH h' a = rH h a) (hc : CR G h' H' r) : WR G h' s H' := by
  obtain ⟨w1, w2, w3, w4, w5, w6, w7, w8, w9⟩ := w
  have hb : adG G r ≠ G.2.1 := by have := adG_ge G hr; omega
  have keep : ∀ a : Nat, a < H.size → ¬ G.1 ≤ a → H'[a]? = H[a]? := fun a _ h2 => ho a (by have := adG_ge G hr; omega)
  refine ⟨by rw [hn]; exact w1, by rw [hsz, hn]; exact w2, w3, by rw [hk]; exact w4, by rw [hn, hk]; exact w5, fun a h4 ha => ?_, w7, ⟨w8.1.kept keep, w8.2.kept keep⟩, ?_⟩
  · by_cases e : a = r
    · subst e; exact hc
    · have hne : adG G a ≠ adG G r := fun q => e (adG_inj G h4 hr q)
      obtain ⟨c1, c2, c3⟩ := w6 a h4 (by rw [hn] at ha; exact ha)
      refine ⟨?_, ?_, ?_⟩
      · rw [hk, hl, hI a e, hR a e, ho _ hne]; exact c1
      · rw [hk, hI a e, hR a e]; exact fun x y => (c2 x y).kept (ho _ hne)
      · rw [hk, hl, hI a e]; exact c3
  · unfold XR
    rw [hl, hI 1 (by omega)]
    exact ⟨va_X.keep w9.1 (ho _ (fun q => hb q.symm)), w9.2.kept keep⟩
/-- one cell is made -/
theorem WR.push {G : GG} {h h' : Hp} {s : State} {H H' : Heap} (w : WR G h s H) (hsz : H'.size = H.size + 1) (ho : ∀ q, q < H.size → H'[q]? = H[q]?)
    (hn : nH h' = nH h + 1) (hk : ∀ a, a ≠ nH h → kH h' a = kH h a) (hl : ∀ a, a ≠ nH h → lH h' a = lH h a) (hI : ∀ a, a ≠ nH h → h'.2 a = h.2 a) (hR : ∀ a, a ≠ nH h → rH h' a = rH h a) (hc : CR G h' H' (nH h)) : WR G h' s H' := by
  obtain ⟨w1, w2, w3, w4, w5, w6, w7, w8, w9⟩ := w
  have had : ∀ a, 8 ≤ a → a < nH h → adG G a < H.size := fun a h4 ha => by rw [adG_own G h4]; omega
  have keep : ∀ a : Nat, a < H.size → ¬ G.1 ≤ a → H'[a]? = H[a]? := fun a h2 _ => ho a h2
  refine ⟨by omega, by omega, w3, ⟨?_, ?_, ?_⟩, fun a ha => by rw [hk a (by omega)]; exact w5 a (by omega), fun a h4 ha => ?_, w7, ⟨w8.1.kept keep, w8.2.kept keep⟩, ?_⟩
  · rw [hk 0 (by omega)]; exact w4.1
  · rw [hk 1 (by omega)]; exact w4.2.1
  · intro q h2 h8; rw [hk q (by omega)]; exact w4.2.2 q h2 h8
  · by_cases e : a = nH h
    · subst e; exact hc
    · obtain ⟨c1, c2, c3⟩ := w6 a h4 (by omega)
      have hq := ho _ (had a h4 (by omega))
      refine ⟨?_, ?_, ?_⟩
      · rw [hk a e, hl a e, hI a e, hR a e, hq]; exact c1
      · rw [hk a e, hI a e, hR a e]; exact fun x y => (c2 x y).kept hq
      · rw [hk a e, hl a e, hI a e]; exact c3
  · unfold XR
    rw [hl 1 (by omega), hI 1 (by omega)]
    exact ⟨va_X.keep w9.1 (ho _ (by omega)), w9.2.kept keep⟩
/-! locals -/
def isV : Value → Bool
  | .int _ => true
  | .ref _ => true
  | _ => false
/-- a local of which nothing is known -/
def uV : Value := .double 0
def LR (G : GG) (loc : List Value) (ls : Array Slot) : Prop := ls.size = loc.length ∧ lv_wf ls ∧ ∀ (i : Nat) (v : Value), loc[i]? = some v → isV v = true → ls[i]? = some (.val (trV G v))
def lvl (G : GG) (loc : List Value) : List (Nat × Value) := (List.range loc.length).filterMap (fun i => (loc[i]?).bind fun v => if isV v then some (i, trV G v) else none)
theorem lvl_mem {G : GG} {loc : List Value} {i : Nat} {v : Value} (h : loc[i]? = some v) (hv : isV v = true) : (i, trV G v) ∈ lvl G loc := by
  refine List.mem_filterMap.mpr ⟨i, List.mem_range.mpr (List.getElem?_eq_some_iff.mp h).1, ?_⟩
  rw [h]
  simp [hv]
theorem LR.has {G : GG} {loc : List Value} {ls : Array Slot} (h : LR G loc ls) : lv_has ls loc.length (lvl G loc) := by
  refine ⟨h.1, h.2.1, fun q hq => ?_⟩
  obtain ⟨i, -, hi⟩ := List.mem_filterMap.mp hq
  obtain ⟨v, hv, hi⟩ := Option.bind_eq_some_iff.mp hi
  by_cases e : isV v = true
  · rw [if_pos e] at hi
    cases hi
    exact h.2.2 i v hv e
  · rw [if_neg e] at hi; cases hi
theorem LR.back {G : GG} {loc : List Value} {ls' : Array Slot} {i : Nat} {v w : Value} (hw : trV G v = w) (h : lv_has ls' loc.length ((i, w) :: (lvl G loc).filter (fun q => !(q.1 == i) && !(q.1 + 1 == i && q.2.category == 2)))) : LR G (loc.set i v) ls' := by
  obtain ⟨h1, h2, h3⟩ := h
  refine ⟨by rw [List.length_set]; exact h1, h2, fun j x hj hx => ?_⟩
  rw [List.getElem?_set] at hj
  by_cases e : i = j
  · subst e
    rw [if_pos rfl] at hj
    split at hj
    · cases hj
      rw [hw]
      exact h3 (i, w) List.mem_cons_self
    · cases hj
  · rw [if_neg e] at hj
    refine h3 (j, trV G x) (List.mem_cons_of_mem _ (List.mem_filter.mpr ⟨lvl_mem hj hx, ?_⟩))
    have hc : (trV G x).category ≠ 2 := by
      rw [trV_cat]
      cases x <;> first | (cases hx; done) | simp [Value.category]
    simp [Ne.symm e, hc]
/-- fewer locals are known -/
def lle : List Value → List Value → Bool
  | [], [] => true
  | a :: l, b :: r => (a == uV || a == b) && lle l r
  | _, _ => false
theorem lle_at : ∀ {l r : List Value}, lle l r = true → l.length = r.length ∧ ∀ (i : Nat) (v : Value), l[i]? = some v → v = uV ∨ r[i]? = some v
  | [], [], _ => ⟨rfl, fun i v h => by simp at h⟩
  | a :: l, b :: r, h => by
    simp only [lle, Bool.and_eq_true, Bool.or_eq_true, beq_iff_eq] at h
    obtain ⟨e, k⟩ := lle_at h.2
    refine ⟨by simp [e], fun i v hv => ?_⟩
    cases i with
    | zero =>
      simp at hv
      subst hv
      rcases h.1 with q | q
      · exact Or.inl q
      · exact Or.inr (by simp [q])
    | succ i =>
      simp at hv
      rcases k i v hv with q | q
      · exact Or.inl q
      · exact Or.inr (by simpa using q)
  | [], _ :: _, h => by cases h
  | _ :: _, [], h => by cases h
theorem LR.less {G : GG} {l r : List Value} {ls : Array Slot} (h : LR G r ls) (hl : l.length = r.length) (hk : ∀ (i : Nat) (v : Value), l[i]? = some v → v = uV ∨ r[i]? = some v) : LR G l ls := by
  refine ⟨by rw [hl]; exact h.1, h.2.1, fun i v hv hx => ?_⟩
  rcases hk i v hv with q | q
  · subst q; cases hx
  · exact h.2.2 i v q hx
