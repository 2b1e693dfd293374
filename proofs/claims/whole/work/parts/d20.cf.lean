/-! ===== the script of the class, out of the steps ===== -/
/-- an entry: what, three numbers, how far its mate is -/
abbrev Ent : Type := Nat × Nat × Nat × Nat × Nat
def cofF : Nat → Fo → List Ent
  | 0, _ => []
  | _ + 1, [] => []
  | f + 1, v :: t => if v.1 = 11 then (11, v.2.1, 0, 0, (cofF f (t.take v.2.2.2.2)).length + 1) :: (cofF f (t.take v.2.2.2.2) ++ ((13, 0, 0, 0, (cofF f (t.take v.2.2.2.2)).length + 1) :: cofF f (t.drop v.2.2.2.2))) else (cop v.1, v.2.1, v.2.2.1, v.2.2.2.1, 0) :: cofF f t
def cof (F : Fo) : List Ent := cofF F.length F
theorem cofF_nil (f : Nat) : cofF f [] = [] := by cases f <;> rfl
theorem cofF_eq : ∀ (f g : Nat) (F : Fo), F.length ≤ f → F.length ≤ g → cofF f F = cofF g F := by
  intro f
  induction f with
  | zero =>
    intro g F h1 h2
    have : F = [] := List.eq_nil_of_length_eq_zero (by omega)
    rw [this, cofF_nil, cofF_nil]
  | succ f ih =>
    intro g F h1 h2
    cases F with
    | nil => rw [cofF_nil, cofF_nil]
    | cons v t =>
      rw [List.length_cons] at h1 h2
      obtain ⟨g, rfl⟩ := sc (show 0 < g by omega)
      have e1 := ih g (t.take v.2.2.2.2) (by rw [List.length_take]; omega) (by rw [List.length_take]; omega)
      have e2 := ih g (t.drop v.2.2.2.2) (by rw [List.length_drop]; omega) (by rw [List.length_drop]; omega)
      have e3 := ih g t (by omega) (by omega)
      unfold cofF
      rw [e1, e2, e3]
theorem cof_nil : cof [] = [] := rfl
theorem cof_st (v : Nat × Nat × Nat × Nat) (r : Fo) (hv : v.1 ≠ 11) : cof (fco (.inl v) r) = (cop v.1, v.2.1, v.2.2.1, v.2.2.2, 0) :: cof r := by
  show cofF (r.length + 1) ((v.1, v.2.1, v.2.2.1, v.2.2.2, 0) :: r) = _
  unfold cofF
  rw [if_neg hv]
  rfl
theorem cof_ag (c : Nat) (b r : Fo) : cof (fco (.inr (c, b)) r) = (11, c, 0, 0, (cof b).length + 1) :: (cof b ++ ((13, 0, 0, 0, (cof b).length + 1) :: cof r)) := by
  show cofF ((b ++ r).length + 1) ((11, c, 0, 0, fsz b) :: (b ++ r)) = _
  unfold cofF
  rw [if_pos rfl]
  have t1 : (b ++ r).take (fsz b) = b := List.take_left
  have t2 : (b ++ r).drop (fsz b) = r := List.drop_left
  show (11, c, 0, 0, (cofF (b ++ r).length ((b ++ r).take (fsz b))).length + 1) :: (cofF (b ++ r).length ((b ++ r).take (fsz b)) ++ ((13, 0, 0, 0, (cofF (b ++ r).length ((b ++ r).take (fsz b))).length + 1) :: cofF (b ++ r).length ((b ++ r).drop (fsz b)))) = _
  rw [t1, t2, cofF_eq (b ++ r).length b.length b (by rw [List.length_append]; omega) (Nat.le_refl _), cofF_eq (b ++ r).length r.length r (by rw [List.length_append]; omega) (Nat.le_refl _)]
  rfl
/-- the class's arrays hold it from j on -/
def cen (h : Hp) (x i : Nat) (v : Ent) : Prop := h.2 (x + 29) i = nI v.1 ∧ h.2 (x + 30) i = nI v.2.1 ∧ h.2 (x + 31) i = nI v.2.2.1 ∧ h.2 (x + 32) i = nI v.2.2.2.1 ∧ (v.1 = 11 → h.2 (x + 34) i = nI (i + v.2.2.2.2)) ∧ (v.1 = 13 → h.2 (x + 34) i = nI (i - v.2.2.2.2))
def LayC (h : Hp) (x j : Nat) (C : List Ent) : Prop := ∀ (i : Nat) (v : Ent), C[i]? = some v → cen h x (j + i) v
theorem cen.cg {h h' : Hp} {x i : Nat} {v : Ent} (R : cen h x i v) (q : ∀ a, a = x + 29 ∨ a = x + 30 ∨ a = x + 31 ∨ a = x + 32 ∨ a = x + 34 → h'.2 a i = h.2 a i) : cen h' x i v := by
  unfold cen at R ⊢
  rw [q (x + 29) (by omega), q (x + 30) (by omega), q (x + 31) (by omega), q (x + 32) (by omega), q (x + 34) (by omega)]
  exact R
theorem LayC.cg {h h' : Hp} {x j : Nat} {C : List Ent} (R : LayC h x j C) (q : ∀ a i, a = x + 29 ∨ a = x + 30 ∨ a = x + 31 ∨ a = x + 32 ∨ a = x + 34 → j ≤ i → i < j + C.length → h'.2 a i = h.2 a i) : LayC h' x j C := fun i v hv => by
  have hi : i < C.length := (List.getElem?_eq_some_iff.mp hv).1
  exact (R i v hv).cg (fun a ha => q a _ ha (by omega) (by omega))
theorem LayC.cons {h : Hp} {x j : Nat} {v : Ent} {C : List Ent} (a : cen h x j v) (b : LayC h x (j + 1) C) : LayC h x j (v :: C) := fun i w hw => by
  cases i with
  | zero =>
    rw [List.getElem?_cons_zero] at hw
    injection hw with hw
    rw [← hw]
    exact a
  | succ i =>
    rw [List.getElem?_cons_succ] at hw
    have := b i w hw
    rw [show j + 1 + i = j + (i + 1) by omega] at this
    exact this
theorem LayC.app {h : Hp} {x j : Nat} {A B : List Ent} (a : LayC h x j A) (b : LayC h x (j + A.length) B) : LayC h x j (A ++ B) := fun i w hw => by
  by_cases e : i < A.length
  · rw [List.getElem?_append_left e] at hw
    exact a i w hw
  · rw [List.getElem?_append_right (by omega)] at hw
    have := b (i - A.length) w hw
    rw [show j + A.length + (i - A.length) = j + i by omega] at this
    exact this
