/-! ===== what a WORK does ===== -/
/-- the store, how many steps were begun, done, refused -/
abbrev Rp : Type := St × Nat × Nat × Nat
noncomputable def rst (z : Nat) (v : Ro) (p : Rp) : Rp := ((sDo p.1 z v.1 v.2.1 v.2.2.1 v.2.2.2.1).2, p.2.1 + 1, p.2.2.1 + (if (sDo p.1 z v.1 v.2.1 v.2.2.1 v.2.2.2.1).1 = true then 1 else 0), p.2.2.2 + (if (sDo p.1 z v.1 v.2.1 v.2.2.1 v.2.2.2.1).1 = true then 0 else 1))
def beg1 (p : Rp) : Rp := (p.1, p.2.1 + 1, p.2.2.1, p.2.2.2)
noncomputable def runF (z : Nat) : Nat → Fo → Rp → Rp
  | 0, _, p => p
  | _ + 1, [], p => p
  | f + 1, v :: t, p => if 200 ≤ p.2.1 then p else if v.1 = 11 then runF z f (t.drop v.2.2.2.2) (itr (runF z f (t.take v.2.2.2.2)) v.2.1 (beg1 p)) else runF z f t (rst z v p)
noncomputable def run (z : Nat) (F : Fo) (p : Rp) : Rp := runF z F.length F p
theorem runF_nil (z f : Nat) : runF z f [] = id := by
  cases f <;> rfl
theorem runF_eq (z : Nat) : ∀ (f g : Nat) (F : Fo), F.length ≤ f → F.length ≤ g → runF z f F = runF z g F := by
  intro f
  induction f with
  | zero =>
    intro g F h1 h2
    have : F = [] := List.eq_nil_of_length_eq_zero (by omega)
    rw [this, runF_nil, runF_nil]
  | succ f ih =>
    intro g F h1 h2
    cases F with
    | nil => rw [runF_nil, runF_nil]
    | cons v t =>
      rw [List.length_cons] at h1 h2
      obtain ⟨g, rfl⟩ := sc (show 0 < g by omega)
      have e1 := ih g (t.take v.2.2.2.2) (by rw [List.length_take]; omega) (by rw [List.length_take]; omega)
      have e2 := ih g (t.drop v.2.2.2.2) (by rw [List.length_drop]; omega) (by rw [List.length_drop]; omega)
      have e3 := ih g t (by omega) (by omega)
      funext p
      show (if 200 ≤ p.2.1 then p else if v.1 = 11 then runF z f (t.drop v.2.2.2.2) (itr (runF z f (t.take v.2.2.2.2)) v.2.1 (beg1 p)) else runF z f t (rst z v p)) = (if 200 ≤ p.2.1 then p else if v.1 = 11 then runF z g (t.drop v.2.2.2.2) (itr (runF z g (t.take v.2.2.2.2)) v.2.1 (beg1 p)) else runF z g t (rst z v p))
      rw [e1, e2, e3]
theorem run_nil (z : Nat) (p : Rp) : run z [] p = p := rfl
theorem run_st (z : Nat) (v : Nat × Nat × Nat × Nat) (r : Fo) (hv : v.1 ≠ 11) (p : Rp) : run z (fco (.inl v) r) p = if 200 ≤ p.2.1 then p else run z r (rst z (v.1, v.2.1, v.2.2.1, v.2.2.2, 0) p) := by
  show (if 200 ≤ p.2.1 then p else if v.1 = 11 then _ else runF z r.length r (rst z (v.1, v.2.1, v.2.2.1, v.2.2.2, 0) p)) = _
  rw [if_neg hv]
  rfl
theorem run_ag (z c : Nat) (b r : Fo) (p : Rp) : run z (fco (.inr (c, b)) r) p = if 200 ≤ p.2.1 then p else run z r (itr (run z b) c (beg1 p)) := by
  have t1 : (b ++ r).take (fsz b) = b := List.take_left
  have t2 : (b ++ r).drop (fsz b) = r := List.drop_left
  show (if 200 ≤ p.2.1 then p else if (11 : Nat) = 11 then runF z (b ++ r).length ((b ++ r).drop (fsz b)) (itr (runF z (b ++ r).length ((b ++ r).take (fsz b))) c (beg1 p)) else _) = _
  rw [if_pos rfl, t1, t2, runF_eq z (b ++ r).length b.length b (by rw [List.length_append]; omega) (Nat.le_refl _), runF_eq z (b ++ r).length r.length r (by rw [List.length_append]; omega) (Nat.le_refl _)]
  rfl
/-- once 200 are begun nothing happens -/
theorem run_end (z : Nat) : ∀ (f : Nat) (F : Fo) (p : Rp), 200 ≤ p.2.1 → runF z f F p = p := by
  intro f F p hp
  cases f with
  | zero => rfl
  | succ f =>
    cases F with
    | nil => rfl
    | cons v t =>
      show (if 200 ≤ p.2.1 then p else _) = p
      rw [if_pos hp]
