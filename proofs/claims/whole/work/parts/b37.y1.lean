/-! ===== what the questions ask of the invariant ===== -/
section Y1
variable {S : St} {z k : Nat}
theorem inv_pos (I : Inv S z k) : ∀ c ∈ sC S, 0 ≤ c1 c ∧ 0 ≤ c3 c ∧ 0 ≤ c4 c := fun c hc => by
  have K := I.2.1.1.2.1 c hc
  unfold Kd nd0 at K
  omega
/-- pointers lie within the store, on both sides -/
theorem inv_ptm (I : Inv S z k) : ∀ n, n < 12 → ∀ f, f = 2 ∨ f = 3 → fd (mm S) n f < z := fun n hn f hf => by
  have h1 := mm_pt I.2.1.1 (x := 16 + 4 * n + f) (by unfold pa; omega)
  have h2 := I.1.1
  unfold fd
  omega
theorem inv_ptd (I : Inv S z k) : ∀ n, n < 12 → ∀ f, f = 2 ∨ f = 3 → fd (sD S) n f < z := fun n hn f hf => by
  have h1 := I.2.1.1.2.2.2.2.1 (16 + 4 * n + f) (by unfold pa; omega)
  have h2 := I.1.1
  unfold fd
  omega
end Y1
