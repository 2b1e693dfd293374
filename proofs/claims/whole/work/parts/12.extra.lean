/-! ===== a few rows more ===== -/
theorem lt_l {a b : Nat} (h : Nat.ble (a + 1) b = true) : a < b := Nat.le_of_ble_eq_true h
theorem le_l {a b : Nat} (h : Nat.ble a b = true) : a ≤ b := Nat.le_of_ble_eq_true h
section VX
variable {G : GG} {M M1 : MR} {d d1 pc pc' : Nat} {loc loc' st st' : List Value} {h h1 : Hp} {o : OU} {h' : Hp}
theorem v_ldc_w {index : Nat} {v : Int32} (hd : decode M.2.1 pc = .ok (.ldc_w index, 3)) (hp : pc + 3 = pc') (hw : Cond.constant M.1.cls index v ∈ TB) (k : V G M d pc' loc (.int v :: st) h o h') : V G M d pc loc st h o h' := by
  subst hp
  exact V.row (fun p l e R s m args below meth c H locs ls cells slots Q cx lr k => lv_ldcw cx.ex cx.by cx.ow (cx.ts _ hw) hd k) k
theorem v_i2c {x : Int32} (hd : decode M.2.1 pc = .ok (.i2c, 1)) (hp : pc + 1 = pc') (k : V G M d pc' loc (.int (x.toUInt32 % 65536).toInt32 :: st) h o h') : V G M d pc loc (.int x :: st) h o h' := by
  subst hp
  exact V.row (fun p l e R s m args below meth c H locs ls cells slots Q cx lr k => lv_i2c cx.ex cx.by hd rfl k) k
theorem v_aret {q : Nat} {C : String} (hd : decode M.2.1 pc = .ok (.areturn, 1)) (hr : M.2.2.2.1 = some (.object C)) (k : o = .inl (some (.ref q)) ∧ h' = h) : V G M d pc loc [.ref q] h o h' := by
  obtain ⟨rfl, rfl⟩ := k
  refine ⟨⟨Nat.le_refl _, Nat.le_refl _⟩, fun p l e R s m args below meth c H locs ls cells slots mc ms cx wr lr ll hl h1 h2 h3 h4 => ?_⟩
  have hlk := cx.lk
  refine vx_ret (W.widen (k := mc) (n := ms) (by omega) (by omega) ?_)
  refine W.aret cx.ex cx.by (cx.rt.trans hr) (Or.inl ⟨_, rfl⟩) ?_ (fun t ht hW => ⟨⟨some (.ref q), rfl, rfl⟩, by rw [ht]; exact WH.of wr hW.alike⟩) hl hd
  by_cases e0 : q = 0
  · subst e0; exact Or.inl rfl
  · exact Or.inr ⟨_, trV_ref G e0⟩
end VX
theorem llp_nil : llp [] [] := trivial
theorem llp_r {a : Value} {l r : List Value} (h : llp l r) : llp (a :: l) (a :: r) := ⟨Or.inr rfl, h⟩
theorem llp_u {b : Value} {l r : List Value} (h : llp l r) : llp (uV :: l) (b :: r) := ⟨Or.inl rfl, h⟩
theorem cat_all {as : List Value} (h : (as.all fun v => v.category == 1) = true) : ∀ v ∈ as, v.category = 1 := fun v hv => by simpa using List.all_eq_true.mp h v hv
theorem sw_out {x : Int32} {n : Nat} (hn : n < 1000) (h : ∀ k, k ≤ n → ¬ x = nI k) : x.toInt < 0 ∨ (n : Int) < x.toInt := by
  by_cases h0 : x < 0
  · exact Or.inl (by simpa using Int32.lt_iff_toInt_lt.mp h0)
  · obtain ⟨j, hj, rfl⟩ := nI_of h0
    refine Or.inr ?_
    rw [nI_toInt hj]
    rcases Nat.lt_or_ge n j with q | q
    · omega
    · exact absurd rfl (h j q)
