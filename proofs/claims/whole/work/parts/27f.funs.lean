/-! what stands between the two, by functions -/
theorem pw6 {n : Nat} (h : n ≤ 6) : 2 ^ n ≤ 64 := Nat.pow_le_pow_right (n := 2) (by decide) h
theorem iN_c {x : Int32} {m : Nat} (h : iN x m) (hm : m ≤ 1000000) : x = nI x.toNatClampNeg ∧ x.toNatClampNeg < m := by
  obtain ⟨j, hj, rfl⟩ := h
  rw [nI_clamp (by omega)]; exact ⟨rfl, hj⟩
theorem RG_f {D : Dy} {n : Nat} (h : RG D n) : n ≤ 6 ∧ D.1 1 3 = nI n ∧ D.1 33 0 = nI n ∧ ∃ Mk Pr Ne : Nat → Nat, ∀ i, i < n → (D.1 2 i = nI (Mk i) ∧ D.1 34 i = nI (Mk i) ∧ Mk i < 256) ∧ (D.1 3 i = nI (Pr i) ∧ D.1 35 i = nI (Pr i) ∧ Pr i < 100) ∧ (D.1 4 i = nI (Ne i) ∧ D.1 36 i = nI (Ne i) ∧ Ne i < 4) := by
  obtain ⟨h1, h2, h3, h4⟩ := h
  refine ⟨h1, h2, h3, fun i => (D.1 2 i).toNatClampNeg, fun i => (D.1 3 i).toNatClampNeg, fun i => (D.1 4 i).toNatClampNeg, fun i hi => ?_⟩
  obtain ⟨⟨a1, a2, a3⟩, c1, c2, c3⟩ := h4 i hi
  obtain ⟨d1, e1⟩ := iN_c c1 (by omega)
  obtain ⟨d2, e2⟩ := iN_c c2 (by omega)
  obtain ⟨d3, e3⟩ := iN_c c3 (by omega)
  exact ⟨⟨d1, a1.trans d1, e1⟩, ⟨d2, a2.trans d2, e2⟩, ⟨d3, a3.trans d3, e3⟩⟩
theorem RA_f {D : Dy} {n a : Nat} (hn : n ≤ 6) (h : RA D n a) : a ≤ 10 ∧ D.1 0 11 = nI a ∧ D.1 33 3 = nI a ∧ ∃ A : Nat → Nat, ∀ i, i < a → D.1 21 i = nI (A i) ∧ D.1 42 i = nI (A i) ∧ A i < 2 ^ n ∧ A i ≠ 0 := by
  obtain ⟨h1, h2, h3, h4⟩ := h
  refine ⟨h1, h2, h3, fun i => (D.1 21 i).toNatClampNeg, fun i hi => ?_⟩
  obtain ⟨a1, c1, a2⟩ := h4 i hi
  have := pw6 hn
  obtain ⟨d1, e1⟩ := iN_c c1 (by omega)
  refine ⟨d1, a1.trans d1, e1, fun z => a2 ?_⟩
  rw [d1]; dsimp only at z; rw [z]; rfl
theorem RC_f {D : Dy} {n k c : Nat} (hn : n ≤ 6) (hk : k ≤ 16) (h : RC D n k c) : c ≤ 80 ∧ D.1 7 4 = nI c ∧ D.1 33 2 = nI c ∧ ∃ W S O U : Nat → Nat, ∀ i, i < c → (D.1 8 i = nI (W i) ∧ D.1 38 i = nI (W i) ∧ W i < k) ∧ (D.1 9 i = nI (S i) ∧ D.1 39 i = nI (S i) ∧ S i < 2 ^ n ∧ S i ≠ 0) ∧ (D.1 11 i = nI (U i) ∧ D.1 41 i = nI (U i) ∧ U i < 3) ∧ D.1 10 i = nI (O i) ∧ ((O i = 7 ∧ D.1 40 i = -nI 1) ∨ (O i < n ∧ D.1 40 i = nI (O i) ∧ (S i).testBit (O i) = true)) := by
  obtain ⟨h1, h2, h3, h4⟩ := h
  refine ⟨h1, h2, h3, fun i => (D.1 8 i).toNatClampNeg, fun i => (D.1 9 i).toNatClampNeg, fun i => (D.1 10 i).toNatClampNeg, fun i => (D.1 11 i).toNatClampNeg, fun i hi => ?_⟩
  obtain ⟨⟨a1, a2, a3⟩, c1, ⟨c2, c2'⟩, c3, c4⟩ := h4 i hi
  have := pw6 hn
  obtain ⟨d1, e1⟩ := iN_c c1 (by omega)
  obtain ⟨d2, e2⟩ := iN_c c2 (by omega)
  obtain ⟨d3, e3⟩ := iN_c c3 (by omega)
  refine ⟨⟨d1, a1.trans d1, e1⟩, ⟨d2, a2.trans d2, e2, fun z => c2' ?_⟩, ⟨d3, a3.trans d3, e3⟩, ?_⟩
  · rw [d2]; dsimp only at z; rw [z]; rfl
  · rcases c4 with ⟨z1, z2⟩ | ⟨o, ho, z1, z2, z3⟩
    · dsimp only; rw [z1]; exact ⟨rfl, Or.inl ⟨rfl, z2⟩⟩
    · dsimp only; rw [z1, nI_clamp (by omega)]; exact ⟨rfl, Or.inr ⟨ho, z2, z3⟩⟩
theorem RT_f {D : Dy} {k : Nat} (h : RT D k) : k ≤ 16 ∧ D.1 0 3 = nI k ∧ D.1 33 1 = nI k ∧ ∃ K : Nat → Nat, (∀ i, i < k → D.1 5 i = nI (K i) ∧ D.1 37 i = nI (K i) ∧ K i < 3) ∧ ∀ j, j < 3 → D.1 6 j = nI (sumN (fun i => if K i = j then 1 else 0) k) := by
  obtain ⟨h1, h2, h3, h4, h5⟩ := h
  refine ⟨h1, h2, h3, fun i => (D.1 5 i).toNatClampNeg, fun i hi => ?_, fun j hj => ?_⟩
  · obtain ⟨a1, c1⟩ := h4 i hi
    obtain ⟨d1, e1⟩ := iN_c c1 (by omega)
    exact ⟨d1, a1.trans d1, e1⟩
  · rw [h5 j hj]
    congr 1
    have : ∀ m, m ≤ k → (List.range m).countP (fun i => D.1 5 i == nI j) = sumN (fun i => if (D.1 5 i).toNatClampNeg = j then 1 else 0) m := by
      intro m
      induction m with
      | zero => intro _; rfl
      | succ m ih =>
        intro hm
        rw [List.range_succ, List.countP_append, ih (by omega), sumN_s]
        congr 1
        obtain ⟨a1, c1⟩ := h4 m (by omega)
        obtain ⟨d1, e1⟩ := iN_c c1 (by omega)
        have : (D.1 5 m == nI j) = decide ((D.1 5 m).toNatClampNeg = j) := by
          rw [Bool.eq_iff_iff, beq_iff_eq, decide_eq_true_eq]
          constructor
          · intro z; rw [z, nI_clamp (by omega)]
          · intro z; rw [d1, z]
        rw [List.countP_singleton, this]
        simp
    exact this k (Nat.le_refl _)
