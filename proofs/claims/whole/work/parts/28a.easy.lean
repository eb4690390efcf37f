/-! easy calls, second lot -/
theorem x_could {D : Dy} {n a c : Nat} (hn : n ≤ 6) {A S : Nat → Nat} (ha : a ≤ 10) (hc : c ≤ 80) (h1 : D.1 0 11 = nI a) (h2 : D.1 7 4 = nI c) (hA : ∀ i, i < a → D.1 21 i = nI (A i)) (hA2 : ∀ i, i < a → A i < 64) (hS : ∀ i, i < c → D.1 9 i = nI (S i)) (hS2 : ∀ i, i < c → S i < 64) {j : Nat} (hj : j < c) {post : Int32 → Prop} : fX11_could (nI j) D post = post (nI (sumN (fun i => if A i &&& S j = S j then 1 else 0) a)) := by
  unfold fX11_could
  have b2 := hS2 j hj
  simp (disch := first | omega | assumption) only [JN, forall_eq, true_implies, false_implies, implies_true, and_true, true_and, and_self, not_true_eq_false, not_false_eq_true, if_true, if_false, ne_eq, eq_self, e10, e01, Nat.reduceEqDiff, Nat.reduceLT, Nat.reduceLeDiff, Nat.reduceAdd, Nat.reduceSub, Nat.reduceMul, Nat.lt_irrefl, Nat.le_refl, n0, n1, n2, n3, n4, n5, n6, n7, n8, n9, n10, n11, n12, n13, n14, n15, n16, n20, n30, n48, n50, n60, n80, n99, n100, n120, n255, n256, n1200, n5040, sI_1, sI_2, sL_1, sL_2, sLA_1, sLA_2, vpT, ltT, ltF, leT, leF, neF, ltI', leI', eqI', nI_clamp, nI_add, nI_mul, sub', adm', ngeq', ngeq2', nglt', ngle', ngle2', wi_t, wi_f, ii_t, ii_f, ix_t, ix_f, nI_and, nI_or, nI_andN, shl', isIn', has', bB_0, bB_1, bB_t, bB_f, bP_0, bP_1, bitC', ones', ltL0', geL0', leL0', gtL0', eqL0', h2, hS]
  refine lp2_V a (fun k => nI (sumN (fun i => if A i &&& S j = S j then 1 else 0) k)) nI (fun _ => post (nI (sumN (fun i => if A i &&& S j = S j then 1 else 0) a))) (by omega) (fun k hk rec hr => ?_) rfl rfl
  by_cases e : k = a
  · subst e; simp (disch := first | omega | assumption) only [JN, forall_eq, true_implies, false_implies, implies_true, and_true, true_and, and_self, not_true_eq_false, not_false_eq_true, if_true, if_false, ne_eq, eq_self, e10, e01, Nat.reduceEqDiff, Nat.reduceLT, Nat.reduceLeDiff, Nat.reduceAdd, Nat.reduceSub, Nat.reduceMul, Nat.lt_irrefl, Nat.le_refl, n0, n1, n2, n3, n4, n5, n6, n7, n8, n9, n10, n11, n12, n13, n14, n15, n16, n20, n30, n48, n50, n60, n80, n99, n100, n120, n255, n256, n1200, n5040, sI_1, sI_2, sL_1, sL_2, sLA_1, sLA_2, vpT, ltT, ltF, leT, leF, neF, ltI', leI', eqI', nI_clamp, nI_add, nI_mul, sub', adm', ngeq', ngeq2', nglt', ngle', ngle2', wi_t, wi_f, ii_t, ii_f, ix_t, ix_f, nI_and, nI_or, nI_andN, shl', isIn', has', bB_0, bB_1, bB_t, bB_f, bP_0, bP_1, bitC', ones', ltL0', geL0', leL0', gtL0', eqL0', h1, Nat.le_refl]
  · have hk' : k < a := by omega
    have hr := hr hk'
    have b1 := hA2 k hk'
    have b3 : A k &&& S j < 64 := Nat.lt_of_le_of_lt Nat.and_le_left b1
    simp (disch := first | omega | assumption) only [JN, forall_eq, true_implies, false_implies, implies_true, and_true, true_and, and_self, not_true_eq_false, not_false_eq_true, if_true, if_false, ne_eq, eq_self, e10, e01, Nat.reduceEqDiff, Nat.reduceLT, Nat.reduceLeDiff, Nat.reduceAdd, Nat.reduceSub, Nat.reduceMul, Nat.lt_irrefl, Nat.le_refl, n0, n1, n2, n3, n4, n5, n6, n7, n8, n9, n10, n11, n12, n13, n14, n15, n16, n20, n30, n48, n50, n60, n80, n99, n100, n120, n255, n256, n1200, n5040, sI_1, sI_2, sL_1, sL_2, sLA_1, sLA_2, vpT, ltT, ltF, leT, leF, neF, ltI', leI', eqI', nI_clamp, nI_add, nI_mul, sub', adm', ngeq', ngeq2', nglt', ngle', ngle2', wi_t, wi_f, ii_t, ii_f, ix_t, ix_f, nI_and, nI_or, nI_andN, shl', isIn', has', bB_0, bB_1, bB_t, bB_f, bP_0, bP_1, bitC', ones', ltL0', geL0', leL0', gtL0', eqL0', h1, hA, show ¬ a ≤ k by omega]
    by_cases q : A k &&& S j = S j
    · simp only [q, sumN_s, if_true] at hr ⊢
      simpa using hr
    · simp only [q, sumN_s, if_false] at hr ⊢
      simpa using hr
theorem m_could {D : Dy} {n a c : Nat} (hn : n ≤ 6) {A S : Nat → Nat} (ha : a ≤ 10) (hc : c ≤ 80) (h1 : D.1 33 3 = nI a) (h2 : D.1 33 2 = nI c) (hA : ∀ i, i < a → D.1 42 i = nI (A i)) (hA2 : ∀ i, i < a → A i < 64) (hS : ∀ i, i < c → D.1 39 i = nI (S i)) (hS2 : ∀ i, i < c → S i < 64) {j : Nat} (hj : j < c) {post : Int32 → Prop} : fX12_could (nI j) D post = post (nI (sumN (fun i => if A i &&& S j = S j then 1 else 0) a)) := by
  unfold fX12_could fX12_isChoice
  have b2 := hS2 j hj
  simp (disch := first | omega | assumption) only [JN, forall_eq, true_implies, false_implies, implies_true, and_true, true_and, and_self, not_true_eq_false, not_false_eq_true, if_true, if_false, ne_eq, eq_self, e10, e01, Nat.reduceEqDiff, Nat.reduceLT, Nat.reduceLeDiff, Nat.reduceAdd, Nat.reduceSub, Nat.reduceMul, Nat.lt_irrefl, Nat.le_refl, n0, n1, n2, n3, n4, n5, n6, n7, n8, n9, n10, n11, n12, n13, n14, n15, n16, n20, n30, n48, n50, n60, n80, n99, n100, n120, n255, n256, n1200, n5040, sI_1, sI_2, sL_1, sL_2, sLA_1, sLA_2, vpT, ltT, ltF, leT, leF, neF, ltI', leI', eqI', nI_clamp, nI_add, nI_mul, sub', adm', ngeq', ngeq2', nglt', ngle', ngle2', wi_t, wi_f, ii_t, ii_f, ix_t, ix_f, nI_and, nI_or, nI_andN, shl', isIn', has', bB_0, bB_1, bB_t, bB_f, bP_0, bP_1, bitC', ones', ltL0', geL0', leL0', gtL0', eqL0', h2, hS, or_true]
  refine lp2_V a (fun k => nI (sumN (fun i => if A i &&& S j = S j then 1 else 0) k)) nI (fun _ => post (nI (sumN (fun i => if A i &&& S j = S j then 1 else 0) a))) (by omega) (fun k hk rec hr => ?_) rfl rfl
  by_cases e : k = a
  · subst e; simp (disch := first | omega | assumption) only [JN, forall_eq, true_implies, false_implies, implies_true, and_true, true_and, and_self, not_true_eq_false, not_false_eq_true, if_true, if_false, ne_eq, eq_self, e10, e01, Nat.reduceEqDiff, Nat.reduceLT, Nat.reduceLeDiff, Nat.reduceAdd, Nat.reduceSub, Nat.reduceMul, Nat.lt_irrefl, Nat.le_refl, n0, n1, n2, n3, n4, n5, n6, n7, n8, n9, n10, n11, n12, n13, n14, n15, n16, n20, n30, n48, n50, n60, n80, n99, n100, n120, n255, n256, n1200, n5040, sI_1, sI_2, sL_1, sL_2, sLA_1, sLA_2, vpT, ltT, ltF, leT, leF, neF, ltI', leI', eqI', nI_clamp, nI_add, nI_mul, sub', adm', ngeq', ngeq2', nglt', ngle', ngle2', wi_t, wi_f, ii_t, ii_f, ix_t, ix_f, nI_and, nI_or, nI_andN, shl', isIn', has', bB_0, bB_1, bB_t, bB_f, bP_0, bP_1, bitC', ones', ltL0', geL0', leL0', gtL0', eqL0', h1, Nat.le_refl]
  · have hk' : k < a := by omega
    have hr := hr hk'
    have b1 := hA2 k hk'
    have b3 : aNot (S j) (A k) < 64 := Nat.lt_of_le_of_lt aNot_le b2
    simp (disch := first | omega | assumption) only [JN, forall_eq, true_implies, false_implies, implies_true, and_true, true_and, and_self, not_true_eq_false, not_false_eq_true, if_true, if_false, ne_eq, eq_self, e10, e01, Nat.reduceEqDiff, Nat.reduceLT, Nat.reduceLeDiff, Nat.reduceAdd, Nat.reduceSub, Nat.reduceMul, Nat.lt_irrefl, Nat.le_refl, n0, n1, n2, n3, n4, n5, n6, n7, n8, n9, n10, n11, n12, n13, n14, n15, n16, n20, n30, n48, n50, n60, n80, n99, n100, n120, n255, n256, n1200, n5040, sI_1, sI_2, sL_1, sL_2, sLA_1, sLA_2, vpT, ltT, ltF, leT, leF, neF, ltI', leI', eqI', nI_clamp, nI_add, nI_mul, sub', adm', ngeq', ngeq2', nglt', ngle', ngle2', wi_t, wi_f, ii_t, ii_f, ix_t, ix_f, nI_and, nI_or, nI_andN, shl', isIn', has', bB_0, bB_1, bB_t, bB_f, bP_0, bP_1, bitC', ones', ltL0', geL0', leL0', gtL0', eqL0', h1, hA, show ¬ a ≤ k by omega]
    by_cases q : A k &&& S j = S j
    · simp only [q, aNot_0, sumN_s, if_true] at hr ⊢
      simpa using hr
    · simp only [q, aNot_0, sumN_s, if_false] at hr ⊢
      simpa using hr
theorem p_could {D : Dy} {n k c a : Nat} {a1 : Int32} (hn : n ≤ 6) (hk : k ≤ 16) (hc : RC D n k c) (ha : RA D n a) : fX11_could a1 D (fun v => fX12_could a1 D (fun v' => v = v')) := by
  obtain ⟨c1, c2, c3, W, S, O, U, c4⟩ := RC_f hn hk hc
  obtain ⟨r1, r2, r3, A, r4⟩ := RA_f hn ha
  have := pw6 hn
  by_cases h : iN a1 c
  · obtain ⟨j, hj, rfl⟩ := h
    rw [x_could hn r1 c1 r2 c2 (fun i hi => (r4 i hi).1) (fun i hi => by have := (r4 i hi).2.2.1; omega) (fun i hi => (c4 i hi).2.1.1) (fun i hi => by have := (c4 i hi).2.1.2.2.1; omega) hj, m_could hn r1 c1 r3 c3 (fun i hi => (r4 i hi).2.1) (fun i hi => by have := (r4 i hi).2.2.1; omega) (fun i hi => (c4 i hi).2.1.2.1) (fun i hi => by have := (c4 i hi).2.1.2.2.1; omega) hj]
  · unfold fX11_could fX12_could fX12_isChoice
    simp (disch := first | omega | assumption) only [JN, forall_eq, true_implies, false_implies, implies_true, and_true, true_and, and_self, not_true_eq_false, not_false_eq_true, if_true, if_false, ne_eq, eq_self, e10, e01, Nat.reduceEqDiff, Nat.reduceLT, Nat.reduceLeDiff, Nat.reduceAdd, Nat.reduceSub, Nat.reduceMul, Nat.lt_irrefl, Nat.le_refl, n0, n1, n2, n3, n4, n5, n6, n7, n8, n9, n10, n11, n12, n13, n14, n15, n16, n20, n30, n48, n50, n60, n80, n99, n100, n120, n255, n256, n1200, n5040, sI_1, sI_2, sL_1, sL_2, sLA_1, sLA_2, vpT, ltT, ltF, leT, leF, neF, ltI', leI', eqI', nI_clamp, nI_add, nI_mul, sub', adm', ngeq', ngeq2', nglt', ngle', ngle2', wi_t, wi_f, ii_t, ii_f, ix_t, ix_f, nI_and, nI_or, nI_andN, shl', isIn', has', bB_0, bB_1, bB_t, bB_f, bP_0, bP_1, bitC', ones', ltL0', geL0', leL0', gtL0', eqL0', c2, c3, true_or]
def bad (S : Nat) (Mk Pr : Nat → Nat) (t o : Nat) : Prop := S.testBit o = true ∧ (Mk t &&& Mk o ≠ Mk o ∨ Pr o < Pr t)
def gdT (S : Nat) (Mk Pr : Nat → Nat) (t k : Nat) : Prop := ∀ o, 0 ≤ o → o < k → ¬ bad S Mk Pr t o
theorem x_outdoes {D : Dy} {n : Nat} {Mk Pr : Nat → Nat} (hn : n ≤ 6) (h1 : D.1 1 3 = nI n) (h2 : ∀ i, i < n → D.1 2 i = nI (Mk i)) (h3 : ∀ i, i < n → Mk i < 256) (h4 : ∀ i, i < n → D.1 3 i = nI (Pr i)) (h5 : ∀ i, i < n → Pr i < 100) {t S : Nat} (ht : t < n) (hS : S < 64) {post : Int32 → Prop} : fX1_outdoesAll (nI t) (nI S) D post = post (bP (gdT S Mk Pr t n)) := by
  unfold fX1_outdoesAll
  refine lp1_V n nI (fun k => post (bP (∀ o, k ≤ o → o < n → ¬ bad S Mk Pr t o))) (by omega) (fun k hk rec hr => ?_) rfl
  by_cases e : k = n
  · subst e
    rw [bP_t (fun o h1 h2 => absurd h2 (by omega))]
    simp (disch := first | omega | assumption) only [JN, forall_eq, true_implies, false_implies, implies_true, and_true, true_and, and_self, not_true_eq_false, not_false_eq_true, if_true, if_false, ne_eq, eq_self, e10, e01, Nat.reduceEqDiff, Nat.reduceLT, Nat.reduceLeDiff, Nat.reduceAdd, Nat.reduceSub, Nat.reduceMul, Nat.lt_irrefl, Nat.le_refl, n0, n1, n2, n3, n4, n5, n6, n7, n8, n9, n10, n11, n12, n13, n14, n15, n16, n20, n30, n48, n50, n60, n80, n99, n100, n120, n255, n256, n1200, n5040, sI_1, sI_2, sL_1, sL_2, sLA_1, sLA_2, vpT, ltT, ltF, leT, leF, neF, ltI', leI', eqI', nI_clamp, nI_add, nI_mul, sub', adm', ngeq', ngeq2', nglt', ngle', ngle2', wi_t, wi_f, ii_t, ii_f, ix_t, ix_f, nI_and, nI_or, nI_andN, shl', isIn', has', bB_0, bB_1, bB_t, bB_f, bP_0, bP_1, bitC', ones', ltL0', geL0', leL0', gtL0', eqL0', h1]
  · have hk' : k < n := by omega
    have hr := hr hk'
    have b1 := h3 k hk'
    have b2 := h3 t ht
    have b3 := h5 k hk'
    have b4 := h5 t ht
    have b5 : aNot (Mk k) (Mk t) < 256 := Nat.lt_of_le_of_lt aNot_le b1
    simp (disch := first | omega | assumption) only [JN, forall_eq, true_implies, false_implies, implies_true, and_true, true_and, and_self, not_true_eq_false, not_false_eq_true, if_true, if_false, ne_eq, eq_self, e10, e01, Nat.reduceEqDiff, Nat.reduceLT, Nat.reduceLeDiff, Nat.reduceAdd, Nat.reduceSub, Nat.reduceMul, Nat.lt_irrefl, Nat.le_refl, n0, n1, n2, n3, n4, n5, n6, n7, n8, n9, n10, n11, n12, n13, n14, n15, n16, n20, n30, n48, n50, n60, n80, n99, n100, n120, n255, n256, n1200, n5040, sI_1, sI_2, sL_1, sL_2, sLA_1, sLA_2, vpT, ltT, ltF, leT, leF, neF, ltI', leI', eqI', nI_clamp, nI_add, nI_mul, sub', adm', ngeq', ngeq2', nglt', ngle', ngle2', wi_t, wi_f, ii_t, ii_f, ix_t, ix_f, nI_and, nI_or, nI_andN, shl', isIn', has', bB_0, bB_1, bB_t, bB_f, bP_0, bP_1, bitC', ones', ltL0', geL0', leL0', gtL0', eqL0', h1, h2, h4, aNot_0]
    rw [hr]
    have step : ¬ bad S Mk Pr t k → bP (∀ o, k ≤ o → o < n → ¬ bad S Mk Pr t o) = bP (∀ o, k + 1 ≤ o → o < n → ¬ bad S Mk Pr t o) := by
      intro hb
      refine bP_c ⟨fun h o h1 h2 => h o (by omega) h2, fun h o h1 h2 => ?_⟩
      by_cases z : o = k
      · rw [z]; exact hb
      · exact h o (by omega) h2
    have stop : bad S Mk Pr t k → bP (∀ o, k ≤ o → o < n → ¬ bad S Mk Pr t o) = nI 0 := fun hb => bP_f fun h => h k (Nat.le_refl _) hk' hb
    unfold bad at step stop
    by_cases q1 : S.testBit k = true
    · by_cases q2 : Mk t &&& Mk k = Mk k
      · by_cases q3 : Pr t ≤ Pr k
        · rw [show bP (∀ o, k ≤ o → o < n → ¬ bad S Mk Pr t o) = _ from step (by simp [q1, q2]; omega)]
          simp [q1, q2, q3, bad]
        · rw [show bP (∀ o, k ≤ o → o < n → ¬ bad S Mk Pr t o) = _ from stop ⟨q1, Or.inr (by omega)⟩]
          simp [q1, q2, q3]
      · rw [show bP (∀ o, k ≤ o → o < n → ¬ bad S Mk Pr t o) = _ from stop ⟨q1, Or.inl q2⟩]
        simp [q1, q2]
    · rw [show bP (∀ o, k ≤ o → o < n → ¬ bad S Mk Pr t o) = _ from step (by simp [q1])]
      simp [q1, bad]
