/-! away, count, trace, taken -/
def cwN (S O U : Nat → Nat) (a b c : Nat) (wb tk : Bool) : Nat := sumN (fun i => if U i = 0 ∧ (S i).testBit a = true ∧ (S i).testBit b = wb ∧ (tk = true → O i = a) then 1 else 0) c
theorem cwN_le {S O U : Nat → Nat} {a b c : Nat} {wb tk : Bool} : cwN S O U a b c wb tk ≤ c := by
  have h1 : cwN S O U a b c wb tk ≤ sumN (fun _ => 1) c := sumN_le fun v _ => by split <;> omega
  have : ∀ m, sumN (fun _ => 1) m = m := by
    intro m; induction m with
    | zero => rfl
    | succ m ih => rw [sumN_s, ih]
  rwa [this] at h1
theorem x_countWith {D : Dy} {c : Nat} {S O U : Nat → Nat} (hc : c ≤ 80) (h1 : D.1 7 4 = nI c) (hS : ∀ i, i < c → D.1 9 i = nI (S i)) (hS2 : ∀ i, i < c → S i < 64) (hU : ∀ i, i < c → D.1 11 i = nI (U i)) (hU2 : ∀ i, i < c → U i < 3) (hO : ∀ i, i < c → D.1 10 i = nI (O i)) (hO2 : ∀ i, i < c → O i < 8) {a b : Nat} (ha : a < 6) (hb : b < 6) {wb tk : Bool} {post : Int32 → Prop} : fX0_countWith (nI a) (nI b) (bB wb) (bB tk) D post = post (nI (cwN S O U a b c wb tk)) := by
  unfold fX0_countWith
  refine lp2_V c (fun k => nI (cwN S O U a b k wb tk)) nI (fun _ => post (nI (cwN S O U a b c wb tk))) (by omega) (fun k hk rec hr => ?_) rfl rfl
  by_cases e : k = c
  · subst e; simp (disch := first | omega | assumption) only [JN, or_true, true_or, or_false, false_or, forall_eq, true_implies, false_implies, implies_true, and_true, true_and, and_self, not_true_eq_false, not_false_eq_true, if_true, if_false, ne_eq, eq_self, e10, e01, Nat.reduceEqDiff, Nat.reduceLT, Nat.reduceLeDiff, Nat.reduceAdd, Nat.reduceSub, Nat.reduceMul, Nat.lt_irrefl, Nat.le_refl, n0, n1, n2, n3, n4, n5, n6, n7, n8, n9, n10, n11, n12, n13, n14, n15, n16, n20, n30, n48, n50, n60, n80, n99, n100, n120, n255, n256, n1200, n5040, sI_1, sI_2, sL_1, sL_2, sLA_1, sLA_2, vpT, ltT, ltF, leT, leF, neF, ltI', leI', eqI', nI_clamp, nI_add, nI_mul, sub', adm', ngeq', ngeq2', nglt', ngle', ngle2', wi_t, wi_f, ii_t, ii_f, ix_t, ix_f, nI_and, nI_or, nI_andN, shl', isIn', has', bB_0, bB_1, bB_t, bB_f, bP_0, bP_1, bitC', ones', ltL0', geL0', leL0', gtL0', eqL0', h1]
  · have hk' : k < c := by omega
    have hr := hr hk'
    have b1 := hS2 k hk'
    have b2 := hU2 k hk'
    have b3 := hO2 k hk'
    have b4 := @cwN_le S O U a b k wb tk
    rw [← hr, show cwN S O U a b (k + 1) wb tk = cwN S O U a b k wb tk + (if U k = 0 ∧ (S k).testBit a = true ∧ (S k).testBit b = wb ∧ (tk = true → O k = a) then 1 else 0) from rfl]
    simp (disch := first | omega | assumption) only [JN, or_true, true_or, or_false, false_or, forall_eq, true_implies, false_implies, implies_true, and_true, true_and, and_self, not_true_eq_false, not_false_eq_true, if_true, if_false, ne_eq, eq_self, e10, e01, Nat.reduceEqDiff, Nat.reduceLT, Nat.reduceLeDiff, Nat.reduceAdd, Nat.reduceSub, Nat.reduceMul, Nat.lt_irrefl, Nat.le_refl, n0, n1, n2, n3, n4, n5, n6, n7, n8, n9, n10, n11, n12, n13, n14, n15, n16, n20, n30, n48, n50, n60, n80, n99, n100, n120, n255, n256, n1200, n5040, sI_1, sI_2, sL_1, sL_2, sLA_1, sLA_2, vpT, ltT, ltF, leT, leF, neF, ltI', leI', eqI', nI_clamp, nI_add, nI_mul, sub', adm', ngeq', ngeq2', nglt', ngle', ngle2', wi_t, wi_f, ii_t, ii_f, ix_t, ix_f, nI_and, nI_or, nI_andN, shl', isIn', has', bB_0, bB_1, bB_t, bB_f, bP_0, bP_1, bitC', ones', ltL0', geL0', leL0', gtL0', eqL0', h1, hS, hU, hO]
    have bb : ∀ x y : Bool, (bB x = bB y) = (x = y) := by
      intro x y
      cases x <;> cases y <;> simp (disch := first | omega | assumption) only [JN, or_true, true_or, or_false, false_or, forall_eq, true_implies, false_implies, implies_true, and_true, true_and, and_self, not_true_eq_false, not_false_eq_true, if_true, if_false, ne_eq, eq_self, e10, e01, Nat.reduceEqDiff, Nat.reduceLT, Nat.reduceLeDiff, Nat.reduceAdd, Nat.reduceSub, Nat.reduceMul, Nat.lt_irrefl, Nat.le_refl, n0, n1, n2, n3, n4, n5, n6, n7, n8, n9, n10, n11, n12, n13, n14, n15, n16, n20, n30, n48, n50, n60, n80, n99, n100, n120, n255, n256, n1200, n5040, sI_1, sI_2, sL_1, sL_2, sLA_1, sLA_2, vpT, ltT, ltF, leT, leF, neF, ltI', leI', eqI', nI_clamp, nI_add, nI_mul, sub', adm', ngeq', ngeq2', nglt', ngle', ngle2', wi_t, wi_f, ii_t, ii_f, ix_t, ix_f, nI_and, nI_or, nI_andN, shl', isIn', has', bB_0, bB_1, bB_t, bB_f, bP_0, bP_1, bitC', ones', ltL0', geL0', leL0', gtL0', eqL0', reduceCtorEq]
    by_cases q1 : U k = 0
    · by_cases q2 : (S k).testBit a = true
      · by_cases q3 : (S k).testBit b = wb
        · cases tk
          · simp only [not_true_eq_false, not_false_eq_true, true_implies, false_implies, implies_true, and_true, true_and, and_self, if_true, if_false, reduceCtorEq, ne_eq, eq_self, Nat.reduceEqDiff, Nat.reduceLT, Nat.reduceLeDiff, q1, q2, q3, bb]
          · by_cases q4 : O k = a
            · simp only [not_true_eq_false, not_false_eq_true, true_implies, false_implies, implies_true, and_true, true_and, and_self, if_true, if_false, reduceCtorEq, ne_eq, eq_self, Nat.reduceEqDiff, Nat.reduceLT, Nat.reduceLeDiff, q1, q2, q3, q4, bb]
            · simp only [not_true_eq_false, not_false_eq_true, true_implies, false_implies, implies_true, and_true, true_and, and_self, if_true, if_false, reduceCtorEq, ne_eq, eq_self, Nat.reduceEqDiff, Nat.reduceLT, Nat.reduceLeDiff, q1, q2, q3, q4, bb, Nat.add_zero]
        · simp only [not_true_eq_false, not_false_eq_true, true_implies, false_implies, implies_true, and_true, true_and, and_self, if_true, if_false, reduceCtorEq, ne_eq, eq_self, Nat.reduceEqDiff, Nat.reduceLT, Nat.reduceLeDiff, q1, q2, q3, bb, false_and, and_false, Nat.add_zero]
      · simp only [not_true_eq_false, not_false_eq_true, true_implies, false_implies, implies_true, and_true, true_and, and_self, if_true, if_false, reduceCtorEq, ne_eq, eq_self, Nat.reduceEqDiff, Nat.reduceLT, Nat.reduceLeDiff, q1, q2, false_and, and_false, Nat.add_zero]
    · simp only [not_true_eq_false, not_false_eq_true, true_implies, false_implies, implies_true, and_true, true_and, and_self, if_true, if_false, reduceCtorEq, ne_eq, eq_self, Nat.reduceEqDiff, Nat.reduceLT, Nat.reduceLeDiff, q1, false_and, and_false, Nat.add_zero]
theorem m_away {D : Dy} {c n : Nat} {S O U : Nat → Nat} (hc : c ≤ 80) (hn : n ≤ 6) (h0 : D.1 33 0 = nI n) (h1 : D.1 33 2 = nI c) (hS : ∀ i, i < c → D.1 39 i = nI (S i)) (hS2 : ∀ i, i < c → S i < 64) (hU : ∀ i, i < c → D.1 41 i = nI (U i)) (hU2 : ∀ i, i < c → U i < 3) (hO : ∀ i, i < c → (O i = 7 ∧ D.1 40 i = -nI 1) ∨ (O i < n ∧ D.1 40 i = nI (O i) ∧ (S i).testBit (O i) = true)) {a b w : Nat} (ha : a < n) (hb : b < n) (hw : w < 5) (hab : a ≠ b) {post : Int32 → Prop} {R : Int32} (h_0 : w = 0 → R = nI (cwN S O U a b c true true)) (h_1 : w = 1 → R = nI (cwN S O U a b c true false)) (h_2 : w = 2 → R = nI (cwN S O U a b c false true)) (h_3 : w = 3 → R = nI (cwN S O U a b c false false)) (h_4 : w = 4 → R = if cwN S O U a b c true false = 0 ∨ cwN S O U a b c false false = 0 then -nI 6 else if cwN S O U a b c false true * cwN S O U a b c true false = cwN S O U a b c true true * cwN S O U a b c false false then nI 0 else if cwN S O U a b c false true * cwN S O U a b c true false ≤ cwN S O U a b c true true * cwN S O U a b c false false then -nI 5 else nI 1) : fX12_away (nI a) (nI b) (nI w) D post = post R := by
  unfold fX12_away fX12_isThing
  simp (disch := first | omega | assumption) only [JN, or_true, true_or, or_false, false_or, forall_eq, true_implies, false_implies, implies_true, and_true, true_and, and_self, not_true_eq_false, not_false_eq_true, if_true, if_false, ne_eq, eq_self, e10, e01, Nat.reduceEqDiff, Nat.reduceLT, Nat.reduceLeDiff, Nat.reduceAdd, Nat.reduceSub, Nat.reduceMul, Nat.lt_irrefl, Nat.le_refl, n0, n1, n2, n3, n4, n5, n6, n7, n8, n9, n10, n11, n12, n13, n14, n15, n16, n20, n30, n48, n50, n60, n80, n99, n100, n120, n255, n256, n1200, n5040, sI_1, sI_2, sL_1, sL_2, sLA_1, sLA_2, vpT, ltT, ltF, leT, leF, neF, ltI', leI', eqI', nI_clamp, nI_add, nI_mul, sub', adm', ngeq', ngeq2', nglt', ngle', ngle2', wi_t, wi_f, ii_t, ii_f, ix_t, ix_f, nI_and, nI_or, nI_andN, shl', isIn', has', bB_0, bB_1, bB_t, bB_f, bP_0, bP_1, bitC', ones', ltL0', geL0', leL0', gtL0', eqL0', h0, or_true]
  refine lp5_V c (fun k => nI (cwN S O U a b k true true)) (fun k => nI (cwN S O U a b k true false)) (fun k => nI (cwN S O U a b k false true)) (fun k => nI (cwN S O U a b k false false)) nI (fun _ => post R) (by omega) (fun k hk rec hr => ?_) rfl rfl rfl rfl rfl
  by_cases e : k = c
  · subst e
    have c1 := @cwN_le S O U a b k true true
    have c2 := @cwN_le S O U a b k true false
    have c3 := @cwN_le S O U a b k false true
    have c4 := @cwN_le S O U a b k false false
    generalize cwN S O U a b k true true = tw at *
    generalize cwN S O U a b k true false = aw at *
    generalize cwN S O U a b k false true = to at *
    generalize cwN S O U a b k false false = ao at *
    simp (disch := first | omega | assumption) only [JN, or_true, true_or, or_false, false_or, forall_eq, true_implies, false_implies, implies_true, and_true, true_and, and_self, not_true_eq_false, not_false_eq_true, if_true, if_false, ne_eq, eq_self, e10, e01, Nat.reduceEqDiff, Nat.reduceLT, Nat.reduceLeDiff, Nat.reduceAdd, Nat.reduceSub, Nat.reduceMul, Nat.lt_irrefl, Nat.le_refl, n0, n1, n2, n3, n4, n5, n6, n7, n8, n9, n10, n11, n12, n13, n14, n15, n16, n20, n30, n48, n50, n60, n80, n99, n100, n120, n255, n256, n1200, n5040, sI_1, sI_2, sL_1, sL_2, sLA_1, sLA_2, vpT, ltT, ltF, leT, leF, neF, ltI', leI', eqI', nI_clamp, nI_add, nI_mul, sub', adm', ngeq', ngeq2', nglt', ngle', ngle2', wi_t, wi_f, ii_t, ii_f, ix_t, ix_f, nI_and, nI_or, nI_andN, shl', isIn', has', bB_0, bB_1, bB_t, bB_f, bP_0, bP_1, bitC', ones', ltL0', geL0', leL0', gtL0', eqL0', h1]
    by_cases w0 : w = 0
    · rw [h_0 w0]; simp only [not_true_eq_false, not_false_eq_true, true_implies, false_implies, implies_true, and_true, true_and, and_self, if_true, if_false, reduceCtorEq, ne_eq, eq_self, Nat.reduceEqDiff, Nat.reduceLT, Nat.reduceLeDiff, w0]
    by_cases w1 : w = 1
    · rw [h_1 w1]; simp only [not_true_eq_false, not_false_eq_true, true_implies, false_implies, implies_true, and_true, true_and, and_self, if_true, if_false, reduceCtorEq, ne_eq, eq_self, Nat.reduceEqDiff, Nat.reduceLT, Nat.reduceLeDiff, w0, w1]
    by_cases w2 : w = 2
    · rw [h_2 w2]; simp only [not_true_eq_false, not_false_eq_true, true_implies, false_implies, implies_true, and_true, true_and, and_self, if_true, if_false, reduceCtorEq, ne_eq, eq_self, Nat.reduceEqDiff, Nat.reduceLT, Nat.reduceLeDiff, w0, w1, w2]
    by_cases w3 : w = 3
    · rw [h_3 w3]; simp only [not_true_eq_false, not_false_eq_true, true_implies, false_implies, implies_true, and_true, true_and, and_self, if_true, if_false, reduceCtorEq, ne_eq, eq_self, Nat.reduceEqDiff, Nat.reduceLT, Nat.reduceLeDiff, w0, w1, w2, w3]
    have w4 : w = 4 := by omega
    rw [h_4 w4]
    simp only [not_true_eq_false, not_false_eq_true, true_implies, false_implies, implies_true, and_true, true_and, and_self, if_true, if_false, reduceCtorEq, ne_eq, eq_self, Nat.reduceEqDiff, Nat.reduceLT, Nat.reduceLeDiff, w0, w1, w2, w3]
    have m1 : to * aw ≤ 80 * 80 := Nat.mul_le_mul (by omega) (by omega)
    have m2 : tw * ao ≤ 80 * 80 := Nat.mul_le_mul (by omega) (by omega)
    by_cases z1 : aw = 0
    · simp only [not_true_eq_false, not_false_eq_true, true_implies, false_implies, implies_true, and_true, true_and, and_self, if_true, if_false, reduceCtorEq, ne_eq, eq_self, Nat.reduceEqDiff, Nat.reduceLT, Nat.reduceLeDiff, z1, true_or]
    by_cases z2 : ao = 0
    · simp only [not_true_eq_false, not_false_eq_true, true_implies, false_implies, implies_true, and_true, true_and, and_self, if_true, if_false, reduceCtorEq, ne_eq, eq_self, Nat.reduceEqDiff, Nat.reduceLT, Nat.reduceLeDiff, z1, z2, or_true]
    simp only [not_true_eq_false, not_false_eq_true, true_implies, false_implies, implies_true, and_true, true_and, and_self, if_true, if_false, reduceCtorEq, ne_eq, eq_self, Nat.reduceEqDiff, Nat.reduceLT, Nat.reduceLeDiff, z1, z2, or_false]
    generalize to * aw = x at *
    generalize tw * ao = y at *
    by_cases z3 : y ≤ x
    · simp (disch := first | omega | assumption) only [JN, or_true, true_or, or_false, false_or, forall_eq, true_implies, false_implies, implies_true, and_true, true_and, and_self, not_true_eq_false, not_false_eq_true, if_true, if_false, ne_eq, eq_self, e10, e01, Nat.reduceEqDiff, Nat.reduceLT, Nat.reduceLeDiff, Nat.reduceAdd, Nat.reduceSub, Nat.reduceMul, Nat.lt_irrefl, Nat.le_refl, n0, n1, n2, n3, n4, n5, n6, n7, n8, n9, n10, n11, n12, n13, n14, n15, n16, n20, n30, n48, n50, n60, n80, n99, n100, n120, n255, n256, n1200, n5040, sI_1, sI_2, sL_1, sL_2, sLA_1, sLA_2, vpT, ltT, ltF, leT, leF, neF, ltI', leI', eqI', nI_clamp, nI_add, nI_mul, sub', adm', ngeq', ngeq2', nglt', ngle', ngle2', wi_t, wi_f, ii_t, ii_f, ix_t, ix_f, nI_and, nI_or, nI_andN, shl', isIn', has', bB_0, bB_1, bB_t, bB_f, bP_0, bP_1, bitC', ones', ltL0', geL0', leL0', gtL0', eqL0']
      by_cases z4 : x = y
      · subst z4; simp (disch := first | omega | assumption) only [JN, or_true, true_or, or_false, false_or, forall_eq, true_implies, false_implies, implies_true, and_true, true_and, and_self, not_true_eq_false, not_false_eq_true, if_true, if_false, ne_eq, eq_self, e10, e01, Nat.reduceEqDiff, Nat.reduceLT, Nat.reduceLeDiff, Nat.reduceAdd, Nat.reduceSub, Nat.reduceMul, Nat.lt_irrefl, Nat.le_refl, n0, n1, n2, n3, n4, n5, n6, n7, n8, n9, n10, n11, n12, n13, n14, n15, n16, n20, n30, n48, n50, n60, n80, n99, n100, n120, n255, n256, n1200, n5040, sI_1, sI_2, sL_1, sL_2, sLA_1, sLA_2, vpT, ltT, ltF, leT, leF, neF, ltI', leI', eqI', nI_clamp, nI_add, nI_mul, sub', adm', ngeq', ngeq2', nglt', ngle', ngle2', wi_t, wi_f, ii_t, ii_f, ix_t, ix_f, nI_and, nI_or, nI_andN, shl', isIn', has', bB_0, bB_1, bB_t, bB_f, bP_0, bP_1, bitC', ones', ltL0', geL0', leL0', gtL0', eqL0', Nat.sub_self]
      · have z5 : ¬ x - y ≤ 0 := by omega
        have z6 : ¬ x ≤ y := by omega
        simp only [not_true_eq_false, not_false_eq_true, true_implies, false_implies, implies_true, and_true, true_and, and_self, if_true, if_false, reduceCtorEq, ne_eq, eq_self, Nat.reduceEqDiff, Nat.reduceLT, Nat.reduceLeDiff, z4, z5, z6]
    · have z4 : nI x - nI y = -nI (y - x) := by
        rw [← sub' (by omega : x ≤ y), Int32.neg_sub]
      have z5 : ¬ x = y := by omega
      have z6 : x ≤ y := by omega
      have z7 : -nI (y - x) ≤ nI 0 := by rw [ngle' (by omega) (by omega)]; trivial
      have z8 : ¬ nI 0 ≤ -nI (y - x) := by rw [ngle2' (by omega) (by omega) (by omega)]; exact fun h => h
      rw [z4]
      simp only [not_true_eq_false, not_false_eq_true, true_implies, false_implies, implies_true, and_true, true_and, and_self, if_true, if_false, reduceCtorEq, ne_eq, eq_self, Nat.reduceEqDiff, Nat.reduceLT, Nat.reduceLeDiff, z5, z6, z7, z8]
  · have hk' : k < c := by omega
    have hr := hr hk'
    have b1 := hS2 k hk'
    have b2 := hU2 k hk'
    have b3 := hO k hk'
    have oo : (D.1 40 k = nI a) = (O k = a) := by
      rcases b3 with ⟨b3, b4⟩ | ⟨b3, b4, b5⟩
      · rw [b4, ngeq2' (by omega) (by omega) (by omega)]; refine (eq_false ?_).symm; omega
      · rw [b4, eqI' (by omega) (by omega)]
    have st : ∀ x y, cwN S O U a b (k + 1) x y = cwN S O U a b k x y + (if U k = 0 ∧ (S k).testBit a = true ∧ (S k).testBit b = x ∧ (y = true → O k = a) then 1 else 0) := fun _ _ => rfl
    rw [← hr]
    simp only [st]
    simp (disch := first | omega | assumption) only [JN, or_true, true_or, or_false, false_or, forall_eq, true_implies, false_implies, implies_true, and_true, true_and, and_self, not_true_eq_false, not_false_eq_true, if_true, if_false, ne_eq, eq_self, e10, e01, Nat.reduceEqDiff, Nat.reduceLT, Nat.reduceLeDiff, Nat.reduceAdd, Nat.reduceSub, Nat.reduceMul, Nat.lt_irrefl, Nat.le_refl, n0, n1, n2, n3, n4, n5, n6, n7, n8, n9, n10, n11, n12, n13, n14, n15, n16, n20, n30, n48, n50, n60, n80, n99, n100, n120, n255, n256, n1200, n5040, sI_1, sI_2, sL_1, sL_2, sLA_1, sLA_2, vpT, ltT, ltF, leT, leF, neF, ltI', leI', eqI', nI_clamp, nI_add, nI_mul, sub', adm', ngeq', ngeq2', nglt', ngle', ngle2', wi_t, wi_f, ii_t, ii_f, ix_t, ix_f, nI_and, nI_or, nI_andN, shl', isIn', has', bB_0, bB_1, bB_t, bB_f, bP_0, bP_1, bitC', ones', ltL0', geL0', leL0', gtL0', eqL0', h1, hS, hU, oo]
    by_cases q1 : U k = 0
    · by_cases q2 : (S k).testBit a = true
      · by_cases q3 : (S k).testBit b = true
        · by_cases q4 : O k = a <;> simp only [not_true_eq_false, not_false_eq_true, true_implies, false_implies, implies_true, and_true, true_and, and_self, if_true, if_false, reduceCtorEq, ne_eq, eq_self, Nat.reduceEqDiff, Nat.reduceLT, Nat.reduceLeDiff, q1, q2, q3, q4, nI_add, Nat.add_zero, and_false, false_and]
        · have q3' : (S k).testBit b = false := by simpa using q3
          by_cases q4 : O k = a <;> simp only [not_true_eq_false, not_false_eq_true, true_implies, false_implies, implies_true, and_true, true_and, and_self, if_true, if_false, reduceCtorEq, ne_eq, eq_self, Nat.reduceEqDiff, Nat.reduceLT, Nat.reduceLeDiff, q1, q2, q3', q4, nI_add, Nat.add_zero, and_false, false_and]
      · have q2' : (S k).testBit a = false := by simpa using q2
        simp only [not_true_eq_false, not_false_eq_true, true_implies, false_implies, implies_true, and_true, true_and, and_self, if_true, if_false, reduceCtorEq, ne_eq, eq_self, Nat.reduceEqDiff, Nat.reduceLT, Nat.reduceLeDiff, q1, q2', false_and, and_false, Nat.add_zero]
    · simp only [not_true_eq_false, not_false_eq_true, true_implies, false_implies, implies_true, and_true, true_and, and_self, if_true, if_false, reduceCtorEq, ne_eq, eq_self, Nat.reduceEqDiff, Nat.reduceLT, Nat.reduceLeDiff, q1, false_and, and_false, Nat.add_zero]
theorem p_away {D : Dy} {n k c : Nat} {a1 a2 a3 : Int32} (hk : k ≤ 16) (hg : RG D n) (hc : RC D n k c) : fX11_away a1 a2 a3 D (fun v => fX12_away a1 a2 a3 D (fun v' => v = v')) := by
  obtain ⟨g1, g2, g3, -⟩ := RG_f hg
  obtain ⟨c1, c2, c3, W, S, O, U, c4⟩ := RC_f g1 hk hc
  have pw := pw6 g1
  by_cases h1 : iN a1 n
  · obtain ⟨a, ha, rfl⟩ := h1
    by_cases h2 : iN a2 n
    · obtain ⟨b, hb, rfl⟩ := h2
      by_cases h3 : iN a3 5
      · obtain ⟨w, hw, rfl⟩ := h3
        by_cases hab : a = b
        · subst hab
          unfold fX11_away fX12_away fX1_has
          simp (disch := first | omega | assumption) only [JN, or_true, true_or, or_false, false_or, forall_eq, true_implies, false_implies, implies_true, and_true, true_and, and_self, not_true_eq_false, not_false_eq_true, if_true, if_false, ne_eq, eq_self, e10, e01, Nat.reduceEqDiff, Nat.reduceLT, Nat.reduceLeDiff, Nat.reduceAdd, Nat.reduceSub, Nat.reduceMul, Nat.lt_irrefl, Nat.le_refl, n0, n1, n2, n3, n4, n5, n6, n7, n8, n9, n10, n11, n12, n13, n14, n15, n16, n20, n30, n48, n50, n60, n80, n99, n100, n120, n255, n256, n1200, n5040, sI_1, sI_2, sL_1, sL_2, sLA_1, sLA_2, vpT, ltT, ltF, leT, leF, neF, ltI', leI', eqI', nI_clamp, nI_add, nI_mul, sub', adm', ngeq', ngeq2', nglt', ngle', ngle2', wi_t, wi_f, ii_t, ii_f, ix_t, ix_f, nI_and, nI_or, nI_andN, shl', isIn', has', bB_0, bB_1, bB_t, bB_f, bP_0, bP_1, bitC', ones', ltL0', geL0', leL0', gtL0', eqL0', g2, isTh_t g3, isTh_f g3]
        · have hx : ∀ (wb tk : Bool) (p : Int32 → Prop), fX0_countWith (nI a) (nI b) (bB wb) (bB tk) D p = p (nI (cwN S O U a b c wb tk)) := fun wb tk p => x_countWith c1 c2 (fun i hi => (c4 i hi).2.1.1) (fun i hi => by have := (c4 i hi).2.1.2.2.1; omega) (fun i hi => (c4 i hi).2.2.1.1) (fun i hi => (c4 i hi).2.2.1.2.2) (fun i hi => (c4 i hi).2.2.2.1) (fun i hi => by rcases (c4 i hi).2.2.2.2 with z | z <;> omega) (by omega) (by omega)
          have h11 := hx true true
          have h10 := hx true false
          have h01 := hx false true
          have h00 := hx false false
          rw [bB_t] at h11 h10
          rw [bB_f] at h01 h00
          rw [bB_t] at h01
          rw [bB_f] at h10
          have hm : ∀ R post, _ := fun R post => m_away (post := post) (R := R) c1 g1 g3 c3 (fun i hi => (c4 i hi).2.1.2.1) (fun i hi => by have := (c4 i hi).2.1.2.2.1; omega) (fun i hi => (c4 i hi).2.2.1.2.1) (fun i hi => (c4 i hi).2.2.1.2.2) (fun i hi => (c4 i hi).2.2.2.2) ha hb hw hab
          unfold fX11_away fX11_compareAway fX1_has
          simp (disch := first | omega | assumption) only [JN, or_true, true_or, or_false, false_or, forall_eq, true_implies, false_implies, implies_true, and_true, true_and, and_self, not_true_eq_false, not_false_eq_true, if_true, if_false, ne_eq, eq_self, e10, e01, Nat.reduceEqDiff, Nat.reduceLT, Nat.reduceLeDiff, Nat.reduceAdd, Nat.reduceSub, Nat.reduceMul, Nat.lt_irrefl, Nat.le_refl, n0, n1, n2, n3, n4, n5, n6, n7, n8, n9, n10, n11, n12, n13, n14, n15, n16, n20, n30, n48, n50, n60, n80, n99, n100, n120, n255, n256, n1200, n5040, sI_1, sI_2, sL_1, sL_2, sLA_1, sLA_2, vpT, ltT, ltF, leT, leF, neF, ltI', leI', eqI', nI_clamp, nI_add, nI_mul, sub', adm', ngeq', ngeq2', nglt', ngle', ngle2', wi_t, wi_f, ii_t, ii_f, ix_t, ix_f, nI_and, nI_or, nI_andN, shl', isIn', has', bB_0, bB_1, bB_t, bB_f, bP_0, bP_1, bitC', ones', ltL0', geL0', leL0', gtL0', eqL0', g2, or_true, h11, h10, h01, h00]
          have d1 := @cwN_le S O U a b c true true
          have d2 := @cwN_le S O U a b c true false
          have d3 := @cwN_le S O U a b c false true
          have d4 := @cwN_le S O U a b c false false
          generalize cwN S O U a b c true true = tw at *
          generalize cwN S O U a b c true false = aw at *
          generalize cwN S O U a b c false true = to at *
          generalize cwN S O U a b c false false = ao at *
          have m1 : to * aw ≤ 80 * 80 := Nat.mul_le_mul (by omega) (by omega)
          have m2 : tw * ao ≤ 80 * 80 := Nat.mul_le_mul (by omega) (by omega)
          by_cases w4 : 4 ≤ w
          · have w2 : 2 ≤ w := by omega
            simp only [not_true_eq_false, not_false_eq_true, true_implies, false_implies, implies_true, and_true, true_and, and_self, if_true, if_false, reduceCtorEq, ne_eq, eq_self, Nat.reduceEqDiff, Nat.reduceLT, Nat.reduceLeDiff, w4, w2]
            have hm := fun R => hm R (fun v' => R = v') (fun z => by omega) (fun z => by omega) (fun z => by omega) (fun z => by omega)
            by_cases z1 : aw = 0
            · simp (disch := first | omega | assumption) only [not_true_eq_false, not_false_eq_true, true_implies, false_implies, implies_true, and_true, true_and, and_self, if_true, if_false, reduceCtorEq, ne_eq, eq_self, Nat.reduceEqDiff, Nat.reduceLT, Nat.reduceLeDiff, z1, JN, or_true, true_or, or_false, false_or, forall_eq, true_implies, false_implies, implies_true, and_true, true_and, and_self, not_true_eq_false, not_false_eq_true, if_true, if_false, ne_eq, eq_self, e10, e01, Nat.reduceEqDiff, Nat.reduceLT, Nat.reduceLeDiff, Nat.reduceAdd, Nat.reduceSub, Nat.reduceMul, Nat.lt_irrefl, Nat.le_refl, n0, n1, n2, n3, n4, n5, n6, n7, n8, n9, n10, n11, n12, n13, n14, n15, n16, n20, n30, n48, n50, n60, n80, n99, n100, n120, n255, n256, n1200, n5040, sI_1, sI_2, sL_1, sL_2, sLA_1, sLA_2, vpT, ltT, ltF, leT, leF, neF, ltI', leI', eqI', nI_clamp, nI_add, nI_mul, sub', adm', ngeq', ngeq2', nglt', ngle', ngle2', wi_t, wi_f, ii_t, ii_f, ix_t, ix_f, nI_and, nI_or, nI_andN, shl', isIn', has', bB_0, bB_1, bB_t, bB_f, bP_0, bP_1, bitC', ones', ltL0', geL0', leL0', gtL0', eqL0']
              rw [hm _ (fun _ => by simp [z1])]
            by_cases z2 : ao = 0
            · simp (disch := first | omega | assumption) only [not_true_eq_false, not_false_eq_true, true_implies, false_implies, implies_true, and_true, true_and, and_self, if_true, if_false, reduceCtorEq, ne_eq, eq_self, Nat.reduceEqDiff, Nat.reduceLT, Nat.reduceLeDiff, z1, z2, JN, or_true, true_or, or_false, false_or, forall_eq, true_implies, false_implies, implies_true, and_true, true_and, and_self, not_true_eq_false, not_false_eq_true, if_true, if_false, ne_eq, eq_self, e10, e01, Nat.reduceEqDiff, Nat.reduceLT, Nat.reduceLeDiff, Nat.reduceAdd, Nat.reduceSub, Nat.reduceMul, Nat.lt_irrefl, Nat.le_refl, n0, n1, n2, n3, n4, n5, n6, n7, n8, n9, n10, n11, n12, n13, n14, n15, n16, n20, n30, n48, n50, n60, n80, n99, n100, n120, n255, n256, n1200, n5040, sI_1, sI_2, sL_1, sL_2, sLA_1, sLA_2, vpT, ltT, ltF, leT, leF, neF, ltI', leI', eqI', nI_clamp, nI_add, nI_mul, sub', adm', ngeq', ngeq2', nglt', ngle', ngle2', wi_t, wi_f, ii_t, ii_f, ix_t, ix_f, nI_and, nI_or, nI_andN, shl', isIn', has', bB_0, bB_1, bB_t, bB_f, bP_0, bP_1, bitC', ones', ltL0', geL0', leL0', gtL0', eqL0']
              rw [hm _ (fun _ => by simp [z2])]
            simp (disch := first | omega | assumption) only [not_true_eq_false, not_false_eq_true, true_implies, false_implies, implies_true, and_true, true_and, and_self, if_true, if_false, reduceCtorEq, ne_eq, eq_self, Nat.reduceEqDiff, Nat.reduceLT, Nat.reduceLeDiff, z1, z2, JN, or_true, true_or, or_false, false_or, forall_eq, true_implies, false_implies, implies_true, and_true, true_and, and_self, not_true_eq_false, not_false_eq_true, if_true, if_false, ne_eq, eq_self, e10, e01, Nat.reduceEqDiff, Nat.reduceLT, Nat.reduceLeDiff, Nat.reduceAdd, Nat.reduceSub, Nat.reduceMul, Nat.lt_irrefl, Nat.le_refl, n0, n1, n2, n3, n4, n5, n6, n7, n8, n9, n10, n11, n12, n13, n14, n15, n16, n20, n30, n48, n50, n60, n80, n99, n100, n120, n255, n256, n1200, n5040, sI_1, sI_2, sL_1, sL_2, sLA_1, sLA_2, vpT, ltT, ltF, leT, leF, neF, ltI', leI', eqI', nI_clamp, nI_add, nI_mul, sub', adm', ngeq', ngeq2', nglt', ngle', ngle2', wi_t, wi_f, ii_t, ii_f, ix_t, ix_f, nI_and, nI_or, nI_andN, shl', isIn', has', bB_0, bB_1, bB_t, bB_f, bP_0, bP_1, bitC', ones', ltL0', geL0', leL0', gtL0', eqL0']
            by_cases z3 : to * aw = tw * ao
            · simp only [not_true_eq_false, not_false_eq_true, true_implies, false_implies, implies_true, and_true, true_and, and_self, if_true, if_false, reduceCtorEq, ne_eq, eq_self, Nat.reduceEqDiff, Nat.reduceLT, Nat.reduceLeDiff, z3]
              rw [hm _ (fun _ => by simp [z1, z2, z3])]
            · by_cases z4 : to * aw ≤ tw * ao
              · simp only [not_true_eq_false, not_false_eq_true, true_implies, false_implies, implies_true, and_true, true_and, and_self, if_true, if_false, reduceCtorEq, ne_eq, eq_self, Nat.reduceEqDiff, Nat.reduceLT, Nat.reduceLeDiff, z3, z4]
                rw [hm _ (fun _ => by simp [z1, z2, z3, z4])]
              · simp only [not_true_eq_false, not_false_eq_true, true_implies, false_implies, implies_true, and_true, true_and, and_self, if_true, if_false, reduceCtorEq, ne_eq, eq_self, Nat.reduceEqDiff, Nat.reduceLT, Nat.reduceLeDiff, z3, z4]
                rw [hm _ (fun _ => by simp [z1, z2, z3, z4])]
          · by_cases w2 : 2 ≤ w
            · by_cases w3 : w = 2
              · subst w3
                simp (disch := first | omega | assumption) only [not_true_eq_false, not_false_eq_true, true_implies, false_implies, implies_true, and_true, true_and, and_self, if_true, if_false, reduceCtorEq, ne_eq, eq_self, Nat.reduceEqDiff, Nat.reduceLT, Nat.reduceLeDiff, JN, or_true, true_or, or_false, false_or, forall_eq, true_implies, false_implies, implies_true, and_true, true_and, and_self, not_true_eq_false, not_false_eq_true, if_true, if_false, ne_eq, eq_self, e10, e01, Nat.reduceEqDiff, Nat.reduceLT, Nat.reduceLeDiff, Nat.reduceAdd, Nat.reduceSub, Nat.reduceMul, Nat.lt_irrefl, Nat.le_refl, n0, n1, n2, n3, n4, n5, n6, n7, n8, n9, n10, n11, n12, n13, n14, n15, n16, n20, n30, n48, n50, n60, n80, n99, n100, n120, n255, n256, n1200, n5040, sI_1, sI_2, sL_1, sL_2, sLA_1, sLA_2, vpT, ltT, ltF, leT, leF, neF, ltI', leI', eqI', nI_clamp, nI_add, nI_mul, sub', adm', ngeq', ngeq2', nglt', ngle', ngle2', wi_t, wi_f, ii_t, ii_f, ix_t, ix_f, nI_and, nI_or, nI_andN, shl', isIn', has', bB_0, bB_1, bB_t, bB_f, bP_0, bP_1, bitC', ones', ltL0', geL0', leL0', gtL0', eqL0']
                rw [hm (nI to) _ (fun z => by omega) (fun z => by omega) (fun z => rfl) (fun z => by omega) (fun z => by omega)]
              · simp only [not_true_eq_false, not_false_eq_true, true_implies, false_implies, implies_true, and_true, true_and, and_self, if_true, if_false, reduceCtorEq, ne_eq, eq_self, Nat.reduceEqDiff, Nat.reduceLT, Nat.reduceLeDiff, w4, w2, w3]
                rw [hm (nI ao) _ (fun z => by omega) (fun z => by omega) (fun z => by omega) (fun z => rfl) (fun z => by omega)]
            · by_cases w0 : w = 0
              · subst w0
                simp (disch := first | omega | assumption) only [not_true_eq_false, not_false_eq_true, true_implies, false_implies, implies_true, and_true, true_and, and_self, if_true, if_false, reduceCtorEq, ne_eq, eq_self, Nat.reduceEqDiff, Nat.reduceLT, Nat.reduceLeDiff, JN, or_true, true_or, or_false, false_or, forall_eq, true_implies, false_implies, implies_true, and_true, true_and, and_self, not_true_eq_false, not_false_eq_true, if_true, if_false, ne_eq, eq_self, e10, e01, Nat.reduceEqDiff, Nat.reduceLT, Nat.reduceLeDiff, Nat.reduceAdd, Nat.reduceSub, Nat.reduceMul, Nat.lt_irrefl, Nat.le_refl, n0, n1, n2, n3, n4, n5, n6, n7, n8, n9, n10, n11, n12, n13, n14, n15, n16, n20, n30, n48, n50, n60, n80, n99, n100, n120, n255, n256, n1200, n5040, sI_1, sI_2, sL_1, sL_2, sLA_1, sLA_2, vpT, ltT, ltF, leT, leF, neF, ltI', leI', eqI', nI_clamp, nI_add, nI_mul, sub', adm', ngeq', ngeq2', nglt', ngle', ngle2', wi_t, wi_f, ii_t, ii_f, ix_t, ix_f, nI_and, nI_or, nI_andN, shl', isIn', has', bB_0, bB_1, bB_t, bB_f, bP_0, bP_1, bitC', ones', ltL0', geL0', leL0', gtL0', eqL0']
                rw [hm (nI tw) _ (fun z => rfl) (fun z => by omega) (fun z => by omega) (fun z => by omega) (fun z => by omega)]
              · simp only [not_true_eq_false, not_false_eq_true, true_implies, false_implies, implies_true, and_true, true_and, and_self, if_true, if_false, reduceCtorEq, ne_eq, eq_self, Nat.reduceEqDiff, Nat.reduceLT, Nat.reduceLeDiff, w4, w2, w0]
                rw [hm (nI aw) _ (fun z => by omega) (fun z => rfl) (fun z => by omega) (fun z => by omega) (fun z => by omega)]
      · unfold fX11_away fX12_away fX1_has
        simp (disch := first | omega | assumption) only [JN, or_true, true_or, or_false, false_or, forall_eq, true_implies, false_implies, implies_true, and_true, true_and, and_self, not_true_eq_false, not_false_eq_true, if_true, if_false, ne_eq, eq_self, e10, e01, Nat.reduceEqDiff, Nat.reduceLT, Nat.reduceLeDiff, Nat.reduceAdd, Nat.reduceSub, Nat.reduceMul, Nat.lt_irrefl, Nat.le_refl, n0, n1, n2, n3, n4, n5, n6, n7, n8, n9, n10, n11, n12, n13, n14, n15, n16, n20, n30, n48, n50, n60, n80, n99, n100, n120, n255, n256, n1200, n5040, sI_1, sI_2, sL_1, sL_2, sLA_1, sLA_2, vpT, ltT, ltF, leT, leF, neF, ltI', leI', eqI', nI_clamp, nI_add, nI_mul, sub', adm', ngeq', ngeq2', nglt', ngle', ngle2', wi_t, wi_f, ii_t, ii_f, ix_t, ix_f, nI_and, nI_or, nI_andN, shl', isIn', has', bB_0, bB_1, bB_t, bB_f, bP_0, bP_1, bitC', ones', ltL0', geL0', leL0', gtL0', eqL0', g2, isTh_t g3, isTh_f g3]
    · unfold fX11_away fX12_away fX1_has
      simp (disch := first | omega | assumption) only [JN, or_true, true_or, or_false, false_or, forall_eq, true_implies, false_implies, implies_true, and_true, true_and, and_self, not_true_eq_false, not_false_eq_true, if_true, if_false, ne_eq, eq_self, e10, e01, Nat.reduceEqDiff, Nat.reduceLT, Nat.reduceLeDiff, Nat.reduceAdd, Nat.reduceSub, Nat.reduceMul, Nat.lt_irrefl, Nat.le_refl, n0, n1, n2, n3, n4, n5, n6, n7, n8, n9, n10, n11, n12, n13, n14, n15, n16, n20, n30, n48, n50, n60, n80, n99, n100, n120, n255, n256, n1200, n5040, sI_1, sI_2, sL_1, sL_2, sLA_1, sLA_2, vpT, ltT, ltF, leT, leF, neF, ltI', leI', eqI', nI_clamp, nI_add, nI_mul, sub', adm', ngeq', ngeq2', nglt', ngle', ngle2', wi_t, wi_f, ii_t, ii_f, ix_t, ix_f, nI_and, nI_or, nI_andN, shl', isIn', has', bB_0, bB_1, bB_t, bB_f, bP_0, bP_1, bitC', ones', ltL0', geL0', leL0', gtL0', eqL0', g2, isTh_t g3, isTh_f g3]
  · unfold fX11_away fX12_away fX1_has
    simp (disch := first | omega | assumption) only [JN, or_true, true_or, or_false, false_or, forall_eq, true_implies, false_implies, implies_true, and_true, true_and, and_self, not_true_eq_false, not_false_eq_true, if_true, if_false, ne_eq, eq_self, e10, e01, Nat.reduceEqDiff, Nat.reduceLT, Nat.reduceLeDiff, Nat.reduceAdd, Nat.reduceSub, Nat.reduceMul, Nat.lt_irrefl, Nat.le_refl, n0, n1, n2, n3, n4, n5, n6, n7, n8, n9, n10, n11, n12, n13, n14, n15, n16, n20, n30, n48, n50, n60, n80, n99, n100, n120, n255, n256, n1200, n5040, sI_1, sI_2, sL_1, sL_2, sLA_1, sLA_2, vpT, ltT, ltF, leT, leF, neF, ltI', leI', eqI', nI_clamp, nI_add, nI_mul, sub', adm', ngeq', ngeq2', nglt', ngle', ngle2', wi_t, wi_f, ii_t, ii_f, ix_t, ix_f, nI_and, nI_or, nI_andN, shl', isIn', has', bB_0, bB_1, bB_t, bB_f, bP_0, bP_1, bitC', ones', ltL0', geL0', leL0', gtL0', eqL0', g2, isTh_t g3, isTh_f g3]
