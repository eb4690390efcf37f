/-! silly, away -/
theorem x_silly {D : Dy} {n : Nat} {Mk Pr : Nat → Nat} (hn : n ≤ 6) (h1 : D.1 1 3 = nI n) (h2 : ∀ i, i < n → D.1 2 i = nI (Mk i)) (h3 : ∀ i, i < n → Mk i < 256) (h4 : ∀ i, i < n → D.1 3 i = nI (Pr i)) (h5 : ∀ i, i < n → Pr i < 100) {S : Nat} (hS : S < 2 ^ n) {post : Int32 → Prop} : fX11_silly (nI S) D post = post (bP (2 ≤ pc S ∧ ∃ t, 0 ≤ t ∧ t < n ∧ S.testBit t = true ∧ gdT S Mk Pr t n)) := by
  have pw := pw6 hn
  have hA : ∀ p : Int32 → Prop, fX1_hasAll (nI S) D p = p (nI 1) := by
    intro p
    have hS' : S >>> n = 0 := by rw [Nat.shiftRight_eq_div_pow]; exact Nat.div_eq_of_lt hS
    simp only [fX1_hasAll, h1]
    rw [nI_shr (by omega) (by omega), hS']
    simp (disch := first | omega | assumption) only [JN, forall_eq, true_implies, false_implies, implies_true, and_true, true_and, and_self, not_true_eq_false, not_false_eq_true, if_true, if_false, ne_eq, eq_self, e10, e01, Nat.reduceEqDiff, Nat.reduceLT, Nat.reduceLeDiff, Nat.reduceAdd, Nat.reduceSub, Nat.reduceMul, Nat.lt_irrefl, Nat.le_refl, n0, n1, n2, n3, n4, n5, n6, n7, n8, n9, n10, n11, n12, n13, n14, n15, n16, n20, n30, n48, n50, n60, n80, n99, n100, n120, n255, n256, n1200, n5040, sI_1, sI_2, sL_1, sL_2, sLA_1, sLA_2, vpT, ltT, ltF, leT, leF, neF, ltI', leI', eqI', nI_clamp, nI_add, nI_mul, sub', adm', ngeq', ngeq2', nglt', ngle', ngle2', wi_t, wi_f, ii_t, ii_f, ix_t, ix_f, nI_and, nI_or, nI_andN, shl', isIn', has', bB_0, bB_1, bB_t, bB_f, bP_0, bP_1, bitC', ones', ltL0', geL0', leL0', gtL0', eqL0']
  unfold fX11_silly
  rw [hA]
  unfold fX1_isSilly
  have p8 := @pc_8 S
  simp (disch := first | omega | assumption) only [JN, forall_eq, true_implies, false_implies, implies_true, and_true, true_and, and_self, not_true_eq_false, not_false_eq_true, if_true, if_false, ne_eq, eq_self, e10, e01, Nat.reduceEqDiff, Nat.reduceLT, Nat.reduceLeDiff, Nat.reduceAdd, Nat.reduceSub, Nat.reduceMul, Nat.lt_irrefl, Nat.le_refl, n0, n1, n2, n3, n4, n5, n6, n7, n8, n9, n10, n11, n12, n13, n14, n15, n16, n20, n30, n48, n50, n60, n80, n99, n100, n120, n255, n256, n1200, n5040, sI_1, sI_2, sL_1, sL_2, sLA_1, sLA_2, vpT, ltT, ltF, leT, leF, neF, ltI', leI', eqI', nI_clamp, nI_add, nI_mul, sub', adm', ngeq', ngeq2', nglt', ngle', ngle2', wi_t, wi_f, ii_t, ii_f, ix_t, ix_f, nI_and, nI_or, nI_andN, shl', isIn', has', bB_0, bB_1, bB_t, bB_f, bP_0, bP_1, bitC', ones', ltL0', geL0', leL0', gtL0', eqL0']
  by_cases c : 2 ≤ pc S
  · simp only [c, true_and, true_implies, not_true_eq_false, false_implies, and_true]
    refine lp1_V n nI (fun k => post (bP (∃ t, k ≤ t ∧ t < n ∧ S.testBit t = true ∧ gdT S Mk Pr t n))) (by omega) (fun k hk rec hr => ?_) rfl
    by_cases e : k = n
    · subst e
      rw [bP_f (fun ⟨t, h1, h2, _⟩ => absurd h2 (by omega))]
      simp (disch := first | omega | assumption) only [JN, forall_eq, true_implies, false_implies, implies_true, and_true, true_and, and_self, not_true_eq_false, not_false_eq_true, if_true, if_false, ne_eq, eq_self, e10, e01, Nat.reduceEqDiff, Nat.reduceLT, Nat.reduceLeDiff, Nat.reduceAdd, Nat.reduceSub, Nat.reduceMul, Nat.lt_irrefl, Nat.le_refl, n0, n1, n2, n3, n4, n5, n6, n7, n8, n9, n10, n11, n12, n13, n14, n15, n16, n20, n30, n48, n50, n60, n80, n99, n100, n120, n255, n256, n1200, n5040, sI_1, sI_2, sL_1, sL_2, sLA_1, sLA_2, vpT, ltT, ltF, leT, leF, neF, ltI', leI', eqI', nI_clamp, nI_add, nI_mul, sub', adm', ngeq', ngeq2', nglt', ngle', ngle2', wi_t, wi_f, ii_t, ii_f, ix_t, ix_f, nI_and, nI_or, nI_andN, shl', isIn', has', bB_0, bB_1, bB_t, bB_f, bP_0, bP_1, bitC', ones', ltL0', geL0', leL0', gtL0', eqL0', h1]
    · have hk' : k < n := by omega
      have hr := hr hk'
      simp (disch := first | omega | assumption) only [JN, forall_eq, true_implies, false_implies, implies_true, and_true, true_and, and_self, not_true_eq_false, not_false_eq_true, if_true, if_false, ne_eq, eq_self, e10, e01, Nat.reduceEqDiff, Nat.reduceLT, Nat.reduceLeDiff, Nat.reduceAdd, Nat.reduceSub, Nat.reduceMul, Nat.lt_irrefl, Nat.le_refl, n0, n1, n2, n3, n4, n5, n6, n7, n8, n9, n10, n11, n12, n13, n14, n15, n16, n20, n30, n48, n50, n60, n80, n99, n100, n120, n255, n256, n1200, n5040, sI_1, sI_2, sL_1, sL_2, sLA_1, sLA_2, vpT, ltT, ltF, leT, leF, neF, ltI', leI', eqI', nI_clamp, nI_add, nI_mul, sub', adm', ngeq', ngeq2', nglt', ngle', ngle2', wi_t, wi_f, ii_t, ii_f, ix_t, ix_f, nI_and, nI_or, nI_andN, shl', isIn', has', bB_0, bB_1, bB_t, bB_f, bP_0, bP_1, bitC', ones', ltL0', geL0', leL0', gtL0', eqL0', h1]
      rw [x_outdoes hn h1 h2 h3 h4 h5 hk' (by omega), hr]
      by_cases q1 : S.testBit k = true ∧ gdT S Mk Pr k n
      · rw [show bP (∃ t, k ≤ t ∧ t < n ∧ S.testBit t = true ∧ gdT S Mk Pr t n) = nI 1 from bP_t ⟨k, Nat.le_refl _, hk', q1⟩, bP_t q1.2]
        simp only [q1.1]
        simp (disch := first | omega | assumption) only [JN, forall_eq, true_implies, false_implies, implies_true, and_true, true_and, and_self, not_true_eq_false, not_false_eq_true, if_true, if_false, ne_eq, eq_self, e10, e01, Nat.reduceEqDiff, Nat.reduceLT, Nat.reduceLeDiff, Nat.reduceAdd, Nat.reduceSub, Nat.reduceMul, Nat.lt_irrefl, Nat.le_refl, n0, n1, n2, n3, n4, n5, n6, n7, n8, n9, n10, n11, n12, n13, n14, n15, n16, n20, n30, n48, n50, n60, n80, n99, n100, n120, n255, n256, n1200, n5040, sI_1, sI_2, sL_1, sL_2, sLA_1, sLA_2, vpT, ltT, ltF, leT, leF, neF, ltI', leI', eqI', nI_clamp, nI_add, nI_mul, sub', adm', ngeq', ngeq2', nglt', ngle', ngle2', wi_t, wi_f, ii_t, ii_f, ix_t, ix_f, nI_and, nI_or, nI_andN, shl', isIn', has', bB_0, bB_1, bB_t, bB_f, bP_0, bP_1, bitC', ones', ltL0', geL0', leL0', gtL0', eqL0', reduceCtorEq]
      · have e2 : bP (∃ t, k ≤ t ∧ t < n ∧ S.testBit t = true ∧ gdT S Mk Pr t n) = bP (∃ t, k + 1 ≤ t ∧ t < n ∧ S.testBit t = true ∧ gdT S Mk Pr t n) := by
          refine bP_c ⟨fun ⟨t, g1, g2, g3⟩ => ⟨t, ?_, g2, g3⟩, fun ⟨t, g1, g2, g3⟩ => ⟨t, by omega, g2, g3⟩⟩
          have : t ≠ k := fun z => q1 (z ▸ g3)
          omega
        rw [e2]
        by_cases q2 : S.testBit k = true
        · rw [bP_f fun z => q1 ⟨q2, z⟩]
          simp [q2]
        · simp [q2]
  · rw [bP_f fun z => c z.1]
    simp [c]
theorem m_silly {D : Dy} {n : Nat} {Mk Pr : Nat → Nat} (hn : n ≤ 6) (h1 : D.1 33 0 = nI n) (h2 : ∀ i, i < n → D.1 34 i = nI (Mk i)) (h3 : ∀ i, i < n → Mk i < 256) (h4 : ∀ i, i < n → D.1 35 i = nI (Pr i)) (h5 : ∀ i, i < n → Pr i < 100) {S : Nat} (hS : S < 2 ^ n) {post : Int32 → Prop} : fX12_silly (nI S) D post = post (bP (2 ≤ pc S ∧ ∃ t, 0 ≤ t ∧ t < n ∧ S.testBit t = true ∧ gdT S Mk Pr t n)) := by
  have pw := pw6 hn
  have p8 := @pc_8 S
  unfold fX12_silly fX12_isSet
  rw [h1]
  simp (disch := first | omega | assumption) only [JN, forall_eq, true_implies, false_implies, implies_true, and_true, true_and, and_self, not_true_eq_false, not_false_eq_true, if_true, if_false, ne_eq, eq_self, e10, e01, Nat.reduceEqDiff, Nat.reduceLT, Nat.reduceLeDiff, Nat.reduceAdd, Nat.reduceSub, Nat.reduceMul, Nat.lt_irrefl, Nat.le_refl, n0, n1, n2, n3, n4, n5, n6, n7, n8, n9, n10, n11, n12, n13, n14, n15, n16, n20, n30, n48, n50, n60, n80, n99, n100, n120, n255, n256, n1200, n5040, sI_1, sI_2, sL_1, sL_2, sLA_1, sLA_2, vpT, ltT, ltF, leT, leF, neF, ltI', leI', eqI', nI_clamp, nI_add, nI_mul, sub', adm', ngeq', ngeq2', nglt', ngle', ngle2', wi_t, wi_f, ii_t, ii_f, ix_t, ix_f, nI_and, nI_or, nI_andN, shl', isIn', has', bB_0, bB_1, bB_t, bB_f, bP_0, bP_1, bitC', ones', ltL0', geL0', leL0', gtL0', eqL0', or_true]
  by_cases c : 2 ≤ pc S
  · simp only [c, true_and, true_implies, not_true_eq_false, false_implies, and_true]
    refine lp1_V n nI (fun k => post (bP (∃ t, k ≤ t ∧ t < n ∧ S.testBit t = true ∧ gdT S Mk Pr t n))) (by omega) (fun t ht rec hr => ?_) rfl
    by_cases e : t = n
    · subst e
      rw [bP_f (fun ⟨t, h1, h2, _⟩ => absurd h2 (by omega))]
      simp (disch := first | omega | assumption) only [JN, forall_eq, true_implies, false_implies, implies_true, and_true, true_and, and_self, not_true_eq_false, not_false_eq_true, if_true, if_false, ne_eq, eq_self, e10, e01, Nat.reduceEqDiff, Nat.reduceLT, Nat.reduceLeDiff, Nat.reduceAdd, Nat.reduceSub, Nat.reduceMul, Nat.lt_irrefl, Nat.le_refl, n0, n1, n2, n3, n4, n5, n6, n7, n8, n9, n10, n11, n12, n13, n14, n15, n16, n20, n30, n48, n50, n60, n80, n99, n100, n120, n255, n256, n1200, n5040, sI_1, sI_2, sL_1, sL_2, sLA_1, sLA_2, vpT, ltT, ltF, leT, leF, neF, ltI', leI', eqI', nI_clamp, nI_add, nI_mul, sub', adm', ngeq', ngeq2', nglt', ngle', ngle2', wi_t, wi_f, ii_t, ii_f, ix_t, ix_f, nI_and, nI_or, nI_andN, shl', isIn', has', bB_0, bB_1, bB_t, bB_f, bP_0, bP_1, bitC', ones', ltL0', geL0', leL0', gtL0', eqL0']
    · have ht' : t < n := by omega
      have hr := hr ht'
      simp (disch := first | omega | assumption) only [JN, forall_eq, true_implies, false_implies, implies_true, and_true, true_and, and_self, not_true_eq_false, not_false_eq_true, if_true, if_false, ne_eq, eq_self, e10, e01, Nat.reduceEqDiff, Nat.reduceLT, Nat.reduceLeDiff, Nat.reduceAdd, Nat.reduceSub, Nat.reduceMul, Nat.lt_irrefl, Nat.le_refl, n0, n1, n2, n3, n4, n5, n6, n7, n8, n9, n10, n11, n12, n13, n14, n15, n16, n20, n30, n48, n50, n60, n80, n99, n100, n120, n255, n256, n1200, n5040, sI_1, sI_2, sL_1, sL_2, sLA_1, sLA_2, vpT, ltT, ltF, leT, leF, neF, ltI', leI', eqI', nI_clamp, nI_add, nI_mul, sub', adm', ngeq', ngeq2', nglt', ngle', ngle2', wi_t, wi_f, ii_t, ii_f, ix_t, ix_f, nI_and, nI_or, nI_andN, shl', isIn', has', bB_0, bB_1, bB_t, bB_f, bP_0, bP_1, bitC', ones', ltL0', geL0', leL0', gtL0', eqL0']
      rw [hr]
      have inner : ∀ b, (∀ (rec29 : Int32 → Int32 → Prop) (k : Nat), k ≤ n → (k < n → rec29 (bP (gdT S Mk Pr t (k + 1))) (nI (k + 1)) = post (bP (∃ t', t ≤ t' ∧ t' < n ∧ S.testBit t' = true ∧ gdT S Mk Pr t' n))) → b rec29 (bP (gdT S Mk Pr t k)) (nI k) = post (bP (∃ t', t ≤ t' ∧ t' < n ∧ S.testBit t' = true ∧ gdT S Mk Pr t' n))) → LP2 b FU (nI 1) (nI 0) = post (bP (∃ t', t ≤ t' ∧ t' < n ∧ S.testBit t' = true ∧ gdT S Mk Pr t' n)) := fun b hb => lp2_V n (fun k => bP (gdT S Mk Pr t k)) nI (fun _ => post _) (by omega) (fun k hk rec29 h => hb rec29 k hk h) (bP_t fun o h1 h2 => absurd h2 (by omega)).symm rfl
      by_cases q2 : S.testBit t = true
      · simp only [q2, true_implies, not_true_eq_false, not_false_eq_true, false_implies, and_true, reduceCtorEq]
        refine inner _ fun rec29 k hk hk2 => ?_
        by_cases e : k = n
        · subst e
          simp (disch := first | omega | assumption) only [JN, forall_eq, true_implies, false_implies, implies_true, and_true, true_and, and_self, not_true_eq_false, not_false_eq_true, if_true, if_false, ne_eq, eq_self, e10, e01, Nat.reduceEqDiff, Nat.reduceLT, Nat.reduceLeDiff, Nat.reduceAdd, Nat.reduceSub, Nat.reduceMul, Nat.lt_irrefl, Nat.le_refl, n0, n1, n2, n3, n4, n5, n6, n7, n8, n9, n10, n11, n12, n13, n14, n15, n16, n20, n30, n48, n50, n60, n80, n99, n100, n120, n255, n256, n1200, n5040, sI_1, sI_2, sL_1, sL_2, sLA_1, sLA_2, vpT, ltT, ltF, leT, leF, neF, ltI', leI', eqI', nI_clamp, nI_add, nI_mul, sub', adm', ngeq', ngeq2', nglt', ngle', ngle2', wi_t, wi_f, ii_t, ii_f, ix_t, ix_f, nI_and, nI_or, nI_andN, shl', isIn', has', bB_0, bB_1, bB_t, bB_f, bP_0, bP_1, bitC', ones', ltL0', geL0', leL0', gtL0', eqL0']
          by_cases q1 : gdT S Mk Pr t k
          · rw [show bP (∃ t', t ≤ t' ∧ t' < k ∧ S.testBit t' = true ∧ gdT S Mk Pr t' k) = nI 1 from bP_t ⟨t, Nat.le_refl _, ht', q2, q1⟩]
            simp only [q1, not_true_eq_false, not_false_eq_true, true_implies, false_implies, implies_true, and_true, true_and, and_self, if_true, if_false, reduceCtorEq, ne_eq, eq_self, Nat.reduceEqDiff, Nat.reduceLT, Nat.reduceLeDiff]
          · have e2 : bP (∃ t', t ≤ t' ∧ t' < k ∧ S.testBit t' = true ∧ gdT S Mk Pr t' k) = bP (∃ t', t + 1 ≤ t' ∧ t' < k ∧ S.testBit t' = true ∧ gdT S Mk Pr t' k) := by
              refine bP_c ⟨fun ⟨t', g1, g2, g3⟩ => ⟨t', ?_, g2, g3⟩, fun ⟨t', g1, g2, g3⟩ => ⟨t', by omega, g2, g3⟩⟩
              have : t' ≠ t := fun z => q1 (z ▸ g3.2)
              omega
            rw [e2]
            simp only [q1, not_false_eq_true, true_implies, not_true_eq_false, false_implies, and_true]
        · have hk' : k < n := by omega
          have hk2 := hk2 hk'
          have b1 := h3 k hk'
          have b2 := h3 t ht'
          have b3 := h5 k hk'
          have b4 := h5 t ht'
          have b5 : aNot (Mk k) (Mk t) < 256 := Nat.lt_of_le_of_lt aNot_le b1
          have st : bP (gdT S Mk Pr t (k + 1)) = bP ((gdT S Mk Pr t k) ∧ ¬ bad S Mk Pr t k) := by
            refine bP_c ⟨fun h => ⟨fun o g1 g2 => h o g1 (by omega), h k (by omega) (by omega)⟩, fun ⟨h, h'⟩ o g1 g2 => ?_⟩
            by_cases z : o = k
            · rw [z]; exact h'
            · exact h o g1 (by omega)
          rw [st] at hk2
          simp (disch := first | omega | assumption) only [JN, forall_eq, true_implies, false_implies, implies_true, and_true, true_and, and_self, not_true_eq_false, not_false_eq_true, if_true, if_false, ne_eq, eq_self, e10, e01, Nat.reduceEqDiff, Nat.reduceLT, Nat.reduceLeDiff, Nat.reduceAdd, Nat.reduceSub, Nat.reduceMul, Nat.lt_irrefl, Nat.le_refl, n0, n1, n2, n3, n4, n5, n6, n7, n8, n9, n10, n11, n12, n13, n14, n15, n16, n20, n30, n48, n50, n60, n80, n99, n100, n120, n255, n256, n1200, n5040, sI_1, sI_2, sL_1, sL_2, sLA_1, sLA_2, vpT, ltT, ltF, leT, leF, neF, ltI', leI', eqI', nI_clamp, nI_add, nI_mul, sub', adm', ngeq', ngeq2', nglt', ngle', ngle2', wi_t, wi_f, ii_t, ii_f, ix_t, ix_f, nI_and, nI_or, nI_andN, shl', isIn', has', bB_0, bB_1, bB_t, bB_f, bP_0, bP_1, bitC', ones', ltL0', geL0', leL0', gtL0', eqL0', h2, h4, aNot_0]
          by_cases q1 : gdT S Mk Pr t k
          · by_cases q4 : k = t
            · subst q4
              rw [bP_t ⟨q1, by simp [bad]⟩] at hk2
              simp only [not_true_eq_false, not_false_eq_true, true_implies, false_implies, implies_true, and_true, true_and, and_self, if_true, if_false, reduceCtorEq, ne_eq, eq_self, Nat.reduceEqDiff, Nat.reduceLT, Nat.reduceLeDiff, q1]
              simp only [hk2, not_true_eq_false, not_false_eq_true, true_implies, false_implies, implies_true, and_true, true_and, and_self, if_true, if_false, reduceCtorEq, ne_eq, eq_self, Nat.reduceEqDiff, Nat.reduceLT, Nat.reduceLeDiff]
            · by_cases q3 : bad S Mk Pr t k
              · rw [bP_f fun z => z.2 q3] at hk2
                obtain ⟨g1, g2⟩ := q3
                rcases g2 with g2 | g2
                · simp only [not_true_eq_false, not_false_eq_true, true_implies, false_implies, implies_true, and_true, true_and, and_self, if_true, if_false, reduceCtorEq, ne_eq, eq_self, Nat.reduceEqDiff, Nat.reduceLT, Nat.reduceLeDiff, q1, q4, g1, g2, hk2]
                · have g2' : ¬ Pr t ≤ Pr k := by omega
                  simp only [not_true_eq_false, not_false_eq_true, true_implies, false_implies, implies_true, and_true, true_and, and_self, if_true, if_false, reduceCtorEq, ne_eq, eq_self, Nat.reduceEqDiff, Nat.reduceLT, Nat.reduceLeDiff, q1, q4, g1, g2, hk2]
                  by_cases y : Mk t &&& Mk k = Mk k <;> simp only [not_true_eq_false, not_false_eq_true, true_implies, false_implies, implies_true, and_true, true_and, and_self, if_true, if_false, reduceCtorEq, ne_eq, eq_self, Nat.reduceEqDiff, Nat.reduceLT, Nat.reduceLeDiff, y]
              · rw [bP_t ⟨q1, q3⟩] at hk2
                by_cases g1 : S.testBit k = true
                · have g2 : Mk t &&& Mk k = Mk k := Classical.byContradiction fun z => q3 ⟨g1, Or.inl z⟩
                  have g3 : ¬ Pr k < Pr t := fun z => q3 ⟨g1, Or.inr z⟩
                  simp only [not_true_eq_false, not_false_eq_true, true_implies, false_implies, implies_true, and_true, true_and, and_self, if_true, if_false, reduceCtorEq, ne_eq, eq_self, Nat.reduceEqDiff, Nat.reduceLT, Nat.reduceLeDiff, q1, q4, g1, g2, g3, hk2]
                · simp only [not_true_eq_false, not_false_eq_true, true_implies, false_implies, implies_true, and_true, true_and, and_self, if_true, if_false, reduceCtorEq, ne_eq, eq_self, Nat.reduceEqDiff, Nat.reduceLT, Nat.reduceLeDiff, q1, q4, g1, hk2]
          · rw [bP_f fun z => q1 z.1] at hk2
            simp only [q1, not_false_eq_true, true_implies, not_true_eq_false, false_implies, and_true]
            exact hk2
      · simp only [q2]
        have e2 : bP (∃ t', t ≤ t' ∧ t' < n ∧ S.testBit t' = true ∧ gdT S Mk Pr t' n) = bP (∃ t', t + 1 ≤ t' ∧ t' < n ∧ S.testBit t' = true ∧ gdT S Mk Pr t' n) := by
          refine bP_c ⟨fun ⟨t', g1, g2, g3⟩ => ⟨t', ?_, g2, g3⟩, fun ⟨t', g1, g2, g3⟩ => ⟨t', by omega, g2, g3⟩⟩
          have : t' ≠ t := fun z => q2 (z ▸ g3.1)
          omega
        rw [e2]
        simp
  · rw [bP_f fun z => c z.1]
    simp [c]
theorem p_silly {D : Dy} {n : Nat} {a1 : Int32} (hg : RG D n) : fX11_silly a1 D (fun v => fX12_silly a1 D (fun v' => v = v')) := by
  obtain ⟨g1, g2, g3, Mk, Pr, Ne, g4⟩ := RG_f hg
  by_cases h : iN a1 (2 ^ n)
  · obtain ⟨j, hj, rfl⟩ := h
    rw [x_silly g1 g2 (fun i hi => (g4 i hi).1.1) (fun i hi => (g4 i hi).1.2.2) (fun i hi => (g4 i hi).2.1.1) (fun i hi => (g4 i hi).2.1.2.2) hj, m_silly g1 g3 (fun i hi => (g4 i hi).1.2.1) (fun i hi => (g4 i hi).1.2.2) (fun i hi => (g4 i hi).2.1.2.1) (fun i hi => (g4 i hi).2.1.2.2) hj]
  · unfold fX11_silly fX12_silly
    refine s_hasAll g1 g2 (fun z => absurd z h) (fun _ => ⟨fun z => absurd rfl z, fun _ => ?_⟩)
    exact s_isSet g1 g3 (fun z => absurd z h) (fun _ => ⟨fun z => absurd rfl z, fun _ => rfl⟩)
