/-! like, would -/
theorem agL_app {P Q : List (Nat × Nat)} {l : List Nat} : agL (P ++ Q) l = (agL P l && agL Q l) := by
  unfold agL; rw [List.all_append]
theorem sB_pos {n : Nat} {Q : List (Nat × Nat)} (hn : n ≤ 6) (hQ : QOK (n + 1) Q) : (0 < sB Q (n + 1) 0) = ∃ v, v < fac (n + 1) ∧ agL Q (ord (n + 1) 0 v) = true := by
  rw [← sB_AG hn hQ]
  refine propext (sumN_pos.trans ⟨fun ⟨v, h1, h2⟩ => ⟨v, h1, ?_⟩, fun ⟨v, h1, h2⟩ => ⟨v, h1, by rw [if_pos h2]; omega⟩⟩)
  refine Classical.byContradiction fun z => ?_
  rw [if_neg z] at h2; omega
theorem p_like {D : Dy} {n k c : Nat} {a1 a2 : Int32} (hB : BO D n k c) (hK : RK D n c) : fX11_like a1 a2 D (fun v D1 => fX12_like a1 a2 D1 (fun v' D2 => v = v' ∧ RK D2 n c ∧ frC D D2)) := by
  obtain ⟨hn, hk, hc, g1, g2, t1, t2, hX, hM⟩ := id hB
  have f7 := fac7 (n := n + 1) (by omega)
  by_cases q : iN a1 k
  · obtain ⟨a, ha, rfl⟩ := q
    by_cases q2 : iN a2 k
    · obtain ⟨b, hb, rfl⟩ := q2
      by_cases hab : a = b
      · subst hab
        unfold fX11_like fX12_like
        simp (disch := first | omega | assumption) only [JN, false_and, and_false, or_true, true_or, or_false, false_or, forall_eq, true_implies, false_implies, implies_true, and_true, true_and, and_self, not_true_eq_false, not_false_eq_true, if_true, if_false, ne_eq, eq_self, e10, e01, Nat.reduceEqDiff, Nat.reduceLT, Nat.reduceLeDiff, Nat.reduceAdd, Nat.reduceSub, Nat.reduceMul, Nat.lt_irrefl, Nat.le_refl, n0, n1, n2, n3, n4, n5, n6, n7, n8, n9, n10, n11, n12, n13, n14, n15, n16, n20, n30, n48, n50, n60, n80, n99, n100, n120, n255, n256, n1200, n5040, sI_1, sI_2, sL_1, sL_2, sLA_1, sLA_2, vpT, ltT, ltF, leT, leF, neF, ltI', leI', eqI', nI_clamp, nI_add, nI_mul, sub', adm', ngeq', ngeq2', nglt', ngle', ngle2', wi_t, wi_f, ii_t, ii_f, ix_t, ix_f, nI_and, nI_or, nI_andN, shl', isIn', has', bB_0, bB_1, bB_t, bB_f, bP_0, bP_1, bitC', ones', ltL0', geL0', leL0', gtL0', eqL0', t1, isTk_t t2]
        exact ⟨hK, frC_r⟩
      · obtain ⟨Q1, Q2⟩ := BO_Q (w := a) hB
        obtain ⟨R1, R2⟩ := BO_Q (w := b) hB
        have ne : ¬ nI a = nI b := fun z => hab ((nI_eq (by omega) (by omega)).mp z)
        unfold fX11_like
        rw [t1, wi_t ha (by omega), wi_t hb (by omega)]
        refine ⟨fun z => absurd z (by decide), fun _ => ⟨fun _ => ⟨fun _ => ?_, fun z => absurd z ne⟩, fun z => absurd z (by decide)⟩⟩
        refine x_gatherOne hn hk hc ha g1 hX fun D1 o1 G1 => ?_
        have X1 := ChX_o hX o1
        refine x_gatherMore hn hk hc hb X1 G1 (by have := rqL_len (n := n) (W := cW D) (S := cS D) (O := cO D) (U := cU D) hab c; omega) fun D1' o1' G1' => ?_
        refine x_count hn (GO_A G1') fun D2 i2 _ => ?_
        have o2 := frO_t (frO_t o1 o1') (frO_I i2 (by omega) (by omega))
        have B2 := BO_o hB o2
        have K2 := RK_o hK o2
        have QQ : QOK (n + 1) (rqD D n c a ++ rqD D n c b) := fun q hq => (List.mem_append.mp hq).elim (Q1 q) (R1 q)
        have sp := sB_pos hn QQ
        have s5 := sB_5040 (Q := rqD D n c a ++ rqD D n c b) hn
        have mm : ∀ R : Int32, R = bP (∃ v, 0 ≤ v ∧ v < fac (n + 1) ∧ agL (rqD D n c a) (ord (n + 1) 0 v) = true ∧ agL (rqD D n c b) (ord (n + 1) 0 v) = true) → fX12_like (nI a) (nI b) D2 (fun v' D2 => R = v' ∧ RK D2 n c ∧ frC D D2) := by
          intro R hR
          unfold fX12_like
          rw [isTk_t B2.2.2.2.2.2.2.1 (by omega) ha, isTk_t B2.2.2.2.2.2.2.1 (by omega) hb]
          refine ⟨fun z => absurd z (by decide), fun _ => ⟨fun _ => ⟨fun _ => ?_, fun z => absurd z ne⟩, fun z => absurd z (by decide)⟩⟩
          refine m_findAgreeing B2 K2 (by omega) fun D3 k3 K3 e46 pl h57 h58 hk58 => ?_
          refine m_findAgreeing (BO_k B2 k3) K3 (by omega) fun D4 k4 K4 e46' pl' h57' h58' hk58' => ?_
          have B4 := BO_k (BO_k B2 k3) k4
          have e0 : D4.1 33 0 = nI n := B4.2.2.2.2.1
          have ra : ∀ v, v < fac (n + 1) → D4.1 57 (5040 * a + v) = bB (agL (rqD D n c a) (ord (n + 1) 0 v)) := by
            intro v hv
            have h1 := hk58' e46 a (by omega) h58
            rcases (K4.2 e46').2 a (by omega) with y | y
            · rw [y] at h1; exact absurd h1 (by decide)
            · rw [y.2 v hv, AG_k k4, AG_k k3, AG_o o2]; rfl
          have rb : ∀ v, v < fac (n + 1) → D4.1 57 (5040 * b + v) = bB (agL (rqD D n c b) (ord (n + 1) 0 v)) := fun v hv => by rw [h57' v hv, AG_k k3, AG_o o2]; rfl
          subst hR
          refine (lp1_V (fac (n + 1)) nI (fun k => bP (∃ v, 0 ≤ v ∧ v < fac (n + 1) ∧ agL (rqD D n c a) (ord (n + 1) 0 v) = true ∧ agL (rqD D n c b) (ord (n + 1) 0 v) = true) = bP (∃ v, k ≤ v ∧ v < fac (n + 1) ∧ agL (rqD D n c a) (ord (n + 1) 0 v) = true ∧ agL (rqD D n c b) (ord (n + 1) 0 v) = true) ∧ RK D4 n c ∧ frC D D4) (by omega) (fun v hv rec hr => ?_) rfl).mpr ⟨rfl, K4, frC_t (frC_o o2) (frC_t (frC_k k3) (frC_k k4))⟩
          rw [m_orders hn e0]
          generalize bP (∃ v, 0 ≤ v ∧ v < fac (n + 1) ∧ agL (rqD D n c a) (ord (n + 1) 0 v) = true ∧ agL (rqD D n c b) (ord (n + 1) 0 v) = true) = R at *
          by_cases e : v = fac (n + 1)
          · subst e
            rw [bP_f (p := ∃ v, fac (n + 1) ≤ v ∧ v < fac (n + 1) ∧ agL (rqD D n c a) (ord (n + 1) 0 v) = true ∧ agL (rqD D n c b) (ord (n + 1) 0 v) = true) (fun ⟨v, h1, h2, _⟩ => by omega)]
            simp (disch := first | omega | assumption) only [not_true_eq_false, not_false_eq_true, true_implies, false_implies, implies_true, and_true, true_and, and_self, if_true, if_false, reduceCtorEq, ne_eq, eq_self, Nat.reduceEqDiff, Nat.reduceLT, Nat.reduceLeDiff, leT, leF, n0]
          · have hv' : v < fac (n + 1) := by omega
            have hr := hr hv'
            have h5 := ra v hv'
            have h6 := rb v hv'
            by_cases y : agL (rqD D n c a) (ord (n + 1) 0 v) = true ∧ agL (rqD D n c b) (ord (n + 1) 0 v) = true
            · rw [bP_t (p := ∃ v', v ≤ v' ∧ v' < fac (n + 1) ∧ agL (rqD D n c a) (ord (n + 1) 0 v') = true ∧ agL (rqD D n c b) (ord (n + 1) 0 v') = true) ⟨v, Nat.le_refl _, hv', y⟩]
              rw [y.1] at h5
              rw [y.2] at h6
              simp (disch := first | omega | assumption) only [JN, false_and, and_false, or_true, true_or, or_false, false_or, forall_eq, true_implies, false_implies, implies_true, and_true, true_and, and_self, not_true_eq_false, not_false_eq_true, if_true, if_false, ne_eq, eq_self, e10, e01, Nat.reduceEqDiff, Nat.reduceLT, Nat.reduceLeDiff, Nat.reduceAdd, Nat.reduceSub, Nat.reduceMul, Nat.lt_irrefl, Nat.le_refl, n0, n1, n2, n3, n4, n5, n6, n7, n8, n9, n10, n11, n12, n13, n14, n15, n16, n20, n30, n48, n50, n60, n80, n99, n100, n120, n255, n256, n1200, n5040, sI_1, sI_2, sL_1, sL_2, sLA_1, sLA_2, vpT, ltT, ltF, leT, leF, neF, ltI', leI', eqI', nI_clamp, nI_add, nI_mul, sub', adm', ngeq', ngeq2', nglt', ngle', ngle2', wi_t, wi_f, ii_t, ii_f, ix_t, ix_f, nI_and, nI_or, nI_andN, shl', isIn', has', bB_0, bB_1, bB_t, bB_f, bP_0, bP_1, bitC', ones', ltL0', geL0', leL0', gtL0', eqL0', h5, h6, reduceCtorEq]
            · have e2 : bP (∃ v', v ≤ v' ∧ v' < fac (n + 1) ∧ agL (rqD D n c a) (ord (n + 1) 0 v') = true ∧ agL (rqD D n c b) (ord (n + 1) 0 v') = true) = bP (∃ v', v + 1 ≤ v' ∧ v' < fac (n + 1) ∧ agL (rqD D n c a) (ord (n + 1) 0 v') = true ∧ agL (rqD D n c b) (ord (n + 1) 0 v') = true) := by
                refine bP_c ⟨fun ⟨t, g1, g2, g3⟩ => ⟨t, ?_, g2, g3⟩, fun ⟨t, g1, g2, g3⟩ => ⟨t, by omega, g2, g3⟩⟩
                have : t ≠ v := fun z => y (z ▸ g3)
                omega
              rw [e2, ← hr]
              cases y1 : agL (rqD D n c a) (ord (n + 1) 0 v)
              · rw [y1] at h5
                simp (disch := first | omega | assumption) only [JN, false_and, and_false, or_true, true_or, or_false, false_or, forall_eq, true_implies, false_implies, implies_true, and_true, true_and, and_self, not_true_eq_false, not_false_eq_true, if_true, if_false, ne_eq, eq_self, e10, e01, Nat.reduceEqDiff, Nat.reduceLT, Nat.reduceLeDiff, Nat.reduceAdd, Nat.reduceSub, Nat.reduceMul, Nat.lt_irrefl, Nat.le_refl, n0, n1, n2, n3, n4, n5, n6, n7, n8, n9, n10, n11, n12, n13, n14, n15, n16, n20, n30, n48, n50, n60, n80, n99, n100, n120, n255, n256, n1200, n5040, sI_1, sI_2, sL_1, sL_2, sLA_1, sLA_2, vpT, ltT, ltF, leT, leF, neF, ltI', leI', eqI', nI_clamp, nI_add, nI_mul, sub', adm', ngeq', ngeq2', nglt', ngle', ngle2', wi_t, wi_f, ii_t, ii_f, ix_t, ix_f, nI_and, nI_or, nI_andN, shl', isIn', has', bB_0, bB_1, bB_t, bB_f, bP_0, bP_1, bitC', ones', ltL0', geL0', leL0', gtL0', eqL0', h5]
              · cases y2 : agL (rqD D n c b) (ord (n + 1) 0 v)
                · rw [y1] at h5
                  rw [y2] at h6
                  simp (disch := first | omega | assumption) only [JN, false_and, and_false, or_true, true_or, or_false, false_or, forall_eq, true_implies, false_implies, implies_true, and_true, true_and, and_self, not_true_eq_false, not_false_eq_true, if_true, if_false, ne_eq, eq_self, e10, e01, Nat.reduceEqDiff, Nat.reduceLT, Nat.reduceLeDiff, Nat.reduceAdd, Nat.reduceSub, Nat.reduceMul, Nat.lt_irrefl, Nat.le_refl, n0, n1, n2, n3, n4, n5, n6, n7, n8, n9, n10, n11, n12, n13, n14, n15, n16, n20, n30, n48, n50, n60, n80, n99, n100, n120, n255, n256, n1200, n5040, sI_1, sI_2, sL_1, sL_2, sLA_1, sLA_2, vpT, ltT, ltF, leT, leF, neF, ltI', leI', eqI', nI_clamp, nI_add, nI_mul, sub', adm', ngeq', ngeq2', nglt', ngle', ngle2', wi_t, wi_f, ii_t, ii_f, ix_t, ix_f, nI_and, nI_or, nI_andN, shl', isIn', has', bB_0, bB_1, bB_t, bB_f, bP_0, bP_1, bitC', ones', ltL0', geL0', leL0', gtL0', eqL0', h5, h6, reduceCtorEq]
                · exact absurd ⟨y1, y2⟩ y
        have pe : (0 < sB (rqD D n c a ++ rqD D n c b) (n + 1) 0) = ∃ v, 0 ≤ v ∧ v < fac (n + 1) ∧ agL (rqD D n c a) (ord (n + 1) 0 v) = true ∧ agL (rqD D n c b) (ord (n + 1) 0 v) = true := by
          rw [sp]
          refine propext ⟨fun ⟨v, h1, h2⟩ => ⟨v, Nat.zero_le _, h1, ?_⟩, fun ⟨v, _, h1, h2⟩ => ⟨v, h1, ?_⟩⟩
          · rw [agL_app, Bool.and_eq_true] at h2; exact h2
          · rw [agL_app, Bool.and_eq_true]; exact h2
        refine ⟨fun z => mm _ ?_, fun z => mm _ ?_⟩
        · have z' := (leI' (a := sB (rqD D n c a ++ rqD D n c b) (n + 1) 0) (b := 0) (by omega) (by omega)).mp z
          rw [bP_f]; · rfl
          rw [← pe]; omega
        · have z' : 0 < sB (rqD D n c a ++ rqD D n c b) (n + 1) 0 := Nat.pos_of_ne_zero fun y => z (by
            show nI (sB (rqD D n c a ++ rqD D n c b) (n + 1) 0) ≤ 0
            rw [y]; exact Int32.le_refl _)
          rw [bP_t]; · rfl
          rw [← pe]; exact z'
    · unfold fX11_like fX12_like
      simp (disch := first | omega | assumption) only [JN, false_and, and_false, or_true, true_or, or_false, false_or, forall_eq, true_implies, false_implies, implies_true, and_true, true_and, and_self, not_true_eq_false, not_false_eq_true, if_true, if_false, ne_eq, eq_self, e10, e01, Nat.reduceEqDiff, Nat.reduceLT, Nat.reduceLeDiff, Nat.reduceAdd, Nat.reduceSub, Nat.reduceMul, Nat.lt_irrefl, Nat.le_refl, n0, n1, n2, n3, n4, n5, n6, n7, n8, n9, n10, n11, n12, n13, n14, n15, n16, n20, n30, n48, n50, n60, n80, n99, n100, n120, n255, n256, n1200, n5040, sI_1, sI_2, sL_1, sL_2, sLA_1, sLA_2, vpT, ltT, ltF, leT, leF, neF, ltI', leI', eqI', nI_clamp, nI_add, nI_mul, sub', adm', ngeq', ngeq2', nglt', ngle', ngle2', wi_t, wi_f, ii_t, ii_f, ix_t, ix_f, nI_and, nI_or, nI_andN, shl', isIn', has', bB_0, bB_1, bB_t, bB_f, bP_0, bP_1, bitC', ones', ltL0', geL0', leL0', gtL0', eqL0', t1, isTk_t t2, isTk_f t2]
      exact ⟨hK, frC_r⟩
  · unfold fX11_like fX12_like
    simp (disch := first | omega | assumption) only [JN, false_and, and_false, or_true, true_or, or_false, false_or, forall_eq, true_implies, false_implies, implies_true, and_true, true_and, and_self, not_true_eq_false, not_false_eq_true, if_true, if_false, ne_eq, eq_self, e10, e01, Nat.reduceEqDiff, Nat.reduceLT, Nat.reduceLeDiff, Nat.reduceAdd, Nat.reduceSub, Nat.reduceMul, Nat.lt_irrefl, Nat.le_refl, n0, n1, n2, n3, n4, n5, n6, n7, n8, n9, n10, n11, n12, n13, n14, n15, n16, n20, n30, n48, n50, n60, n80, n99, n100, n120, n255, n256, n1200, n5040, sI_1, sI_2, sL_1, sL_2, sLA_1, sLA_2, vpT, ltT, ltF, leT, leF, neF, ltI', leI', eqI', nI_clamp, nI_add, nI_mul, sub', adm', ngeq', ngeq2', nglt', ngle', ngle2', wi_t, wi_f, ii_t, ii_f, ix_t, ix_f, nI_and, nI_or, nI_andN, shl', isIn', has', bB_0, bB_1, bB_t, bB_f, bP_0, bP_1, bitC', ones', ltL0', geL0', leL0', gtL0', eqL0', t1, isTk_f t2]
    exact ⟨hK, frC_r⟩
