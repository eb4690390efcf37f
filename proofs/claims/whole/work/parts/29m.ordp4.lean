/-! must -/
theorem shr1 {o j : Nat} (ho : o < 31) (hj : j < 2 ^ 31) : (nI j >>> (nI o &&& 31)) &&& nI 1 = nI (if j.testBit o = true then 1 else 0) := by
  rw [nI_shr hj ho, nI_and]
  congr 1
  unfold Nat.testBit
  rw [Nat.and_comm]
  have h2 : 1 &&& j >>> o = 0 ∨ 1 &&& j >>> o = 1 := by
    have : 1 &&& j >>> o ≤ 1 := Nat.and_le_left
    omega
  rcases h2 with h2 | h2 <;> simp [h2]
/-- what one taker adds -/
def msT (Q : List (Nat × Nat)) (n S t u : Nat) : Nat := if u = 0 then (if wld Q n S = 2 ^ t then 1 else 0) else (if (wld Q n S).testBit t = true then 1 else 0)
theorem msT_1 {Q : List (Nat × Nat)} {n S t u : Nat} : msT Q n S t u ≤ 1 := by
  unfold msT; split <;> split <;> omega
theorem p_must {D : Dy} {n k c : Nat} {a1 a2 a3 : Int32} (hB : BO D n k c) (hK : RK D n c) : fX11_must a1 a2 a3 D (fun v D1 => fX12_must a1 a2 a3 D1 (fun v' D2 => v = v' ∧ RK D2 n c ∧ frC D D2)) := by
  obtain ⟨hn, hk, hc, g1, g2, t1, t2, hX, hM⟩ := id hB
  have pw := pw6 hn
  have same : RK D n c ∧ frC D D := ⟨hK, frC_r⟩
  by_cases q1 : iN a1 n
  · obtain ⟨t, ht, rfl⟩ := q1
    by_cases q3 : iN a3 2
    · obtain ⟨u, hu, rfl⟩ := q3
      by_cases q2 : iN a2 (2 ^ n)
      · obtain ⟨S, hS, rfl⟩ := q2
        by_cases qt : S.testBit t = true
        · have hS0 : S ≠ 0 := fun z => by rw [z, Nat.zero_testBit] at qt; cases qt
          have gl : ∀ j, sumN (fun w => msT (rqD D n c w) n S t u) j ≤ j := fun j => sumN_le1 fun _ _ => msT_1
          have pt : 2 ^ t < 2 ^ 8 := Nat.pow_lt_pow_right (by decide) (by omega)
          have p64 : 2 ^ t < 2 ^ 31 := by omega
          unfold fX11_must fX1_has
          rw [g1, wi_t ht (by omega), show (2 : Int32) = nI 2 from rfl, wi_t hu (by omega)]
          refine ⟨Or.inr rfl, fun z => absurd z (by decide), fun _ => ⟨fun _ => ?_, fun z => absurd z (by decide)⟩⟩
          refine s_hasSome hn g1 (fun _ h2 => ⟨fun z => absurd z (by decide), fun _ => ?_⟩) (fun h => absurd ⟨⟨S, hS, rfl⟩, fun z => hS0 ((nI_eq (b := 0) (by omega) (by omega)).mp z)⟩ h)
          rw [isIn' (by omega) (by omega), qt]
          refine ⟨fun _ => ?_, fun z => absurd z (by decide)⟩
          refine lp3_I k (fun j x y D' => x = nI (sumN (fun w => msT (rqD D n c w) n S t u) j) ∧ y = nI j ∧ frO D D') (by omega) (fun j hj x y D1 hpp rec hr => ?_) ⟨rfl, rfl, frO_r⟩
          obtain ⟨rfl, rfl, o1⟩ := hpp
          have B1 := BO_o hB o1
          have lj := gl j
          rw [B1.2.2.2.2.2.1]
          by_cases e : j = k
          · subst e
            refine ⟨fun _ => ?_, fun z => absurd (Int32.le_refl _) z⟩
            unfold fX12_must
            dsimp only
            rw [isTh_t B1.2.2.2.2.1 (by omega) ht]
            refine ⟨fun z => absurd z (by decide), fun _ => ?_⟩
            rw [n0, n1, ix_t (m := 1) (by omega) (by omega)]
            refine ⟨fun _ => ?_, fun z => absurd z (by decide)⟩
            refine s_isSet hn B1.2.2.2.2.1 (fun _ => ⟨fun z => absurd z (by decide), fun _ => ?_⟩) (fun h => absurd ⟨S, hS, rfl⟩ h)
            rw [has' (by omega) (by omega), qt]
            refine ⟨fun _ => ?_, fun z => absurd z (by decide)⟩
            refine lp3_I j (fun i x y D' => x = nI (sumN (fun w => msT (rqD D n c w) n S t u) i) ∧ y = nI i ∧ frK D1 D' ∧ RK D' n c) (by omega) (fun i hi x y D2 hpp rec2 hr2 => ?_) ⟨rfl, rfl, frK_r, RK_o hK o1⟩
            obtain ⟨rfl, rfl, k2, K2⟩ := hpp
            have B2 := BO_k B1 k2
            have li := gl i
            rw [B2.2.2.2.2.2.2.1]
            by_cases e : i = j
            · subst e
              exact ⟨fun _ => ⟨rfl, K2, frC_t (frC_o o1) (frC_k k2)⟩, fun z => absurd (Int32.le_refl _) z⟩
            · have hi' : i < j := by omega
              have hr2 := hr2 hi'
              refine ⟨fun z => absurd z (nI_ge hi' (by omega)), fun _ => ?_⟩
              refine m_wouldOf B2 K2 (by omega) hS (BO_Q B2).1 fun D3 k3 K3 => ?_
              have eq : rqD D2 n c i = rqD D n c i := (rqD_c fun b i hb _ => k2.2 b i (by omega) (by omega)).trans (rqD_o o1)
              rw [eq]
              have wl := wld_lt (Q := rqD D n c i) hn hS
              refine JN_1 (fun v => v = nI (msT (rqD D n c i) n S t u)) (fun v hv => ?_) (fun K hK => ?_)
              · subst hv
                rintro v40 rfl v42 rfl
                rw [nI_add, nI_add]
                exact hr2 _ _ _ ⟨rfl, rfl, frK_t k2 k3, K3⟩
              · refine ⟨fun z => hK _ ?_, fun z => ⟨fun z2 => hK _ ?_, fun z2 => hK _ ?_⟩⟩
                · have hu0 : u ≠ 0 := fun y => z (by rw [y])
                  rw [shr1 (by omega) (by omega)]
                  unfold msT; rw [if_neg hu0]
                · have hu0 : u = 0 := by
                    refine (nI_eq (b := 0) (by omega) (by omega)).mp ?_
                    first | exact z | exact Classical.byContradiction z
                  rw [shl' (by omega)] at z2
                  unfold msT
                  rw [if_pos hu0, if_neg (fun y => z2 (by rw [y]))]
                · have hu0 : u = 0 := by
                    refine (nI_eq (b := 0) (by omega) (by omega)).mp ?_
                    first | exact z | exact Classical.byContradiction z
                  rw [shl' (by omega)] at z2
                  have z3 : nI (wld (rqD D n c i) n S) = nI (2 ^ t) := by
                    first | exact z2 | exact Classical.byContradiction z2
                  unfold msT
                  rw [if_pos hu0, if_pos ((nI_eq (by omega) (by omega)).mp z3)]
          · have hj' : j < k := by omega
            have hr := hr hj'
            refine ⟨fun z => absurd z (nI_ge hj' (by omega)), fun _ => ?_⟩
            refine x_couldTake B1 hj' hS fun D2 o2 => ?_
            rw [rqD_o o1]
            have wl := wld_lt (Q := rqD D n c j) hn hS
            refine JN_1 (fun v => v = nI (sumN (fun w => msT (rqD D n c w) n S t u) (j + 1))) (fun v hv => ?_) (fun K hK => ?_)
            · subst hv
              rintro v40 rfl
              rw [nI_1]
              exact hr _ _ _ ⟨rfl, rfl, frO_t o1 o2⟩
            · rw [sumN_s] at hK
              refine JN_i (msT (rqD D n c j) n S t u = 1) (fun h => ?_) (fun K2 hK2 => ?_)
              · rintro v44 rfl
                rw [nI_1]
                exact hK _ (by rw [h])
              · refine ⟨fun z => ?_, fun z => ⟨fun z2 => hK _ ?_, fun z2 => hK2 ?_⟩⟩
                · have hu0 : u ≠ 0 := fun y => z (by rw [y]; rfl)
                  rw [isIn' (by omega) (by omega)]
                  by_cases y : (wld (rqD D n c j) n S).testBit t = true
                  · rw [y]
                    refine ⟨fun z => absurd z (by decide), fun _ => hK2 ?_⟩
                    unfold msT; rw [if_neg hu0, if_pos y]
                  · rw [show (wld (rqD D n c j) n S).testBit t = false by simpa using y]
                    refine ⟨fun _ => hK _ ?_, fun z => absurd rfl z⟩
                    unfold msT; rw [if_neg hu0, if_neg y]; rfl
                · have hu0 : u = 0 := by
                    refine (nI_eq (b := 0) (by omega) (by omega)).mp ?_
                    first | exact z | exact Classical.byContradiction z
                  rw [n1, shl' (by omega)] at z2
                  unfold msT
                  rw [if_pos hu0, if_neg (fun y => z2 (by rw [y]))]; rfl
                · have hu0 : u = 0 := by
                    refine (nI_eq (b := 0) (by omega) (by omega)).mp ?_
                    first | exact z | exact Classical.byContradiction z
                  rw [n1, shl' (by omega)] at z2
                  have z3 : nI (wld (rqD D n c j) n S) = nI (2 ^ t) := by
                    first | exact z2 | exact Classical.byContradiction z2
                  unfold msT
                  rw [if_pos hu0, if_pos ((nI_eq (by omega) (by omega)).mp z3)]
        · have qt' : S.testBit t = false := by simpa using qt
          have mm : fX12_must (nI t) (nI S) (nI u) D (fun v' D2 => (-2 : Int32) = v' ∧ RK D2 n c ∧ frC D D2) := by
            unfold fX12_must
            rw [isTh_t g2 (by omega) ht]
            refine ⟨fun z => absurd z (by decide), fun _ => ?_⟩
            rw [n0, n1, ix_t (m := 1) (by omega) (by omega)]
            refine ⟨fun _ => ?_, fun z => absurd z (by decide)⟩
            refine s_isSet hn g2 (fun _ => ⟨fun z => absurd z (by decide), fun _ => ?_⟩) (fun h => absurd ⟨S, hS, rfl⟩ h)
            rw [has' (by omega) (by omega), qt']
            exact ⟨fun z => absurd rfl z, fun _ => ⟨rfl, same⟩⟩
          unfold fX11_must fX1_has
          rw [g1, wi_t ht (by omega), show (2 : Int32) = nI 2 from rfl, wi_t hu (by omega)]
          refine ⟨Or.inr rfl, fun z => absurd z (by decide), fun _ => ⟨fun _ => ?_, fun z => absurd z (by decide)⟩⟩
          refine s_hasSome hn g1 (fun _ h2 => ⟨fun z => absurd z (by decide), fun _ => ?_⟩) (fun h => ⟨fun _ => mm, fun z => absurd rfl z⟩)
          rw [isIn' (by omega) (by omega), qt']
          exact ⟨fun z => absurd rfl z, fun _ => mm⟩
      · have mm : fX12_must (nI t) a2 (nI u) D (fun v' D2 => (-2 : Int32) = v' ∧ RK D2 n c ∧ frC D D2) := by
          unfold fX12_must
          rw [isTh_t g2 (by omega) ht]
          refine ⟨fun z => absurd z (by decide), fun _ => ?_⟩
          rw [n0, n1, ix_t (m := 1) (by omega) (by omega)]
          refine ⟨fun _ => ?_, fun z => absurd z (by decide)⟩
          exact s_isSet hn g2 (fun h => absurd h q2) (fun h => ⟨fun _ => ⟨rfl, same⟩, fun z => absurd rfl z⟩)
        unfold fX11_must fX1_has
        rw [g1, wi_t ht (by omega), show (2 : Int32) = nI 2 from rfl, wi_t hu (by omega)]
        refine ⟨Or.inr rfl, fun z => absurd z (by decide), fun _ => ⟨fun _ => ?_, fun z => absurd z (by decide)⟩⟩
        exact s_hasSome hn g1 (fun h _ => absurd h q2) (fun h => ⟨fun _ => mm, fun z => absurd rfl z⟩)
    · have q3' : ¬ iN a3 (1 + 1) := q3
      unfold fX11_must fX1_has fX12_must
      simp (disch := first | omega | assumption) only [JN, false_and, and_false, or_true, true_or, or_false, false_or, forall_eq, true_implies, false_implies, implies_true, and_true, true_and, and_self, not_true_eq_false, not_false_eq_true, if_true, if_false, ne_eq, eq_self, e10, e01, Nat.reduceEqDiff, Nat.reduceLT, Nat.reduceLeDiff, Nat.reduceAdd, Nat.reduceSub, Nat.reduceMul, Nat.lt_irrefl, Nat.le_refl, n0, n1, n2, n3, n4, n5, n6, n7, n8, n9, n10, n11, n12, n13, n14, n15, n16, n20, n30, n48, n50, n60, n80, n99, n100, n120, n255, n256, n1200, n5040, sI_1, sI_2, sL_1, sL_2, sLA_1, sLA_2, vpT, ltT, ltF, leT, leF, neF, ltI', leI', eqI', nI_clamp, nI_add, nI_mul, sub', adm', ngeq', ngeq2', nglt', ngle', ngle2', wi_t, wi_f, ii_t, ii_f, ix_t, ix_f, nI_and, nI_or, nI_andN, shl', isIn', has', bB_0, bB_1, bB_t, bB_f, bP_0, bP_1, bitC', ones', ltL0', geL0', leL0', gtL0', eqL0', g1, isTh_t g2]
      exact same
  · unfold fX11_must fX1_has fX12_must
    simp (disch := first | omega | assumption) only [JN, false_and, and_false, or_true, true_or, or_false, false_or, forall_eq, true_implies, false_implies, implies_true, and_true, true_and, and_self, not_true_eq_false, not_false_eq_true, if_true, if_false, ne_eq, eq_self, e10, e01, Nat.reduceEqDiff, Nat.reduceLT, Nat.reduceLeDiff, Nat.reduceAdd, Nat.reduceSub, Nat.reduceMul, Nat.lt_irrefl, Nat.le_refl, n0, n1, n2, n3, n4, n5, n6, n7, n8, n9, n10, n11, n12, n13, n14, n15, n16, n20, n30, n48, n50, n60, n80, n99, n100, n120, n255, n256, n1200, n5040, sI_1, sI_2, sL_1, sL_2, sLA_1, sLA_2, vpT, ltT, ltF, leT, leF, neF, ltI', leI', eqI', nI_clamp, nI_add, nI_mul, sub', adm', ngeq', ngeq2', nglt', ngle', ngle2', wi_t, wi_f, ii_t, ii_f, ix_t, ix_f, nI_and, nI_or, nI_andN, shl', isIn', has', bB_0, bB_1, bB_t, bB_f, bP_0, bP_1, bitC', ones', ltL0', geL0', leL0', gtL0', eqL0', g1, isTh_f g2]
    exact same
