/-! agree, letgo, like -/
def frC (D D' : Dy) : Prop := D'.2 = D.2 ∧ ∀ b x, b < 14 ∨ 20 < b → ¬ (b = 33 ∧ x = 46) → b < 54 ∨ 59 < b → D'.1 b x = D.1 b x
theorem frC_r {D : Dy} : frC D D := ⟨rfl, fun _ _ _ _ _ => rfl⟩
theorem frC_o {D D' : Dy} (f : frO D D') : frC D D' := ⟨f.1, fun b x h _ _ => f.2 b x h⟩
theorem frC_k {D D' : Dy} (f : frK D D') : frC D D' := ⟨f.1, fun b x _ h1 h2 => f.2 b x h1 (by omega)⟩
theorem frC_t {D D' D'' : Dy} (h : frC D D') (h' : frC D' D'') : frC D D'' := ⟨h'.1.trans h.1, fun b x h1 h2 h3 => (h'.2 b x h1 h2 h3).trans (h.2 b x h1 h2 h3)⟩
theorem frO_I {D D' : Dy} {p q : Nat} (f : frI p q D D') (h1 : 14 ≤ p) (h2 : q ≤ 20) : frO D D' := ⟨f.1, fun b x h => f.2 b x (by omega)⟩
theorem rqD_o {D D' : Dy} {n c w : Nat} (f : frO D D') : rqD D' n c w = rqD D n c w := rqD_c fun b i hb _ => f.2 b i (by omega)
theorem AG_o {D D' : Dy} {n c w v : Nat} (f : frO D D') : AG D' n c w v = AG D n c w v := by unfold AG; rw [rqD_o f]
theorem BO_Q {D : Dy} {n k c w : Nat} (h : BO D n k c) : QOK (n + 1) (rqD D n c w) ∧ (rqD D n c w).length ≤ c := by
  obtain ⟨hn, hk, hc, -, -, -, -, hX, -⟩ := h
  exact ⟨rqL_mem c fun i hi => ⟨(hX.2 i hi).2.2.2.1, (hX.2 i hi).2.2.2.2.2.2.2.2.imp id fun z => z.1⟩, rqL_len1 c⟩
theorem ord_all {n v s : Nat} (hn : n ≤ 6) (hv : v < fac (n + 1)) (hs : s < n + 1) : s ∈ ord (n + 1) 0 v := ord_mem (N := n + 1) (by omega) _ _ v (unu0 _) hv s hs (Nat.zero_testBit _)
theorem ok_agQ {n v : Nat} {Q : List (Nat × Nat)} (hn : n ≤ 6) (hQ : QOK (n + 1) Q) (hv : v < fac (n + 1)) : okL Q 0 (ord (n + 1) 0 v) = agL Q (ord (n + 1) 0 v) := ok_ag fun q hq => ⟨(hQ q hq).2.2, ord_all hn hv (hQ q hq).1⟩
theorem sB_AG {n : Nat} {Q : List (Nat × Nat)} (hn : n ≤ 6) (hQ : QOK (n + 1) Q) : sumN (fun v => if agL Q (ord (n + 1) 0 v) = true then 1 else 0) (fac (n + 1)) = sB Q (n + 1) 0 := by
  unfold sB
  rw [unu0]
  exact sumN_c fun v hv => by rw [ok_agQ hn hQ hv]
theorem sumN_le1 {f : Nat → Nat} {n : Nat} (h : ∀ k, k < n → f k ≤ 1) : sumN f n ≤ n := by
  induction n with
  | zero => exact Nat.le_refl _
  | succ n ih => rw [sumN_s]; have := ih fun k hk => h k (by omega); have := h n (by omega); omega
theorem p_agree {D : Dy} {n k c : Nat} {a1 : Int32} (hB : BO D n k c) (hK : RK D n c) : fX11_agree a1 D (fun v D1 => fX12_agree a1 D1 (fun v' D2 => v = v' ∧ RK D2 n c ∧ frC D D2)) := by
  obtain ⟨hn, hk, hc, g1, g2, t1, t2, hX, hM⟩ := id hB
  have f7 := fac7 (n := n + 1) (by omega)
  by_cases q : iN a1 k
  · obtain ⟨w, hw, rfl⟩ := q
    obtain ⟨Q1, Q2⟩ := BO_Q (w := w) hB
    unfold fX11_agree
    rw [t1, wi_t hw (by omega)]
    refine ⟨fun _ => ?_, fun z => absurd z (by decide)⟩
    refine x_gatherOne hn hk hc hw g1 hX fun D1 o1 G1 => ?_
    refine x_count hn (GO_A G1) fun D2 i2 _ => ?_
    have o2 := frO_t o1 (frO_I i2 (by omega) (by omega))
    have B2 := BO_o hB o2
    have K2 := RK_o hK o2
    unfold fX12_agree
    dsimp only
    rw [isTk_t B2.2.2.2.2.2.2.1 (by omega) hw]
    refine ⟨fun _ => ?_, fun z => absurd z (by decide)⟩
    refine m_findAgreeing B2 K2 (by omega) fun D3 k3 K3 e46 pl h57 _ _ => ?_
    have h57 : ∀ v, v < fac (n + 1) → D3.1 57 (5040 * w + v) = bB (agL (rqD D n c w) (ord (n + 1) 0 v)) := fun v hv => (h57 v hv).trans (congrArg bB (AG_o o2))
    have e0 : D3.1 33 0 = nI n := (BO_k B2 k3).2.2.2.2.1
    refine (lp2_V (fac (n + 1)) (fun v => nI (sumN (fun v => if agL (rqD D n c w) (ord (n + 1) 0 v) = true then 1 else 0) v)) nI (fun _ => nI (sB (rqD D n c w) (n + 1) 0) = nI (sB (rqD D n c w) (n + 1) 0) ∧ RK D3 n c ∧ frC D D3) (by omega) (fun v hv rec hr => ?_) rfl rfl).mpr ⟨rfl, K3, frC_t (frC_o o2) (frC_k k3)⟩
    rw [m_orders hn e0]
    by_cases e : v = fac (n + 1)
    · subst e
      rw [sB_AG hn Q1]
      simp (disch := first | omega | assumption) only [not_true_eq_false, not_false_eq_true, true_implies, false_implies, implies_true, and_true, true_and, and_self, if_true, if_false, reduceCtorEq, ne_eq, eq_self, Nat.reduceEqDiff, Nat.reduceLT, Nat.reduceLeDiff, leT, leF]
      exact propext ⟨fun z => z.2, fun z => ⟨rfl, z⟩⟩
    · have hv' : v < fac (n + 1) := by omega
      have hr := hr hv'
      have h5 := h57 v hv'
      rw [← hr, sumN_s]
      simp (disch := first | omega | assumption) only [JN, false_and, and_false, or_true, true_or, or_false, false_or, forall_eq, true_implies, false_implies, implies_true, and_true, true_and, and_self, not_true_eq_false, not_false_eq_true, if_true, if_false, ne_eq, eq_self, e10, e01, Nat.reduceEqDiff, Nat.reduceLT, Nat.reduceLeDiff, Nat.reduceAdd, Nat.reduceSub, Nat.reduceMul, Nat.lt_irrefl, Nat.le_refl, n0, n1, n2, n3, n4, n5, n6, n7, n8, n9, n10, n11, n12, n13, n14, n15, n16, n20, n30, n48, n50, n60, n80, n99, n100, n120, n255, n256, n1200, n5040, sI_1, sI_2, sL_1, sL_2, sLA_1, sLA_2, vpT, ltT, ltF, leT, leF, neF, ltI', leI', eqI', nI_clamp, nI_add, nI_mul, sub', adm', ngeq', ngeq2', nglt', ngle', ngle2', wi_t, wi_f, ii_t, ii_f, ix_t, ix_f, nI_and, nI_or, nI_andN, shl', isIn', has', bB_0, bB_1, bB_t, bB_f, bP_0, bP_1, bitC', ones', ltL0', geL0', leL0', gtL0', eqL0', h5]
      cases agL (rqD D n c w) (ord (n + 1) 0 v)
      · simp only [not_true_eq_false, not_false_eq_true, true_implies, false_implies, implies_true, and_true, true_and, and_self, if_true, if_false, reduceCtorEq, ne_eq, eq_self, Nat.reduceEqDiff, Nat.reduceLT, Nat.reduceLeDiff, Nat.add_zero]
      · simp only [not_true_eq_false, not_false_eq_true, true_implies, false_implies, implies_true, and_true, true_and, and_self, if_true, if_false, reduceCtorEq, ne_eq, eq_self, Nat.reduceEqDiff, Nat.reduceLT, Nat.reduceLeDiff]
  · unfold fX11_agree fX12_agree
    simp (disch := first | omega | assumption) only [JN, false_and, and_false, or_true, true_or, or_false, false_or, forall_eq, true_implies, false_implies, implies_true, and_true, true_and, and_self, not_true_eq_false, not_false_eq_true, if_true, if_false, ne_eq, eq_self, e10, e01, Nat.reduceEqDiff, Nat.reduceLT, Nat.reduceLeDiff, Nat.reduceAdd, Nat.reduceSub, Nat.reduceMul, Nat.lt_irrefl, Nat.le_refl, n0, n1, n2, n3, n4, n5, n6, n7, n8, n9, n10, n11, n12, n13, n14, n15, n16, n20, n30, n48, n50, n60, n80, n99, n100, n120, n255, n256, n1200, n5040, sI_1, sI_2, sL_1, sL_2, sLA_1, sLA_2, vpT, ltT, ltF, leT, leF, neF, ltI', leI', eqI', nI_clamp, nI_add, nI_mul, sub', adm', ngeq', ngeq2', nglt', ngle', ngle2', wi_t, wi_f, ii_t, ii_f, ix_t, ix_f, nI_and, nI_or, nI_andN, shl', isIn', has', bB_0, bB_1, bB_t, bB_f, bP_0, bP_1, bitC', ones', ltL0', geL0', leL0', gtL0', eqL0', t1, isTk_f t2]
    exact ⟨hK, frC_r⟩
def mb (f : Nat → Nat) : Nat → Nat
  | 0 => 80
  | k + 1 => if mb f k ≤ f k then mb f k else f k
theorem mb_eq {f : Nat → Nat} : ∀ k, mb f (k + 1) = min 80 (mn1 f k)
  | 0 => by
    show (if 80 ≤ f 0 then 80 else f 0) = min 80 (f 0)
    split <;> omega
  | k + 1 => by
    show (if mb f (k + 1) ≤ f (k + 1) then mb f (k + 1) else f (k + 1)) = min 80 (min (mn1 f k) (f (k + 1)))
    rw [mb_eq k]
    split <;> omega
theorem mb_80 {f : Nat → Nat} : ∀ k, mb f k ≤ 80
  | 0 => Nat.le_refl _
  | k + 1 => by
    have := mb_80 (f := f) k
    show (if _ then _ else _) ≤ 80
    split <;> omega
theorem mn1_c {f g : Nat → Nat} : ∀ n, (∀ k, k ≤ n → f k = g k) → mn1 f n = mn1 g n
  | 0, h => h 0 (Nat.le_refl _)
  | n + 1, h => by
    show min _ _ = min _ _
    rw [mn1_c n fun k hk => h k (by omega), h (n + 1) (Nat.le_refl _)]
theorem p_letgo {D : Dy} {n k c : Nat} {a1 : Int32} (hB : BO D n k c) (hK : RK D n c) : fX11_letgo a1 D (fun v D1 => fX12_letgo a1 D1 (fun v' D2 => v = v' ∧ RK D2 n c ∧ frC D D2)) := by
  obtain ⟨hn, hk, hc, g1, g2, t1, t2, hX, hM⟩ := id hB
  have f7 := fac7 (n := n + 1) (by omega)
  by_cases q : iN a1 k
  · obtain ⟨w, hw, rfl⟩ := q
    obtain ⟨Q1, Q2⟩ := BO_Q (w := w) hB
    unfold fX11_letgo
    rw [t1, wi_t hw (by omega)]
    refine ⟨fun _ => ?_, fun z => absurd z (by decide)⟩
    refine x_gatherOne hn hk hc hw g1 hX fun D1 o1 G1 => ?_
    refine x_fewest hn G1 fun D2 i2 => ?_
    have o2 := frO_t o1 (frO_I i2 (by omega) (by omega))
    have B2 := BO_o hB o2
    have K2 := RK_o hK o2
    unfold fX12_letgo
    dsimp only
    rw [isTk_t B2.2.2.2.2.2.2.1 (by omega) hw]
    refine ⟨fun _ => ?_, fun z => absurd z (by decide)⟩
    refine m_findPlaces hn B2.2.2.2.2.1 (fun z => (K2.2 z).1) fun D3 k3 e46 pl h58 => ?_
    have B3 := BO_k B2 k3
    have e0 : D3.1 33 0 = nI n := B3.2.2.2.2.1
    have K3 : RK D3 n c := by
      rcases h58 with z | z
      · rw [z]; exact K2
      · exact ⟨Or.inr ⟨n, Nat.le_refl _, e46⟩, fun _ => ⟨pl, fun w hw => Or.inl (z.2 w hw)⟩⟩
    have eq : rqD D3 n c w = rqD D n c w := (rqD_c fun b i hb _ => k3.2 b i (by omega) (by omega)).trans (rqD_o o2)
    have fin : mb (fun v => agn (rqD D n c w) (ord (n + 1) 0 v)) (fac (n + 1)) = min 80 (mnS (rqD D n c w) (n + 1) 0) := by
      have fp := fac_pos (n + 1)
      obtain ⟨m, hm⟩ : ∃ m, fac (n + 1) = m + 1 := ⟨fac (n + 1) - 1, by omega⟩
      rw [hm, mb_eq]
      unfold mnS
      rw [unu0, hm]
      congr 1
      refine mn1_c m fun v hv => ?_
      refine (cst_ag (ord_out (N := n + 1) (by omega) _ 0 v (unu0 _) (by omega)).2 fun q hq => ⟨(Q1 q hq).2.2, ord_all hn (by omega) (Q1 q hq).1⟩).symm
    refine (lp2_V (fac (n + 1)) (fun v => nI (mb (fun v => agn (rqD D n c w) (ord (n + 1) 0 v)) v)) nI (fun _ => nI (min 80 (mnS (rqD D n c w) (n + 1) 0)) = nI (min 80 (mnS (rqD D n c w) (n + 1) 0)) ∧ RK D3 n c ∧ frC D D3) (by omega) (fun v hv rec hr => ?_) rfl rfl).mpr ⟨rfl, K3, frC_t (frC_o o2) (frC_k k3)⟩
    rw [m_orders hn e0]
    by_cases e : v = fac (n + 1)
    · subst e
      rw [fin]
      simp (disch := first | omega | assumption) only [not_true_eq_false, not_false_eq_true, true_implies, false_implies, implies_true, and_true, true_and, and_self, if_true, if_false, reduceCtorEq, ne_eq, eq_self, Nat.reduceEqDiff, Nat.reduceLT, Nat.reduceLeDiff, leT, leF]
      exact propext ⟨fun z => z.2, fun z => ⟨rfl, z⟩⟩
    · have hv' : v < fac (n + 1) := by omega
      have hr := hr hv'
      have m8 := mb_80 (f := fun v => agn (rqD D n c w) (ord (n + 1) 0 v)) v
      have al : agn (rqD D n c w) (ord (n + 1) 0 v) ≤ 80 := Nat.le_trans List.countP_le_length (Nat.le_trans Q2 hc)
      have ha := fun post => m_against (post := post) hn hk hc (show w < 16 by omega) e0 pl B3.2.2.2.2.2.2.2.2 (fun i hi => (B3.2.2.2.2.2.2.2.1.2 i hi).2.2.2.2.2.2.2.2) hv'
      rw [show rqL n (cW D3) (cS D3) (cO D3) (cU D3) w c = rqD D n c w from eq] at ha
      rw [← hr, show mb (fun v => agn (rqD D n c w) (ord (n + 1) 0 v)) (v + 1) = if mb (fun v => agn (rqD D n c w) (ord (n + 1) 0 v)) v ≤ agn (rqD D n c w) (ord (n + 1) 0 v) then mb (fun v => agn (rqD D n c w) (ord (n + 1) 0 v)) v else agn (rqD D n c w) (ord (n + 1) 0 v) from rfl]
      generalize mb (fun v => agn (rqD D n c w) (ord (n + 1) 0 v)) v = mm at *
      simp (disch := first | omega | assumption) only [JN, false_and, and_false, or_true, true_or, or_false, false_or, forall_eq, true_implies, false_implies, implies_true, and_true, true_and, and_self, not_true_eq_false, not_false_eq_true, if_true, if_false, ne_eq, eq_self, e10, e01, Nat.reduceEqDiff, Nat.reduceLT, Nat.reduceLeDiff, Nat.reduceAdd, Nat.reduceSub, Nat.reduceMul, Nat.lt_irrefl, Nat.le_refl, n0, n1, n2, n3, n4, n5, n6, n7, n8, n9, n10, n11, n12, n13, n14, n15, n16, n20, n30, n48, n50, n60, n80, n99, n100, n120, n255, n256, n1200, n5040, sI_1, sI_2, sL_1, sL_2, sLA_1, sLA_2, vpT, ltT, ltF, leT, leF, neF, ltI', leI', eqI', nI_clamp, nI_add, nI_mul, sub', adm', ngeq', ngeq2', nglt', ngle', ngle2', wi_t, wi_f, ii_t, ii_f, ix_t, ix_f, nI_and, nI_or, nI_andN, shl', isIn', has', bB_0, bB_1, bB_t, bB_f, bP_0, bP_1, bitC', ones', ltL0', geL0', leL0', gtL0', eqL0', ha]
      by_cases y : mm ≤ agn (rqD D n c w) (ord (n + 1) 0 v)
      · simp only [not_true_eq_false, not_false_eq_true, true_implies, false_implies, implies_true, and_true, true_and, and_self, if_true, if_false, reduceCtorEq, ne_eq, eq_self, Nat.reduceEqDiff, Nat.reduceLT, Nat.reduceLeDiff, y]
      · simp only [not_true_eq_false, not_false_eq_true, true_implies, false_implies, implies_true, and_true, true_and, and_self, if_true, if_false, reduceCtorEq, ne_eq, eq_self, Nat.reduceEqDiff, Nat.reduceLT, Nat.reduceLeDiff, y]
  · unfold fX11_letgo fX12_letgo
    simp (disch := first | omega | assumption) only [JN, false_and, and_false, or_true, true_or, or_false, false_or, forall_eq, true_implies, false_implies, implies_true, and_true, true_and, and_self, not_true_eq_false, not_false_eq_true, if_true, if_false, ne_eq, eq_self, e10, e01, Nat.reduceEqDiff, Nat.reduceLT, Nat.reduceLeDiff, Nat.reduceAdd, Nat.reduceSub, Nat.reduceMul, Nat.lt_irrefl, Nat.le_refl, n0, n1, n2, n3, n4, n5, n6, n7, n8, n9, n10, n11, n12, n13, n14, n15, n16, n20, n30, n48, n50, n60, n80, n99, n100, n120, n255, n256, n1200, n5040, sI_1, sI_2, sL_1, sL_2, sLA_1, sLA_2, vpT, ltT, ltF, leT, leF, neF, ltI', leI', eqI', nI_clamp, nI_add, nI_mul, sub', adm', ngeq', ngeq2', nglt', ngle', ngle2', wi_t, wi_f, ii_t, ii_f, ix_t, ix_f, nI_and, nI_or, nI_andN, shl', isIn', has', bB_0, bB_1, bB_t, bB_f, bP_0, bP_1, bitC', ones', ltL0', geL0', leL0', gtL0', eqL0', t1, isTk_f t2]
    exact ⟨hK, frC_r⟩
