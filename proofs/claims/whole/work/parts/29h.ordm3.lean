/-! against, agreeing; what the other has found -/
def cW (D : Dy) (i : Nat) : Nat := (D.1 8 i).toNatClampNeg
def cS (D : Dy) (i : Nat) : Nat := (D.1 9 i).toNatClampNeg
def cO (D : Dy) (i : Nat) : Nat := (D.1 10 i).toNatClampNeg
def cU (D : Dy) (i : Nat) : Nat := (D.1 11 i).toNatClampNeg
def rqD (D : Dy) (n c who : Nat) : List (Nat × Nat) := rqL n (cW D) (cS D) (cO D) (cU D) who c
theorem rqL_c {n : Nat} {W S O U W' S' O' U' : Nat → Nat} {who : Nat} : ∀ c, (∀ i, i < c → W i = W' i ∧ S i = S' i ∧ O i = O' i ∧ U i = U' i) → rqL n W S O U who c = rqL n W' S' O' U' who c
  | 0, _ => rfl
  | c + 1, h => by
    obtain ⟨h1, h2, h3, h4⟩ := h c (by omega)
    unfold rqL
    rw [h1, h2, h3, h4, rqL_c c fun i hi => h i (by omega)]
theorem rqD_c {D D' : Dy} {n c who : Nat} (h : ∀ b i, b = 8 ∨ b = 9 ∨ b = 10 ∨ b = 11 → i < c → D'.1 b i = D.1 b i) : rqD D' n c who = rqD D n c who := by
  refine rqL_c c fun i hi => ⟨?_, ?_, ?_, ?_⟩
  · unfold cW; rw [h 8 i (by omega) hi]
  · unfold cS; rw [h 9 i (by omega) hi]
  · unfold cO; rw [h 10 i (by omega) hi]
  · unfold cU; rw [h 11 i (by omega) hi]
/-- the choices, both ways, by their own functions -/
theorem RC_X {D : Dy} {n k c : Nat} (hn : n ≤ 6) (hk : k ≤ 16) (h : RC D n k c) : ChX D n k c (cW D) (cS D) (cO D) (cU D) := by
  obtain ⟨h1, h2, h3, h4⟩ := h
  have pw := pw6 hn
  refine ⟨h2, fun i hi => ?_⟩
  obtain ⟨-, c1, ⟨c2, c2'⟩, c3, c4⟩ := h4 i hi
  obtain ⟨d1, e1⟩ := iN_c c1 (by omega)
  obtain ⟨d2, e2⟩ := iN_c c2 (by omega)
  obtain ⟨d3, e3⟩ := iN_c c3 (by omega)
  have hO : D.1 10 i = nI (cO D i) ∧ (cO D i = 7 ∨ (cO D i < n ∧ (cS D i).testBit (cO D i) = true)) := by
    unfold cO
    rcases c4 with ⟨z, _⟩ | ⟨o, ho, z, _, z2⟩
    · rw [z]; exact ⟨rfl, Or.inl rfl⟩
    · rw [z, nI_clamp (by omega)]; exact ⟨rfl, Or.inr ⟨ho, z2⟩⟩
  refine ⟨d1, e1, d2, e2, fun z => c2' ?_, d3, e3, hO.1, hO.2⟩
  rw [d2]; unfold cS at z; rw [z]; rfl
def ChM (D : Dy) (n k c : Nat) (W S O U : Nat → Nat) : Prop := D.1 33 2 = nI c ∧ ∀ i, i < c → D.1 38 i = nI (W i) ∧ W i < k ∧ D.1 39 i = nI (S i) ∧ S i < 2 ^ n ∧ D.1 41 i = nI (U i) ∧ U i < 3 ∧ ((O i = 7 ∧ D.1 40 i = -nI 1) ∨ (O i < n ∧ D.1 40 i = nI (O i)))
theorem RC_M {D : Dy} {n k c : Nat} (hn : n ≤ 6) (hk : k ≤ 16) (h : RC D n k c) : ChM D n k c (cW D) (cS D) (cO D) (cU D) := by
  have hx := RC_X hn hk h
  obtain ⟨h1, h2, h3, h4⟩ := h
  refine ⟨h3, fun i hi => ?_⟩
  obtain ⟨⟨a1, a2, a3⟩, -, -, -, c4⟩ := h4 i hi
  obtain ⟨d1, d2, d3, d4, d5, d6, d7, d8, d9⟩ := hx.2 i hi
  refine ⟨a1.trans d1, d2, a2.trans d3, d4, a3.trans d6, d7, ?_⟩
  rcases c4 with ⟨z, z2⟩ | ⟨o, ho, z, z2, _⟩
  · left; unfold cO; rw [z]; exact ⟨rfl, z2⟩
  · right; unfold cO; rw [z, nI_clamp (by omega)]; exact ⟨ho, z2⟩
theorem ChM_k {D D' : Dy} {n k c : Nat} {W S O U : Nat → Nat} (h : ChM D n k c W S O U) (f : frK D D') : ChM D' n k c W S O U := by
  refine ⟨by rw [f.2 _ _ (by omega) (by omega)]; exact h.1, fun i hi => ?_⟩
  rw [f.2 38 _ (by omega) (by omega), f.2 39 _ (by omega) (by omega), f.2 40 _ (by omega) (by omega), f.2 41 _ (by omega) (by omega)]
  exact h.2 i hi
theorem rqL_mem {n : Nat} {W S O U : Nat → Nat} {who : Nat} : ∀ c, (∀ i, i < c → S i < 2 ^ n ∧ (O i = 7 ∨ O i < n)) → QOK (n + 1) (rqL n W S O U who c)
  | 0, _ => fun q hq => by cases hq
  | c + 1, h => by
    have ih := rqL_mem (W := W) (U := U) (who := who) c fun i hi => h i (by omega)
    unfold rqL
    split
    · intro q hq
      rcases List.mem_append.mp hq with z | z
      · exact ih q z
      · rw [List.mem_singleton.mp z]; exact rq_ok (h c (by omega)).1 (h c (by omega)).2
    · exact ih
theorem rq_open {n s o : Nat} (hn : n ≤ 6) (h : o = 7 ∨ (o < n ∧ s.testBit o = true)) : (rq n s o).2 ||| 2 ^ (rq n s o).1 = s ||| 2 ^ n := by
  show aNot (s ||| 2 ^ n) (2 ^ slo n o) ||| 2 ^ slo n o = _
  refine Nat.eq_of_testBit_eq fun i => ?_
  rw [tb_or, aNot_bit, tb_or, Nat.testBit_two_pow]
  by_cases e : slo n o = i
  · subst e
    have : (s.testBit (slo n o) || decide (n = slo n o)) = true := by
      unfold slo
      rcases h with h | ⟨h1, h2⟩
      · simp [h]
      · rw [if_neg (by omega), h2]; rfl
    simp [this]
  · simp [e]
/-- how many of the taker's choices the row breaks -/
def agn (Q : List (Nat × Nat)) (l : List Nat) : Nat := Q.countP fun q => !(fst (q.2 ||| 2 ^ q.1) l == q.1)
theorem m_against {D : Dy} {n k c v who : Nat} {W S O U : Nat → Nat} (hn : n ≤ 6) (hk : k ≤ 16) (hc : c ≤ 80) (hw : who < 16) (h0 : D.1 33 0 = nI n) (hP : PLs D n) (hC : ChM D n k c W S O U) (hb : ∀ i, i < c → O i = 7 ∨ (O i < n ∧ (S i).testBit (O i) = true)) (hv : v < fac (n + 1)) {post : Int32 → Prop} : fX12_against (nI v) (nI who) D post = post (nI (agn (rqL n W S O U who c) (ord (n + 1) 0 v))) := by
  have f7 := fac7 (n := n + 1) (by omega)
  have pw := pw6 hn
  have hl : ∀ s, s < n + 1 → s ∈ ord (n + 1) 0 v := fun s hs => ord_mem (N := n + 1) (by omega) _ _ v (unu0 _) hv s hs (Nat.zero_testBit _)
  unfold fX12_against
  refine lp2_V c (fun k => nI (agn (rqL n W S O U who k) (ord (n + 1) 0 v))) nI (fun _ => post _) (by omega) (fun i hi rec hr => ?_) rfl rfl
  by_cases e : i = c
  · subst e; simp (disch := first | omega | assumption) only [JN, false_and, and_false, or_true, true_or, or_false, false_or, forall_eq, true_implies, false_implies, implies_true, and_true, true_and, and_self, not_true_eq_false, not_false_eq_true, if_true, if_false, ne_eq, eq_self, e10, e01, Nat.reduceEqDiff, Nat.reduceLT, Nat.reduceLeDiff, Nat.reduceAdd, Nat.reduceSub, Nat.reduceMul, Nat.lt_irrefl, Nat.le_refl, n0, n1, n2, n3, n4, n5, n6, n7, n8, n9, n10, n11, n12, n13, n14, n15, n16, n20, n30, n48, n50, n60, n80, n99, n100, n120, n255, n256, n1200, n5040, sI_1, sI_2, sL_1, sL_2, sLA_1, sLA_2, vpT, ltT, ltF, leT, leF, neF, ltI', leI', eqI', nI_clamp, nI_add, nI_mul, sub', adm', ngeq', ngeq2', nglt', ngle', ngle2', wi_t, wi_f, ii_t, ii_f, ix_t, ix_f, nI_and, nI_or, nI_andN, shl', isIn', has', bB_0, bB_1, bB_t, bB_f, bP_0, bP_1, bitC', ones', ltL0', geL0', leL0', gtL0', eqL0', hC.1]
  · have hi' : i < c := by omega
    have hr := hr hi'
    obtain ⟨d1, d2, d3, d4, d5, d6, d7⟩ := hC.2 i hi'
    have hb := hb i hi'
    have al : agn (rqL n W S O U who i) (ord (n + 1) 0 v) ≤ 80 := Nat.le_trans List.countP_le_length (by have := rqL_len1 (n := n) (W := W) (S := S) (O := O) (U := U) (a := who) i; omega)
    have fl : fst (S i ||| 2 ^ n) (ord (n + 1) 0 v) < n + 1 := by
      rw [bst_fst d4 hl]
      rcases (bst_is (S := S i) (n := n) (l := ord (n + 1) 0 v) n (Nat.le_refl _)).1 with z | z <;> omega
    have cl := cod_lt hn fl
    have st : rqL n W S O U who (i + 1) = if W i = who ∧ U i = 0 then rqL n W S O U who i ++ [rq n (S i) (O i)] else rqL n W S O U who i := rfl
    rw [← hr, st]
    by_cases q1 : W i = who
    · by_cases q2 : U i = 0
      · have ag : agn (rqL n W S O U who i ++ [rq n (S i) (O i)]) (ord (n + 1) 0 v) = agn (rqL n W S O U who i) (ord (n + 1) 0 v) + (if fst (S i ||| 2 ^ n) (ord (n + 1) 0 v) = slo n (O i) then 0 else 1) := by
          unfold agn
          rw [List.countP_append, List.countP_singleton, rq_open hn hb]
          congr 1
          show (if (!(fst (S i ||| 2 ^ n) (ord (n + 1) 0 v) == slo n (O i))) = true then 1 else 0) = _
          by_cases z : fst (S i ||| 2 ^ n) (ord (n + 1) 0 v) = slo n (O i)
          · simp [z]
          · simp [z]
        rw [if_pos ⟨q1, q2⟩, ag]
        have sl := slo_le (n := n) (o := O i) (hb.imp id fun z => z.1)
        have cl2 := cod_lt hn sl
        have ce : (cod n (fst (S i ||| 2 ^ n) (ord (n + 1) 0 v)) = cod n (slo n (O i))) = (fst (S i ||| 2 ^ n) (ord (n + 1) 0 v) = slo n (O i)) := propext ⟨fun z => cod_inj hn fl sl z, fun z => by rw [z]⟩
        have mt := fun post => m_taken (post := post) hn h0 hP hv d4
        rcases d7 with ⟨z1, z2⟩ | ⟨z1, z2⟩
        · have hcc : cod n (slo n (O i)) = 7 := by rw [z1]; unfold cod slo; simp
          rw [hcc] at ce
          have ng : (nI 0 ≤ -nI 1) = False := eq_false (by decide)
          simp (disch := first | omega | assumption) only [JN, forall_eq, n0, n1, n7, not_true_eq_false, not_false_eq_true, true_implies, false_implies, implies_true, and_true, true_and, and_self, if_true, if_false, reduceCtorEq, ne_eq, eq_self, Nat.reduceEqDiff, Nat.reduceLT, Nat.reduceLeDiff, nI_clamp, vpT, leF, hC.1, d1, d3, d5, q1, q2, mt, z2, ng, eqI', ce, nI_add]
          by_cases y : fst (S i ||| 2 ^ n) (ord (n + 1) 0 v) = slo n (O i)
          · simp only [y, not_true_eq_false, not_false_eq_true, true_implies, false_implies, implies_true, and_true, true_and, and_self, if_true, if_false, reduceCtorEq, ne_eq, eq_self, Nat.reduceEqDiff, Nat.reduceLT, Nat.reduceLeDiff, Nat.add_zero]
          · simp only [y, not_true_eq_false, not_false_eq_true, true_implies, false_implies, implies_true, and_true, true_and, and_self, if_true, if_false, reduceCtorEq, ne_eq, eq_self, Nat.reduceEqDiff, Nat.reduceLT, Nat.reduceLeDiff]
        · have hcc : cod n (slo n (O i)) = O i := by
            unfold cod slo; rw [if_neg (show ¬ O i = 7 by omega), if_neg (by omega)]
          rw [hcc] at ce
          simp (disch := first | omega | assumption) only [JN, forall_eq, n0, n1, n7, not_true_eq_false, not_false_eq_true, true_implies, false_implies, implies_true, and_true, true_and, and_self, if_true, if_false, reduceCtorEq, ne_eq, eq_self, Nat.reduceEqDiff, Nat.reduceLT, Nat.reduceLeDiff, nI_clamp, vpT, leF, leT, hC.1, d1, d3, d5, q1, q2, mt, z2, eqI', ce, nI_add]
          by_cases y : fst (S i ||| 2 ^ n) (ord (n + 1) 0 v) = slo n (O i)
          · simp only [y, not_true_eq_false, not_false_eq_true, true_implies, false_implies, implies_true, and_true, true_and, and_self, if_true, if_false, reduceCtorEq, ne_eq, eq_self, Nat.reduceEqDiff, Nat.reduceLT, Nat.reduceLeDiff, Nat.add_zero]
          · simp only [y, not_true_eq_false, not_false_eq_true, true_implies, false_implies, implies_true, and_true, true_and, and_self, if_true, if_false, reduceCtorEq, ne_eq, eq_self, Nat.reduceEqDiff, Nat.reduceLT, Nat.reduceLeDiff]
      · rw [if_neg (fun z => q2 z.2)]
        simp (disch := first | omega | assumption) only [JN, false_and, and_false, or_true, true_or, or_false, false_or, forall_eq, true_implies, false_implies, implies_true, and_true, true_and, and_self, not_true_eq_false, not_false_eq_true, if_true, if_false, ne_eq, eq_self, e10, e01, Nat.reduceEqDiff, Nat.reduceLT, Nat.reduceLeDiff, Nat.reduceAdd, Nat.reduceSub, Nat.reduceMul, Nat.lt_irrefl, Nat.le_refl, n0, n1, n2, n3, n4, n5, n6, n7, n8, n9, n10, n11, n12, n13, n14, n15, n16, n20, n30, n48, n50, n60, n80, n99, n100, n120, n255, n256, n1200, n5040, sI_1, sI_2, sL_1, sL_2, sLA_1, sLA_2, vpT, ltT, ltF, leT, leF, neF, ltI', leI', eqI', nI_clamp, nI_add, nI_mul, sub', adm', ngeq', ngeq2', nglt', ngle', ngle2', wi_t, wi_f, ii_t, ii_f, ix_t, ix_f, nI_and, nI_or, nI_andN, shl', isIn', has', bB_0, bB_1, bB_t, bB_f, bP_0, bP_1, bitC', ones', ltL0', geL0', leL0', gtL0', eqL0', hC.1, d1, d5, q1]
    · rw [if_neg (fun z => q1 z.1)]
      simp (disch := first | omega | assumption) only [JN, false_and, and_false, or_true, true_or, or_false, false_or, forall_eq, true_implies, false_implies, implies_true, and_true, true_and, and_self, not_true_eq_false, not_false_eq_true, if_true, if_false, ne_eq, eq_self, e10, e01, Nat.reduceEqDiff, Nat.reduceLT, Nat.reduceLeDiff, Nat.reduceAdd, Nat.reduceSub, Nat.reduceMul, Nat.lt_irrefl, Nat.le_refl, n0, n1, n2, n3, n4, n5, n6, n7, n8, n9, n10, n11, n12, n13, n14, n15, n16, n20, n30, n48, n50, n60, n80, n99, n100, n120, n255, n256, n1200, n5040, sI_1, sI_2, sL_1, sL_2, sLA_1, sLA_2, vpT, ltT, ltF, leT, leF, neF, ltI', leI', eqI', nI_clamp, nI_add, nI_mul, sub', adm', ngeq', ngeq2', nglt', ngle', ngle2', wi_t, wi_f, ii_t, ii_f, ix_t, ix_f, nI_and, nI_or, nI_andN, shl', isIn', has', bB_0, bB_1, bB_t, bB_f, bP_0, bP_1, bitC', ones', ltL0', geL0', leL0', gtL0', eqL0', hC.1, d1]
