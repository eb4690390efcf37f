/-! the most of the takes, their bits; the fewest broken -/
theorem x_most {D : Dy} {n : Nat} {f : Nat → Nat} (hn : n ≤ 6) (h0 : D.1 14 0 = nI (n + 1)) (hf : ∀ s, s < n + 1 → D.1 20 s = nI (f s) ∧ f s ≤ 5040) {post : Int32 → Prop} : fX6_mostTakes D post = post (nI (mxN f (n + 1))) := by
  unfold fX6_mostTakes
  refine lp2_V (n + 1) (fun k => nI (mxN f k)) nI (fun _ => post (nI (mxN f (n + 1)))) (by omega) (fun k hk rec hr => ?_) rfl rfl
  by_cases e : k = n + 1
  · subst e; simp (disch := first | omega | assumption) only [JN, false_and, and_false, or_true, true_or, or_false, false_or, forall_eq, true_implies, false_implies, implies_true, and_true, true_and, and_self, not_true_eq_false, not_false_eq_true, if_true, if_false, ne_eq, eq_self, e10, e01, Nat.reduceEqDiff, Nat.reduceLT, Nat.reduceLeDiff, Nat.reduceAdd, Nat.reduceSub, Nat.reduceMul, Nat.lt_irrefl, Nat.le_refl, n0, n1, n2, n3, n4, n5, n6, n7, n8, n9, n10, n11, n12, n13, n14, n15, n16, n20, n30, n48, n50, n60, n80, n99, n100, n120, n255, n256, n1200, n5040, sI_1, sI_2, sL_1, sL_2, sLA_1, sLA_2, vpT, ltT, ltF, leT, leF, neF, ltI', leI', eqI', nI_clamp, nI_add, nI_mul, sub', adm', ngeq', ngeq2', nglt', ngle', ngle2', wi_t, wi_f, ii_t, ii_f, ix_t, ix_f, nI_and, nI_or, nI_andN, shl', isIn', has', bB_0, bB_1, bB_t, bB_f, bP_0, bP_1, bitC', ones', ltL0', geL0', leL0', gtL0', eqL0', h0]
  · have hk' : k < n + 1 := by omega
    have hr := hr hk'
    obtain ⟨f1, f2⟩ := hf k hk'
    have m1 := mxN_le (f := f) k (b := 5040) fun j hj => (hf j (by omega)).2
    rw [← hr, show mxN f (k + 1) = max (mxN f k) (f k) from rfl]
    simp (disch := first | omega | assumption) only [JN, false_and, and_false, or_true, true_or, or_false, false_or, forall_eq, true_implies, false_implies, implies_true, and_true, true_and, and_self, not_true_eq_false, not_false_eq_true, if_true, if_false, ne_eq, eq_self, e10, e01, Nat.reduceEqDiff, Nat.reduceLT, Nat.reduceLeDiff, Nat.reduceAdd, Nat.reduceSub, Nat.reduceMul, Nat.lt_irrefl, Nat.le_refl, n0, n1, n2, n3, n4, n5, n6, n7, n8, n9, n10, n11, n12, n13, n14, n15, n16, n20, n30, n48, n50, n60, n80, n99, n100, n120, n255, n256, n1200, n5040, sI_1, sI_2, sL_1, sL_2, sLA_1, sLA_2, vpT, ltT, ltF, leT, leF, neF, ltI', leI', eqI', nI_clamp, nI_add, nI_mul, sub', adm', ngeq', ngeq2', nglt', ngle', ngle2', wi_t, wi_f, ii_t, ii_f, ix_t, ix_f, nI_and, nI_or, nI_andN, shl', isIn', has', bB_0, bB_1, bB_t, bB_f, bP_0, bP_1, bitC', ones', ltL0', geL0', leL0', gtL0', eqL0', h0, f1]
    by_cases c : mxN f k < f k
    · simp only [c, if_true, Nat.max_eq_right (Nat.le_of_lt c)]
    · simp only [c, if_false, Nat.max_eq_left (Nat.le_of_not_lt c)]
/-- an option as the calls tell it -/
def cod (n s : Nat) : Nat := if s = n then 7 else s
def obN (n : Nat) (f : Nat → Nat) : Nat → Nat
  | 0 => 0
  | k + 1 => if 0 < f k then obN n f k ||| 2 ^ cod n k else obN n f k
theorem cod_lt {n s : Nat} (hn : n ≤ 6) (h : s < n + 1) : cod n s < 8 := by unfold cod; split <;> omega
theorem obN_lt {n : Nat} {f : Nat → Nat} (hn : n ≤ 6) : ∀ k, k ≤ n + 1 → obN n f k < 2 ^ 8
  | 0, _ => by show 0 < 2 ^ 8; decide
  | k + 1, h => by
    unfold obN
    split
    · exact Nat.or_lt_two_pow (obN_lt hn k (by omega)) (Nat.pow_lt_pow_right (by decide) (cod_lt hn (by omega)))
    · exact obN_lt hn k (by omega)
theorem x_bits {D : Dy} {n : Nat} {f : Nat → Nat} (hn : n ≤ 6) (h0 : D.1 14 0 = nI (n + 1)) (hf : ∀ s, s < n + 1 → D.1 20 s = nI (f s) ∧ f s ≤ 5040) {post : Int32 → Prop} : fX6_takenBits D post = post (nI (obN n f (n + 1))) := by
  unfold fX6_takenBits
  refine lp2_V (n + 1) (fun k => nI (obN n f k)) nI (fun _ => post (nI (obN n f (n + 1)))) (by omega) (fun k hk rec hr => ?_) rfl rfl
  by_cases e : k = n + 1
  · subst e; simp (disch := first | omega | assumption) only [JN, false_and, and_false, or_true, true_or, or_false, false_or, forall_eq, true_implies, false_implies, implies_true, and_true, true_and, and_self, not_true_eq_false, not_false_eq_true, if_true, if_false, ne_eq, eq_self, e10, e01, Nat.reduceEqDiff, Nat.reduceLT, Nat.reduceLeDiff, Nat.reduceAdd, Nat.reduceSub, Nat.reduceMul, Nat.lt_irrefl, Nat.le_refl, n0, n1, n2, n3, n4, n5, n6, n7, n8, n9, n10, n11, n12, n13, n14, n15, n16, n20, n30, n48, n50, n60, n80, n99, n100, n120, n255, n256, n1200, n5040, sI_1, sI_2, sL_1, sL_2, sLA_1, sLA_2, vpT, ltT, ltF, leT, leF, neF, ltI', leI', eqI', nI_clamp, nI_add, nI_mul, sub', adm', ngeq', ngeq2', nglt', ngle', ngle2', wi_t, wi_f, ii_t, ii_f, ix_t, ix_f, nI_and, nI_or, nI_andN, shl', isIn', has', bB_0, bB_1, bB_t, bB_f, bP_0, bP_1, bitC', ones', ltL0', geL0', leL0', gtL0', eqL0', h0]
  · have hk' : k < n + 1 := by omega
    have hr := hr hk'
    obtain ⟨f1, f2⟩ := hf k hk'
    have m1 := obN_lt (f := f) hn k (by omega)
    have cl := cod_lt hn hk'
    have st : obN n f (k + 1) = if 0 < f k then obN n f k ||| 2 ^ cod n k else obN n f k := rfl
    rw [← hr, st]
    simp (disch := first | omega | assumption) only [JN, false_and, and_false, or_true, true_or, or_false, false_or, forall_eq, true_implies, false_implies, implies_true, and_true, true_and, and_self, not_true_eq_false, not_false_eq_true, if_true, if_false, ne_eq, eq_self, e10, e01, Nat.reduceEqDiff, Nat.reduceLT, Nat.reduceLeDiff, Nat.reduceAdd, Nat.reduceSub, Nat.reduceMul, Nat.lt_irrefl, Nat.le_refl, n0, n1, n2, n3, n4, n5, n6, n7, n8, n9, n10, n11, n12, n13, n14, n15, n16, n20, n30, n48, n50, n60, n80, n99, n100, n120, n255, n256, n1200, n5040, sI_1, sI_2, sL_1, sL_2, sLA_1, sLA_2, vpT, ltT, ltF, leT, leF, neF, ltI', leI', eqI', nI_clamp, nI_add, nI_mul, sub', adm', ngeq', ngeq2', nglt', ngle', ngle2', wi_t, wi_f, ii_t, ii_f, ix_t, ix_f, nI_and, nI_or, nI_andN, shl', isIn', has', bB_0, bB_1, bB_t, bB_f, bP_0, bP_1, bitC', ones', ltL0', geL0', leL0', gtL0', eqL0', h0, f1, show n + 1 - 1 = n by omega]
    by_cases c : f k ≤ 0
    · simp only [not_true_eq_false, not_false_eq_true, true_implies, false_implies, implies_true, and_true, true_and, and_self, if_true, if_false, reduceCtorEq, ne_eq, eq_self, Nat.reduceEqDiff, Nat.reduceLT, Nat.reduceLeDiff, c, show ¬ 0 < f k by omega]
    · simp only [not_true_eq_false, not_false_eq_true, true_implies, false_implies, implies_true, and_true, true_and, and_self, if_true, if_false, reduceCtorEq, ne_eq, eq_self, Nat.reduceEqDiff, Nat.reduceLT, Nat.reduceLeDiff, c, show 0 < f k by omega]
      by_cases c2 : k = n
      · simp only [not_true_eq_false, not_false_eq_true, true_implies, false_implies, implies_true, and_true, true_and, and_self, if_true, if_false, reduceCtorEq, ne_eq, eq_self, Nat.reduceEqDiff, Nat.reduceLT, Nat.reduceLeDiff, c2, cod]
      · simp only [not_true_eq_false, not_false_eq_true, true_implies, false_implies, implies_true, and_true, true_and, and_self, if_true, if_false, reduceCtorEq, ne_eq, eq_self, Nat.reduceEqDiff, Nat.reduceLT, Nat.reduceLeDiff, c2, cod]
theorem brk_le {Q : List (Nat × Nat)} {s P : Nat} : brk Q s P ≤ Q.length := List.countP_le_length
theorem x_broken {D : Dy} {n P : Nat} {Q : List (Nat × Nat)} (hn : n ≤ 6) (hP : P < 2 ^ (n + 1)) (hG : GO D n Q) {post : Dy → Prop} (hp : ∀ D', frI 20 20 D D' → (∀ s, s < n + 1 → D'.1 20 s = nI (brk Q s P)) → post D') : fX6_countBroken (nI P) D post := by
  have pw7 : 2 ^ (n + 1) ≤ 128 := Nat.pow_le_pow_right (n := 2) (by decide) (show n + 1 ≤ 7 by omega)
  obtain ⟨g1, g2, g3, g4, g5, g6⟩ := hG
  unfold fX6_countBroken
  refine lp2_I (n + 1) (fun k x D' => x = nI k ∧ frI 20 20 D D' ∧ ∀ s, s < k → D'.1 20 s = nI 0) (by omega) (fun k hk x D' hpp rec hr => ?_) ⟨rfl, frI_r, fun X hX => by omega⟩
  obtain ⟨rfl, p1, p2⟩ := hpp
  rw [p1.2 14 0 (by omega), g1]
  by_cases e : k = n + 1
  · subst e
    refine ⟨fun _ => ?_, fun z => absurd (Int32.le_refl _) z⟩
    refine lp2_I Q.length (fun k x D' => x = nI k ∧ frI 20 20 D D' ∧ ∀ s, s < n + 1 → D'.1 20 s = nI ((Q.take k).countP fun q => q.1 == s && (q.2 &&& P != 0))) (by omega) (fun k hk x D' hpp rec hr => ?_) ⟨rfl, p1, fun s hs => by rw [p2 s hs]; rfl⟩
    obtain ⟨rfl, r1, r2⟩ := hpp
    rw [r1.2 14 4 (by omega), g2]
    by_cases e : k = Q.length
    · refine ⟨fun _ => hp D' r1 fun s hs => ?_, fun z => absurd (by rw [e]; exact Int32.le_refl _) z⟩
      rw [r2 s hs, e, List.take_length]; rfl
    · have hk' : k < Q.length := by omega
      have hr := hr hk'
      obtain ⟨a1, a2⟩ := g3 k hk'
      have eg : Q.getD k (0, 0) = Q[k] := by rw [List.getD_eq_getElem?_getD, List.getElem?_eq_getElem hk']; rfl
      rw [eg] at a1 a2
      obtain ⟨b1, b2, b3⟩ := g5 _ (List.getElem_mem hk')
      have ct : ∀ s, (Q.take (k + 1)).countP (fun q => q.1 == s && (q.2 &&& P != 0)) = (Q.take k).countP (fun q => q.1 == s && (q.2 &&& P != 0)) + (if (Q[k].1 == s && (Q[k].2 &&& P != 0)) = true then 1 else 0) := fun s => by
        rw [List.take_succ_eq_append_getElem hk', List.countP_append, List.countP_singleton]
      have vk : vp_in (nI k) 80 := nI_in (by omega) (by omega)
      refine ⟨fun z => absurd z (nI_ge hk' (by omega)), fun _ => ⟨vk, ?_⟩⟩
      rw [nI_clamp (by omega), r1.2 16 _ (by omega), r1.2 17 _ (by omega), a1, a2, nI_and]
      have hl : Q[k].2 &&& P < 2 ^ 31 := Nat.lt_of_le_of_lt Nat.and_le_left (by omega)
      refine ⟨fun z => ?_, fun z => ⟨vk, ?_⟩⟩
      · have z0 := (nI_eq (b := 0) hl (by omega)).mp z
        rintro v14 rfl
        rw [nI_1]
        refine hr _ _ ⟨rfl, r1, fun s hs => ?_⟩
        rw [r2 s hs, ct, if_neg (by simp [z0])]; rfl
      · have z0 : Q[k].2 &&& P ≠ 0 := fun y => z (by rw [y]; rfl)
        rintro v17 rfl
        refine ⟨nI_in (by omega) (by omega), nI_in (by omega) (by omega), ?_⟩
        rw [nI_clamp (by omega)]
        rintro D19 rfl v14 rfl
        rw [nI_1]
        refine hr _ _ ⟨rfl, frI_s r1 (by omega), fun s hs => ?_⟩
        rw [sI_1, ct]
        by_cases x : s = Q[k].1
        · subst x; rw [if_pos ⟨rfl, rfl⟩, r2 _ hs, nI_1, if_pos (by simp [z0])]
        · rw [if_neg (fun y => x y.2), r2 s hs, if_neg (by simp; exact fun y => absurd y.symm x)]; rfl
  · have hk' : k < n + 1 := by omega
    have hr := hr hk'
    refine ⟨fun z => absurd z (nI_ge hk' (by omega)), fun _ => ⟨nI_in (by omega) (by omega), ?_⟩⟩
    rintro D49 rfl v51 rfl
    rw [nI_1, nI_clamp (by omega)]
    refine hr _ _ ⟨rfl, frI_s p1 (by omega), fun s hs => ?_⟩
    rw [sI_1]
    by_cases x : s = k
    · rw [if_pos ⟨rfl, x⟩]; rfl
    · rw [if_neg (fun z => x z.2)]; exact p2 s (by omega)
theorem GO_f {D D' : Dy} {n : Nat} {Q : List (Nat × Nat)} (h : GO D n Q) (f : frI 18 20 D D') : GO D' n Q := by
  obtain ⟨g1, g2, g3, g4, g5, g6⟩ := h
  refine ⟨by rw [f.2 _ _ (by omega)]; exact g1, by rw [f.2 _ _ (by omega)]; exact g2, fun i hi => ?_, fun s hs => ?_, g5, g6⟩
  · rw [f.2 16 _ (by omega), f.2 17 _ (by omega)]; exact g3 i hi
  · rw [f.2 _ _ (by omega)]; exact g4 s hs
theorem GO_A {D : Dy} {n : Nat} {Q : List (Nat × Nat)} (h : GO D n Q) : AH D n Q := ⟨h.1, h.2.2.2.1, h.2.2.2.2.1⟩
theorem x_fewest {D : Dy} {n : Nat} {Q : List (Nat × Nat)} (hn : n ≤ 6) (hG : GO D n Q) {post : Int32 → Dy → Prop} (hp : ∀ D', frI 18 20 D D' → post (nI (min 80 (mnS Q (n + 1) 0))) D') : fX6_fewestBroken D post := by
  have pw7 : 2 ^ (n + 1) ≤ 128 := Nat.pow_le_pow_right (n := 2) (by decide) (show n + 1 ≤ 7 by omega)
  have pw2 : 2 ≤ 2 ^ (n + 1) := Nat.pow_le_pow_right (n := 2) (i := 1) (by decide) (by omega)
  have hB : lsq Q (n + 1) (2 ^ (n + 1) - 1) (2 ^ (n + 1) - 1) = min 80 (mnS Q (n + 1) 0) := lsq_M (by omega)
  generalize hM : 2 ^ (n + 1) - 1 = M at *
  have hM1 : 2 ^ (n + 1) = M + 1 := by omega
  have hQl := hG.2.2.2.2.2
  unfold fX6_fewestBroken
  rw [hG.1]
  have ev : (1 <<< (nI (n + 1) &&& 31)) - 1 = nI M := by rw [n1, shl' (by omega), hM1, sub' (by omega)]; rfl
  rw [ev]
  rintro v1 rfl
  refine lp2_I (M + 1) (fun k x D' => x = nI k ∧ frI 18 20 D D' ∧ ∀ X, X < k → D'.1 18 X = nI 80) (by omega) (fun k hk x D' hpp rec hr => ?_) ⟨rfl, frI_r, fun X hX => by omega⟩
  obtain ⟨rfl, p1, p2⟩ := hpp
  by_cases e : k = M + 1
  · subst e
    refine ⟨fun _ => ⟨nI_in (c := 0) (by omega) (by omega), ?_⟩, fun z => absurd (nI_lt (by omega) (by omega)) z⟩
    rintro D8 rfl
    refine lp2_I M (fun k x D' => x = nI k ∧ frI 18 20 D D' ∧ ∀ X, X < M + 1 → D'.1 18 X = nI (lsq Q (n + 1) k X)) (by omega) (fun k hk x D' hpp rec hr => ?_) ⟨rfl, frI_s p1 (by omega), fun X hX => ?_⟩
    · obtain ⟨rfl, r1, r2⟩ := hpp
      by_cases e : k = M
      · subst e
        refine ⟨fun _ => ⟨nI_in (by omega) (by omega), ?_⟩, fun z => absurd (Int32.le_refl _) z⟩
        rw [nI_clamp (by omega), r2 _ (by omega), hB]
        exact hp D' r1
      · have hk' : k < M := by omega
        have hr := hr hk'
        refine ⟨fun z => absurd z (nI_ge hk' (by omega)), fun _ => ?_⟩
        refine x_broken hn (by omega) (GO_f hG r1) fun D1 f1 h20 => ?_
        refine lp2_I (n + 1) (fun j y D'' => y = nI j ∧ frI 18 20 D D'' ∧ (∀ s, s < n + 1 → D''.1 20 s = nI (brk Q s k)) ∧ ∀ X, X < M + 1 → D''.1 18 X = nI (lst Q (lsq Q (n + 1) k) k j X)) (by omega) (fun j hj y D'' hjj rec2 hr2 => ?_) ⟨rfl, frI_t r1 (frI_w f1 (by omega) (by omega)), h20, fun X hX => by rw [f1.2 _ _ (by omega)]; exact r2 X hX⟩
        obtain ⟨rfl, q1, q2, q3⟩ := hjj
        rw [q1.2 14 0 (by omega) |>.trans hG.1]
        by_cases c : j = n + 1
        · subst c
          refine ⟨fun _ => ?_, fun z => absurd (Int32.le_refl _) z⟩
          rintro v26 rfl
          rw [nI_1]
          exact hr _ _ ⟨rfl, q1, q3⟩
        · have hj' : j < n + 1 := by omega
          have hr2 := hr2 hj'
          have st : ∀ X, lst Q (lsq Q (n + 1) k) k (j + 1) X = if k.testBit j = false ∧ X = (k ||| 2 ^ j) then min (lsq Q (n + 1) k k + brk Q j k) (lst Q (lsq Q (n + 1) k) k j X) else lst Q (lsq Q (n + 1) k) k j X := fun _ => rfl
          refine ⟨fun z => absurd z (nI_ge hj' (by omega)), fun _ => ?_⟩
          rw [isIn' (by omega) (by omega)]
          by_cases b : k.testBit j = true
          · rw [b]
            refine ⟨fun _ => ?_, fun z => absurd z (by decide)⟩
            rintro v36 rfl
            rw [nI_1]
            refine hr2 _ _ ⟨rfl, q1, q2, fun X hX => ?_⟩
            rw [q3 X hX, st, if_neg (by simp [b])]
          · have b' : k.testBit j = false := by simpa using b
            rw [b']
            have hl : (k ||| 2 ^ j) < 2 ^ (n + 1) := or_lt (by omega) hj'
            refine ⟨fun z => absurd rfl z, fun _ => ?_⟩
            rintro v39 rfl
            rw [n1, shl' (by omega), nI_or]
            refine ⟨nI_in (by omega) (by omega), nI_in (by omega) (by omega), nI_in (by omega) (by omega), ?_⟩
            rw [nI_clamp (n := k) (by omega), nI_clamp (n := j) (by omega), nI_clamp (n := k ||| 2 ^ j) (by omega), q3 k (by omega), q2 j hj', q3 _ (by omega), lst_lo (Nat.le_refl _), nI_add]
            have bl : brk Q j k ≤ 80 := Nat.le_trans brk_le hQl
            have l8 := lsq_80 (Q := Q) (N := n + 1) (X := k) k
            have l9 := Nat.le_trans (lst_le (Q := Q) (L := lsq Q (n + 1) k) (P := k) (X := k ||| 2 ^ j) j) (lsq_80 k)
            have em : (if nI (lsq Q (n + 1) k k + brk Q j k) < nI (lst Q (lsq Q (n + 1) k) k j (k ||| 2 ^ j)) then nI (lsq Q (n + 1) k k + brk Q j k) else nI (lst Q (lsq Q (n + 1) k) k j (k ||| 2 ^ j))) = nI (min (lsq Q (n + 1) k k + brk Q j k) (lst Q (lsq Q (n + 1) k) k j (k ||| 2 ^ j))) := by
              by_cases cc : lsq Q (n + 1) k k + brk Q j k < lst Q (lsq Q (n + 1) k) k j (k ||| 2 ^ j)
              · rw [if_pos (nI_lt cc (by omega)), Nat.min_eq_left (by omega)]
              · rw [if_neg (nI_nlt (by omega) (by omega)), Nat.min_eq_right (by omega)]
            rintro v41 rfl v43 rfl v45 e45
            rw [em] at e45
            subst e45
            refine ⟨nI_in (by omega) (by omega), ?_⟩
            rintro D47 rfl v36 rfl
            rw [nI_add]
            refine hr2 _ _ ⟨rfl, frI_s q1 (by omega), fun s hs => ?_, fun X hX => ?_⟩
            · rw [sI_1, if_neg (by omega)]; exact q2 s hs
            · rw [sI_1, st]
              by_cases x : X = (k ||| 2 ^ j)
              · subst x
                rw [if_pos ⟨rfl, rfl⟩, if_pos ⟨b', rfl⟩]
              · rw [if_neg (fun z => x z.2), if_neg (fun z => x z.2)]; exact q3 X hX
    · rw [sI_1]
      show _ = nI (if X = 0 then 0 else 80)
      by_cases x : X = 0
      · subst x; rw [if_pos ⟨rfl, rfl⟩]; rfl
      · rw [if_neg (by intro z; exact x z.2), p2 X hX, if_neg x]
  · have hk' : k < M + 1 := by omega
    have hr := hr hk'
    refine ⟨fun z => absurd z (nI_nlt (by omega) (by omega)), fun _ => ⟨nI_in (by omega) (by omega), ?_⟩⟩
    rintro D46 rfl v48 rfl
    rw [nI_1, nI_clamp (by omega)]
    refine hr _ _ ⟨rfl, frI_s p1 (by omega), fun X hX => ?_⟩
    rw [sI_1]
    by_cases x : X = k
    · rw [if_pos ⟨rfl, x⟩]; rfl
    · rw [if_neg (fun z => x z.2)]; exact p2 X (by omega)
