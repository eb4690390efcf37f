/-! act -/
def putX (D : Dy) (l : List Int32) : Dy := (fun b x => if b = 22 ∧ x = 1 then nI l.length else if b = 23 ∧ x < l.length then l.getD x 0 else D.1 b x, D.2)
def putM (D : Dy) (l : List Int32) : Dy := (fun b x => if b = 33 ∧ x = 48 then nI l.length else if b = 60 ∧ x < l.length then l.getD x 0 else D.1 b x, D.2)
theorem putX_r {D : Dy} {l : List Int32} {b x : Nat} (h1 : ¬ (b = 22 ∧ x = 1)) (h2 : ¬ b = 23) : (putX D l).1 b x = D.1 b x := by
  show (if _ then _ else if _ then _ else _) = _
  rw [if_neg h1, if_neg fun z => h2 z.1]
theorem putM_r {D : Dy} {l : List Int32} {b x : Nat} (h1 : ¬ (b = 33 ∧ x = 48)) (h2 : ¬ b = 60) : (putM D l).1 b x = D.1 b x := by
  show (if _ then _ else if _ then _ else _) = _
  rw [if_neg h1, if_neg fun z => h2 z.1]
theorem putX_n {D : Dy} {l : List Int32} : (putX D l).1 22 1 = nI l.length := by unfold putX; simp
theorem putM_n {D : Dy} {l : List Int32} : (putM D l).1 33 48 = nI l.length := by unfold putM; simp
theorem getD_app {l : List Int32} {b : Int32} {x : Nat} : (l ++ [b]).getD x 0 = if x = l.length then b else l.getD x 0 := by
  by_cases h : x < l.length
  · rw [if_neg (by omega), List.getD_eq_getElem?_getD, List.getD_eq_getElem?_getD, List.getElem?_append_left h]
  · by_cases e : x = l.length
    · subst e; rw [if_pos rfl, List.getD_eq_getElem?_getD, List.getElem?_append_right (Nat.le_refl _), Nat.sub_self]; rfl
    · rw [if_neg e, List.getD_eq_getElem?_getD, List.getD_eq_getElem?_getD, List.getElem?_eq_none (by simp; omega), List.getElem?_eq_none (by omega)]
theorem note' {D : Dy} {l : List Int32} {b : Int32} (h : l.length < 20) {post : Dy → Prop} : fX10_note b (putX D l) post = post (putX D (l ++ [b])) := by
  unfold fX10_note
  simp (disch := first | omega | assumption) only [JN, or_true, true_or, or_false, false_or, forall_eq, true_implies, false_implies, implies_true, and_true, true_and, and_self, not_true_eq_false, not_false_eq_true, if_true, if_false, ne_eq, eq_self, e10, e01, Nat.reduceEqDiff, Nat.reduceLT, Nat.reduceLeDiff, Nat.reduceAdd, Nat.reduceSub, Nat.reduceMul, Nat.lt_irrefl, Nat.le_refl, n0, n1, n2, n3, n4, n5, n6, n7, n8, n9, n10, n11, n12, n13, n14, n15, n16, n20, n30, n48, n50, n60, n80, n99, n100, n120, n255, n256, n1200, n5040, sI_1, sI_2, sL_1, sL_2, sLA_1, sLA_2, vpT, ltT, ltF, leT, leF, neF, ltI', leI', eqI', nI_clamp, nI_add, nI_mul, sub', adm', ngeq', ngeq2', nglt', ngle', ngle2', wi_t, wi_f, ii_t, ii_f, ix_t, ix_f, nI_and, nI_or, nI_andN, shl', isIn', has', bB_0, bB_1, bB_t, bB_f, bP_0, bP_1, bitC', ones', ltL0', geL0', leL0', gtL0', eqL0', putX_n]
  congr 1
  unfold putX sI
  refine Prod.ext (funext fun c => funext fun x => ?_) rfl
  dsimp only
  rw [getD_app, List.length_append]
  simp only [List.length_cons, List.length_nil]
  by_cases q1 : c = 22 ∧ x = 1
  · simp [q1.1, q1.2, n1, nI_add]
  · by_cases q2 : c = 23
    · subst q2
      by_cases q3 : x = l.length
      · simp [q3]
      · have : x < l.length + 1 ↔ x < l.length := by omega
        simp [q3, this]
    · simp [q1, q2]
theorem body' {D : Dy} {l : List Int32} {b : Int32} (h : l.length < 20) {post : Dy → Prop} : fX12_body b (putM D l) post = post (putM D (l ++ [b])) := by
  unfold fX12_body
  simp (disch := first | omega | assumption) only [JN, or_true, true_or, or_false, false_or, forall_eq, true_implies, false_implies, implies_true, and_true, true_and, and_self, not_true_eq_false, not_false_eq_true, if_true, if_false, ne_eq, eq_self, e10, e01, Nat.reduceEqDiff, Nat.reduceLT, Nat.reduceLeDiff, Nat.reduceAdd, Nat.reduceSub, Nat.reduceMul, Nat.lt_irrefl, Nat.le_refl, n0, n1, n2, n3, n4, n5, n6, n7, n8, n9, n10, n11, n12, n13, n14, n15, n16, n20, n30, n48, n50, n60, n80, n99, n100, n120, n255, n256, n1200, n5040, sI_1, sI_2, sL_1, sL_2, sLA_1, sLA_2, vpT, ltT, ltF, leT, leF, neF, ltI', leI', eqI', nI_clamp, nI_add, nI_mul, sub', adm', ngeq', ngeq2', nglt', ngle', ngle2', wi_t, wi_f, ii_t, ii_f, ix_t, ix_f, nI_and, nI_or, nI_andN, shl', isIn', has', bB_0, bB_1, bB_t, bB_f, bP_0, bP_1, bitC', ones', ltL0', geL0', leL0', gtL0', eqL0', putM_n]
  congr 1
  unfold putM sI
  refine Prod.ext (funext fun c => funext fun x => ?_) rfl
  dsimp only
  rw [getD_app, List.length_append]
  simp only [List.length_cons, List.length_nil]
  by_cases q1 : c = 33 ∧ x = 48
  · simp [q1.1, q1.2, n1, nI_add]
  · by_cases q2 : c = 60
    · subst q2
      by_cases q3 : x = l.length
      · simp [q3]
      · have : x < l.length + 1 ↔ x < l.length := by omega
        simp [q3, this]
    · simp [q1, q2]
theorem clrX {D : Dy} : sI D 22 1 (nI 0) = putX D [] := by
  unfold putX sI
  refine Prod.ext (funext fun c => funext fun x => ?_) rfl
  simp
theorem clrM {D : Dy} : sI D 33 48 (nI 0) = putM D [] := by
  unfold putM sI
  refine Prod.ext (funext fun c => funext fun x => ?_) rfl
  simp
/-- all but the trace is as it was -/
def frR (D D' : Dy) : Prop := D'.2 = D.2 ∧ ∀ b x, ¬ (b = 22 ∧ x = 1) → b ≠ 23 → ¬ (b = 33 ∧ x = 48) → b ≠ 60 → D'.1 b x = D.1 b x
theorem RR_put {D : Dy} {l : List Int32} (h : l.length ≤ 20) : RR (putM (putX D l) l) ∧ frR D (putM (putX D l) l) := by
  refine ⟨⟨l.length, by omega, ?_, putM_n, fun i hi h20 => ?_⟩, rfl, fun b x h1 h2 h3 h4 => ?_⟩
  · rw [putM_r (by omega) (by omega), putX_n]
  · rw [putM_r (by omega) (by omega)]
    unfold putX putM
    simp [hi]
  · rw [putM_r h3 h4, putX_r h1 h2]
