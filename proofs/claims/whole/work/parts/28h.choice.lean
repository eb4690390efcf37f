/-! choices told, one or more of one taker -/
def addX (D : Dy) (c w : Nat) (L : List (Nat × Nat)) : Dy := (fun b x => if b = 7 ∧ x = 4 then nI (c + L.length) else if c ≤ x ∧ x < c + L.length ∧ (b = 8 ∨ b = 9 ∨ b = 10 ∨ b = 11) then (if b = 8 then nI w else if b = 9 then nI (L.getD (x - c) (0, 0)).1 else if b = 10 then nI (L.getD (x - c) (0, 0)).2 else nI 0) else D.1 b x, D.2)
def addM (D : Dy) (c w : Nat) (L : List (Nat × Nat)) : Dy := (fun b x => if b = 33 ∧ x = 2 then nI (c + L.length) else if b = 58 ∧ x = w ∧ L ≠ [] then nI 0 else if c ≤ x ∧ x < c + L.length ∧ (b = 38 ∨ b = 39 ∨ b = 40 ∨ b = 41) then (if b = 38 then nI w else if b = 39 then nI (L.getD (x - c) (0, 0)).1 else if b = 40 then (if (L.getD (x - c) (0, 0)).2 = 7 then -nI 1 else nI (L.getD (x - c) (0, 0)).2) else nI 0) else D.1 b x, D.2)
theorem addX_n {D : Dy} {c w : Nat} {L : List (Nat × Nat)} : (addX D c w L).1 7 4 = nI (c + L.length) := by unfold addX; simp
theorem addM_n {D : Dy} {c w : Nat} {L : List (Nat × Nat)} : (addM D c w L).1 33 2 = nI (c + L.length) := by unfold addM; simp
theorem addX_r {D : Dy} {c w : Nat} {L : List (Nat × Nat)} {b x : Nat} (h1 : ¬ (b = 7 ∧ x = 4)) (h2 : b < 8 ∨ 11 < b) : (addX D c w L).1 b x = D.1 b x := by
  show (if _ then _ else if _ then _ else _) = _
  rw [if_neg h1, if_neg (by omega)]
theorem addM_r {D : Dy} {c w : Nat} {L : List (Nat × Nat)} {b x : Nat} (h1 : ¬ (b = 33 ∧ x = 2)) (h2 : b < 38 ∨ 41 < b) (h3 : b ≠ 58) : (addM D c w L).1 b x = D.1 b x := by
  show (if _ then _ else if _ then _ else if _ then _ else _) = _
  rw [if_neg h1, if_neg (by omega), if_neg (by omega)]
theorem getP_app {L : List (Nat × Nat)} {e : Nat × Nat} {x : Nat} : (L ++ [e]).getD x (0, 0) = if x = L.length then e else L.getD x (0, 0) := by
  by_cases h : x < L.length
  · rw [if_neg (by omega), List.getD_eq_getElem?_getD, List.getD_eq_getElem?_getD, List.getElem?_append_left h]
  · by_cases q : x = L.length
    · subst q; rw [if_pos rfl, List.getD_eq_getElem?_getD, List.getElem?_append_right (Nat.le_refl _), Nat.sub_self]; rfl
    · rw [if_neg q, List.getD_eq_getElem?_getD, List.getD_eq_getElem?_getD, List.getElem?_eq_none (by simp; omega), List.getElem?_eq_none (by omega)]
theorem x_add {D : Dy} {c w s o : Nat} {L : List (Nat × Nat)} (h : c + L.length < 80) {post : Int32 → Dy → Prop} : fX0_add (nI w) (nI s) (nI o) (addX D c w L) post = post (nI (c + L.length)) (addX D c w (L ++ [(s, o)])) := by
  unfold fX0_add
  simp (disch := first | omega | assumption) only [JN, false_and, and_false, or_true, true_or, or_false, false_or, forall_eq, true_implies, false_implies, implies_true, and_true, true_and, and_self, not_true_eq_false, not_false_eq_true, if_true, if_false, ne_eq, eq_self, e10, e01, Nat.reduceEqDiff, Nat.reduceLT, Nat.reduceLeDiff, Nat.reduceAdd, Nat.reduceSub, Nat.reduceMul, Nat.lt_irrefl, Nat.le_refl, n0, n1, n2, n3, n4, n5, n6, n7, n8, n9, n10, n11, n12, n13, n14, n15, n16, n20, n30, n48, n50, n60, n80, n99, n100, n120, n255, n256, n1200, n5040, sI_1, sI_2, sL_1, sL_2, sLA_1, sLA_2, vpT, ltT, ltF, leT, leF, neF, ltI', leI', eqI', nI_clamp, nI_add, nI_mul, sub', adm', ngeq', ngeq2', nglt', ngle', ngle2', wi_t, wi_f, ii_t, ii_f, ix_t, ix_f, nI_and, nI_or, nI_andN, shl', isIn', has', bB_0, bB_1, bB_t, bB_f, bP_0, bP_1, bitC', ones', ltL0', geL0', leL0', gtL0', eqL0', addX_n]
  have e : ∀ X Y : Dy, X = Y → post (nI (c + L.length)) X = post (nI (c + L.length)) Y := fun X Y h => by rw [h]
  refine e _ _ ?_
  unfold addX sI
  refine Prod.ext (funext fun b => funext fun x => ?_) rfl
  dsimp only
  rw [getP_app, List.length_append]
  simp only [List.length_cons, List.length_nil]
  by_cases q1 : b = 7 ∧ x = 4
  · simp [q1.1, q1.2, nI_add, Nat.add_assoc]
  · by_cases q2 : b = 8 ∨ b = 9 ∨ b = 10 ∨ b = 11
    · by_cases q3 : x = c + L.length
      · subst q3
        rcases q2 with rfl | rfl | rfl | rfl <;> simp [nI_0]
      · have q4 : (c ≤ x ∧ x < c + (L.length + (0 + 1))) ↔ (c ≤ x ∧ x < c + L.length) := by omega
        have q5 : ¬ x - c = L.length ∨ ¬ c ≤ x := by omega
        by_cases q6 : c ≤ x
        · have q7 : ¬ x - c = L.length := by omega
          rcases q2 with rfl | rfl | rfl | rfl <;> simp [q3, q7, q6] <;> (simp only [show (x < c + (L.length + 1)) ↔ x < c + L.length by omega])
        · rcases q2 with rfl | rfl | rfl | rfl <;> simp [q3, q6]
    · have : ¬ b = 8 ∧ ¬ b = 9 ∧ ¬ b = 10 ∧ ¬ b = 11 := by omega
      simp [q1, this]
theorem x_addF {D : Dy} {c w s o : Nat} {L : List (Nat × Nat)} (h : c + L.length = 80) {post : Int32 → Dy → Prop} : fX0_add (nI w) (nI s) (nI o) (addX D c w L) post = post (-nI 4) (addX D c w L) := by
  unfold fX0_add
  simp (disch := first | omega | assumption) only [JN, false_and, and_false, or_true, true_or, or_false, false_or, forall_eq, true_implies, false_implies, implies_true, and_true, true_and, and_self, not_true_eq_false, not_false_eq_true, if_true, if_false, ne_eq, eq_self, e10, e01, Nat.reduceEqDiff, Nat.reduceLT, Nat.reduceLeDiff, Nat.reduceAdd, Nat.reduceSub, Nat.reduceMul, Nat.lt_irrefl, Nat.le_refl, n0, n1, n2, n3, n4, n5, n6, n7, n8, n9, n10, n11, n12, n13, n14, n15, n16, n20, n30, n48, n50, n60, n80, n99, n100, n120, n255, n256, n1200, n5040, sI_1, sI_2, sL_1, sL_2, sLA_1, sLA_2, vpT, ltT, ltF, leT, leF, neF, ltI', leI', eqI', nI_clamp, nI_add, nI_mul, sub', adm', ngeq', ngeq2', nglt', ngle', ngle2', wi_t, wi_f, ii_t, ii_f, ix_t, ix_f, nI_and, nI_or, nI_andN, shl', isIn', has', bB_0, bB_1, bB_t, bB_f, bP_0, bP_1, bitC', ones', ltL0', geL0', leL0', gtL0', eqL0', addX_n]
/-- what is told can be: a set, one of it (or none) -/
def vld (n : Nat) (a2 a3 : Int32) (s o : Nat) : Prop := a2 = nI s ∧ s < 2 ^ n ∧ s ≠ 0 ∧ ((o = 7 ∧ a3 = -nI 1) ∨ (o < n ∧ a3 = nI o ∧ s.testBit o = true))
theorem m1_of {a : Int32} (h1 : a < 0) (h2 : -1 ≤ a) : a = -nI 1 := by
  have e1 := Int32.lt_iff_toInt_lt.mp h1
  have e2 := Int32.le_iff_toInt_le.mp h2
  refine Int32.toInt_inj.mp ?_
  rw [ng_toInt (by omega)]
  have e3 : (-1 : Int32).toInt = -1 := by decide
  have e4 : (0 : Int32).toInt = 0 := by decide
  rw [e3] at e2; rw [e4] at e1
  omega
theorem x_tell {D : Dy} {n c w : Nat} {L : List (Nat × Nat)} {a2 a3 : Int32} (hn : n ≤ 6) (h13 : D.1 1 3 = nI n) {post : Int32 → Dy → Prop} (h1 : ∀ s o, vld n a2 a3 s o → c + L.length < 80 → post (nI (c + L.length)) (addX D c w (L ++ [(s, o)]))) (h2 : ∀ s o, vld n a2 a3 s o → c + L.length = 80 → post (-nI 4) (addX D c w L)) (h3 : (¬ ∃ s o, vld n a2 a3 s o) → post (-nI 2) (addX D c w L)) (hc : c + L.length ≤ 80) : fX11_tellChoice (nI w) a2 a3 (addX D c w L) post := by
  have e13 : (addX D c w L).1 1 3 = nI n := by rw [addX_r (by omega) (by omega)]; exact h13
  have pw := pw6 hn
  have hadd : ∀ s o, vld n a2 a3 s o → fX0_add (nI w) (nI s) (nI o) (addX D c w L) (fun v D1 => post v D1) := by
    intro s o hv
    by_cases q : c + L.length < 80
    · rw [x_add q]; exact h1 s o hv q
    · rw [x_addF (by omega)]; exact h2 s o hv (by omega)
  unfold fX11_tellChoice
  refine s_hasSome hn e13 (fun q1 q2 => ?_) (fun q => ?_)
  · obtain ⟨s, hs, rfl⟩ := q1
    refine ⟨fun z => absurd z (by decide), fun _ => ⟨fun c1 => ?_, fun c1 => h3 ?_⟩⟩
    · refine ⟨fun c2 => ⟨fun c3 => ?_, fun _ => ?_⟩, fun c2 => ?_⟩
      · exfalso
        rw [m1_of c2 c1] at c3
        rw [n0, ngle2' (by omega) (by omega) (by omega)] at c3
        exact c3
      · exact hadd s 7 ⟨rfl, hs, fun z => q2 (by rw [z]; rfl), Or.inl ⟨rfl, m1_of c2 c1⟩⟩
      · obtain ⟨j, hj, rfl⟩ := nI_of c2
        refine s_has ?_
        rw [e13]
        by_cases q3 : j < n
        · rw [bI_t ((in_iff (by omega)).mpr ⟨j, q3, rfl⟩)]
          refine ⟨fun z => absurd z (by decide), fun _ => ?_⟩
          rw [isIn' (by omega) (by omega)]
          by_cases q4 : s.testBit j = true
          · rw [q4]
            refine ⟨fun _ => ⟨fun _ => ?_, fun z => absurd (nI_pos' (by omega)) z⟩, fun z => absurd z (by decide)⟩
            exact hadd s j ⟨rfl, hs, fun z => q2 (by rw [z]; rfl), Or.inr ⟨q3, rfl, q4⟩⟩
          · rw [show s.testBit j = false by simpa using q4]
            refine ⟨fun z => absurd rfl z, fun _ => h3 ?_⟩
            rintro ⟨s', o, e1, e2, e3, e4⟩
            have := (nI_eq (by omega) (by omega)).mp e1
            subst this
            rcases e4 with ⟨_, e4⟩ | ⟨e4, e5, e6⟩
            · rw [ngeq' (by omega) (by omega) (by omega)] at e4; exact e4
            · have := (nI_eq (by omega) (by omega)).mp e5
              subst this; exact q4 e6
        · rw [bI_f (fun z => by
            obtain ⟨i, hi, e⟩ := (in_iff (n := n) (by omega)).mp z
            have := (nI_eq (by omega) (by omega)).mp e
            omega)]
          refine ⟨fun _ => h3 ?_, fun z => absurd rfl z⟩
          rintro ⟨s', o, e1, e2, e3, e4⟩
          rcases e4 with ⟨_, e4⟩ | ⟨e4, e5, e6⟩
          · rw [ngeq' (by omega) (by omega) (by omega)] at e4; exact e4
          · have := (nI_eq (by omega) (by omega)).mp e5
            omega
    · rintro ⟨s', o, e1, e2, e3, e4⟩
      rcases e4 with ⟨_, e4⟩ | ⟨e4, e5, e6⟩
      · exact c1 (by rw [e4]; decide)
      · exact c1 (by rw [e5]; have := ngle' (a := o) (b := 1) (by omega) (by omega); exact this.mpr trivial)
  · refine ⟨fun _ => h3 ?_, fun z => absurd rfl z⟩
    rintro ⟨s', o, e1, e2, e3, e4⟩
    exact q ⟨⟨s', e2, e1⟩, fun z => e3 (by
      have := (nI_eq (a := s') (b := 0) (by omega) (by omega)).mp (e1.symm.trans z)
      exact this)⟩
theorem m_add {D : Dy} {c w s o : Nat} {a3 : Int32} {L : List (Nat × Nat)} (hw : w < 16) (h : c + L.length < 80) (ho : (o = 7 ∧ a3 = -nI 1) ∨ (o < 6 ∧ a3 = nI o)) {X : Dy} (hX : X = sI (sI (sI (sI (sI (sI (addM D c w L) 38 (c + L.length) (nI w)) 39 (c + L.length) (nI s)) 40 (c + L.length) a3) 41 (c + L.length) (nI 0)) 58 w (nI 0)) 33 2 (nI (c + L.length + 1))) : X = addM D c w (L ++ [(s, o)]) := by
  rw [hX]
  unfold addM sI
  refine Prod.ext (funext fun b => funext fun x => ?_) rfl
  dsimp only
  rw [getP_app, List.length_append]
  simp only [List.length_cons, List.length_nil]
  have hne : ¬ L ++ [(s, o)] = [] := by simp
  by_cases q1 : b = 33 ∧ x = 2
  · simp [q1.1, q1.2, Nat.add_assoc]
  · by_cases q0 : b = 58
    · subst q0
      by_cases q8 : x = w
      · simp [q8, hne]
      · simp [q8]
    · by_cases q2 : b = 38 ∨ b = 39 ∨ b = 40 ∨ b = 41
      · by_cases q3 : x = c + L.length
        · subst q3
          rcases ho with ⟨rfl, rfl⟩ | ⟨ho, rfl⟩
          · rcases q2 with rfl | rfl | rfl | rfl <;> simp
          · have : ¬ o = 7 := by omega
            rcases q2 with rfl | rfl | rfl | rfl <;> simp [this]
        · by_cases q6 : c ≤ x
          · have q7 : ¬ x - c = L.length := by omega
            rcases q2 with rfl | rfl | rfl | rfl <;> simp [q3, q7, q6] <;> (simp only [show (x < c + (L.length + 1)) ↔ x < c + L.length by omega])
          · rcases q2 with rfl | rfl | rfl | rfl <;> simp [q3, q6]
      · have : ¬ b = 38 ∧ ¬ b = 39 ∧ ¬ b = 40 ∧ ¬ b = 41 := by omega
        simp [q0, q1, this]
theorem JN_i {J : Prop} {b : Prop → Prop} (Q : Prop) (hJ : Q → J) (hb : ∀ K : Prop, (Q → K) → b K) : JN J b := hb J hJ
theorem m_tell {D : Dy} {n c w k : Nat} {L : List (Nat × Nat)} {a2 a3 : Int32} (hn : n ≤ 6) (hk : k ≤ 16) (hw : w < k) (h0 : D.1 33 0 = nI n) (h1' : D.1 33 1 = nI k) {post : Int32 → Dy → Prop} (h1 : ∀ s o, vld n a2 a3 s o → c + L.length < 80 → post (nI (c + L.length)) (addM D c w (L ++ [(s, o)]))) (h2 : ∀ s o, vld n a2 a3 s o → c + L.length = 80 → post (-nI 4) (addM D c w L)) (h3 : (¬ ∃ s o, vld n a2 a3 s o) → post (-nI 2) (addM D c w L)) (hc : c + L.length ≤ 80) : fX12_choice (nI w) a2 a3 (addM D c w L) post := by
  have e0 : (addM D c w L).1 33 0 = nI n := by rw [addM_r (by omega) (by omega) (by omega)]; exact h0
  have e1 : (addM D c w L).1 33 1 = nI k := by rw [addM_r (by omega) (by omega) (by omega)]; exact h1'
  have pw := pw6 hn
  unfold fX12_choice
  rw [isTk_t e1 (by omega) hw]
  refine ⟨fun _ => ?_, fun z => absurd z (by decide)⟩
  refine s_isSet hn e0 (fun q1 => ?_) (fun q => ⟨fun _ => h3 ?_, fun z => absurd rfl z⟩)
  · obtain ⟨s, hs, rfl⟩ := q1
    refine ⟨fun z => absurd z (by decide), fun _ => ⟨fun z => h3 ?_, fun q2 => ?_⟩⟩
    · rintro ⟨s', o, g1, g2, g3, g4⟩
      exact g3 ((nI_eq (a := s') (b := 0) (by omega) (by omega)).mp (g1.symm.trans z))
    · have hs0 : s ≠ 0 := fun z => q2 (by rw [z]; rfl)
      refine JN_i (∃ o, ((o = 7 ∧ a3 = -nI 1) ∨ (o < n ∧ a3 = nI o ∧ s.testBit o = true))) (fun ⟨o, ho⟩ => ?_) (fun K hK => ?_)
      · rw [addM_n]
        have hv : vld n (nI s) a3 s o := ⟨rfl, hs, hs0, ho⟩
        by_cases q : c + L.length < 80
        · have h1 := h1 s o hv q
          rw [← m_add (by omega) q (ho.imp id fun z => ⟨by omega, z.2.1⟩) rfl] at h1
          have ne : ¬ c + L.length = 80 := by omega
          simp (disch := first | omega | assumption) only [JN, false_and, and_false, or_true, true_or, or_false, false_or, forall_eq, true_implies, false_implies, implies_true, and_true, true_and, and_self, not_true_eq_false, not_false_eq_true, if_true, if_false, ne_eq, eq_self, e10, e01, Nat.reduceEqDiff, Nat.reduceLT, Nat.reduceLeDiff, Nat.reduceAdd, Nat.reduceSub, Nat.reduceMul, Nat.lt_irrefl, Nat.le_refl, n0, n1, n2, n3, n4, n5, n6, n7, n8, n9, n10, n11, n12, n13, n14, n15, n16, n20, n30, n48, n50, n60, n80, n99, n100, n120, n255, n256, n1200, n5040, sI_1, sI_2, sL_1, sL_2, sLA_1, sLA_2, vpT, ltT, ltF, leT, leF, neF, ltI', leI', eqI', nI_clamp, nI_add, nI_mul, sub', adm', ngeq', ngeq2', nglt', ngle', ngle2', wi_t, wi_f, ii_t, ii_f, ix_t, ix_f, nI_and, nI_or, nI_andN, shl', isIn', has', bB_0, bB_1, bB_t, bB_f, bP_0, bP_1, bitC', ones', ltL0', geL0', leL0', gtL0', eqL0', addM_n]
          have e9 : ∀ X Y : Dy, ∀ x y : Int32, X = Y → x = y → post x X → post y Y := fun X Y x y h h' z => by rw [← h, ← h']; exact z
          refine e9 _ _ _ _ ?_ ?_ h1
          · simp only [nI_add]
          · simp only [Nat.add_sub_cancel]
        · have : c + L.length = 80 := by omega
          have h2 := h2 s o hv this
          rw [this]
          simp (disch := first | omega | assumption) only [JN, false_and, and_false, or_true, true_or, or_false, false_or, forall_eq, true_implies, false_implies, implies_true, and_true, true_and, and_self, not_true_eq_false, not_false_eq_true, if_true, if_false, ne_eq, eq_self, e10, e01, Nat.reduceEqDiff, Nat.reduceLT, Nat.reduceLeDiff, Nat.reduceAdd, Nat.reduceSub, Nat.reduceMul, Nat.lt_irrefl, Nat.le_refl, n0, n1, n2, n3, n4, n5, n6, n7, n8, n9, n10, n11, n12, n13, n14, n15, n16, n20, n30, n48, n50, n60, n80, n99, n100, n120, n255, n256, n1200, n5040, sI_1, sI_2, sL_1, sL_2, sLA_1, sLA_2, vpT, ltT, ltF, leT, leF, neF, ltI', leI', eqI', nI_clamp, nI_add, nI_mul, sub', adm', ngeq', ngeq2', nglt', ngle', ngle2', wi_t, wi_f, ii_t, ii_f, ix_t, ix_f, nI_and, nI_or, nI_andN, shl', isIn', has', bB_0, bB_1, bB_t, bB_f, bP_0, bP_1, bitC', ones', ltL0', geL0', leL0', gtL0', eqL0']
          exact h2
      · by_cases q3 : a3 = -nI 1
        · exact ⟨fun _ => hK ⟨7, Or.inl ⟨rfl, q3⟩⟩, fun z => absurd q3 z⟩
        · refine ⟨fun z => absurd z q3, fun _ => ?_⟩
          by_cases q4 : iN a3 n
          · obtain ⟨j, hj, rfl⟩ := q4
            rw [isTh_t e0 (by omega) hj]
            refine ⟨fun z => absurd z (by decide), fun _ => ?_⟩
            rw [has' (by omega) (by omega)]
            by_cases q5 : s.testBit j = true
            · rw [q5]; exact ⟨fun _ => hK ⟨j, Or.inr ⟨hj, rfl, q5⟩⟩, fun z => absurd z (by decide)⟩
            · rw [show s.testBit j = false by simpa using q5]
              refine ⟨fun z => absurd rfl z, fun _ => h3 ?_⟩
              rintro ⟨s', o, g1, g2, g3, g4⟩
              have := (nI_eq (by omega) (by omega)).mp g1
              subst this
              rcases g4 with ⟨_, g4⟩ | ⟨g4, g5, g6⟩
              · exact q3 g4
              · have := (nI_eq (by omega) (by omega)).mp g5
                subst this; exact q5 g6
          · rw [isTh_f e0 (by omega) q4]
            refine ⟨fun _ => h3 ?_, fun z => absurd rfl z⟩
            rintro ⟨s', o, g1, g2, g3, g4⟩
            rcases g4 with ⟨_, g4⟩ | ⟨g4, g5, g6⟩
            · exact q3 g4
            · exact q4 ⟨o, g4, g5⟩
  · rintro ⟨s', o, g1, g2, g3, g4⟩
    exact q ⟨s', g2, g1⟩
