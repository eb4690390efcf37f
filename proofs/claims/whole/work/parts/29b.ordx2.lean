/-! gatherOne, gatherMore; ways, rests -/
def rqL (n : Nat) (W S O U : Nat → Nat) (who : Nat) : Nat → List (Nat × Nat)
  | 0 => []
  | c + 1 => if W c = who ∧ U c = 0 then rqL n W S O U who c ++ [rq n (S c) (O c)] else rqL n W S O U who c
theorem rqL_len {n : Nat} {W S O U : Nat → Nat} {a b : Nat} (h : a ≠ b) : ∀ c, (rqL n W S O U a c).length + (rqL n W S O U b c).length ≤ c
  | 0 => Nat.le_refl _
  | c + 1 => by
    have ih := rqL_len (n := n) (W := W) (S := S) (O := O) (U := U) h c
    unfold rqL
    by_cases q : W c = a ∧ U c = 0
    · have : ¬ (W c = b ∧ U c = 0) := fun z => h (q.1.symm.trans z.1)
      rw [if_pos q, if_neg this, List.length_append]; simp; omega
    · rw [if_neg q]
      split
      · rw [List.length_append]; simp; omega
      · omega
theorem rqL_len1 {n : Nat} {W S O U : Nat → Nat} {a : Nat} (c : Nat) : (rqL n W S O U a c).length ≤ c := by
  have := rqL_len (n := n) (W := W) (S := S) (O := O) (U := U) (show a ≠ a + 1 by omega) c
  omega
theorem rqL_mono {n : Nat} {W S O U : Nat → Nat} {who a b : Nat} (h : a ≤ b) : (rqL n W S O U who a).length ≤ (rqL n W S O U who b).length := by
  induction b with
  | zero => rw [Nat.le_zero.mp h]; exact Nat.le_refl _
  | succ b ih =>
    by_cases e : a = b + 1
    · rw [e]; exact Nat.le_refl _
    · refine Nat.le_trans (ih (by omega)) ?_
      have st : rqL n W S O U who (b + 1) = if W b = who ∧ U b = 0 then rqL n W S O U who b ++ [rq n (S b) (O b)] else rqL n W S O U who b := rfl
      rw [st]
      split
      · rw [List.length_append]; exact Nat.le_add_right _ _
      · exact Nat.le_refl _
/-- the choices, by functions (the one's rows) -/
def ChX (D : Dy) (n k c : Nat) (W S O U : Nat → Nat) : Prop := D.1 7 4 = nI c ∧ ∀ i, i < c → D.1 8 i = nI (W i) ∧ W i < k ∧ D.1 9 i = nI (S i) ∧ S i < 2 ^ n ∧ S i ≠ 0 ∧ D.1 11 i = nI (U i) ∧ U i < 3 ∧ D.1 10 i = nI (O i) ∧ (O i = 7 ∨ (O i < n ∧ (S i).testBit (O i) = true))
theorem ChX_o {D D' : Dy} {n k c : Nat} {W S O U : Nat → Nat} (h : ChX D n k c W S O U) (f : frO D D') : ChX D' n k c W S O U := by
  refine ⟨by rw [f.2 _ _ (by omega)]; exact h.1, fun i hi => ?_⟩
  rw [f.2 8 _ (by omega), f.2 9 _ (by omega), f.2 10 _ (by omega), f.2 11 _ (by omega)]
  exact h.2 i hi
theorem x_gatherMore {D : Dy} {n k c who : Nat} {W S O U : Nat → Nat} {Q : List (Nat × Nat)} (hn : n ≤ 6) (hk : k ≤ 16) (hc : c ≤ 80) (hw : who < k) (hC : ChX D n k c W S O U) (hG : GO D n Q) (hQ : Q.length + (rqL n W S O U who c).length ≤ 80) {post : Dy → Prop} (hp : ∀ D', frO D D' → GO D' n (Q ++ rqL n W S O U who c) → post D') : fX11_gatherMore (nI who) D post := by
  have pw := pw6 hn
  unfold fX11_gatherMore
  refine lp2_I c (fun j x D' => x = nI j ∧ frO D D' ∧ GO D' n (Q ++ rqL n W S O U who j)) (by omega) (fun j hj x D' hpp rec hr => ?_) ⟨rfl, frO_r, by unfold rqL; rw [List.append_nil]; exact hG⟩
  obtain ⟨rfl, p1, p2⟩ := hpp
  have hC' := ChX_o hC p1
  rw [hC'.1]
  by_cases e : j = c
  · subst e
    exact ⟨fun _ => hp D' p1 p2, fun z => absurd (Int32.le_refl _) z⟩
  · have hj' : j < c := by omega
    obtain ⟨c1, c2, c3, c4, c5, c6, c7, c8, c9⟩ := hC'.2 j hj'
    have hr := hr hj'
    have vj : vp_in (nI j) 80 := nI_in (by omega) (by omega)
    have st : rqL n W S O U who (j + 1) = if W j = who ∧ U j = 0 then rqL n W S O U who j ++ [rq n (S j) (O j)] else rqL n W S O U who j := rfl
    refine ⟨fun z => absurd z (nI_ge hj' (by omega)), fun _ => ⟨vj, ?_⟩⟩
    rw [nI_clamp (by omega), c1, c3, c6, c8]
    have skip : ¬ (W j = who ∧ U j = 0) → ∀ v9 : Int32, v9 = nI j + 1 → rec v9 D' := by
      rintro hno v9 rfl
      rw [nI_1]
      exact hr _ _ ⟨rfl, p1, by rw [st, if_neg hno]; exact p2⟩
    refine ⟨fun z => skip fun y => z (by rw [y.1]), fun z1 => ⟨vj, fun z => skip fun y => z (by rw [y.2]; rfl), fun z2 => ⟨vj, vj, ?_⟩⟩⟩
    have w1 : W j = who := (nI_eq (by omega) (by omega)).mp z1
    have w2 : U j = 0 := (nI_eq (b := 0) (by omega) (by omega)).mp z2
    have mono : (rqL n W S O U who (j + 1)).length ≤ (rqL n W S O U who c).length := rqL_mono (by omega)
    rw [st, if_pos ⟨w1, w2⟩, List.length_append] at mono
    refine x_require hn c4 (c9.imp id fun z => z.1) p2 (by rw [List.length_append]; simp at mono ⊢; omega) fun D'' f1 f2 => ?_
    rintro v9 rfl
    rw [nI_1]
    refine hr _ _ ⟨rfl, frO_t p1 f1, ?_⟩
    rw [st, if_pos ⟨w1, w2⟩, ← List.append_assoc]; exact f2
theorem x_gatherOne {D : Dy} {n k c who : Nat} {W S O U : Nat → Nat} (hn : n ≤ 6) (hk : k ≤ 16) (hc : c ≤ 80) (hw : who < k) (h13 : D.1 1 3 = nI n) (hC : ChX D n k c W S O U) {post : Dy → Prop} (hp : ∀ D', frO D D' → GO D' n (rqL n W S O U who c) → post D') : fX11_gatherOne (nI who) D post := by
  unfold fX11_gatherOne
  rw [h13]
  refine x_clear hn fun D1 f1 g1 => ?_
  refine x_gatherMore hn hk hc hw (ChX_o hC f1) g1 (by have := rqL_len1 (n := n) (W := W) (S := S) (O := O) (U := U) (a := who) c; simp; omega) fun D2 f2 g2 => ?_
  exact hp D2 (frO_t f1 f2) (by simpa using g2)
theorem x_may {D : Dy} {n s P : Nat} {Q : List (Nat × Nat)} (hn : n ≤ 6) (hs : s < n + 1) (hP : P < 2 ^ (n + 1)) (h15 : D.1 15 s = nI (ahd s Q)) (hQ : QOK (n + 1) Q) {post : Int32 → Prop} : fX6_mayFollow (nI s) (nI P) D post = post (bB (mayS Q s P)) := by
  have pw7 : 2 ^ (n + 1) ≤ 128 := Nat.pow_le_pow_right (n := 2) (by decide) (show n + 1 ≤ 7 by omega)
  have hl := ahd_lt (s := s) Q hQ
  have ok := ahd_ok (s := s) (P := P) Q
  have ll : aNot (ahd s Q) P < 2 ^ 31 := Nat.lt_of_le_of_lt aNot_le (by omega)
  unfold fX6_mayFollow
  rw [isIn' (by omega) (by omega), nI_clamp (by omega), h15]
  simp only [JN, n0, n1, nI_andN, eqI' ll (show 0 < 2 ^ 31 by omega), ok, bB_0]
  rw [show vp_in (nI s) 7 = True from vpT (by omega) (by omega)]
  unfold mayS
  by_cases q : P.testBit s = true
  · simp only [not_true_eq_false, not_false_eq_true, true_implies, false_implies, implies_true, and_true, true_and, and_self, if_true, if_false, reduceCtorEq, ne_eq, eq_self, Nat.reduceEqDiff, Nat.reduceLT, Nat.reduceLeDiff, q, bB_f, Bool.not_true, Bool.false_and]
  · have q' : P.testBit s = false := by simpa using q
    by_cases q2 : okS Q s P = true
    · simp only [not_true_eq_false, not_false_eq_true, true_implies, false_implies, implies_true, and_true, true_and, and_self, if_true, if_false, reduceCtorEq, ne_eq, eq_self, Nat.reduceEqDiff, Nat.reduceLT, Nat.reduceLeDiff, q', q2, bB_t, Bool.not_false, Bool.true_and]
    · have q2' : okS Q s P = false := by simpa using q2
      simp only [not_true_eq_false, not_false_eq_true, true_implies, false_implies, implies_true, and_true, true_and, and_self, if_true, if_false, reduceCtorEq, ne_eq, eq_self, Nat.reduceEqDiff, Nat.reduceLT, Nat.reduceLeDiff, q', q2', bB_f, Bool.not_false, Bool.true_and]
