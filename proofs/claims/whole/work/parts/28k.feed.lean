/-! feed -/
def s8 (b : Nat) : Int32 := (nI b).toInt8.toInt32
/-- THE TEXT, as both hold it -/
def RX (D : Dy) (z : Nat) : Prop := z ≤ 120 ∧ D.1 0 6 = nI z ∧ D.1 33 14 = nI z ∧ ∀ i, i < z → ∃ b, b < 256 ∧ D.1 12 i = nI b ∧ D.1 44 (1200 + i) = s8 b
def byX (a : Int32) (i : Nat) : Int32 := ((a.toUInt32 >>> ((nI (8 * i)).toUInt32 &&& Int32.toUInt32 31)).toInt32 &&& nI 255)
def byM (a : Int32) (i : Nat) : Int32 := ((a >>> (nI (8 * i) &&& 31)).toInt8).toInt32
theorem by_XM {a : Int32} {i : Nat} (hi : i < 4) : ∃ b, b < 256 ∧ byX a i = nI b ∧ byM a i = s8 b := by
  have hb : ∀ j, j < 32 → bt (byX a i) j = (bt a (8 * i + j) && decide (j < 8)) := by
    intro j hj
    unfold byX
    rw [b_and, b_ushr (8 * i) (by omega), show nI 255 = (255 : Int32) from rfl, b_255]
  obtain ⟨b, e1, e2⟩ : ∃ b, byX a i = nI b ∧ b < 256 := by
    have h0 : ¬ byX a i < 0 := by
      intro z
      have e0 : bt (byX a i) 31 = false := by rw [hb 31 (by omega)]; simp
      have := (Int32.lt_iff_toInt_lt.mp z)
      rw [show (0 : Int32).toInt = 0 by decide] at this
      have m : (byX a i).toBitVec.msb = true := by
        have := this
        rw [show (byX a i).toInt = (byX a i).toBitVec.toInt from rfl, BitVec.toInt_neg_iff] at this
        rw [BitVec.msb_eq_decide]; simp; omega
      rw [BitVec.msb_eq_getLsbD_last] at m
      have m' : bt (byX a i) 31 = true := m
      rw [e0] at m'; cases m'
    obtain ⟨b, hb', e⟩ := nI_of h0
    refine ⟨b, e, ?_⟩
    refine Nat.lt_of_not_le fun z => ?_
    obtain ⟨j, hj1, hj2⟩ := Nat.exists_ge_and_testBit_of_ge_two_pow (n := 8) (x := b) (by omega)
    have hj3 : j < 31 := Nat.lt_of_not_le fun y => by
      have := Nat.testBit_lt_two_pow (Nat.lt_of_lt_of_le hb' (Nat.pow_le_pow_right (n := 2) (by decide) y))
      rw [this] at hj2; cases hj2
    have := hb j (by omega)
    rw [e, bt_nI _ (by omega), hj2] at this
    have h8 : ¬ j < 8 := by omega
    simp [h8] at this
  refine ⟨b, e2, e1, ?_⟩
  unfold byM s8
  congr 1
  rw [← e1]
  refine Int8.toBitVec_inj.mp (BitVec.eq_of_getLsbD_eq fun j hj => ?_)
  rw [Int32.toBitVec_toInt8, Int32.toBitVec_toInt8, BitVec.getLsbD_signExtend, BitVec.getLsbD_signExtend]
  have h32 : j < 32 := by omega
  simp only [hj, h32, if_true]
  have q1 : bt (a >>> (nI (8 * i) &&& 31)) j = bt a (8 * i + j) := by rw [b_sshr (8 * i) (by omega) a h32, if_pos (by omega)]
  have q2 := hb j h32
  unfold bt at q1 q2
  rw [q1, q2]
  simp [hj]
def fdX (D : Dy) (a : Int32) (z n k : Nat) : Dy := (fun b x => if b = 0 ∧ x = 6 then nI (z + k) else if b = 12 ∧ z ≤ x ∧ x < z + k then byX a (n - 1 - (x - z)) else D.1 b x, D.2)
def fdM (D : Dy) (a : Int32) (z n k : Nat) : Dy := (fun b x => if b = 33 ∧ x = 14 then nI (z + k) else if b = 44 ∧ 1200 + z ≤ x ∧ x < 1200 + z + k then byM a (n - 1 - (x - 1200 - z)) else D.1 b x, D.2)
theorem fdX_0 {D : Dy} {a : Int32} {z n : Nat} (h : D.1 0 6 = nI z) : fdX D a z n 0 = D := by
  unfold fdX
  refine Prod.ext (funext fun b => funext fun x => ?_) rfl
  dsimp only
  by_cases q : b = 0 ∧ x = 6
  · rw [if_pos q, q.1, q.2, h]; rfl
  · rw [if_neg q, if_neg (by omega)]
theorem fdM_0 {D : Dy} {a : Int32} {z n : Nat} (h : D.1 33 14 = nI z) : fdM D a z n 0 = D := by
  unfold fdM
  refine Prod.ext (funext fun b => funext fun x => ?_) rfl
  dsimp only
  by_cases q : b = 33 ∧ x = 14
  · rw [if_pos q, q.1, q.2, h]; rfl
  · rw [if_neg q, if_neg (by omega)]
theorem fdX_s {D : Dy} {a : Int32} {z n k : Nat} : sI (sI (fdX D a z n k) 12 (z + k) (byX a (n - 1 - k))) 0 6 (nI (z + k + 1)) = fdX D a z n (k + 1) := by
  unfold fdX sI
  refine Prod.ext (funext fun b => funext fun x => ?_) rfl
  dsimp only
  by_cases q : b = 0 ∧ x = 6
  · rw [if_pos q, if_pos q, Nat.add_assoc]
  · simp only [if_neg q]
    by_cases q2 : b = 12 ∧ x = z + k
    · rw [if_pos q2, if_pos (by omega), show x - z = k by omega]
    · rw [if_neg q2]
      by_cases q3 : b = 12 ∧ z ≤ x ∧ x < z + k
      · rw [if_pos q3, if_pos (by omega)]
      · rw [if_neg q3, if_neg (by omega)]
theorem fdM_s {D : Dy} {a : Int32} {z n k : Nat} : sI (sI (fdM D a z n k) 44 (1200 + (z + k)) (byM a (n - 1 - k))) 33 14 (nI (z + k + 1)) = fdM D a z n (k + 1) := by
  unfold fdM sI
  refine Prod.ext (funext fun b => funext fun x => ?_) rfl
  dsimp only
  by_cases q : b = 33 ∧ x = 14
  · rw [if_pos q, if_pos q, Nat.add_assoc]
  · simp only [if_neg q]
    by_cases q2 : b = 44 ∧ x = 1200 + (z + k)
    · rw [if_pos q2, if_pos (by omega), show x - 1200 - z = k by omega]
    · rw [if_neg q2]
      by_cases q3 : b = 44 ∧ 1200 + z ≤ x ∧ x < 1200 + z + k
      · rw [if_pos q3, if_pos (by omega)]
      · rw [if_neg q3, if_neg (by omega)]
theorem fdX_n {D : Dy} {a : Int32} {z n k : Nat} : (fdX D a z n k).1 0 6 = nI (z + k) := by unfold fdX; simp
theorem fdM_n {D : Dy} {a : Int32} {z n k : Nat} : (fdM D a z n k).1 33 14 = nI (z + k) := by unfold fdM; simp
/-- down to below 0 -/
def dn (n k : Nat) : Int32 := if k < n then nI (n - 1 - k) else -nI 1
theorem dn_lt {n k : Nat} (h : k < n) : dn n k = nI (n - 1 - k) := if_pos h
theorem dn_end {n k : Nat} (h : ¬ k < n) : dn n k = -nI 1 := if_neg h
theorem dn_0 {n : Nat} (hn : n < 1000000) : nI n - nI 1 = dn n 0 := by
  by_cases h : 0 < n
  · rw [dn_lt h, sub' (by omega)]; rfl
  · rw [dn_end h, show n = 0 by omega]; decide
theorem dn_s {n k : Nat} (hn : n < 1000000) (h : k < n) : nI (n - 1 - k) + -nI 1 = dn n (k + 1) := by
  by_cases h2 : k + 1 < n
  · rw [dn_lt h2, adm' (by omega)]; congr 1
  · rw [dn_end h2, show n - 1 - k = 0 by omega]; decide
theorem dn_neg {n k : Nat} (h : ¬ k < n) : dn n k < nI 0 := by rw [dn_end h]; decide
theorem x_feed {D : Dy} {z n : Nat} {a : Int32} (hn : n ≤ 4) (hz : z + n ≤ 120) (h : D.1 0 6 = nI z) {post : Int32 → Dy → Prop} : fX11_feed a (nI n) D post = post (nI (z + n)) (fdX D a z n n) := by
  unfold fX11_feed
  simp (disch := first | omega | assumption) only [JN, not_true_eq_false, not_false_eq_true, true_implies, false_implies, implies_true, and_true, true_and, and_self, if_true, if_false, reduceCtorEq, ne_eq, eq_self, Nat.reduceEqDiff, Nat.reduceLT, Nat.reduceLeDiff, n0, n1, n4, n120, h, sub', leT, leF, ltT, ltF, dn_0, forall_eq]
  refine lp2_V n (fun k => dn n k) (fun k => fdX D a z n k) (fun _ => post (nI (z + n)) (fdX D a z n n)) (by omega) (fun k hk rec hr => ?_) rfl (fdX_0 h).symm
  by_cases e : k < n
  · have hr := hr e
    rw [← fdX_s] at hr
    rw [dn_lt e]
    simp (disch := first | omega | assumption) only [not_true_eq_false, not_false_eq_true, true_implies, false_implies, implies_true, and_true, true_and, and_self, if_true, if_false, reduceCtorEq, ne_eq, eq_self, Nat.reduceEqDiff, Nat.reduceLT, Nat.reduceLeDiff, n0, n1, n8, n255, fdX_n, vpT, ltF, nI_mul, nI_add, nI_clamp, forall_eq, sI_1, false_and, and_false, dn_s]
    exact hr
  · have : k = n := by omega
    subst this
    have e1 := dn_neg (n := k) e
    simp only [not_true_eq_false, not_false_eq_true, true_implies, false_implies, implies_true, and_true, true_and, and_self, if_true, if_false, reduceCtorEq, ne_eq, eq_self, Nat.reduceEqDiff, Nat.reduceLT, Nat.reduceLeDiff, n0, e1, fdX_n]
theorem m_feed {D : Dy} {z n : Nat} {a : Int32} (hn : n ≤ 4) (hz : z + n ≤ 120) (h : D.1 33 14 = nI z) {post : Int32 → Dy → Prop} : fX12_feed a (nI n) D post = post (nI (z + n)) (fdM D a z n n) := by
  unfold fX12_feed
  simp (disch := first | omega | assumption) only [JN, not_true_eq_false, not_false_eq_true, true_implies, false_implies, implies_true, and_true, true_and, and_self, if_true, if_false, reduceCtorEq, ne_eq, eq_self, Nat.reduceEqDiff, Nat.reduceLT, Nat.reduceLeDiff, n0, n1, n4, n120, n1200, h, ix_t, e10, sub', leT, leF, ltT, ltF, dn_0, nI_add, forall_eq]
  refine lp2_V n (fun k => dn n k) (fun k => fdM D a z n k) (fun _ => post (nI (z + n)) (fdM D a z n n)) (by omega) (fun k hk rec hr => ?_) rfl (fdM_0 h).symm
  by_cases e : k < n
  · have hr := hr e
    rw [← fdM_s] at hr
    rw [dn_lt e]
    simp (disch := first | omega | assumption) only [not_true_eq_false, not_false_eq_true, true_implies, false_implies, implies_true, and_true, true_and, and_self, if_true, if_false, reduceCtorEq, ne_eq, eq_self, Nat.reduceEqDiff, Nat.reduceLT, Nat.reduceLeDiff, n0, n1, n8, fdM_n, vpT, ltF, nI_mul, nI_add, nI_clamp, forall_eq, sI_1, false_and, and_false, dn_s]
    exact hr
  · have : k = n := by omega
    subst this
    have e1 := dn_neg (n := k) e
    simp only [not_true_eq_false, not_false_eq_true, true_implies, false_implies, implies_true, and_true, true_and, and_self, if_true, if_false, reduceCtorEq, ne_eq, eq_self, Nat.reduceEqDiff, Nat.reduceLT, Nat.reduceLeDiff, n0, e1, fdM_n]
/-- all but the text is as it was -/
def frX (D D' : Dy) : Prop := D'.2 = D.2 ∧ ∀ b x, ¬ (b = 0 ∧ x = 6) → b ≠ 12 → ¬ (b = 33 ∧ x = 14) → ¬ (b = 44 ∧ 1200 ≤ x) → D'.1 b x = D.1 b x
theorem p_feed {D : Dy} {z : Nat} {a1 a2 : Int32} (h : RX D z) : fX11_feed a1 a2 D (fun v D1 => fX12_feed a1 a2 D1 (fun v' D2 => v = v' ∧ (∃ z', RX D2 z') ∧ frX D D2)) := by
  obtain ⟨h1, h2, h3, h4⟩ := id h
  have same : (∃ z', RX D z') ∧ frX D D := ⟨⟨z, h⟩, rfl, fun _ _ _ _ _ _ => rfl⟩
  by_cases q : iN a2 5
  · obtain ⟨n, hn, rfl⟩ := q
    by_cases q2 : z + n ≤ 120
    · rw [x_feed (by omega) q2 h2, m_feed (z := z) (by omega) q2 (by unfold fdX; simp [h3])]
      refine ⟨rfl, ⟨z + n, q2, ?_, fdM_n, fun i hi => ?_⟩, rfl, fun b x g1 g2 g3 g4 => ?_⟩
      · unfold fdM; dsimp only
        rw [if_neg (by omega), if_neg (by omega)]; exact fdX_n
      · by_cases c : i < z
        · obtain ⟨b, b1, b2, b3⟩ := h4 i c
          refine ⟨b, b1, ?_, ?_⟩
          · unfold fdM fdX; dsimp only
            rw [if_neg (by omega), if_neg (by omega), if_neg (by omega), if_neg (by omega)]; exact b2
          · unfold fdM fdX; dsimp only
            rw [if_neg (by omega), if_neg (by omega), if_neg (by omega), if_neg (by omega)]; exact b3
        · obtain ⟨b, b1, b2, b3⟩ := by_XM (a := a1) (i := n - 1 - (i - z)) (by omega)
          refine ⟨b, b1, ?_, ?_⟩
          · unfold fdM fdX; dsimp only
            rw [if_neg (by omega), if_neg (by omega), if_neg (by omega), if_pos (by omega)]; exact b2
          · unfold fdM fdX; dsimp only
            rw [if_neg (by omega), if_pos (by omega), show 1200 + i - 1200 - z = i - z by omega]; exact b3
      · unfold fdM fdX; dsimp only
        rw [if_neg (by omega), if_neg (by omega), if_neg (by omega), if_neg (by omega)]
    · unfold fX11_feed fX12_feed
      simp (disch := first | omega | assumption) only [JN, not_true_eq_false, not_false_eq_true, true_implies, false_implies, implies_true, and_true, true_and, and_self, if_true, if_false, reduceCtorEq, ne_eq, eq_self, Nat.reduceEqDiff, Nat.reduceLT, Nat.reduceLeDiff, n0, n1, n4, n120, h2, h3, ix_t, e10, sub', leT, leF, ltT, ltF, nI_add, forall_eq]
      exact same
  · have q' : ¬ iN a2 (4 + 1) := q
    have x1 : ¬ a2 < nI 0 → ¬ a2 ≤ nI 4 := by
      intro c c2
      obtain ⟨j, hj, rfl⟩ := nI_of c
      exact q ⟨j, by have := (leI' hj (by omega)).mp c2; omega, rfl⟩
    unfold fX11_feed fX12_feed
    simp (disch := first | omega | assumption) only [JN, not_true_eq_false, not_false_eq_true, true_implies, false_implies, implies_true, and_true, true_and, and_self, if_true, if_false, reduceCtorEq, ne_eq, eq_self, Nat.reduceEqDiff, Nat.reduceLT, Nat.reduceLeDiff, n0, n4, ix_f]
    by_cases c : a2 < nI 0
    · simp only [c, not_true_eq_false, not_false_eq_true, true_implies, false_implies, implies_true, and_true, true_and, and_self, if_true, if_false, reduceCtorEq, ne_eq, eq_self, Nat.reduceEqDiff, Nat.reduceLT, Nat.reduceLeDiff]; exact same
    · simp only [c, x1 c, not_true_eq_false, not_false_eq_true, true_implies, false_implies, implies_true, and_true, true_and, and_self, if_true, if_false, reduceCtorEq, ne_eq, eq_self, Nat.reduceEqDiff, Nat.reduceLT, Nat.reduceLeDiff]; exact same
