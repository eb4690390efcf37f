/-! WEIGHTS: what a model tells, both ways -/
abbrev Mdt : Type := (Nat → Nat) × (Nat → Nat) × Nat × Nat × Nat × (Nat → Nat) × (Nat → Nat)
abbrev md_w (M : Mdt) : Nat → Nat := M.1
abbrev md_m (M : Mdt) : Nat → Nat := M.2.1
abbrev md_p (M : Mdt) : Nat := M.2.2.1
abbrev md_z (M : Mdt) : Nat := M.2.2.2.1
abbrev md_l (M : Mdt) : Nat := M.2.2.2.2.1
abbrev md_s (M : Mdt) : Nat → Nat := M.2.2.2.2.2.1
abbrev md_t (M : Mdt) : Nat → Nat := M.2.2.2.2.2.2
def okM (M : Mdt) : Prop := (∀ i, i < 6 → md_w M i ≤ 999) ∧ (∀ j, j < 8 → md_m M j ≤ 999) ∧ md_p M ≤ 999 ∧ md_z M ≤ 999 ∧ (1 ≤ md_l M ∧ md_l M ≤ 9) ∧ ∀ k, k < 3 → md_s M k ≤ 9 ∧ md_t M k ≤ 999
/-- as the one holds it, in the Text at t -/
def XM (D : Dy) (t : Nat) (M : Mdt) : Prop := (∀ i, i < 6 → D.1 (t + 1) i = nI (md_w M i)) ∧ (∀ j, j < 8 → D.1 (t + 2) j = nI (md_m M j)) ∧ D.1 t 6 = nI (md_p M) ∧ D.1 t 7 = nI (md_z M) ∧ (∃ l, D.1 t 8 = nI l ∧ 1 ≤ l ∧ l ≤ 9 ∧ min l 6 = min (md_l M) 6) ∧ ∀ k, k < 3 → D.1 (t + 3) k = nI (md_s M k) ∧ D.1 (t + 4) k = nI (md_t M k)
/-- as the other holds it, once it has listened -/
def MM (D : Dy) (M : Mdt) : Prop := (∀ i, i < 6 → D.1 47 i = nI (md_w M i)) ∧ (∀ j, j < 8 → D.1 48 j = nI (md_m M j)) ∧ D.1 33 28 = nI (md_p M) ∧ D.1 33 29 = nI (md_z M) ∧ D.1 33 30 = nI (md_l M) ∧ ∀ k, k < 3 → D.1 49 k = nI (md_s M k) ∧ D.1 50 k = nI (md_t M k)
def wB (M : Mdt) (Mk : Nat → Nat) (o j : Nat) : Nat := md_w M o + sumN (fun j => if (Mk o).testBit j = true then md_m M j else 0) j
def wP (M : Mdt) (Mk Pr : Nat → Nat) (o : Nat) : Nat := max 1 (wB M Mk o 8 - md_p M * Pr o / 10)
/-- the weight of an option for a kind -/
def wt (M : Mdt) (Mk Pr : Nat → Nat) (k o : Nat) : Nat := if o = 7 then min 50 (md_z M) else min 50 (if o % 3 = k then wP M Mk Pr o * max 1 (md_t M k) else wP M Mk Pr o)
theorem wt_50 {M : Mdt} {Mk Pr : Nat → Nat} {k o : Nat} : wt M Mk Pr k o ≤ 50 := by
  unfold wt; split <;> omega
theorem wt_1 {M : Mdt} {Mk Pr : Nat → Nat} {k o : Nat} (h : o ≠ 7) : 1 ≤ wt M Mk Pr k o := by
  unfold wt
  rw [if_neg h]
  have h1 : 1 ≤ wP M Mk Pr o := by unfold wP; omega
  have h2 : 1 ≤ max 1 (md_t M k) := by omega
  split
  · have := Nat.mul_le_mul h1 h2; omega
  · omega
theorem wB_le {M : Mdt} {Mk : Nat → Nat} {o : Nat} (hM : okM M) (ho : o < 6) : ∀ j, j ≤ 8 → wB M Mk o j ≤ 999 + 999 * j
  | 0, _ => by have := hM.1 o ho; show md_w M o + 0 ≤ _; omega
  | j + 1, h => by
    have ih := wB_le (Mk := Mk) hM ho j (by omega)
    have := hM.2.1 j (by omega)
    have e : wB M Mk o (j + 1) = wB M Mk o j + (if (Mk o).testBit j = true then md_m M j else 0) := by unfold wB; rw [sumN_s, Nat.add_assoc]
    rw [e]
    split <;> omega
theorem wP_le {M : Mdt} {Mk Pr : Nat → Nat} {o : Nat} (hM : okM M) (ho : o < 6) : wP M Mk Pr o ≤ 8991 := by
  have := wB_le (Mk := Mk) hM ho 8 (by omega)
  unfold wP; omega
theorem sub_max {b c : Nat} (hb : b < 2 ^ 30) (hc : c < 2 ^ 30) : (if nI 1 < nI b - nI c then nI b - nI c else nI 1) = nI (max 1 (b - c)) := by
  by_cases h : c ≤ b
  · rw [sub' h]
    by_cases h2 : 1 < b - c
    · rw [if_pos (nI_lt h2 (by omega)), Nat.max_eq_right (by omega)]
    · rw [if_neg (nI_nlt (by omega) (by omega)), Nat.max_eq_left (by omega)]
  · rw [show nI b - nI c = -nI (c - b) by rw [← sub' (by omega : b ≤ c), Int32.neg_sub]]
    rw [if_neg, Nat.max_eq_left (by omega)]
    intro z
    have := Int32.lt_iff_toInt_lt.mp z
    rw [ng_toInt (by omega), nI_toInt (by omega)] at this
    omega
theorem sub_max2 {b c : Nat} (hb : b < 2 ^ 30) (hc : c < 2 ^ 30) : (nI 1 ≤ nI b - nI c → nI b - nI c = nI (max 1 (b - c))) ∧ (¬ nI 1 ≤ nI b - nI c → max 1 (b - c) = 1) := by
  by_cases h : c ≤ b
  · rw [sub' h]
    by_cases h2 : 1 ≤ b - c
    · exact ⟨fun _ => by rw [Nat.max_eq_right h2], fun z => absurd (nI_le h2 (by omega)) z⟩
    · exact ⟨fun z => absurd ((leI' (by omega) (by omega)).mp z) h2, fun _ => by omega⟩
  · rw [show nI b - nI c = -nI (c - b) by rw [← sub' (by omega : b ≤ c), Int32.neg_sub]]
    refine ⟨fun z => ?_, fun _ => by omega⟩
    exfalso
    have := Int32.le_iff_toInt_le.mp z
    rw [ng_toInt (by omega), nI_toInt (by omega)] at this
    omega
theorem min_if {m x : Nat} (hm : m < 2 ^ 31) (hx : x < 2 ^ 31) : (if nI m < nI x then nI m else nI x) = nI (min m x) := by
  by_cases c : m < x
  · rw [if_pos (nI_lt c hx), Nat.min_eq_left (by omega)]
  · rw [if_neg (nI_nlt (by omega) hm), Nat.min_eq_right (by omega)]
theorem max_if {m x : Nat} (hm : m < 2 ^ 31) (hx : x < 2 ^ 31) : (if nI m < nI x then nI x else nI m) = nI (max m x) := by
  by_cases c : m < x
  · rw [if_pos (nI_lt c hx), Nat.max_eq_right (by omega)]
  · rw [if_neg (nI_nlt (by omega) hm), Nat.max_eq_left (by omega)]
theorem x_weight {D : Dy} {t kd n k o : Nat} {M : Mdt} {Mk Pr : Nat → Nat} (hn : n ≤ 6) (hM : okM M) (hX : XM D t M) (hg : ∀ i, i < n → D.1 2 i = nI (Mk i) ∧ Mk i < 256 ∧ D.1 3 i = nI (Pr i) ∧ Pr i < 100) (hk : k < 3) (ho : o < n ∨ o = 7) {post : Int32 → Prop} : fX4_weightOf t kd (nI o) (nI k) D post = post (nI (wt M Mk Pr k o)) := by
  obtain ⟨x1, x2, x3, x4, -, x6⟩ := hX
  obtain ⟨m1, m2, m3, m4, -, m6⟩ := id hM
  unfold fX4_weightOf
  by_cases h7 : o = 7
  · subst h7
    unfold wt
    have e5 : (if (50 : Int32) < nI (md_z M) then 50 else nI (md_z M)) = nI (min 50 (md_z M)) := min_if (m := 50) (by omega) (by omega)
    simp only [not_true_eq_false, not_false_eq_true, true_implies, false_implies, implies_true, and_true, true_and, and_self, if_true, if_false, reduceCtorEq, ne_eq, eq_self, Nat.reduceEqDiff, Nat.reduceLT, Nat.reduceLeDiff, n7, x4, forall_eq, e5]
  · have hon : o < n := by omega
    have ho6 : o < 6 := by omega
    obtain ⟨g1, g2, g3, g4⟩ := hg o hon
    have ne7 : ¬ nI o = nI 7 := fun z => h7 ((nI_eq (by omega) (by omega)).mp z)
    have vo : vp_in (nI o) 6 := nI_in ho6 (by omega)
    have wbl := fun j (hj : j ≤ 8) => wB_le (Mk := Mk) hM ho6 j hj
    have wpl := wP_le (Mk := Mk) (Pr := Pr) hM ho6
    have tk := m6 k hk
    have xo := x1 o ho6
    have xk := (x6 k hk).2
    have pl : md_p M * Pr o ≤ 999 * 99 := Nat.mul_le_mul m3 (by omega)
    simp (disch := first | omega | assumption) only [JN, n7, not_true_eq_false, not_false_eq_true, true_implies, false_implies, implies_true, and_true, true_and, and_self, if_true, if_false, reduceCtorEq, ne_eq, eq_self, Nat.reduceEqDiff, Nat.reduceLT, Nat.reduceLeDiff, ne7, vo, forall_eq, nI_clamp, xo]
    refine lp2_V 8 (fun j => nI (wB M Mk o j)) nI (fun _ => post (nI (wt M Mk Pr k o))) (by omega) (fun j hj rec hr => ?_) rfl rfl
    by_cases e : j = 8
    · subst e
      have w8 := wbl 8 (by omega)
      have sm := sub_max (b := wB M Mk o 8) (c := md_p M * Pr o / 10) (by omega) (by omega)
      have pd : nI (md_p M * Pr o) / nI 10 = nI (md_p M * Pr o / 10) := pk_div (by omega) (by omega) (by omega)
      have pr : nI o - nI o / nI 3 * nI 3 = nI (o % 3) := pk_rem (by omega) (by omega) (by omega)
      have ek : (nI (o % 3) = nI k) = (o % 3 = k) := eqI' (by omega) (by omega)
      have vk : vp_in (nI k) 3 := nI_in hk (by omega)
      have mm : (if (1 : Int32) < nI (md_t M k) then nI (md_t M k) else 1) = nI (max 1 (md_t M k)) := max_if (m := 1) (by omega) (by omega)
      have m50 : ∀ x, x < 2 ^ 31 → (if (50 : Int32) < nI x then 50 else nI x) = nI (min 50 x) := fun x hx => min_if (m := 50) (by omega) hx
      have pm : wP M Mk Pr o * max 1 (md_t M k) ≤ 8991 * 999 := Nat.mul_le_mul wpl (by omega)
      have e1 : (if (1 : Int32) < nI (wB M Mk o 8) - nI (md_p M * Pr o / 10) then nI (wB M Mk o 8) - nI (md_p M * Pr o / 10) else 1) = nI (wP M Mk Pr o) := sm
      simp (disch := first | omega | assumption) only [not_true_eq_false, not_false_eq_true, true_implies, false_implies, implies_true, and_true, true_and, and_self, if_true, if_false, reduceCtorEq, ne_eq, eq_self, Nat.reduceEqDiff, Nat.reduceLT, Nat.reduceLeDiff, leT, n3, n8, n10, x3, g3, nI_mul, pd, pr, ek, e1, vk, xk, mm, m50, forall_eq]
      unfold wt
      rw [if_neg h7]
      by_cases c : o % 3 = k
      · simp only [c, not_true_eq_false, not_false_eq_true, true_implies, false_implies, implies_true, and_true, true_and, and_self, if_true, if_false, reduceCtorEq, ne_eq, eq_self, Nat.reduceEqDiff, Nat.reduceLT, Nat.reduceLeDiff]
      · simp only [c, not_true_eq_false, not_false_eq_true, true_implies, false_implies, implies_true, and_true, true_and, and_self, if_true, if_false, reduceCtorEq, ne_eq, eq_self, Nat.reduceEqDiff, Nat.reduceLT, Nat.reduceLeDiff]
    · have hj' : j < 8 := by omega
      have hr := hr hj'
      have xj := x2 j hj'
      have e1 : wB M Mk o (j + 1) = wB M Mk o j + (if (Mk o).testBit j = true then md_m M j else 0) := by unfold wB; rw [sumN_s, Nat.add_assoc]
      rw [← hr, e1]
      simp (disch := first | omega | assumption) only [not_true_eq_false, not_false_eq_true, true_implies, false_implies, implies_true, and_true, true_and, and_self, if_true, if_false, reduceCtorEq, ne_eq, eq_self, Nat.reduceEqDiff, Nat.reduceLT, Nat.reduceLeDiff, leF, vpT, n0, n1, n8, g1, isIn', bB_0, xj, nI_clamp, nI_add, forall_eq]
      cases (Mk o).testBit j
      · simp only [not_true_eq_false, not_false_eq_true, true_implies, false_implies, implies_true, and_true, true_and, and_self, if_true, if_false, reduceCtorEq, ne_eq, eq_self, Nat.reduceEqDiff, Nat.reduceLT, Nat.reduceLeDiff, Nat.add_zero]
      · simp only [not_true_eq_false, not_false_eq_true, true_implies, false_implies, implies_true, and_true, true_and, and_self, if_true, if_false, reduceCtorEq, ne_eq, eq_self, Nat.reduceEqDiff, Nat.reduceLT, Nat.reduceLeDiff]
theorem xv_weight {D : Dy} {t kd n k o : Nat} {M : Mdt} {Mk Pr : Nat → Nat} (hn : n ≤ 6) (hM : okM M) (hX : XM D t M) (hg : ∀ i, i < n → D.1 2 i = nI (Mk i) ∧ Mk i < 256 ∧ D.1 3 i = nI (Pr i) ∧ Pr i < 100) (hk : k < 3) (ho : o < n ∨ o = 7) {post : Int32 → Prop} (h : post (nI (wt M Mk Pr k o))) : v_weightOf t kd (nI o) (nI k) D post := by
  unfold v_weightOf
  simp only [fun kd => x_weight (kd := kd) (post := post) hn hM hX hg hk ho]
  exact ⟨fun _ => h, fun _ => h, fun _ => h, fun _ => h, fun _ => h, fun _ => h⟩
theorem m_weight {D : Dy} {n k o : Nat} {M : Mdt} {Mk Pr : Nat → Nat} (hn : n ≤ 6) (hM : okM M) (hX : MM D M) (hg : ∀ i, i < n → D.1 34 i = nI (Mk i) ∧ Mk i < 256 ∧ D.1 35 i = nI (Pr i) ∧ Pr i < 100) (hk : k < 3) (ho : o < n ∨ o = 7) {post : Int32 → Prop} : fX12_weightOf (nI o) (nI k) D post = post (nI (wt M Mk Pr k o)) := by
  obtain ⟨x1, x2, x3, x4, -, x6⟩ := hX
  obtain ⟨m1, m2, m3, m4, -, m6⟩ := id hM
  unfold fX12_weightOf
  by_cases h7 : o = 7
  · subst h7
    unfold wt
    simp (disch := first | omega | assumption) only [not_true_eq_false, not_false_eq_true, true_implies, false_implies, implies_true, and_true, true_and, and_self, if_true, if_false, reduceCtorEq, ne_eq, eq_self, Nat.reduceEqDiff, Nat.reduceLT, Nat.reduceLeDiff, n7, x4, n50, leI']
    by_cases c : md_z M ≤ 50
    · simp only [not_true_eq_false, not_false_eq_true, true_implies, false_implies, implies_true, and_true, true_and, and_self, if_true, if_false, reduceCtorEq, ne_eq, eq_self, Nat.reduceEqDiff, Nat.reduceLT, Nat.reduceLeDiff, c, Nat.min_eq_right c]
    · simp only [not_true_eq_false, not_false_eq_true, true_implies, false_implies, implies_true, and_true, true_and, and_self, if_true, if_false, reduceCtorEq, ne_eq, eq_self, Nat.reduceEqDiff, Nat.reduceLT, Nat.reduceLeDiff, c, Nat.min_eq_left (show 50 ≤ md_z M by omega)]
  · have hon : o < n := by omega
    have ho6 : o < 6 := by omega
    obtain ⟨g1, g2, g3, g4⟩ := hg o hon
    have ne7 : ¬ nI o = nI 7 := fun z => h7 ((nI_eq (by omega) (by omega)).mp z)
    have vo : vp_in (nI o) 6 := nI_in ho6 (by omega)
    have wbl := fun j (hj : j ≤ 8) => wB_le (Mk := Mk) hM ho6 j hj
    have wpl := wP_le (Mk := Mk) (Pr := Pr) hM ho6
    have tk := m6 k hk
    have xo := x1 o ho6
    have xk := (x6 k hk).2
    have pl : md_p M * Pr o ≤ 999 * 99 := Nat.mul_le_mul m3 (by omega)
    simp (disch := first | omega | assumption) only [JN, n7, not_true_eq_false, not_false_eq_true, true_implies, false_implies, implies_true, and_true, true_and, and_self, if_true, if_false, reduceCtorEq, ne_eq, eq_self, Nat.reduceEqDiff, Nat.reduceLT, Nat.reduceLeDiff, ne7, vo, forall_eq, nI_clamp, xo]
    refine lp2_V 8 (fun j => nI (wB M Mk o j)) nI (fun _ => post (nI (wt M Mk Pr k o))) (by omega) (fun j hj rec hr => ?_) rfl rfl
    by_cases e : j = 8
    · subst e
      have w8 := wbl 8 (by omega)
      obtain ⟨s1, s2⟩ := sub_max2 (b := wB M Mk o 8) (c := md_p M * Pr o / 10) (by omega) (by omega)
      have pd : nI (md_p M * Pr o) / nI 10 = nI (md_p M * Pr o / 10) := pk_div (by omega) (by omega) (by omega)
      have pr : nI o - nI o / nI 3 * nI 3 = nI (o % 3) := pk_rem (by omega) (by omega) (by omega)
      have ek : (nI (o % 3) = nI k) = (o % 3 = k) := eqI' (by omega) (by omega)
      have vk : vp_in (nI k) 3 := nI_in hk (by omega)
      have pm : wP M Mk Pr o * max 1 (md_t M k) ≤ 8991 * 999 := Nat.mul_le_mul wpl (by omega)
      have tail : ∀ x, x = wP M Mk Pr o → ((¬ nI (o % 3) = nI k → ((nI x ≤ nI 50 → post (nI x)) ∧ (¬ nI x ≤ nI 50 → post (nI 50)))) ∧ (nI (o % 3) = nI k → (vp_in (nI k) 3 ∧ ((nI (md_t M k) ≤ nI 1 → ((nI x ≤ nI 50 → post (nI x)) ∧ (¬ nI x ≤ nI 50 → post (nI 50)))) ∧ (¬ nI (md_t M k) ≤ nI 1 → (vp_in (nI k) 3 ∧ ((nI x * nI (md_t M k) ≤ nI 50 → post (nI x * nI (md_t M k))) ∧ (¬ nI x * nI (md_t M k) ≤ nI 50 → post (nI 50))))))))) = post (nI (wt M Mk Pr k o)) := by
        rintro x rfl
        have fin : ∀ y, y < 2 ^ 31 → ((nI y ≤ nI 50 → post (nI y)) ∧ (¬ nI y ≤ nI 50 → post (nI 50))) = post (nI (min 50 y)) := fun y hy => by
          rw [leI' hy (by omega)]
          by_cases c : y ≤ 50
          · simp only [not_true_eq_false, not_false_eq_true, true_implies, false_implies, implies_true, and_true, true_and, and_self, if_true, if_false, reduceCtorEq, ne_eq, eq_self, Nat.reduceEqDiff, Nat.reduceLT, Nat.reduceLeDiff, c, Nat.min_eq_right c]
          · simp only [not_true_eq_false, not_false_eq_true, true_implies, false_implies, implies_true, and_true, true_and, and_self, if_true, if_false, reduceCtorEq, ne_eq, eq_self, Nat.reduceEqDiff, Nat.reduceLT, Nat.reduceLeDiff, c, Nat.min_eq_left (show 50 ≤ y by omega)]
        rw [nI_mul, fin _ (by omega), ek]
        unfold wt
        rw [if_neg h7]
        by_cases c : o % 3 = k
        · simp only [c, not_true_eq_false, not_false_eq_true, true_implies, false_implies, implies_true, and_true, true_and, and_self, if_true, if_false, reduceCtorEq, ne_eq, eq_self, Nat.reduceEqDiff, Nat.reduceLT, Nat.reduceLeDiff, vk]
          by_cases c2 : md_t M k ≤ 1
          · have e3 : max 1 (md_t M k) = 1 := by omega
            simp (disch := first | omega | assumption) only [not_true_eq_false, not_false_eq_true, true_implies, false_implies, implies_true, and_true, true_and, and_self, if_true, if_false, reduceCtorEq, ne_eq, eq_self, Nat.reduceEqDiff, Nat.reduceLT, Nat.reduceLeDiff, leT, e3, Nat.mul_one]
          · have e3 : max 1 (md_t M k) = md_t M k := by omega
            rw [e3] at pm
            rw [fin _ (by omega)]
            simp (disch := first | omega | assumption) only [not_true_eq_false, not_false_eq_true, true_implies, false_implies, implies_true, and_true, true_and, and_self, if_true, if_false, reduceCtorEq, ne_eq, eq_self, Nat.reduceEqDiff, Nat.reduceLT, Nat.reduceLeDiff, leF, e3]
        · simp only [c, not_true_eq_false, not_false_eq_true, true_implies, false_implies, implies_true, and_true, true_and, and_self, if_true, if_false, reduceCtorEq, ne_eq, eq_self, Nat.reduceEqDiff, Nat.reduceLT, Nat.reduceLeDiff]
      have e1 : nI 1 ≤ nI (wB M Mk o 8) - nI (md_p M * Pr o / 10) → nI (wB M Mk o 8) - nI (md_p M * Pr o / 10) = nI (wP M Mk Pr o) := s1
      have e2 : ¬ nI 1 ≤ nI (wB M Mk o 8) - nI (md_p M * Pr o / 10) → wP M Mk Pr o = 1 := s2
      have t1 := tail _ rfl
      simp (disch := first | omega | assumption) only [not_true_eq_false, not_false_eq_true, true_implies, false_implies, implies_true, and_true, true_and, and_self, if_true, if_false, reduceCtorEq, ne_eq, eq_self, Nat.reduceEqDiff, Nat.reduceLT, Nat.reduceLeDiff, leT, n0, n1, n3, n8, n10, n50, x3, g3, nI_mul, pd, pr, xk, forall_eq]
      simp only [nI_mul] at t1
      by_cases c : nI 1 ≤ nI (wB M Mk o 8) - nI (md_p M * Pr o / 10)
      · rw [e1 c]
        rw [e1 c] at c
        simp only [c, not_true_eq_false, not_false_eq_true, true_implies, false_implies, implies_true, and_true, true_and, and_self, if_true, if_false, reduceCtorEq, ne_eq, eq_self, Nat.reduceEqDiff, Nat.reduceLT, Nat.reduceLeDiff, nI_mul]
        exact t1
      · rw [e2 c] at t1
        simp (disch := first | omega | assumption) only [c, not_true_eq_false, not_false_eq_true, true_implies, false_implies, implies_true, and_true, true_and, and_self, if_true, if_false, reduceCtorEq, ne_eq, eq_self, Nat.reduceEqDiff, Nat.reduceLT, Nat.reduceLeDiff, nI_mul, Nat.one_mul, leT] at t1 ⊢
        exact t1
    · have hj' : j < 8 := by omega
      have hr := hr hj'
      have xj := x2 j hj'
      have e1 : wB M Mk o (j + 1) = wB M Mk o j + (if (Mk o).testBit j = true then md_m M j else 0) := by unfold wB; rw [sumN_s, Nat.add_assoc]
      rw [← hr, e1]
      simp (disch := first | omega | assumption) only [not_true_eq_false, not_false_eq_true, true_implies, false_implies, implies_true, and_true, true_and, and_self, if_true, if_false, reduceCtorEq, ne_eq, eq_self, Nat.reduceEqDiff, Nat.reduceLT, Nat.reduceLeDiff, leF, vpT, n0, n1, n8, g1, has', bB_0, xj, nI_clamp, nI_add, forall_eq]
      cases (Mk o).testBit j
      · simp only [not_true_eq_false, not_false_eq_true, true_implies, false_implies, implies_true, and_true, true_and, and_self, if_true, if_false, reduceCtorEq, ne_eq, eq_self, Nat.reduceEqDiff, Nat.reduceLT, Nat.reduceLeDiff, Nat.add_zero]
      · simp only [not_true_eq_false, not_false_eq_true, true_implies, false_implies, implies_true, and_true, true_and, and_self, if_true, if_false, reduceCtorEq, ne_eq, eq_self, Nat.reduceEqDiff, Nat.reduceLT, Nat.reduceLeDiff]
