/-- the aside row holds k items from p on; then the row 63 holds k of them from q on -/
def shA (D : Dy) (p k : Nat) : Dy := (D.1, fun b x => if b = 64 ∧ x < k then D.2 63 (p + x) else D.2 b x)
def shB (D : Dy) (q k : Nat) : Dy := (D.1, fun b x => if b = 63 ∧ q ≤ x ∧ x < q + k then D.2 64 (x - q) else D.2 b x)
theorem shA_0 {D : Dy} {p : Nat} : shA D p 0 = D := by
  unfold shA; congr 1; funext b x; simp
theorem shB_0 {D : Dy} {q : Nat} : shB D q 0 = D := by
  unfold shB; congr 1; funext b x; rw [if_neg (by omega)]
theorem shA_s {D : Dy} {p k : Nat} : sL (shA D p k) 64 k ((shA D p k).2 63 (p + k)) = shA D p (k + 1) := by
  unfold sL shA; congr 1; funext b x
  dsimp only
  by_cases h : b = 64
  · subst h
    by_cases e : x = k
    · subst e; simp
    · by_cases e2 : x < k
      · simp [e, e2, Nat.lt_succ_of_lt e2]
      · have : ¬ x < k + 1 := by omega
        simp [e, e2, this]
  · simp [h]
theorem shB_s {D : Dy} {q k : Nat} : sL (shB D q k) 63 (q + k) ((shB D q k).2 64 k) = shB D q (k + 1) := by
  unfold sL shB; congr 1; funext b x
  dsimp only
  by_cases h : b = 63
  · subst h
    by_cases e : x = q + k
    · subst e; simp
    · by_cases e2 : q ≤ x ∧ x < q + k
      · have : q ≤ x ∧ x < q + (k + 1) := by omega
        simp [e, e2, this]
      · have : ¬ (q ≤ x ∧ x < q + (k + 1)) := by omega
        simp [e, e2, this]
  · simp [h]
theorem sub_lt {z k i : Nat} (hz : z ≤ 60) (hk : k < 2 ^ 31) (hi : i < 2 ^ 31) : (nI z - nI k < nI i) = ¬ (i + k ≤ z) := by
  by_cases h : k ≤ z
  · rw [sub' h, ltI' (by omega) hi]; exact propext (by omega)
  · rw [show nI z - nI k = -nI (k - z) by rw [← sub' (by omega : z ≤ k), Int32.neg_sub]]
    refine propext ⟨fun _ => by omega, fun _ => Int32.lt_iff_toInt_lt.mpr ?_⟩
    rw [ng_toInt (by omega), nI_toInt hi]; omega
theorem le_sub {z k i : Nat} (hz : z ≤ 60) (hk : k < 2 ^ 31) (hi : i < 2 ^ 31) : (nI i ≤ nI z - nI k) = (i + k ≤ z) := by
  by_cases h : k ≤ z
  · rw [sub' h, leI' hi (by omega)]; exact propext (by omega)
  · rw [show nI z - nI k = -nI (k - z) by rw [← sub' (by omega : z ≤ k), Int32.neg_sub]]
    refine propext ⟨fun q => ?_, fun _ => by omega⟩
    have := Int32.le_iff_toInt_le.mp q
    rw [ng_toInt (by omega), nI_toInt hi] at this; omega
theorem m_shift {D : Dy} {t o u Zt Zo : Nat} {a2 a4 a5 : Int32} (ht : t < 6) (ho : o < 6) (hu : u < 5) (h1 : D.1 61 t = nI u) (h2 : D.1 61 o = nI u) (h3 : D.1 62 t = nI Zt) (h4 : D.1 62 o = nI Zo) (ht6 : Zt ≤ 60) (ho6 : Zo ≤ 60) {post : Int32 → Dy → Prop} (hok : ∀ i j n, a2 = nI i → a4 = nI j → a5 = nI n → i + n ≤ Zt → j + n ≤ Zo → post a5 (shB (shA D (60 * t + i) n) (60 * o + j) n)) (hno : ¬ (∃ i j n, a2 = nI i ∧ a4 = nI j ∧ a5 = nI n ∧ i + n ≤ Zt ∧ j + n ≤ Zo) → post (-13 : Int32) D) : fX12_shift (nI t) a2 (nI o) a4 a5 D post := by
  unfold fX12_shift
  refine s_isTape (fun _ => ⟨fun z => absurd z (by decide), fun _ => ?_⟩) (fun w => absurd ⟨t, ht, rfl⟩ w)
  refine s_isTape (fun _ => ⟨fun _ => ?_, fun z => absurd z (by decide)⟩) (fun w => absurd ⟨o, ho, rfl⟩ w)
  rw [nI_clamp (by omega), nI_clamp (by omega), h1, h2, h3, h4]
  refine ⟨nI_in ht (by omega), fun z => absurd z (nI_pos (by omega)), fun _ => ⟨nI_in ho (by omega), fun _ => ⟨nI_in ht (by omega), nI_in ho (by omega), fun _ => ?_, fun z => absurd rfl z⟩, fun z => absurd (nI_pos' (by omega)) z⟩⟩
  have neg : ∀ {x : Int32}, x < 0 → ∀ {i z : Nat}, i ≤ z → z ≤ 60 → x = nI i → False := fun hx i z h1 h2 e => nI_pos (n := i) (by omega) (e ▸ hx)
  refine ⟨fun c => hno ?_, fun c5 => ⟨fun c => hno ?_, fun c2 => ⟨fun c => hno ?_, fun c4 => ?_⟩⟩⟩
  · rintro ⟨i, j, n, e1, e2, e3, l1, l2⟩; exact neg c (i := n) (z := Zt) (by omega) ht6 e3
  · rintro ⟨i, j, n, e1, e2, e3, l1, l2⟩; exact neg c (i := i) (z := Zt) (by omega) ht6 e1
  · rintro ⟨i, j, n, e1, e2, e3, l1, l2⟩; exact neg c (i := j) (z := Zo) (by omega) ho6 e2
  obtain ⟨n, hn, rfl⟩ := nI_of c5
  obtain ⟨i, hi, rfl⟩ := nI_of c2
  obtain ⟨j, hj, rfl⟩ := nI_of c4
  rw [sub_lt ht6 hn hi, le_sub ho6 hn hj]
  have inj : ∀ {i' j' n' : Nat}, i' + n' ≤ Zt → j' + n' ≤ Zo → nI i = nI i' → nI j = nI j' → nI n = nI n' → i = i' ∧ j = j' ∧ n = n' := fun l1 l2 e1 e2 e3 => ⟨(nI_eq hi (by omega)).mp e1, (nI_eq hj (by omega)).mp e2, (nI_eq hn (by omega)).mp e3⟩
  refine ⟨nI_in ht (by omega), fun c => hno ?_, fun c => ⟨nI_in ho (by omega), fun c2 => ?_, fun c2 => hno ?_⟩⟩
  · rintro ⟨i', j', n', e1, e2, e3, l1, l2⟩
    obtain ⟨rfl, rfl, rfl⟩ := inj l1 l2 e1 e2 e3
    exact c l1
  · have c : i + n ≤ Zt := Classical.byContradiction c
    have hok := hok i j n rfl rfl rfl c c2
    have e0 : (0 : Int32) = nI 0 := rfl
    rw [e0]
    refine (lp2_V n nI (fun k => shA D (60 * t + i) k) (fun _ => post (nI n) (shB (shA D (60 * t + i) n) (60 * o + j) n)) (by omega) (fun k hk rec hr => ?_) rfl shA_0.symm).mpr hok
    by_cases e : k = n
    · subst e
      simp (disch := first | omega | assumption) only [JN, false_and, and_false, or_true, true_or, or_false, false_or, forall_eq, true_implies, false_implies, implies_true, and_true, true_and, and_self, not_true_eq_false, not_false_eq_true, if_true, if_false, ne_eq, eq_self, e10, e01, Nat.reduceEqDiff, Nat.reduceLT, Nat.reduceLeDiff, Nat.reduceAdd, Nat.reduceSub, Nat.reduceMul, Nat.lt_irrefl, Nat.le_refl, n0, n1, n2, n3, n4, n5, n6, n7, n8, n9, n10, n11, n12, n13, n14, n15, n16, n20, n30, n48, n50, n60, n80, n99, n100, n120, n255, n256, n1200, n5040, sI_1, sI_2, sL_1, sL_2, sLA_1, sLA_2, vpT, ltT, ltF, leT, leF, neF, ltI', leI', eqI', nI_clamp, nI_add, nI_mul, sub', adm', ngeq', ngeq2', nglt', ngle', ngle2', wi_t, wi_f, ii_t, ii_f, ix_t, ix_f, nI_and, nI_or, nI_andN, shl', isIn', has', bB_0, bB_1, bB_t, bB_f, bP_0, bP_1, bitC', ones', ltL0', geL0', leL0', gtL0', eqL0']
      refine (lp2_V k nI (fun q => shB (shA D (60 * t + i) k) (60 * o + j) q) (fun _ => post (nI k) (shB (shA D (60 * t + i) k) (60 * o + j) k)) (by omega) (fun q hq rec hr => ?_) rfl shB_0.symm)
      by_cases e : q = k
      · subst e; simp (disch := first | omega | assumption) only [JN, false_and, and_false, or_true, true_or, or_false, false_or, forall_eq, true_implies, false_implies, implies_true, and_true, true_and, and_self, not_true_eq_false, not_false_eq_true, if_true, if_false, ne_eq, eq_self, e10, e01, Nat.reduceEqDiff, Nat.reduceLT, Nat.reduceLeDiff, Nat.reduceAdd, Nat.reduceSub, Nat.reduceMul, Nat.lt_irrefl, Nat.le_refl, n0, n1, n2, n3, n4, n5, n6, n7, n8, n9, n10, n11, n12, n13, n14, n15, n16, n20, n30, n48, n50, n60, n80, n99, n100, n120, n255, n256, n1200, n5040, sI_1, sI_2, sL_1, sL_2, sLA_1, sLA_2, vpT, ltT, ltF, leT, leF, neF, ltI', leI', eqI', nI_clamp, nI_add, nI_mul, sub', adm', ngeq', ngeq2', nglt', ngle', ngle2', wi_t, wi_f, ii_t, ii_f, ix_t, ix_f, nI_and, nI_or, nI_andN, shl', isIn', has', bB_0, bB_1, bB_t, bB_f, bP_0, bP_1, bitC', ones', ltL0', geL0', leL0', gtL0', eqL0']
      · have hr := hr (by omega)
        simp (disch := first | omega | assumption) only [not_true_eq_false, not_false_eq_true, true_implies, false_implies, implies_true, and_true, true_and, and_self, if_true, if_false, reduceCtorEq, ne_eq, eq_self, Nat.reduceEqDiff, Nat.reduceLT, Nat.reduceLeDiff, leF, leT, ltT, ltF, vpT, nI_add, nI_mul, n60, n1, nI_clamp, forall_eq]
        rw [show 60 * o + j + q = (60 * o + j) + q from rfl, shB_s]
        exact hr
    · have hr := hr (by omega)
      simp (disch := first | omega | assumption) only [not_true_eq_false, not_false_eq_true, true_implies, false_implies, implies_true, and_true, true_and, and_self, if_true, if_false, reduceCtorEq, ne_eq, eq_self, Nat.reduceEqDiff, Nat.reduceLT, Nat.reduceLeDiff, leF, leT, ltT, ltF, vpT, nI_add, nI_mul, n60, n1, nI_clamp, forall_eq]
      rw [show 60 * t + i + k = (60 * t + i) + k from rfl, shA_s]
      exact hr
  · rintro ⟨i', j', n', e1, e2, e3, l1, l2⟩
    obtain ⟨rfl, rfl, rfl⟩ := inj l1 l2 e1 e2 e3
    exact c2 l2
/-- all but the tapes is as it was -/
def frP (D D' : Dy) : Prop := ∀ b x, b ≠ 24 → b ≠ 25 → b ≠ 61 → b ≠ 62 → D'.1 b x = D.1 b x
def frPL (D D' : Dy) : Prop := ∀ b x, (b < 27 ∨ 65 ≤ b) → D'.2 b x = D.2 b x
theorem p_shift {mdl : Nat → Option (Nat × Nat)} {D : Dy} {a1 a2 a3 a4 a5 : Int32} (h : RP D) : fX11_shift mdl a1 a2 a3 a4 a5 D (fun v D1 => fX12_shift a1 a2 a3 a4 a5 D1 (fun v' D2 => v = v' ∧ RP D2 ∧ frP D D2 ∧ frPL D D2)) := by
  have same : ∀ {v : Int32}, v = v ∧ RP D ∧ frP D D ∧ frPL D D := ⟨rfl, h, fun _ _ _ _ _ _ => rfl, fun _ _ _ => rfl⟩
  unfold fX11_shift
  refine w3 (m := 6) rfl (by omega) (fun q1 => ⟨fun z => absurd z (by decide), fun _ => ?_⟩) (fun q1 => ⟨fun _ => ?_, fun z => absurd rfl z⟩)
  rotate_left
  · unfold fX12_shift
    exact s_isTape (fun w => absurd w q1) (fun _ => ⟨fun _ => same, fun w => absurd rfl w⟩)
  obtain ⟨t, ht, rfl⟩ := q1
  refine w3 (m := 6) rfl (by omega) (fun q2 => ⟨fun _ => ?_, fun z => absurd z (by decide)⟩) (fun q2 => ⟨fun z => absurd rfl z, fun _ => ?_⟩)
  rotate_left
  · unfold fX12_shift
    refine s_isTape (fun _ => ⟨fun w => absurd w (by decide), fun _ => ?_⟩) (fun w => absurd ⟨t, ht, rfl⟩ w)
    exact s_isTape (fun w => absurd w q2) (fun _ => ⟨fun w => absurd rfl w, fun _ => same⟩)
  obtain ⟨o, ho, rfl⟩ := q2
  have hit : vp_in (nI t) 6 := nI_in ht (by omega)
  have hio : vp_in (nI o) 6 := nI_in ho (by omega)
  rw [nI_clamp (by omega), nI_clamp (by omega)]
  obtain ⟨⟨s1, s2⟩, s3, zt, s4, s5, s6, s7⟩ := h t ht
  obtain ⟨⟨u1, u2⟩, u3, zo, u4, u5, u6, u7⟩ := h o ho
  have m0 : ∀ {post : Int32 → Dy → Prop}, (D.1 24 t < 0 → post (-11 : Int32) D) → (¬ D.1 24 t < 0 → D.1 24 o < 0 → post (-11 : Int32) D) → (¬ D.1 24 t < 0 → ¬ D.1 24 o < 0 → D.1 24 t ≠ D.1 24 o → post (-12 : Int32) D) → (D.1 24 t < 0 ∨ D.1 24 o < 0 ∨ D.1 24 t ≠ D.1 24 o) → fX12_shift (nI t) a2 (nI o) a4 a5 D post := by
    intro post h1 h2 h3 h4
    unfold fX12_shift
    refine s_isTape (fun _ => ⟨fun z => absurd z (by decide), fun _ => ?_⟩) (fun w => absurd ⟨t, ht, rfl⟩ w)
    refine s_isTape (fun _ => ⟨fun _ => ?_, fun z => absurd z (by decide)⟩) (fun w => absurd ⟨o, ho, rfl⟩ w)
    rw [nI_clamp (by omega), nI_clamp (by omega), s1, u1]
    refine ⟨hit, fun c => h1 c, fun c => ⟨hio, fun c2 => ⟨hit, hio, fun c3 => ?_, fun c3 => h3 c (fun z => ?_) c3⟩, fun c2 => h2 c (Classical.byContradiction fun z => c2 ?_)⟩⟩
    · rcases h4 with h4 | h4 | h4
      · exact absurd h4 c
      · exact absurd (c3 ▸ h4) c
      · exact absurd c3 h4
    · exact Int32.not_lt.mpr c2 z
    · exact Int32.not_lt.mp z
  refine ⟨hit, fun c => m0 (fun _ => same) (fun z => absurd c z) (fun z => absurd c z) (Or.inl c), fun c => ⟨hio, fun c2 => ⟨hit, hio, fun c3 => ⟨hit, ?_⟩, fun c3 => m0 (fun z => absurd z c) (fun _ z => absurd z (Int32.not_lt.mpr c2)) (fun _ _ _ => same) (Or.inr (Or.inr c3))⟩, fun c2 => m0 (fun z => absurd z c) (fun _ _ => same) (fun _ z => absurd (Int32.not_lt.mp z) c2) (Or.inr (Or.inl (Classical.byContradiction fun z => c2 (Int32.not_lt.mp z))))⟩⟩
  obtain ⟨u, hu, eu⟩ : iN (D.1 24 t) 5 := by
    rcases s3 with e | e
    · rw [e] at c; exact absurd (by decide) c
    · exact e
  have eo : D.1 24 o = nI u := c3 ▸ eu
  rw [s5]
  have mno : ¬ (∃ i j n, a2 = nI i ∧ a4 = nI j ∧ a5 = nI n ∧ i + n ≤ zt ∧ j + n ≤ zo) → fX12_shift (nI t) a2 (nI o) a4 a5 D (fun v' D2 => (-13 : Int32) = v' ∧ RP D2 ∧ frP D D2 ∧ frPL D D2) := fun hn => m_shift ht ho hu (s1.trans eu) (u1.trans eo) (s2.trans s5) (u2.trans u5) s4 u4 (fun i j n e1 e2 e3 l1 l2 => absurd ⟨i, j, n, e1, e2, e3, l1, l2⟩ hn) (fun _ => same)
  refine s_fits s4 (fun i n e1 e2 l1 => ⟨fun z => absurd z (by decide), fun _ => ⟨hio, ?_⟩⟩) (fun hf => ⟨fun _ => mno ?_, fun z => absurd rfl z⟩)
  · subst e1; subst e2
    rw [u5]
    refine s_fits u4 (fun j n' e1 e2 l2 => ⟨fun _ => ⟨hit, hio, ?_⟩, fun z => absurd z (by decide)⟩) (fun hf => ⟨fun z => absurd rfl z, fun _ => mno ?_⟩)
    · have : n = n' := (nI_eq (by omega) (by omega)).mp e2
      subst this; subst e1
      rw [nI_clamp (n := i) (by omega), nI_clamp (n := j) (by omega), nI_clamp (n := n) (by omega)]
      refine ⟨⟨nI_pos (by omega), nI_pos (by omega), nI_pos (by omega), by omega, by omega⟩, ?_⟩
      rintro D1 rfl
      refine m_shift (D := sLA D (27 + o) _) ht ho hu (s1.trans eu) (u1.trans eo) (s2.trans s5) (u2.trans u5) s4 u4 (fun i' j' n' e1 e2 e3 l1' l2' => ?_) (fun hn => absurd ⟨i, j, n, rfl, rfl, rfl, l1, l2⟩ hn)
      have h1 := (nI_eq (by omega) (by omega)).mp e1
      have h2 := (nI_eq (by omega) (by omega)).mp e2
      have h3 := (nI_eq (by omega) (by omega)).mp e3
      subst h1; subst h2; subst h3
      refine ⟨rfl, fun r hr => ?_, fun b x _ _ _ _ => rfl, fun b x hb => ?_⟩
      · obtain ⟨⟨y1, y2⟩, y3, z, y4, y5, y6, y7⟩ := h r hr
        refine ⟨⟨y1, y2⟩, y3, z, y4, y5, y6, fun q hq => ?_⟩
        have n1 : ¬ (63 : Nat) = 64 := by omega
        have n2 : ¬ (27 + r = 63) := by omega
        have n3 : ¬ (27 + r = 64) := by omega
        have n4 : ¬ (63 = 27 + o) := by omega
        have n5 : ¬ (64 = 27 + o) := by omega
        have eR : (shB (shA (sLA D (27 + o) (va_cpy (D.2 (27 + t)) (D.2 (27 + o)) i j n)) (60 * t + i) n) (60 * o + j) n).2 (27 + r) q = if r = o then va_cpy (D.2 (27 + t)) (D.2 (27 + o)) i j n q else D.2 (27 + r) q := by
          unfold shB shA sLA
          dsimp only
          rw [if_neg (by omega), if_neg (by omega)]
          by_cases e : r = o
          · rw [if_pos (by omega), if_pos e]
          · rw [if_neg (by omega), if_neg e]
        have eL : (shB (shA (sLA D (27 + o) (va_cpy (D.2 (27 + t)) (D.2 (27 + o)) i j n)) (60 * t + i) n) (60 * o + j) n).2 63 (60 * r + q) = if 60 * o + j ≤ 60 * r + q ∧ 60 * r + q < 60 * o + j + n then D.2 63 (60 * t + i + (60 * r + q - (60 * o + j))) else D.2 63 (60 * r + q) := by
          unfold shB shA sLA
          dsimp only
          by_cases e : 60 * o + j ≤ 60 * r + q ∧ 60 * r + q < 60 * o + j + n
          · rw [if_pos ⟨rfl, e⟩, if_pos ⟨rfl, by omega⟩, if_neg n4, if_pos e]
          · rw [if_neg (fun z => e z.2), if_neg (by omega), if_neg n4, if_neg e]
        rw [eR, eL]
        have zr : z ≤ 60 := y4
        by_cases e : r = o
        · subst e
          rw [if_pos rfl]
          unfold va_cpy
          by_cases e2 : j ≤ q ∧ q < j + n
          · rw [if_pos (by omega), if_pos e2]
            have := s7 (i + (q - j)) (by omega)
            rw [show 60 * t + i + (60 * r + q - (60 * r + j)) = 60 * t + (i + (q - j)) by omega]; exact this
          · rw [if_neg (by omega), if_neg e2]; exact y7 q hq
        · rw [if_neg e, if_neg (by omega)]; exact y7 q hq
      · unfold shB shA sLA
        dsimp only
        rw [if_neg (by omega), if_neg (by omega), if_neg (by omega)]
    · rintro ⟨i', j', n', e1, e2, e3, l1', l2'⟩
      exact hf ⟨j', n', e2, e3, l2'⟩
  · rintro ⟨i', j', n', e1, e2, e3, l1', l2'⟩
    exact hf ⟨i', n', e1, e3, l1'⟩
