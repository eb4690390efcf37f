/-! would, must -/
theorem tkS_pos {n S s : Nat} {Q : List (Nat × Nat)} (hn : n ≤ 6) (hQ : QOK (n + 1) Q) : (0 < tkS Q (n + 1) S s 0) = ∃ v, v < fac (n + 1) ∧ agL Q (ord (n + 1) 0 v) = true ∧ fst S (ord (n + 1) 0 v) = s := by
  unfold tkS
  rw [unu0]
  refine propext (sumN_pos.trans ⟨fun ⟨v, h1, h2⟩ => ⟨v, h1, ?_⟩, fun ⟨v, h1, h2, h3⟩ => ⟨v, h1, ?_⟩⟩)
  · by_cases z : (okL Q 0 (ord (n + 1) 0 v) && fst S (ord (n + 1) 0 v) == s) = true
    · rw [ok_agQ hn hQ h1, Bool.and_eq_true, beq_iff_eq] at z; exact z
    · rw [if_neg z] at h2; omega
  · rw [if_pos (by rw [ok_agQ hn hQ h1, h2, h3]; simp)]; omega
theorem fst_in {n S v : Nat} (hn : n ≤ 6) (hv : v < fac (n + 1)) (hS : S < 2 ^ n) : fst (S ||| 2 ^ n) (ord (n + 1) 0 v) < n + 1 ∧ (S ||| 2 ^ n).testBit (fst (S ||| 2 ^ n) (ord (n + 1) 0 v)) = true := by
  rw [bst_fst hS fun s hs => ord_all hn hv hs]
  rcases (bst_is (S := S) (n := n) (l := ord (n + 1) 0 v) n (Nat.le_refl _)).1 with z | z
  · rw [z, tb_or]; simp
  · rw [tb_or, z.2]; exact ⟨by omega, rfl⟩
def wbN (f : Nat → Bool) (g : Nat → Nat) : Nat → Nat
  | 0 => 0
  | k + 1 => if f k = true then wbN f g k ||| 2 ^ g k else wbN f g k
theorem wbN_bit {f : Nat → Bool} {g : Nat → Nat} {i : Nat} : ∀ m, ((wbN f g m).testBit i = true) ↔ ∃ v, v < m ∧ f v = true ∧ g v = i
  | 0 => by simp [wbN]
  | m + 1 => by
    have ih := wbN_bit (f := f) (g := g) (i := i) m
    unfold wbN
    by_cases c : f m = true
    · rw [if_pos c, tb_or, Bool.or_eq_true, ih]
      constructor
      · rintro (⟨v, h1, h2⟩ | h)
        · exact ⟨v, by omega, h2⟩
        · exact ⟨m, by omega, c, by simpa using h⟩
      · rintro ⟨v, h1, h2, h3⟩
        by_cases e : v = m
        · subst e; right; simpa using h3
        · exact Or.inl ⟨v, by omega, h2, h3⟩
    · rw [if_neg c, ih]
      constructor
      · rintro ⟨v, h1, h2⟩; exact ⟨v, by omega, h2⟩
      · rintro ⟨v, h1, h2, h3⟩
        refine ⟨v, Nat.lt_of_not_le fun z => c ?_, h2, h3⟩
        rw [show m = v by omega]; exact h2
theorem wbN_lt {f : Nat → Bool} {g : Nat → Nat} {p : Nat} : ∀ m, (∀ v, v < m → g v < p) → wbN f g m < 2 ^ p
  | 0, _ => Nat.two_pow_pos p
  | m + 1, h => by
    unfold wbN
    split
    · exact Nat.or_lt_two_pow (wbN_lt m fun v hv => h v (by omega)) (Nat.pow_lt_pow_right (by decide) (h m (by omega)))
    · exact wbN_lt m fun v hv => h v (by omega)
theorem obN_bit {n i : Nat} {f : Nat → Nat} : ∀ m, ((obN n f m).testBit i = true) ↔ ∃ s, s < m ∧ 0 < f s ∧ cod n s = i
  | 0 => by simp [obN]
  | m + 1 => by
    have ih := obN_bit (n := n) (f := f) (i := i) m
    unfold obN
    by_cases c : 0 < f m
    · rw [if_pos c, tb_or, Bool.or_eq_true, ih]
      constructor
      · rintro (⟨v, h1, h2⟩ | h)
        · exact ⟨v, by omega, h2⟩
        · exact ⟨m, by omega, c, by simpa using h⟩
      · rintro ⟨v, h1, h2, h3⟩
        by_cases e : v = m
        · subst e; right; simpa using h3
        · exact Or.inl ⟨v, by omega, h2, h3⟩
    · rw [if_neg c, ih]
      constructor
      · rintro ⟨v, h1, h2⟩; exact ⟨v, by omega, h2⟩
      · rintro ⟨v, h1, h2, h3⟩
        refine ⟨v, Nat.lt_of_not_le fun z => c ?_, h2, h3⟩
        rw [show m = v by omega]; exact h2
/-- what a taker could take from S, as bits -/
def wld (Q : List (Nat × Nat)) (n S : Nat) : Nat := wbN (fun v => agL Q (ord (n + 1) 0 v)) (fun v => cod n (fst (S ||| 2 ^ n) (ord (n + 1) 0 v))) (fac (n + 1))
theorem wld_x {n S : Nat} {Q : List (Nat × Nat)} (hn : n ≤ 6) (hQ : QOK (n + 1) Q) (hS : S < 2 ^ n) : obN n (tkA Q (n + 1) (S ||| 2 ^ n)) (n + 1) = wld Q n S := by
  refine Nat.eq_of_testBit_eq fun i => ?_
  rw [Bool.eq_iff_iff, obN_bit, wld, wbN_bit]
  constructor
  · rintro ⟨s, h1, h2, h3⟩
    unfold tkA at h2
    by_cases b : (S ||| 2 ^ n).testBit s = true
    · rw [if_pos b, tkS_pos hn hQ] at h2
      obtain ⟨v, g1, g2, g3⟩ := h2
      exact ⟨v, g1, g2, by rw [g3]; exact h3⟩
    · rw [if_neg b] at h2; omega
  · rintro ⟨v, h1, h2, h3⟩
    obtain ⟨f1, f2⟩ := fst_in hn h1 hS
    refine ⟨_, f1, ?_, h3⟩
    unfold tkA
    rw [if_pos f2, tkS_pos hn hQ]
    exact ⟨v, h1, h2, rfl⟩
theorem wld_0 {n S : Nat} {Q : List (Nat × Nat)} (hn : n ≤ 6) (hQ : QOK (n + 1) Q) (h : sB Q (n + 1) 0 = 0) : wld Q n S = 0 := by
  have no : ∀ v, v < fac (n + 1) → agL Q (ord (n + 1) 0 v) = false := by
    intro v hv
    cases z : agL Q (ord (n + 1) 0 v)
    · rfl
    · have := (sB_pos hn hQ).mpr ⟨v, hv, z⟩; omega
  refine Nat.eq_of_testBit_eq fun i => ?_
  rw [Nat.zero_testBit, Bool.eq_false_iff]
  intro z
  obtain ⟨v, h1, h2, _⟩ := (wbN_bit _).mp z
  rw [no v h1] at h2; cases h2
theorem wld_lt {n S : Nat} {Q : List (Nat × Nat)} (hn : n ≤ 6) (hS : S < 2 ^ n) : wld Q n S < 2 ^ 8 := wbN_lt _ fun v hv => cod_lt hn (fst_in hn hv hS).1
theorem x_couldTake {D : Dy} {n k c w S : Nat} (hB : BO D n k c) (hw : w < k) (hS : S < 2 ^ n) {post : Int32 → Dy → Prop} (hp : ∀ D', frO D D' → post (nI (wld (rqD D n c w) n S)) D') : fX11_couldTake (nI w) (nI S) D post := by
  obtain ⟨hn, hk, hc, g1, g2, t1, t2, hX, hM⟩ := id hB
  obtain ⟨Q1, Q2⟩ := BO_Q (w := w) hB
  unfold fX11_couldTake
  refine x_gatherOne hn hk hc hw g1 hX fun D1 o1 G1 => ?_
  refine x_count hn (GO_A G1) fun D2 i2 h2 => ?_
  have o2 := frO_t o1 (frO_I i2 (by omega) (by omega))
  have s5 := sB_5040 (Q := rqD D n c w) hn
  refine ⟨fun z => ?_, fun z => ?_⟩
  · refine x_takes hn hS (AH_f (GO_A G1) (frI_w i2 (by omega) (by omega))) h2 fun D3 i3 h20 => ?_
    have A3 : D3.1 14 0 = nI (n + 1) := by rw [i3.2 _ _ (by omega), i2.2 _ _ (by omega)]; exact G1.1
    have wx : obN n (tkA (rqL n (cW D) (cS D) (cO D) (cU D) w c) (n + 1) (S ||| 2 ^ n)) (n + 1) = wld (rqD D n c w) n S := wld_x hn Q1 hS
    rw [x_bits hn A3 (fun s hs => ⟨h20 s hs, tkA_5040 hn⟩), wx]
    exact hp D3 (frO_t o2 (frO_I i3 (by omega) (by omega)))
  · have z0 : sB (rqD D n c w) (n + 1) 0 = 0 := by
      refine (nI_eq (b := 0) (by omega) (by omega)).mp ?_
      first | exact z | exact Classical.byContradiction z
    have := hp D2 o2
    rw [wld_0 hn Q1 z0] at this
    exact this
theorem m_wouldOf {D : Dy} {n k c w S : Nat} (hB : BO D n k c) (hK : RK D n c) (hw : w < 16) (hS : S < 2 ^ n) (hQ : QOK (n + 1) (rqD D n c w)) {post : Int32 → Dy → Prop} (hp : ∀ D', frK D D' → RK D' n c → post (nI (wld (rqD D n c w) n S)) D') : fX12_wouldOf (nI w) (nI S) D post := by
  obtain ⟨hn, hk, hc, g1, g2, t1, t2, hX, hM⟩ := id hB
  have f7 := fac7 (n := n + 1) (by omega)
  unfold fX12_wouldOf
  refine m_findAgreeing hB hK hw fun D3 k3 K3 e46 pl h57 _ _ => ?_
  have h57 : ∀ v, v < fac (n + 1) → D3.1 57 (5040 * w + v) = bB (agL (rqD D n c w) (ord (n + 1) 0 v)) := h57
  have e0 : D3.1 33 0 = nI n := (BO_k hB k3).2.2.2.2.1
  have wl := fun m (hm : m ≤ fac (n + 1)) => wbN_lt (f := fun v => agL (rqD D n c w) (ord (n + 1) 0 v)) (g := fun v => cod n (fst (S ||| 2 ^ n) (ord (n + 1) 0 v))) (p := 8) m fun v hv => cod_lt hn (fst_in hn (by omega) hS).1
  refine (lp2_V (fac (n + 1)) (fun v => nI (wbN (fun v => agL (rqD D n c w) (ord (n + 1) 0 v)) (fun v => cod n (fst (S ||| 2 ^ n) (ord (n + 1) 0 v))) v)) nI (fun _ => post (nI (wld (rqD D n c w) n S)) D3) (by omega) (fun v hv rec hr => ?_) rfl rfl).mpr (hp D3 k3 K3)
  rw [m_orders hn e0]
  by_cases e : v = fac (n + 1)
  · subst e
    simp (disch := first | omega | assumption) only [not_true_eq_false, not_false_eq_true, true_implies, false_implies, implies_true, and_true, true_and, and_self, if_true, if_false, reduceCtorEq, ne_eq, eq_self, Nat.reduceEqDiff, Nat.reduceLT, Nat.reduceLeDiff, leT, leF]
    rfl
  · have hv' : v < fac (n + 1) := by omega
    have hr := hr hv'
    have h5 := h57 v hv'
    have wv := wl v (by omega)
    have fl := (fst_in hn hv' hS).1
    have cl := cod_lt hn fl
    have mt := fun post => m_taken (post := post) hn e0 pl hv' hS
    rw [← hr, show wbN (fun v => agL (rqD D n c w) (ord (n + 1) 0 v)) (fun v => cod n (fst (S ||| 2 ^ n) (ord (n + 1) 0 v))) (v + 1) = if agL (rqD D n c w) (ord (n + 1) 0 v) = true then wbN (fun v => agL (rqD D n c w) (ord (n + 1) 0 v)) (fun v => cod n (fst (S ||| 2 ^ n) (ord (n + 1) 0 v))) v ||| 2 ^ cod n (fst (S ||| 2 ^ n) (ord (n + 1) 0 v)) else wbN (fun v => agL (rqD D n c w) (ord (n + 1) 0 v)) (fun v => cod n (fst (S ||| 2 ^ n) (ord (n + 1) 0 v))) v from rfl]
    generalize wbN (fun v => agL (rqD D n c w) (ord (n + 1) 0 v)) (fun v => cod n (fst (S ||| 2 ^ n) (ord (n + 1) 0 v))) v = bb at *
    simp (disch := first | omega | assumption) only [JN, false_and, and_false, or_true, true_or, or_false, false_or, forall_eq, true_implies, false_implies, implies_true, and_true, true_and, and_self, not_true_eq_false, not_false_eq_true, if_true, if_false, ne_eq, eq_self, e10, e01, Nat.reduceEqDiff, Nat.reduceLT, Nat.reduceLeDiff, Nat.reduceAdd, Nat.reduceSub, Nat.reduceMul, Nat.lt_irrefl, Nat.le_refl, n0, n1, n2, n3, n4, n5, n6, n7, n8, n9, n10, n11, n12, n13, n14, n15, n16, n20, n30, n48, n50, n60, n80, n99, n100, n120, n255, n256, n1200, n5040, sI_1, sI_2, sL_1, sL_2, sLA_1, sLA_2, vpT, ltT, ltF, leT, leF, neF, ltI', leI', eqI', nI_clamp, nI_add, nI_mul, sub', adm', ngeq', ngeq2', nglt', ngle', ngle2', wi_t, wi_f, ii_t, ii_f, ix_t, ix_f, nI_and, nI_or, nI_andN, shl', isIn', has', bB_0, bB_1, bB_t, bB_f, bP_0, bP_1, bitC', ones', ltL0', geL0', leL0', gtL0', eqL0', h5, mt]
    cases agL (rqD D n c w) (ord (n + 1) 0 v)
    · simp only [not_true_eq_false, not_false_eq_true, true_implies, false_implies, implies_true, and_true, true_and, and_self, if_true, if_false, reduceCtorEq, ne_eq, eq_self, Nat.reduceEqDiff, Nat.reduceLT, Nat.reduceLeDiff]
    · simp only [not_true_eq_false, not_false_eq_true, true_implies, false_implies, implies_true, and_true, true_and, and_self, if_true, if_false, reduceCtorEq, ne_eq, eq_self, Nat.reduceEqDiff, Nat.reduceLT, Nat.reduceLeDiff]
theorem p_would {D : Dy} {n k c : Nat} {a1 a2 : Int32} (hB : BO D n k c) (hK : RK D n c) : fX11_would a1 a2 D (fun v D1 => fX12_would a1 a2 D1 (fun v' D2 => v = v' ∧ RK D2 n c ∧ frC D D2)) := by
  obtain ⟨hn, hk, hc, g1, g2, t1, t2, hX, hM⟩ := id hB
  by_cases q : iN a1 k
  · obtain ⟨w, hw, rfl⟩ := q
    have hm2 : ∀ D', frO D D' → ¬ (iN a2 (2 ^ n) ∧ a2 ≠ 0) → fX12_would (nI w) a2 D' (fun v' D2 => (-2 : Int32) = v' ∧ RK D2 n c ∧ frC D D2) := by
      intro D' o h
      have B' := BO_o hB o
      unfold fX12_would
      rw [isTk_t B'.2.2.2.2.2.2.1 (by omega) hw]
      refine ⟨fun _ => ?_, fun z => absurd z (by decide)⟩
      refine s_isSet hn B'.2.2.2.2.1 (fun h1 => ⟨fun z => absurd z (by decide), fun _ => ⟨fun z => absurd ⟨h1, z⟩ h, fun _ => ⟨rfl, RK_o hK o, frC_o o⟩⟩⟩) (fun h1 => ⟨fun _ => ⟨rfl, RK_o hK o, frC_o o⟩, fun z => absurd rfl z⟩)
    unfold fX11_would
    rw [t1, wi_t hw (by omega)]
    refine ⟨fun _ => ?_, fun z => absurd z (by decide)⟩
    refine s_hasSome hn g1 (fun h1 h2 => ⟨fun z => absurd z (by decide), fun _ => ?_⟩) (fun h => ⟨fun _ => hm2 D frO_r h, fun z => absurd rfl z⟩)
    obtain ⟨S, hS, rfl⟩ := h1
    refine x_couldTake hB hw hS fun D1 o1 => ?_
    have B1 := BO_o hB o1
    unfold fX12_would
    dsimp only
    rw [isTk_t B1.2.2.2.2.2.2.1 (by omega) hw]
    refine ⟨fun _ => ?_, fun z => absurd z (by decide)⟩
    refine s_isSet hn B1.2.2.2.2.1 (fun _ => ⟨fun z => absurd z (by decide), fun _ => ⟨fun _ => ?_, fun z => absurd z h2⟩⟩) (fun h => absurd ⟨S, hS, rfl⟩ h)
    have Q1 := (BO_Q (w := w) B1).1
    refine m_wouldOf B1 (RK_o hK o1) (by omega) hS Q1 fun D2 k2 K2 => ?_
    rw [rqD_o o1]
    exact ⟨rfl, K2, frC_t (frC_o o1) (frC_k k2)⟩
  · unfold fX11_would fX12_would
    simp (disch := first | omega | assumption) only [JN, false_and, and_false, or_true, true_or, or_false, false_or, forall_eq, true_implies, false_implies, implies_true, and_true, true_and, and_self, not_true_eq_false, not_false_eq_true, if_true, if_false, ne_eq, eq_self, e10, e01, Nat.reduceEqDiff, Nat.reduceLT, Nat.reduceLeDiff, Nat.reduceAdd, Nat.reduceSub, Nat.reduceMul, Nat.lt_irrefl, Nat.le_refl, n0, n1, n2, n3, n4, n5, n6, n7, n8, n9, n10, n11, n12, n13, n14, n15, n16, n20, n30, n48, n50, n60, n80, n99, n100, n120, n255, n256, n1200, n5040, sI_1, sI_2, sL_1, sL_2, sLA_1, sLA_2, vpT, ltT, ltF, leT, leF, neF, ltI', leI', eqI', nI_clamp, nI_add, nI_mul, sub', adm', ngeq', ngeq2', nglt', ngle', ngle2', wi_t, wi_f, ii_t, ii_f, ix_t, ix_f, nI_and, nI_or, nI_andN, shl', isIn', has', bB_0, bB_1, bB_t, bB_f, bP_0, bP_1, bitC', ones', ltL0', geL0', leL0', gtL0', eqL0', t1, isTk_f t2]
    exact ⟨hK, frC_r⟩
