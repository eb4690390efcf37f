/-! tape, feed -/
def zL (D : Dy) (b p k : Nat) : Dy := (D.1, fun c x => if c = b ∧ p ≤ x ∧ x < p + k then 0 else D.2 c x)
theorem zL_0 {D : Dy} {b p : Nat} : zL D b p 0 = D := by
  unfold zL
  refine Prod.ext rfl (funext fun c => funext fun x => ?_)
  exact if_neg (by omega)
theorem zL_s {D : Dy} {b p k : Nat} : sL (zL D b p k) b (p + k) 0 = zL D b p (k + 1) := by
  unfold sL zL
  refine Prod.ext rfl (funext fun c => funext fun x => ?_)
  dsimp only
  by_cases h : c = b ∧ x = p + k
  · rw [if_pos h, if_pos (by omega)]
  · rw [if_neg h]
    by_cases h2 : c = b ∧ p ≤ x ∧ x < p + k
    · rw [if_pos h2, if_pos (by omega)]
    · rw [if_neg h2, if_neg (by omega)]
theorem zL_1 {D : Dy} {b p k : Nat} : (zL D b p k).1 = D.1 := rfl
theorem x_tape {mdl : Nat → Option (Nat × Nat)} {D : Dy} {t z : Nat} {a2 a3 : Int32} (ht : t < 6) (hz : z ≤ 60) (h : (a2 = -nI 1 ∧ z = 0) ∨ (∃ u, u < 5 ∧ a2 = nI u ∧ a3 = nI z)) {post : Int32 → Dy → Prop} : fX11_tape mdl (nI t) a2 a3 D post = post (nI 1) (zL (sI (sI D 24 t a2) 25 t (nI z)) (27 + t) 0 z) := by
  have lp : ∀ b : (Int32 → Dy → Prop) → Int32 → Dy → Prop, (∀ (rec : Int32 → Dy → Prop) k, k ≤ z → (k < z → rec (nI (k + 1)) (zL (sI (sI D 24 t a2) 25 t (nI z)) (27 + t) 0 (k + 1)) = post (nI 1) (zL (sI (sI D 24 t a2) 25 t (nI z)) (27 + t) 0 z)) → b rec (nI k) (zL (sI (sI D 24 t a2) 25 t (nI z)) (27 + t) 0 k) = post (nI 1) (zL (sI (sI D 24 t a2) 25 t (nI z)) (27 + t) 0 z)) → LP2 b FU (nI 0) (sI (sI D 24 t a2) 25 t (nI z)) = post (nI 1) (zL (sI (sI D 24 t a2) 25 t (nI z)) (27 + t) 0 z) := fun b hb => lp2_V z nI (fun k => zL (sI (sI D 24 t a2) 25 t (nI z)) (27 + t) 0 k) (fun _ => _) (by omega) (fun k hk rec hr => hb rec k hk hr) rfl zL_0.symm
  unfold fX11_tape
  rcases h with ⟨rfl, rfl⟩ | ⟨u, hu, rfl, rfl⟩
  · have e1 : ¬ (-nI 1 < -nI 1) := by decide
    have e2 : -nI 1 < nI 5 := by decide
    have e3 : ¬ nI 0 ≤ -nI 1 := by decide
    simp (disch := first | omega | assumption) only [JN, not_true_eq_false, not_false_eq_true, true_implies, false_implies, implies_true, and_true, true_and, and_self, if_true, if_false, reduceCtorEq, ne_eq, eq_self, Nat.reduceEqDiff, Nat.reduceLT, Nat.reduceLeDiff, n0, n1, n5, n6, n60, wi_t, e10, e01, e1, e2, e3, leT, leF, ltT, ltF, vpT, nI_clamp, forall_eq]
    refine lp _ fun rec k hk hr => ?_
    have : k = 0 := by omega
    subst this
    simp (disch := first | omega | assumption) only [not_true_eq_false, not_false_eq_true, true_implies, false_implies, implies_true, and_true, true_and, and_self, if_true, if_false, reduceCtorEq, ne_eq, eq_self, Nat.reduceEqDiff, Nat.reduceLT, Nat.reduceLeDiff, leT, nI_clamp]
  · have e1 : ¬ (nI u < -nI 1) := by
      intro z
      have := Int32.lt_iff_toInt_lt.mp z
      rw [nI_toInt (by omega), ng_toInt (by omega)] at this
      omega
    simp (disch := first | omega | assumption) only [JN, not_true_eq_false, not_false_eq_true, true_implies, false_implies, implies_true, and_true, true_and, and_self, if_true, if_false, reduceCtorEq, ne_eq, eq_self, Nat.reduceEqDiff, Nat.reduceLT, Nat.reduceLeDiff, n0, n1, n5, n6, n60, wi_t, e10, e01, e1, leT, leF, ltT, ltF, vpT, nI_clamp, forall_eq]
    refine lp _ fun rec k hk hr => ?_
    by_cases e : k = z
    · subst e; simp (disch := first | omega | assumption) only [not_true_eq_false, not_false_eq_true, true_implies, false_implies, implies_true, and_true, true_and, and_self, if_true, if_false, reduceCtorEq, ne_eq, eq_self, Nat.reduceEqDiff, Nat.reduceLT, Nat.reduceLeDiff, leT, leF, n60, nI_clamp]
    · have hr := hr (by omega)
      rw [← zL_s, Nat.zero_add] at hr
      simp (disch := first | omega | assumption) only [not_true_eq_false, not_false_eq_true, true_implies, false_implies, implies_true, and_true, true_and, and_self, if_true, if_false, reduceCtorEq, ne_eq, eq_self, Nat.reduceEqDiff, Nat.reduceLT, Nat.reduceLeDiff, leT, leF, vpT, nI_clamp, nI_add, n60, n0, n1, forall_eq]
      exact hr
theorem m_tape {D : Dy} {t z : Nat} {a2 a3 : Int32} (ht : t < 6) (hz : z ≤ 60) (h : (a2 = -nI 1 ∧ z = 0) ∨ (∃ u, u < 5 ∧ a2 = nI u ∧ a3 = nI z)) {post : Int32 → Dy → Prop} : fX12_tape (nI t) a2 a3 D post = post (nI 1) (zL (sI (sI D 61 t a2) 62 t (nI z)) 63 (60 * t) 60) := by
  have lp : ∀ b : (Int32 → Dy → Prop) → Int32 → Dy → Prop, (∀ (rec : Int32 → Dy → Prop) k, k ≤ 60 → (k < 60 → rec (nI (k + 1)) (zL (sI (sI D 61 t a2) 62 t (nI z)) 63 (60 * t) (k + 1)) = post (nI 1) (zL (sI (sI D 61 t a2) 62 t (nI z)) 63 (60 * t) 60)) → b rec (nI k) (zL (sI (sI D 61 t a2) 62 t (nI z)) 63 (60 * t) k) = post (nI 1) (zL (sI (sI D 61 t a2) 62 t (nI z)) 63 (60 * t) 60)) → LP2 b FU (nI 0) (sI (sI D 61 t a2) 62 t (nI z)) = post (nI 1) (zL (sI (sI D 61 t a2) 62 t (nI z)) 63 (60 * t) 60) := fun b hb => lp2_V 60 nI (fun k => zL (sI (sI D 61 t a2) 62 t (nI z)) 63 (60 * t) k) (fun _ => _) (by omega) (fun k hk rec hr => hb rec k hk hr) rfl zL_0.symm
  have body : ∀ (rec : Int32 → Dy → Prop) k, k ≤ 60 → (k < 60 → rec (nI (k + 1)) (zL (sI (sI D 61 t a2) 62 t (nI z)) 63 (60 * t) (k + 1)) = post (nI 1) (zL (sI (sI D 61 t a2) 62 t (nI z)) 63 (60 * t) 60)) → ((nI 60 ≤ nI k → post (nI 1) (zL (sI (sI D 61 t a2) 62 t (nI z)) 63 (60 * t) k)) ∧ (¬ nI 60 ≤ nI k → (vp_in (nI 60 * nI t + nI k) 360 ∧ rec (nI k + nI 1) (sL (zL (sI (sI D 61 t a2) 62 t (nI z)) 63 (60 * t) k) 63 (nI 60 * nI t + nI k).toNatClampNeg 0)))) = post (nI 1) (zL (sI (sI D 61 t a2) 62 t (nI z)) 63 (60 * t) 60) := by
    intro rec k hk hr
    by_cases e : k = 60
    · subst e; simp (disch := first | omega | assumption) only [not_true_eq_false, not_false_eq_true, true_implies, false_implies, implies_true, and_true, true_and, and_self, if_true, if_false, reduceCtorEq, ne_eq, eq_self, Nat.reduceEqDiff, Nat.reduceLT, Nat.reduceLeDiff, leT]
    · have hr := hr (by omega)
      rw [← zL_s] at hr
      simp (disch := first | omega | assumption) only [not_true_eq_false, not_false_eq_true, true_implies, false_implies, implies_true, and_true, true_and, and_self, if_true, if_false, reduceCtorEq, ne_eq, eq_self, Nat.reduceEqDiff, Nat.reduceLT, Nat.reduceLeDiff, leF, nI_mul, nI_add, vpT, nI_clamp]
      exact hr
  unfold fX12_tape fX12_isTape fX12_in
  rcases h with ⟨rfl, rfl⟩ | ⟨u, hu, rfl, rfl⟩
  · have e1 : ¬ (-nI 1 < -nI 1) := by decide
    have e2 : ¬ nI 4 < -nI 1 := by decide
    have e3 : ¬ nI 0 ≤ -nI 1 := by decide
    have e4 : -nI 1 < nI 0 := by decide
    simp (disch := first | omega | assumption) only [JN, not_true_eq_false, not_false_eq_true, true_implies, false_implies, implies_true, and_true, true_and, and_self, if_true, if_false, reduceCtorEq, ne_eq, eq_self, Nat.reduceEqDiff, Nat.reduceLT, Nat.reduceLeDiff, n0, n1, n4, n5, n6, n60, ix_t, e10, e01, e1, e2, e3, e4, leT, leF, ltT, ltF, vpT, nI_clamp, forall_eq, or_true, or_false, true_or, false_or]
    exact lp _ body
  · have e1 : ¬ (nI u < -nI 1) := by
      intro z
      have := Int32.lt_iff_toInt_lt.mp z
      rw [nI_toInt (by omega), ng_toInt (by omega)] at this
      omega
    simp (disch := first | omega | assumption) only [JN, not_true_eq_false, not_false_eq_true, true_implies, false_implies, implies_true, and_true, true_and, and_self, if_true, if_false, reduceCtorEq, ne_eq, eq_self, Nat.reduceEqDiff, Nat.reduceLT, Nat.reduceLeDiff, n0, n1, n4, n5, n6, n60, ix_t, e10, e01, e1, leT, leF, ltT, ltF, vpT, nI_clamp, forall_eq, or_true, or_false, true_or, false_or]
    exact lp _ body
theorem p_tape {mdl : Nat → Option (Nat × Nat)} {D : Dy} {a1 a2 a3 : Int32} (h : RP D) : fX11_tape mdl a1 a2 a3 D (fun v D1 => fX12_tape a1 a2 a3 D1 (fun v' D2 => v = v' ∧ RP D2 ∧ frP D D2 ∧ frPL D D2)) := by
  have same : ∀ {v : Int32}, v = v ∧ RP D ∧ frP D D ∧ frPL D D := ⟨rfl, h, fun _ _ _ _ _ _ => rfl, fun _ _ _ => rfl⟩
  by_cases q1 : iN a1 6
  · obtain ⟨t, ht, rfl⟩ := q1
    by_cases q2 : ∃ z, z ≤ 60 ∧ ((a2 = -nI 1 ∧ z = 0) ∨ (∃ u, u < 5 ∧ a2 = nI u ∧ a3 = nI z))
    · obtain ⟨z, hz, hh⟩ := q2
      rw [x_tape ht hz hh, m_tape ht hz hh]
      refine ⟨rfl, fun r hr => ?_, fun b x g1 g2 g3 g4 => ?_, fun b x hb => ?_⟩
      · obtain ⟨⟨y1, y2⟩, y3, z', y4, y5, y6, y7⟩ := h r hr
        by_cases e : r = t
        · subst e
          refine ⟨⟨by simp [zL, sI], by simp [zL, sI]⟩, ?_, z, hz, by simp [zL, sI], fun e => ?_, fun j hj => ?_⟩
          · have : (zL (sI (sI (zL (sI (sI D 24 r a2) 25 r (nI z)) (27 + r) 0 z) 61 r a2) 62 r (nI z)) 63 (60 * r) 60).1 24 r = a2 := by simp [zL, sI]
            rw [this]
            rcases hh with ⟨hh, _⟩ | ⟨u, hu, hh, _⟩
            · exact Or.inl hh
            · exact Or.inr ⟨u, hu, hh⟩
          · have : (zL (sI (sI (zL (sI (sI D 24 r a2) 25 r (nI z)) (27 + r) 0 z) 61 r a2) 62 r (nI z)) 63 (60 * r) 60).1 24 r = a2 := by simp [zL, sI]
            rw [this] at e
            rcases hh with ⟨_, hh⟩ | ⟨u, hu, hh, _⟩
            · exact hh
            · rw [hh] at e
              have := ngeq' (a := u) (b := 1) (by omega) (by omega) (by omega)
              exact absurd e (fun z => this.mp z)
          · unfold zL sI
            dsimp only
            rw [if_pos (by omega), if_neg (by omega), if_pos (by omega)]
        · refine ⟨⟨by simp [zL, sI, e, y1], by simp [zL, sI, e, y2]⟩, by simpa [zL, sI, e] using y3, z', y4, by simpa [zL, sI, e] using y5, by simpa [zL, sI, e] using y6, fun j hj => ?_⟩
          have := y7 j hj
          unfold zL sI
          dsimp only
          rw [if_neg (by omega), if_neg (by omega), if_neg (by omega), if_neg (by omega)]
          exact this
      · unfold zL sI
        dsimp only
        rw [if_neg (by omega), if_neg (by omega), if_neg (by omega), if_neg (by omega)]
      · unfold zL sI
        dsimp only
        rw [if_neg (by omega), if_neg (by omega)]
    · have hx : ∀ post : Int32 → Dy → Prop, (∀ v, ((v = (-2 : Int32) ∧ (a2 < -1 ∨ ¬ a2 < 5 ∨ (¬ a2 < 0 ∧ ¬ a3 ≤ 60))) ∨ (v = (-14 : Int32) ∧ ¬ a2 < -1 ∧ a2 < 5 ∧ 0 ≤ a2 ∧ a3 ≤ 60 ∧ ¬ 0 ≤ a3)) → post v D) → fX11_tape mdl (nI t) a2 a3 D post := by
        intro post hp
        unfold fX11_tape
        refine w3 (m := 6) rfl (by omega) (fun _ => ⟨fun _ => ?_, fun z => absurd z (by decide)⟩) (fun z => absurd ⟨t, ht, rfl⟩ z)
        refine ⟨fun c => hp _ (Or.inl ⟨rfl, Or.inl c⟩), fun c => ⟨fun c2 => ?_, fun c2 => hp _ (Or.inl ⟨rfl, Or.inr (Or.inl c2)⟩)⟩⟩
        refine ⟨fun c3 => ⟨fun c4 => ⟨fun c5 => ?_, fun c5 => hp _ (Or.inr ⟨rfl, c, c2, c3, c4, c5⟩)⟩, fun c4 => hp _ (Or.inl ⟨rfl, Or.inr (Or.inr ⟨Int32.not_lt.mpr c3, c4⟩)⟩)⟩, fun c3 => ?_⟩
        · exfalso
          obtain ⟨u, hu, rfl⟩ := nI_of (Int32.not_lt.mpr c3)
          obtain ⟨z, hz, rfl⟩ := nI_of (Int32.not_lt.mpr c5)
          refine q2 ⟨z, ?_, Or.inr ⟨u, ?_, rfl, rfl⟩⟩
          · exact (leI' hz (by omega)).mp c4
          · exact (ltI' hu (by omega)).mp c2
        · exfalso
          refine q2 ⟨0, by omega, Or.inl ⟨m1_of (Int32.not_le.mp c3) (Int32.not_lt.mp c), rfl⟩⟩
      refine hx _ fun v hv => ?_
      have hv2 : (a2 < -1 ∨ ¬ a2 < 5 ∨ (¬ a2 < 0 ∧ ¬ a3 ≤ 60)) → v = -2 := by
        rcases hv with ⟨e, _⟩ | ⟨e, g1, g2, g3, g4, g5⟩
        · exact fun _ => e
        · rintro (c | c | c)
          · exact absurd c g1
          · exact absurd g2 c
          · exact absurd g4 c.2
      have hv14 : ¬ a2 < -1 → a2 < 5 → ¬ a2 < 0 → a3 ≤ 60 → ¬ 0 ≤ a3 → v = -14 := by
        intro g1 g2 g3 g4 g5
        rcases hv with ⟨e, c | c | c⟩ | ⟨e, _⟩
        · exact absurd c g1
        · exact absurd g2 c
        · exact absurd g4 c.2
        · exact e
      have l5 : (a2 < 5) ↔ ¬ (4 < a2) := by
        rw [Int32.lt_iff_toInt_lt, Int32.lt_iff_toInt_lt, show (5 : Int32).toInt = 5 by decide, show (4 : Int32).toInt = 4 by decide]
        omega
      have same' : ∀ {w : Int32}, v = w → v = w ∧ RP D ∧ frP D D ∧ frPL D D := fun e => ⟨e, h, fun _ _ _ _ _ _ => rfl, fun _ _ _ => rfl⟩
      unfold fX12_tape fX12_in
      refine s_isTape (fun _ => ⟨fun _ => ?_, fun z => absurd z (by decide)⟩) (fun z => absurd ⟨t, ht, rfl⟩ z)
      refine ⟨fun c => ⟨fun _ => same' (hv2 (Or.inl c)), fun z => absurd rfl z⟩, fun c => ⟨fun c2 => ⟨fun _ => same' (hv2 (Or.inr (Or.inl fun z => l5.mp z c2))), fun z => absurd rfl z⟩, fun c2 => ⟨fun z => absurd z (by decide), fun _ => ?_⟩⟩⟩
      have c2' := l5.mpr c2
      refine ⟨fun c3 => ?_, fun c3 => ⟨fun c4 => ?_, fun c4 => same' (hv2 (Or.inr (Or.inr ⟨c3, c4⟩)))⟩⟩
      · exact absurd ⟨0, by omega, Or.inl ⟨m1_of c3 (Int32.not_lt.mp c), rfl⟩⟩ q2
      · refine ⟨fun z => absurd z c3, fun _ => ⟨fun c5 => ?_, fun c5 => same' (hv14 c c2' c3 c4 c5)⟩⟩
        exfalso
        obtain ⟨u, hu, rfl⟩ := nI_of c3
        obtain ⟨z, hz, rfl⟩ := nI_of (Int32.not_lt.mpr c5)
        exact q2 ⟨z, (leI' hz (by omega)).mp c4, Or.inr ⟨u, (ltI' hu (by omega)).mp c2', rfl, rfl⟩⟩
  · have q3 : ¬ iN a1 6 := q1
    unfold fX11_tape fX12_tape
    refine w3 (m := 6) rfl (by omega) (fun z => absurd z q1) (fun _ => ⟨fun z => absurd rfl z, fun _ => ?_⟩)
    exact s_isTape (fun z => absurd z q1) (fun _ => ⟨fun z => absurd rfl z, fun _ => same⟩)
