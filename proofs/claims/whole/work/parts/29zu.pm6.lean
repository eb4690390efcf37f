section
/-! MODELS: best -/
theorem sI_self {D : Dy} {a k : Nat} : sI D a k (D.1 a k) = D := by
  refine Prod.ext (funext fun b => funext fun y => ?_) rfl
  rw [sI_1]
  by_cases z : b = a ∧ y = k
  · rw [if_pos z, z.1, z.2]
  · rw [if_neg z]
theorem upN_upN {f : Nat → Nat} {x p q : Nat} : upN (upN f x p) x q = upN f x q := by
  funext i
  unfold upN
  by_cases c : i = x
  · rw [if_pos c, if_pos c]
  · rw [if_neg c, if_neg c, if_neg c]
theorem upN_i {f : Nat → Nat} {x p i : Nat} : upN f x p i = if i = x then p else f i := rfl
theorem XG_p {D : Dy} {n x p : Nat} {Mk Pr Ne : Nat → Nat} (h : XG D n Mk Pr Ne) (hp : p < 100) : XG (sI D 3 x (nI p)) n Mk (upN Pr x p) Ne := by
  obtain ⟨h1, h2, h3⟩ := h
  refine ⟨h1, by rw [sI_1, if_neg (by omega)]; exact h2, fun i hi => ?_⟩
  obtain ⟨g1, g2, g3⟩ := h3 i hi
  have e2 : (sI D 3 x (nI p)).1 2 i = D.1 2 i := by rw [sI_1, if_neg (by omega)]
  have e4 : (sI D 3 x (nI p)).1 4 i = D.1 4 i := by rw [sI_1, if_neg (by omega)]
  rw [e2, e4, sI_1, upN_i]
  refine ⟨g1, ?_, g3⟩
  by_cases c : i = x
  · rw [if_pos ⟨rfl, c⟩, if_pos c]; exact ⟨rfl, hp⟩
  · rw [if_neg (fun z => c z.2), if_neg c]; exact g2
theorem MG_p {D : Dy} {n x p : Nat} {Mk Pr Ne : Nat → Nat} (h : MG D n Mk Pr Ne) (hp : p < 100) : MG (sI D 35 x (nI p)) n Mk (upN Pr x p) Ne := by
  obtain ⟨h1, h2, h3⟩ := h
  refine ⟨h1, by rw [sI_1, if_neg (by omega)]; exact h2, fun i hi => ?_⟩
  obtain ⟨g1, g2, g3⟩ := h3 i hi
  have e2 : (sI D 35 x (nI p)).1 34 i = D.1 34 i := by rw [sI_1, if_neg (by omega)]
  have e4 : (sI D 35 x (nI p)).1 36 i = D.1 36 i := by rw [sI_1, if_neg (by omega)]
  rw [e2, e4, sI_1, upN_i]
  refine ⟨g1, ?_, g3⟩
  by_cases c : i = x
  · rw [if_pos ⟨rfl, c⟩, if_pos c]; exact ⟨rfl, hp⟩
  · rw [if_neg (fun z => c z.2), if_neg c]; exact g2
theorem XQ_p {D : Dy} {t n x p : Nat} {R : RS} {Mk Pr Ne : Nat → Nat} (h : XQ D t n R Mk Pr Ne) (hp : p < 100) : XQ (sI D 3 x (nI p)) t n R Mk (upN Pr x p) Ne := by
  obtain ⟨h1, h2, h3, h4, h5, h6, h7, h8, h9⟩ := h
  have e : ∀ a y, a ≠ 3 → (sI D 3 x (nI p)).1 a y = D.1 a y := fun a y z => by rw [sI_1, if_neg (fun q => z q.1)]
  exact ⟨XG_p h1 hp, h2, h3, XM_c h4 fun a y ha => e _ _ (by omega), ⟨by rw [e _ _ (by omega)]; exact h5.1, fun i hi => by rw [e _ _ (by omega)]; exact h5.2 i hi⟩, ⟨by rw [e _ _ (by omega)]; exact h6.1, fun j hj => by rw [e _ _ (by omega)]; exact h6.2 j hj⟩, h7, h8, h9⟩
/-- one model of both, at any prices -/
theorem AB_p {mdl : Nat → Option (Nat × Nat)} {T n k c m i : Nat} {Mk Pr Ne W S O U K : Nat → Nat} {D : Dy} (h : AB mdl T D n k c m Mk Pr Ne W S O U K) (hi : i < m) : ∃ t kd R, mdl i = some (t, kd) ∧ i < 10 ∧ kd < 6 ∧ XQ D t n R Mk Pr Ne ∧ ∀ D' Pr', (∀ a y, a = 43 ∨ a = 44 ∨ a = 45 → D'.1 a y = D.1 a y) → MG D' n Mk Pr' Ne → ∀ post : Int32 → Dy → Prop, (∀ D2, frQ D' D2 → MOq D2 i kd n R Mk Pr' Ne → post 1 D2) → fX12_listen (nI i) D' post := by
  obtain ⟨h1, h2, h3, h4, h5, h6, h7, h8⟩ := id h
  obtain ⟨t, kd, e, k1, k2, k3, k4, -⟩ := h6.2.2.2 i hi
  obtain ⟨t', kd', L, b, R, e', q⟩ := h7 i hi
  rw [e] at e'
  injection e' with e'
  injection e' with e1 e2
  subst e1
  subst e2
  have m10 := h6.1
  obtain ⟨q1, q2, q3, q4, q5, q6, q7, q8, q9, q10, q11⟩ := id q
  have hH : okH R := q5 ▸ rTx_H q4
  refine ⟨t, kd, R, e, by omega, k1, ⟨h1, k2, q6, q7, q8, q9, q10, q11, hH⟩, fun D' Pr' f g2 post hp => ?_⟩
  refine m_listen (b := b) (L := L) (by omega) q1 (by rw [f _ _ (by omega)]; exact q2) (fun x hx => by rw [f _ _ (by omega)]; exact q3 x hx) q4 fun D2 f2 l2 => hp D2 f2 ?_
  rw [← q5] at l2
  obtain ⟨l3, l4, l5⟩ := l2
  have g3 : MG D2 n Mk Pr' Ne := MG_c g2 fun a y ha => f2.2 _ _ (by omega) (by omega)
  refine ⟨⟨q6, l3, g3⟩, by rw [f2.2 _ _ (by omega) (by omega), f _ _ (by omega)]; exact k4, l4, q11, fun j hj x hx => ?_⟩
  have n6 := h1.1
  obtain ⟨v, v1, v2⟩ := l5 x (by omega) j hj
  obtain ⟨⟨r1, r2⟩, ⟨r3, r4⟩, ⟨r5, r6⟩⟩ := g2.2.2 x hx
  have mem : R.2.getD j [] ∈ R.2 := by
    rw [List.getD_eq_getElem?_getD, List.getElem?_eq_getElem hj]; exact List.getElem_mem hj
  rw [hN_M r1 r3 r5 r2 r4 r6 (hH _ mem) v2]
  exact v1
theorem wq_z {f : Nat → Nat} : ∀ j, (wq f (fun _ => 0) 0 j).2.2 = 0
  | 0 => rfl
  | j + 1 => by
    rw [wq_s]
    split
    · rfl
    · exact wq_z j
theorem wq_0 {f : Nat → Nat} {j : Nat} : wq f (fun _ => 0) 0 (j + 1) = if (wq f (fun _ => 0) 0 j).2.1 < f (j + 1) then (j + 1, f (j + 1), 0) else wq f (fun _ => 0) 0 j := by
  rw [wq_s, Nat.zero_add]
  by_cases c : (wq f (fun _ => 0) 0 j).2.1 < f (j + 1)
  · rw [if_pos (Or.inl c), if_pos c]
  · rw [if_neg (by rintro (z | z); exact c z; exact absurd z.2 (by rw [wq_z]; omega)), if_neg c]
theorem wq_c {f : Nat → Nat} {b : Nat} : ∀ j, (∀ i, i ≤ j → f i ≤ b) → (wq f (fun _ => 0) 0 j).1 ≤ j ∧ (wq f (fun _ => 0) 0 j).2.1 ≤ b
  | 0, h => ⟨Nat.le_refl _, h 0 (Nat.le_refl _)⟩
  | j + 1, h => by
    obtain ⟨h1, h2⟩ := wq_c (f := f) (b := b) j (fun i hi => h i (by omega))
    rw [wq_0]
    split
    · exact ⟨Nat.le_refl _, h _ (Nat.le_refl _)⟩
    · exact ⟨by omega, h2⟩
theorem p_best {mdl : Nat → Option (Nat × Nat)} {T n k c m : Nat} {Mk Pr Ne W S O U K : Nat → Nat} {D : Dy} {a1 a2 a3 : Int32} (h : AB mdl T D n k c m Mk Pr Ne W S O U K) : fX11_best mdl a1 a2 a3 D (fun v D1 => fX12_best a1 a2 a3 D1 (fun v' D2 => v = v' ∧ frA mdl m D D2)) := by
  have hB := h.2.2.2.2.2.1
  obtain ⟨m1, m2, m3, -⟩ := id hB
  obtain ⟨k16, t1, t2, t3⟩ := h.2.2.2.2.2.2.2
  have n6 := h.1.1
  have pw := pw6 n6
  have g0 := h.2.1.2.1
  have no : ¬ (iN a1 m ∧ iN a2 n) → fX12_best a1 a2 a3 D (fun v' D2 => (-1 : Int32) = v' ∧ frA mdl m D D2) := by
    intro z
    unfold fX12_best
    by_cases q : iN a1 m
    · obtain ⟨i, hi, rfl⟩ := q
      rw [isMo_t m3 (by omega) hi]
      refine ⟨fun w => absurd w (by decide), fun _ => ?_⟩
      rw [isTh_f g0 (by omega) (fun y => z ⟨⟨i, hi, rfl⟩, y⟩)]
      exact ⟨fun w => absurd rfl w, fun _ => ⟨rfl, frA_r⟩⟩
    · rw [isMo_f m3 (by omega) q]
      exact ⟨fun _ => ⟨rfl, frA_r⟩, fun w => absurd rfl w⟩
  unfold fX11_best
  refine x_modelAt m1 m2 (fun i hi e => ?_) (fun q => ⟨fun _ => no fun w => q w.1, fun t kd z => (by cases z)⟩)
  subst e
  obtain ⟨t, kd, R, e, i10, k6, hX, hear⟩ := AB_p h hi
  rw [e]
  refine ⟨fun z => (by cases z), fun t' kd' z => ?_⟩
  injection z with z
  injection z with z1 z2
  subst z1
  subst z2
  have ht := hX.2.1
  refine s_has ?_
  rw [h.1.2.1]
  by_cases q : iN a2 n
  · rw [bI_t ((in_iff (by omega)).mpr q)]
    obtain ⟨x, hx, rfl⟩ := id q
    have vx : vp_in (nI x) 6 := nI_in (by omega) (by omega)
    refine ⟨fun _ => ?_, fun w => absurd w (by decide)⟩
    have bad : ¬ (∃ s, s < 2 ^ n ∧ a3 = nI s ∧ s.testBit x = true) → fX12_best (nI i) (nI x) a3 D (fun v' D2 => (-2 : Int32) = v' ∧ frA mdl m D D2) := by
      intro z
      unfold fX12_best
      rw [isMo_t m3 (by omega) hi]
      refine ⟨fun w => absurd w (by decide), fun _ => ?_⟩
      rw [isTh_t g0 (by omega) hx]
      refine ⟨fun _ => s_isSet n6 g0 (fun q3 => ⟨fun w => absurd w (by decide), fun _ => ?_⟩) (fun _ => ⟨fun _ => ⟨rfl, frA_r⟩, fun w => absurd rfl w⟩), fun w => absurd w (by decide)⟩
      obtain ⟨s, hs, rfl⟩ := q3
      rw [has' (by omega) (by omega)]
      refine ⟨fun w => absurd ⟨s, hs, rfl, by rw [n0, bB_0] at w; simpa using w⟩ z, fun _ => ⟨rfl, frA_r⟩⟩
    refine s_hasSome n6 h.1.2.1 (fun q3 q3' => ⟨fun w => absurd w (by decide), fun _ => ?_⟩) (fun q3 => ⟨fun _ => bad ?_, fun w => absurd rfl w⟩)
    · obtain ⟨s, hs, rfl⟩ := id q3
      rw [isIn' (by omega) (by omega)]
      refine ⟨fun hb => ⟨vx, ?_⟩, fun hb => bad ?_⟩
      · have hb : s.testBit x = true := by rw [n0, bB_0] at hb; simpa using hb
        rw [nI_clamp (n := x) (by omega)]
        rintro v25 rfl
        generalize hf : (fun p => coN kd R Mk (upN Pr x p) Ne n s K k) = f
        have hf' : ∀ p, coN kd R Mk (upN Pr x p) Ne n s K k = f p := fun p => by rw [← hf]
        have fb : ∀ p, p < 100 → f p ≤ 10000000 := fun p hp => by
          rw [← hf']
          exact coN_le hX.2.2.1 h.2.2.1 n6 k16 (fun i hi => by rw [upN_i]; split; exact hp; exact xg_p h.1 i hi) hs
        refine lp4_I 100 (fun j v27 v28 v29 D' => v29 = nI j ∧ (∀ p, p < 100 → XQ (sI D' 3 x (nI p)) t n R Mk (upN Pr x p) Ne) ∧ frT t kd D (sI D' 3 x (D.1 3 x)) ∧ ((j = 0 ∧ v28 = -nI 1) ∨ (∃ i, j = i + 1 ∧ v27 = nI (wq f (fun _ => 0) 0 i).1 ∧ v28 = nI (wq f (fun _ => 0) 0 i).2.1))) (by omega) (fun j hj v27 v28 v29 D' hv rec hr => ?_) ⟨rfl, fun p hp => XQ_p hX hp, by rw [sI_self]; exact frT_r, Or.inl ⟨rfl, rfl⟩⟩
        obtain ⟨rfl, q1, f1, st⟩ := hv
        by_cases ej : j = 100
        · subst ej
          refine ⟨fun _ => ⟨vx, ?_⟩, fun z => absurd (Int32.le_refl _) z⟩
          rintro D34 rfl
          have fA := frT_A hi e f1
          have A1 := AB_A h fA
          generalize sI D' 3 x (D.1 3 x) = D1 at fA A1
          obtain ⟨i0, ei, rfl, -⟩ : ∃ i, 100 = i + 1 ∧ v27 = nI (wq f (fun _ => 0) 0 i).1 ∧ v28 = nI (wq f (fun _ => 0) 0 i).2.1 := by
            rcases st with ⟨z, -⟩ | z
            · omega
            · exact z
          show fX12_best (nI i) (nI x) (nI s) D1 _
          unfold fX12_best
          rw [isMo_t A1.2.2.2.2.2.1.2.2.1 (by omega) hi]
          refine ⟨fun w => absurd w (by decide), fun _ => ?_⟩
          rw [isTh_t A1.2.1.2.1 (by omega) hx]
          refine ⟨fun _ => s_isSet n6 A1.2.1.2.1 (fun _ => ⟨fun w => absurd w (by decide), fun _ => ?_⟩) (fun w => absurd q3 w), fun w => absurd w (by decide)⟩
          rw [has' (by omega) (by omega), hb]
          refine ⟨fun _ => ⟨vx, ?_⟩, fun w => absurd w (by decide)⟩
          rw [nI_clamp (n := x) (by omega)]
          rintro v25 rfl
          refine lp4_I 100 (fun j v27 w28 v29 D' => v29 = nI j ∧ (∀ p, p < 100 → MG (sI D' 35 x (nI p)) n Mk (upN Pr x p) Ne) ∧ frA mdl m D (sI D' 35 x (D1.1 35 x)) ∧ ((j = 0 ∧ w28 = -1) ∨ (∃ i, j = i + 1 ∧ v27 = nI (wq f (fun _ => 0) 0 i).1 ∧ w28 = lN (wq f (fun _ => 0) 0 i).2.1))) (by omega) (fun j hj v27 w28 v29 D' hv rec hr => ?_) ⟨rfl, fun p hp => MG_p A1.2.1 hp, by rw [sI_self]; exact fA, Or.inl ⟨rfl, rfl⟩⟩
          obtain ⟨rfl, q1, f1, st⟩ := hv
          by_cases ej : j = 100
          · refine ⟨fun _ => ⟨vx, ?_⟩, fun z => absurd (nI_le (a := 100) (by omega) (by omega)) z⟩
            rintro D34 rfl
            rcases st with ⟨z, -⟩ | ⟨i1, e1, rfl, -⟩
            · omega
            · have : i1 = i0 := by omega
              subst this
              exact ⟨rfl, f1⟩
          · have hj' : j < 100 := by omega
            refine ⟨fun z => absurd z (nI_ge (b := 100) hj' (by omega)), fun _ => ⟨vx, ?_⟩⟩
            rintro D36 rfl
            have ne : ∀ a y, ¬ (a = 35 ∧ y = x) → (sI D' 35 x (nI j)).1 a y = (sI D' 35 x (D1.1 35 x)).1 a y := fun a y z => by rw [sI_1, if_neg z, sI_1, if_neg z]
            refine hear (sI D' 35 x (nI j)) (upN Pr x j) (fun a y ha => ?_) (q1 j hj') _ fun D3 f3 q3 => ?_
            · rw [ne _ _ (by omega)]; exact frA_low hB f1 (by omega) (by omega) (by omega)
            · have lo : ∀ a y, a < 65 → ¬ (a = 35 ∧ y = x) → ¬ (a = 33 ∧ sc33 y) → ¬ (47 ≤ a ∧ a ≤ 53) → D3.1 a y = D.1 a y := fun a y z1 z2 z3 z4 => by
                rw [f3.2 a y z3 z4, ne a y z2]; exact frA_low hB f1 z1 z3 z4
              refine JN_2 (fun w D5 => w = lN (f j) ∧ frQo D3 D5) (fun w D5 hv => ?_) (fun K46 hK46 => ⟨fun w => absurd w (by decide), fun _ => ?_⟩)
              · obtain ⟨rfl, f5⟩ := hv
                have next : ∀ v48 w49, (v48 = nI (wq f (fun _ => 0) 0 j).1 ∧ w49 = lN (wq f (fun _ => 0) 0 j).2.1) → ∀ v52 : Int32, v52 = nI j + 1 → rec v48 w49 v52 D5 := by
                  rintro v48 w49 ⟨rfl, rfl⟩ v52 rfl
                  rw [nI_1]
                  refine hr hj' _ _ _ _ ⟨rfl, fun p hp => ?_, ?_, Or.inr ⟨j, rfl, rfl, rfl⟩⟩
                  · have := MG_p (x := x) (p := p) (MG_c (D' := D5) q3.1.2.2 fun a y _ => by rw [f5.1]) hp
                    rw [upN_upN] at this
                    exact this
                  · refine ⟨fun b y h1 h2 h3 => ?_, fun b y h1 h2 => ?_⟩
                    · rw [sI_1]
                      by_cases z : b = 35 ∧ y = x
                      · rw [if_pos z]
                        have := f1.1 b y h1 h2 h3
                        rw [sI_1, if_pos z] at this
                        exact this
                      · rw [if_neg z, f5.1, f3.2 b y (fun w => h2 w) h3, ne b y z]; exact f1.1 b y h1 h2 h3
                    · show D5.2 b y = D.2 b y
                      rw [f5.2 b y h2, f3.1]; exact f1.2 b y h1 h2
                refine JN_2 (fun v48 w49 => v48 = nI (wq f (fun _ => 0) 0 j).1 ∧ w49 = lN (wq f (fun _ => 0) 0 j).2.1) next (fun K50 hK50 => ?_)
                have fj := fb j hj'
                rcases st with ⟨rfl, rfl⟩ | ⟨i1, rfl, rfl, rfl⟩
                · refine ⟨fun _ => hK50 _ _ ⟨rfl, rfl⟩, fun z => absurd ?_ z⟩
                  refine (lg_cmp_gt _ _).mpr (Int64.lt_iff_toInt_lt.mpr ?_)
                  rw [pk_lT (by omega)]
                  have : (-1 : Int64).toInt = -1 := by decide
                  rw [this]; omega
                · obtain ⟨w1, w2⟩ := wq_c (f := f) (b := 10000000) i1 (fun i hi => fb i (by omega))
                  refine ⟨fun z => hK50 _ _ ?_, fun z => hK50 _ _ ?_⟩
                  · have z := (pk_lLT (by omega) (by omega)).mp ((lg_cmp_gt _ _).mp z)
                    rw [wq_0, if_pos z]; exact ⟨rfl, rfl⟩
                  · have z : ¬ (wq f (fun _ => 0) 0 i1).2.1 < f (i1 + 1) := fun w => z ((lg_cmp_gt _ _).mpr ((pk_lLT (by omega) (by omega)).mpr w))
                    rw [wq_0, if_neg z]; exact ⟨rfl, rfl⟩
              · refine m_coinOf q3 i10 k6 h.2.2.1 k16 (by rw [lo _ _ (by omega) (by omega) (by unfold sc33; omega) (by omega)]; exact t1) (fun i hi => by rw [lo _ _ (by omega) (by omega) (by omega) (by omega)]; exact t2 i hi) hs fun D5 f5 => hK46 _ _ ⟨by rw [hf'], f5⟩
        · have hj' : j < 100 := by omega
          refine ⟨fun z => absurd z (nI_ge (b := 100) hj' (by omega)), fun _ => ⟨vx, ?_⟩⟩
          rintro D36 rfl
          have ne : ∀ a y, ¬ (a = 3 ∧ y = x) → (sI D' 3 x (nI j)).1 a y = (sI D' 3 x (D.1 3 x)).1 a y := fun a y z => by rw [sI_1, if_neg z, sI_1, if_neg z]
          refine x_ready (q1 j hj') fun D3 f3 P3 => x_coinOf P3 h.2.2.1 k16 (fun i hi => (t2 i hi).2) (fun i hi => ?_) hs fun D5 f5 => ?_
          · rw [f3.1 _ _ (by omega) (by omega) (by omega) (by omega) (by omega), ne _ _ (by omega), f1.1 _ _ (by omega) (by omega) (by omega) (by omega) (by omega)]; exact t3 i hi
          · have f35 := frT_t f3 (frS_T f5)
            rw [hf']
            have next : ∀ v50 v51, (v50 = nI (wq f (fun _ => 0) 0 j).1 ∧ v51 = nI (wq f (fun _ => 0) 0 j).2.1) → ∀ v54 : Int32, v54 = nI j + 1 → rec v50 v51 v54 D5 := by
              rintro v50 v51 ⟨rfl, rfl⟩ v54 rfl
              rw [nI_1]
              refine hr hj' _ _ _ _ ⟨rfl, fun p hp => ?_, ⟨fun b y h1 h2 h3 h4 h5 => ?_, fun b y h1 h2 => ?_⟩, Or.inr ⟨j, rfl, rfl, rfl⟩⟩
              · have := XQ_p (x := x) (p := p) (XQ_f (q1 j hj') f35) hp
                rw [upN_upN] at this
                exact this
              · rw [sI_1]
                by_cases z : b = 3 ∧ y = x
                · rw [if_pos z, z.1, z.2]
                · rw [if_neg z, f35.1 b y h1 h2 h3 h4 h5, ne b y z]; exact f1.1 b y h1 h2 h3 h4 h5
              · show D5.2 b y = D.2 b y
                rw [f35.2 b y h1 h2]; exact f1.2 b y h1 h2
            refine JN_2 (fun v50 v51 => v50 = nI (wq f (fun _ => 0) 0 j).1 ∧ v51 = nI (wq f (fun _ => 0) 0 j).2.1) next (fun K52 hK52 => ?_)
            have fj := fb j hj'
            rcases st with ⟨rfl, rfl⟩ | ⟨i1, rfl, rfl, rfl⟩
            · refine ⟨fun z => ?_, fun _ => hK52 _ _ ⟨rfl, rfl⟩⟩
              rw [ngle2' (by omega) (by omega) (by omega)] at z; exact z.elim
            · obtain ⟨w1, w2⟩ := wq_c (f := f) (b := 10000000) i1 (fun i hi => fb i (by omega))
              refine ⟨fun z => hK52 _ _ ?_, fun z => hK52 _ _ ?_⟩
              · have z := (leI' (by omega) (by omega)).mp z
                rw [wq_0, if_neg (by omega)]; exact ⟨rfl, rfl⟩
              · have z : ¬ f (i1 + 1) ≤ (wq f (fun _ => 0) 0 i1).2.1 := fun w => z (nI_le w (by omega))
                rw [wq_0, if_pos (by omega)]; exact ⟨rfl, rfl⟩
      · have hb : s.testBit x = false := by rw [n0, bB_0] at hb; exact hb
        rintro ⟨u, hu, e1, e2⟩
        have : s = u := (nI_eq (by omega) (by omega)).mp e1
        rw [← this, hb] at e2; cases e2
    · rintro ⟨u, hu, e1, e2⟩
      refine q3 ⟨⟨u, hu, e1⟩, fun z => ?_⟩
      rw [e1] at z
      have : u = 0 := (nI_eq (b := 0) (by omega) (by omega)).mp z
      rw [this, Nat.zero_testBit] at e2; cases e2
  · rw [bI_f (fun w => q ((in_iff (by omega)).mp w))]
    exact ⟨fun w => absurd rfl w, fun _ => no fun w => q w.2⟩
end
