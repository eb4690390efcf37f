section
/-! MODELS: lay, worse -/
/-- the best set so far and its coin, behind the sets up to j -/
def lq (f : Nat → Nat) (nn : Nat) : Nat → Nat × Nat
  | 0 => (0, 0)
  | j + 1 => if pc (j + 1) ≤ nn ∧ ((lq f nn j).2 < f (j + 1) ∨ (f (j + 1) = (lq f nn j).2 ∧ pc (j + 1) < pc (lq f nn j).1)) then (j + 1, f (j + 1)) else lq f nn j
theorem lq_s {f : Nat → Nat} {nn j : Nat} : lq f nn (j + 1) = if pc (j + 1) ≤ nn ∧ ((lq f nn j).2 < f (j + 1) ∨ (f (j + 1) = (lq f nn j).2 ∧ pc (j + 1) < pc (lq f nn j).1)) then (j + 1, f (j + 1)) else lq f nn j := rfl
theorem lq_b {f : Nat → Nat} {nn b : Nat} : ∀ j, (∀ i, i ≤ j → f i ≤ b) → (lq f nn j).1 ≤ j ∧ (lq f nn j).2 ≤ b
  | 0, _ => ⟨Nat.le_refl _, Nat.zero_le _⟩
  | j + 1, h => by
    obtain ⟨h1, h2⟩ := lq_b (f := f) (nn := nn) j (fun i hi => h i (by omega))
    rw [lq_s]
    split
    · exact ⟨Nat.le_refl _, h _ (Nat.le_refl _)⟩
    · exact ⟨by omega, h2⟩
theorem p_lay {mdl : Nat → Option (Nat × Nat)} {T n k c m : Nat} {Mk Pr Ne W S O U K : Nat → Nat} {D : Dy} {a1 a2 : Int32} (h : AB mdl T D n k c m Mk Pr Ne W S O U K) : fX11_lay mdl a1 a2 D (fun v D1 => fX12_lay a1 a2 D1 (fun v' D2 => v = v' ∧ frA mdl m D D2)) := by
  have hB := h.2.2.2.2.2.1
  obtain ⟨m1, m2, m3, -⟩ := hB
  obtain ⟨k16, t1, t2, t3⟩ := h.2.2.2.2.2.2.2
  have n6 := h.1.1
  have pw := pw6 n6
  have g0 := h.2.1.2.1
  unfold fX11_lay
  refine x_modelAt m1 m2 (fun i hi e => ?_) (fun q => ⟨fun _ => ?_, fun t kd z => (by cases z)⟩)
  · subst e
    obtain ⟨t, kd, R, e, i10, k6, k4, hX, hear⟩ := AB_m h hi
    rw [e]
    refine ⟨fun z => (by cases z), fun t' kd' z => ?_⟩
    injection z with z
    injection z with z1 z2
    subst z1
    subst z2
    have ht := hX.2.1
    have bad : ¬ iN a2 7 → fX12_lay (nI i) a2 D (fun v' D2 => (-2 : Int32) = v' ∧ frA mdl m D D2) := by
      intro z
      unfold fX12_lay
      rw [isMo_t m3 (by omega) hi]
      refine ⟨fun w => absurd w (by decide), fun _ => hear D h frA_r _ fun D3 f3 q3 => ⟨fun _ => ?_, fun w => absurd w (by decide)⟩⟩
      have e2 : fX12_in a2 0 6 = fX12_in a2 (nI 0) (nI 6) := rfl
      rw [e2, ix_f (m := 6) z (by omega)]
      exact ⟨fun w => absurd rfl w, fun _ => ⟨rfl, frQ_A f3⟩⟩
    refine ⟨fun z => bad ?_, fun z => ⟨fun z2 => ?_, fun z2 => bad ?_⟩⟩
    · rintro ⟨j, hj, rfl⟩; exact nI0nlt (by omega) z
    · obtain ⟨nn, hn7, rfl⟩ := nI_of2 (M := 6) (n := 6) (by decide) z z2
      generalize hf : (fun s => coN kd R Mk Pr Ne n s K k) = f
      have hf' : ∀ s, coN kd R Mk Pr Ne n s K k = f s := fun s => by rw [← hf]
      have fb : ∀ s, s < 2 ^ n → f s ≤ 10000000 := fun s hs => by rw [← hf']; exact coN_le hX.2.2.1 h.2.2.1 n6 k16 (xg_p h.1) hs
      refine x_ready hX fun D1 f1 P1 => ?_
      refine lp4_I (2 ^ n - 1) (fun j v15 v16 v17 D' => v17 = nI (j + 1) ∧ v15 = nI (lq f nn j).1 ∧ v16 = nI (lq f nn j).2 ∧ frT t kd D D' ∧ XP D' t kd n R Mk Pr Ne) (by omega) (fun j hj v15 v16 v17 D' hv rec hr => ?_) ⟨rfl, rfl, rfl, f1, P1⟩
      obtain ⟨rfl, rfl, rfl, f2, P2⟩ := hv
      have pz := Nat.two_pow_pos n
      rw [P2.1.1.2.1, n1, shl' (by omega)]
      by_cases ej : j = 2 ^ n - 1
      · subst ej
        refine ⟨fun _ => ?_, fun z => absurd (nI_le (by omega) (by omega)) z⟩
        have fA := frT_A hi e f2
        have A1 := AB_A h fA
        show fX12_lay (nI i) (nI nn) D' _
        unfold fX12_lay
        rw [isMo_t A1.2.2.2.2.2.1.2.2.1 (by omega) hi]
        refine ⟨fun w => absurd w (by decide), fun _ => hear D' A1 fA _ fun D3 f3 q3 => ⟨fun _ => ?_, fun w => absurd w (by decide)⟩⟩
        have e2 : fX12_in (nI nn) 0 6 = fX12_in (nI nn) (nI 0) (nI 6) := rfl
        rw [e2, ix_t (m := 6) (by omega) (by omega)]
        refine ⟨fun _ => ?_, fun w => absurd w (by decide)⟩
        have fA3 := frA_t fA (frQ_A (mdl := mdl) (m := m) f3)
        have A3 := AB_A h fA3
        obtain ⟨-, u1, u2, -⟩ := A3.2.2.2.2.2.2.2
        refine lp4_I (2 ^ n - 1) (fun j v20 w21 v22 D4 => v22 = nI (j + 1) ∧ v20 = nI (lq f nn j).1 ∧ w21 = lN (lq f nn j).2 ∧ frQo D3 D4) (by omega) (fun j hj v20 w21 v22 D4 hv rec hr => ?_) ⟨rfl, rfl, rfl, frQo_r⟩
        obtain ⟨rfl, rfl, rfl, f4⟩ := hv
        rw [f4.1, A3.2.1.2.1, n1, shl' (by omega)]
        by_cases ej : j = 2 ^ n - 1
        · subst ej
          exact ⟨fun _ => ⟨rfl, frA_t fA3 (frQo_A f4)⟩, fun z => absurd (nI_le (by omega) (by omega)) z⟩
        · have hj' : j < 2 ^ n - 1 := by omega
          obtain ⟨b1, b2⟩ := lq_b (f := f) (nn := nn) (b := 10000000) j (fun i hi => fb i (by omega))
          have f1' := fb (j + 1) (by omega)
          have p1 := @pc_8 (j + 1)
          have p2 := @pc_8 (lq f nn j).1
          have ls := lq_s (f := f) (nn := nn) (j := j)
          refine ⟨fun z => ?_, fun _ => ?_⟩
          · have := (leI' (by omega) (by omega)).mp z; omega
          · rw [ones' (by omega)]
            refine JN_u3 (fun v1 w2 D5 => v1 = nI (lq f nn (j + 1)).1 ∧ w2 = lN (lq f nn (j + 1)).2 ∧ frQo D3 D5) (fun v1 w2 D5 hv => ?_) (fun K35 hK => ⟨fun z => ?_, fun z => hK _ _ _ ?_⟩)
            · obtain ⟨rfl, rfl, f5⟩ := hv
              rw [nI_add]
              rintro v37 rfl
              exact hr hj' _ _ _ _ ⟨rfl, rfl, rfl, f5⟩
            · have z := (leI' (by omega) (by omega)).mp z
              refine m_coinOf (MOq_o q3 f4) i10 k6 h.2.2.1 k16 (by rw [f4.1]; exact u1) (fun i hi => by rw [f4.1]; exact u2 i hi) (show j + 1 < 2 ^ n by omega) fun D5 f5 => ?_
              have f45 : frQo D3 D5 := ⟨f5.1.trans f4.1, fun b y z => (f5.2 b y z).trans (f4.2 b y z)⟩
              rw [hf']
              refine ⟨fun y => hK _ _ _ ?_, fun y => ?_⟩
              · have y := (pk_lLT (by omega) (by omega)).mp ((lg_cmp_lt _ _).mp y)
                rw [ls, if_neg (by omega)]; exact ⟨rfl, rfl, f45⟩
              · have y : ¬ f (j + 1) < (lq f nn j).2 := fun w => y ((lg_cmp_lt _ _).mpr ((pk_lLT (by omega) (by omega)).mpr w))
                refine JN_i (pc (j + 1) ≤ nn ∧ ((lq f nn j).2 < f (j + 1) ∨ (f (j + 1) = (lq f nn j).2 ∧ pc (j + 1) < pc (lq f nn j).1))) (fun y => hK _ _ _ (by rw [ls, if_pos y]; exact ⟨rfl, rfl, f45⟩)) (fun K47 hK47 => ⟨fun y2 => hK47 ⟨z, Or.inl ?_⟩, fun y2 => ?_⟩)
                · have y2 : ¬ f (j + 1) = (lq f nn j).2 := fun w => y2 ((lg_cmp_eq _ _).mpr (by rw [w]))
                  omega
                · have y2 := (pk_lEQ (by omega) (by omega)).mp ((lg_cmp_eq _ _).mp y2)
                  rw [ones' (by omega), ones' (by omega)]
                  refine ⟨fun y3 => hK47 ⟨z, Or.inr ⟨y2, (ltI' (by omega) (by omega)).mp y3⟩⟩, fun y3 => hK _ _ _ ?_⟩
                  have y3 : ¬ pc (j + 1) < pc (lq f nn j).1 := fun w => y3 (nI_lt w (by omega))
                  rw [ls, if_neg (by omega)]; exact ⟨rfl, rfl, f45⟩
            · have z : ¬ pc (j + 1) ≤ nn := fun w => z (nI_le w (by omega))
              rw [ls, if_neg (fun w => z w.1)]; exact ⟨rfl, rfl, f4⟩
      · have hj' : j < 2 ^ n - 1 := by omega
        obtain ⟨b1, b2⟩ := lq_b (f := f) (nn := nn) (b := 10000000) j (fun i hi => fb i (by omega))
        have f1' := fb (j + 1) (by omega)
        have p1 := @pc_8 (j + 1)
        have p2 := @pc_8 (lq f nn j).1
        have ls := lq_s (f := f) (nn := nn) (j := j)
        refine ⟨fun z => ?_, fun _ => ?_⟩
        · have := (leI' (by omega) (by omega)).mp z; omega
        · rw [bitC' (by omega)]
          rintro v22 rfl
          refine JN_u3 (fun v1 v2 D3 => v1 = nI (lq f nn (j + 1)).1 ∧ v2 = nI (lq f nn (j + 1)).2 ∧ frT t kd D D3 ∧ XP D3 t kd n R Mk Pr Ne) (fun v1 v2 D3 hv => ?_) (fun K27 hK => ⟨fun z => ?_, fun z => hK _ _ _ ?_⟩)
          · obtain ⟨rfl, rfl, f3, P3⟩ := hv
            rw [nI_add]
            rintro v29 rfl
            exact hr hj' _ _ _ _ ⟨rfl, rfl, rfl, f3, P3⟩
          · have z := (leI' (by omega) (by omega)).mp z
            refine x_coinOf P2 h.2.2.1 k16 (fun i hi => (t2 i hi).2) (fun j hj => ?_) (show j + 1 < 2 ^ n by omega) fun D3 f3 => ?_
            · rw [f2.1 _ _ (by omega) (by omega) (by omega) (by omega) (by omega)]; exact t3 j hj
            · have f23 := frT_t f2 (frS_T f3)
              have P3 := XP_s P2 f3
              rw [hf']
              refine JN_i (pc (j + 1) ≤ nn ∧ ((lq f nn j).2 < f (j + 1) ∨ (f (j + 1) = (lq f nn j).2 ∧ pc (j + 1) < pc (lq f nn j).1))) (fun y => hK _ _ _ (by rw [ls, if_pos y]; exact ⟨rfl, rfl, f23, P3⟩)) (fun K38 hK38 => ⟨fun y => hK38 ⟨z, Or.inl ((ltI' (by omega) (by omega)).mp y)⟩, fun y => ⟨fun y2 => hK _ _ _ ?_, fun y2 => ?_⟩⟩)
              · have y : ¬ (lq f nn j).2 < f (j + 1) := fun w => y (nI_lt w (by omega))
                have y2 : ¬ f (j + 1) = (lq f nn j).2 := fun w => y2 (by rw [w])
                rw [ls, if_neg (by omega)]; exact ⟨rfl, rfl, f23, P3⟩
              · have y : ¬ (lq f nn j).2 < f (j + 1) := fun w => y (nI_lt w (by omega))
                have y2 := (nI_eq (by omega) (by omega)).mp y2
                rw [bitC' (by omega)]
                rintro v42 rfl
                refine ⟨fun y3 => hK _ _ _ ?_, fun y3 => hK38 ⟨z, Or.inr ⟨y2, Nat.lt_of_not_le fun w => y3 (nI_le w (by omega))⟩⟩⟩
                have y3 := (leI' (by omega) (by omega)).mp y3
                rw [ls, if_neg (by omega)]; exact ⟨rfl, rfl, f23, P3⟩
          · have z : ¬ pc (j + 1) ≤ nn := fun w => z (nI_le w (by omega))
            rw [ls, if_neg (fun w => z w.1)]; exact ⟨rfl, rfl, f2, P2⟩
    · rintro ⟨j, hj, rfl⟩; exact z2 (nI_le (a := j) (b := 6) (by omega) (by omega))
  · show fX12_lay a1 a2 D _
    unfold fX12_lay
    rw [isMo_f m3 (by omega) q]
    exact ⟨fun _ => ⟨rfl, frA_r⟩, fun w => absurd rfl w⟩
/-! worse -/
def gtN (W : Nat → Nat → Nat) (S j : Nat) : Nat → Nat := mxW (fun o => if S.testBit o = true then W j o else 0)
theorem gtN_s {W : Nat → Nat → Nat} {S j i : Nat} : gtN W S j (i + 1) = max (gtN W S j i) (if S.testBit i = true then W j i else 0) := rfl
theorem gtN_le {W : Nat → Nat → Nat} {S j : Nat} (hw : ∀ k o, W k o ≤ 50) (i : Nat) : gtN W S j i ≤ 50 := mxW_le (fun o => by split; exact hw _ _; omega) i
theorem x_gt {D : Dy} {t n kd k S : Nat} {W : Nat → Nat → Nat} {Mk Pr Ne : Nat → Nat} (hG : XG D n Mk Pr Ne) (hW : PW D t n W) (hw : ∀ k o, W k o ≤ 50) (hk : k < 3) (hS : S < 2 ^ n) {post : Int32 → Prop} (h : post (nI (gtN W S k n))) : v_greatestWeight t kd (nI S) (nI k) D post := by
  have n6 := hG.1
  have pw := pw6 n6
  unfold v_greatestWeight
  refine xv_6 (P := fun kd => fX4_greatestWeight t kd (nI S) (nI k) D post) ?_
  unfold fX4_greatestWeight
  rw [hG.2.1]
  refine lp2_I n (fun j v1 v2 => v2 = nI j ∧ v1 = nI (gtN W S k j)) (by omega) (fun j hj v1 v2 hv rec hr => ?_) ⟨rfl, rfl⟩
  obtain ⟨rfl, rfl⟩ := hv
  by_cases e : j = n
  · subst e
    exact ⟨fun _ => h, fun z => absurd (Int32.le_refl _) z⟩
  · have hj' : j < n := by omega
    have gl := gtN_le (S := S) (j := k) hw j
    have wl := hw k j
    refine ⟨fun z => absurd z (nI_ge hj' (by omega)), fun _ => ?_⟩
    rw [isIn' (by omega) (by omega)]
    refine JN_1 (fun v => v = nI (gtN W S k (j + 1))) (fun v hv => ?_) (fun K hK => ⟨fun z => hK _ ?_, fun z => ?_⟩)
    · subst hv
      rintro v14 rfl
      rw [nI_1]
      exact hr hj' _ _ ⟨rfl, rfl⟩
    · have z : S.testBit j = false := by rw [n0, bB_0] at z; exact z
      rw [gtN_s, if_neg (by rw [z]; simp), Nat.max_zero]
    · have z : S.testBit j = true := by rw [n0, bB_0] at z; simpa using z
      refine x_weighed hW n6 hk (Or.inl hj') ?_
      rintro v22 rfl
      rw [max_if (by omega) (by omega)]
      refine hK _ ?_
      rw [gtN_s, if_pos z]
theorem m_gt {D : Dy} {n k S : Nat} {M : Mdt} {Mk Pr Ne : Nat → Nat} (hR : MR D n M Mk Pr Ne) (hk : k < 3) (hS : S < 2 ^ n) {post : Int32 → Prop} (h : post (nI (gtN (wt M Mk Pr) S k n))) : fX12_greatestIn (nI S) (nI k) D post := by
  have n6 := hR.2.2.1
  have pw := pw6 n6
  have hw : ∀ k o, wt M Mk Pr k o ≤ 50 := fun k o => wt_50
  unfold fX12_greatestIn
  rw [hR.2.2.2.1]
  refine lp2_I n (fun j v1 v2 => v2 = nI j ∧ v1 = nI (gtN (wt M Mk Pr) S k j)) (by omega) (fun j hj v1 v2 hv rec hr => ?_) ⟨rfl, rfl⟩
  obtain ⟨rfl, rfl⟩ := hv
  by_cases e : j = n
  · subst e
    exact ⟨fun _ => h, fun z => absurd (Int32.le_refl _) z⟩
  · have hj' : j < n := by omega
    have gl := gtN_le (S := S) (j := k) hw j
    have wl := hw k j
    refine ⟨fun z => absurd z (nI_ge hj' (by omega)), fun _ => ?_⟩
    rw [has' (by omega) (by omega)]
    refine JN_1 (fun v => v = nI (gtN (wt M Mk Pr) S k (j + 1))) (fun v hv => ?_) (fun K hK => ⟨fun z => hK _ ?_, fun z => ?_⟩)
    · subst hv
      rintro v14 rfl
      rw [nI_1]
      exact hr hj' _ _ ⟨rfl, rfl⟩
    · have z : S.testBit j = false := by rw [n0, bB_0] at z; exact z
      rw [gtN_s, if_neg (by rw [z]; simp), Nat.max_zero]
    · have z : S.testBit j = true := by rw [n0, bB_0] at z; simpa using z
      refine m_w hR hk (Or.inl hj') ⟨fun y => hK _ ?_, fun y => m_w hR hk (Or.inl hj') (hK _ ?_)⟩
      · have := (leI' (by omega) (by omega)).mp y
        rw [gtN_s, if_pos z, Nat.max_eq_left this]
      · have : ¬ wt M Mk Pr k j ≤ gtN (wt M Mk Pr) S k j := fun w => y (nI_le w (by omega))
        rw [gtN_s, if_pos z, Nat.max_eq_right (by omega)]
theorem p_worse {mdl : Nat → Option (Nat × Nat)} {T n k c m : Nat} {Mk Pr Ne W S O U K : Nat → Nat} {D : Dy} {a1 a2 a3 : Int32} (h : AB mdl T D n k c m Mk Pr Ne W S O U K) : fX11_worse mdl a1 a2 a3 D (fun v D1 => fX12_worse a1 a2 a3 D1 (fun v' D2 => v = v' ∧ frA mdl m D D2)) := by
  have hB := h.2.2.2.2.2.1
  obtain ⟨m1, m2, m3, -⟩ := hB
  obtain ⟨k16, t1, t2, t3⟩ := h.2.2.2.2.2.2.2
  have n6 := h.1.1
  have pw := pw6 n6
  have g0 := h.2.1.2.1
  unfold fX11_worse
  refine x_modelAt m1 m2 (fun i hi e => ?_) (fun q => ⟨fun _ => ?_, fun t kd z => (by cases z)⟩)
  · subst e
    obtain ⟨t, kd, R, e, i10, k6, k4, hX, hear⟩ := AB_m h hi
    rw [e]
    refine ⟨fun z => (by cases z), fun t' kd' z => ?_⟩
    injection z with z
    injection z with z1 z2
    subst z1
    subst z2
    have ht := hX.2.1
    have bad : ¬ (iN a2 (2 ^ n) ∧ iN a3 (2 ^ n)) → fX12_worse (nI i) a2 a3 D (fun v' D2 => (-2 : Int32) = v' ∧ frA mdl m D D2) := by
      intro z
      unfold fX12_worse
      rw [isMo_t m3 (by omega) hi]
      refine ⟨fun w => absurd w (by decide), fun _ => hear D h frA_r _ fun D3 f3 q3 => ⟨fun _ => ?_, fun w => absurd w (by decide)⟩⟩
      have g3 := q3.1.2.2.2.1
      refine s_isSet n6 g3 (fun q1 => ⟨fun w => absurd w (by decide), fun _ => s_isSet n6 g3 (fun q2 => absurd ⟨q1, q2⟩ z) (fun _ => ⟨fun w => absurd rfl w, fun _ => ⟨rfl, frQ_A f3⟩⟩)⟩) (fun _ => ⟨fun _ => ⟨rfl, frQ_A f3⟩, fun w => absurd rfl w⟩)
    refine s_hasAll n6 h.1.2.1 (fun q1 => ⟨fun w => absurd w (by decide), fun _ => s_hasAll n6 h.1.2.1 (fun q2 => ⟨fun _ => ?_, fun w => absurd w (by decide)⟩) (fun q => ⟨fun w => absurd rfl w, fun _ => bad fun w => q w.2⟩)⟩) (fun q => ⟨fun _ => bad fun w => q w.1, fun w => absurd rfl w⟩)
    obtain ⟨s, hs, rfl⟩ := id q1
    obtain ⟨u, hu, rfl⟩ := id q2
    have hw : ∀ k o, wt R.1 Mk Pr k o ≤ 50 := fun k o => wt_50
    generalize hg : (fun j => if gtN (wt R.1 Mk Pr) s j n < gtN (wt R.1 Mk Pr) u j n then 1 else 0) = g
    have hg' : ∀ j, g j = if gtN (wt R.1 Mk Pr) s j n < gtN (wt R.1 Mk Pr) u j n then 1 else 0 := fun j => by rw [← hg]
    have ce := co_eq (K := K) (g := g) k (fun i hi => (t2 i hi).2)
    refine x_ready hX fun D1 f1 P1 => ?_
    have e6 : ∀ j, j < 3 → D1.1 6 j = nI (cnK K k j) := fun j hj => by rw [f1.1 _ _ (by omega) (by omega) (by omega) (by omega) (by omega)]; exact t3 j hj
    refine lp2_I 3 (fun j v1 v2 => v2 = nI j ∧ v1 = nI (sumN (fun j => cnK K k j * g j) j)) (by omega) (fun j hj v1 v2 hv rec hr => ?_) ⟨rfl, rfl⟩
    obtain ⟨rfl, rfl⟩ := hv
    by_cases ej : j = 3
    · subst ej
      refine ⟨fun _ => ?_, fun z => absurd (Int32.le_refl _) z⟩
      have fA := frT_A hi e f1
      have A1 := AB_A h fA
      rw [ce]
      show fX12_worse (nI i) (nI s) (nI u) D1 _
      unfold fX12_worse
      rw [isMo_t A1.2.2.2.2.2.1.2.2.1 (by omega) hi]
      refine ⟨fun w => absurd w (by decide), fun _ => hear D1 A1 fA _ fun D3 f3 q3 => ⟨fun _ => ?_, fun w => absurd w (by decide)⟩⟩
      have g3 := q3.1.2.2.2.1
      have fA3 := frA_t fA (frQ_A (mdl := mdl) (m := m) f3)
      have A3 := AB_A h fA3
      obtain ⟨-, u1, u2, -⟩ := A3.2.2.2.2.2.2.2
      refine s_isSet n6 g3 (fun _ => ⟨fun w => absurd w (by decide), fun _ => s_isSet n6 g3 (fun _ => ⟨fun _ => ?_, fun w => absurd w (by decide)⟩) (fun w => absurd q2 w)⟩) (fun w => absurd q1 w)
      rw [u1]
      refine lp2_I k (fun i v1 v2 => v2 = nI i ∧ v1 = nI (sumN (fun i => g (K i)) i)) (by omega) (fun i hi v1 v2 hv rec hr => ?_) ⟨rfl, rfl⟩
      obtain ⟨rfl, rfl⟩ := hv
      by_cases ei : i = k
      · subst ei
        exact ⟨fun _ => ⟨rfl, fA3⟩, fun z => absurd (Int32.le_refl _) z⟩
      · have hi' : i < k := by omega
        obtain ⟨r1, r2⟩ := u2 i hi'
        have gs := gtN_le (S := s) (j := K i) hw n
        have gu := gtN_le (S := u) (j := K i) hw n
        have v16 : vp_in (nI i) 16 := nI_in (by omega) (by omega)
        refine ⟨fun z => absurd z (nI_ge hi' (by omega)), fun _ => ⟨v16, ?_⟩⟩
        rw [nI_clamp (by omega), r1]
        refine m_gt q3.1 r2 hs ⟨v16, m_gt q3.1 r2 hu ?_⟩
        refine JN_1 (fun v => v = nI (g (K i))) (fun v hv => ?_) (fun K42 hK => ⟨fun y => hK _ ?_, fun y => hK _ ?_⟩)
        · subst hv
          rw [nI_add, nI_1]
          rintro v44 rfl v46 rfl
          exact hr hi' _ _ ⟨rfl, rfl⟩
        · have := (leI' (by omega) (by omega)).mp y
          rw [hg', if_neg (by omega)]; rfl
        · have : ¬ gtN (wt R.1 Mk Pr) u (K i) n ≤ gtN (wt R.1 Mk Pr) s (K i) n := fun w => y (nI_le w (by omega))
          rw [hg', if_pos (by omega)]; rfl
    · have hj' : j < 3 := by omega
      have gs := gtN_le (S := s) (j := j) hw n
      have gu := gtN_le (S := u) (j := j) hw n
      refine ⟨fun z => absurd z (nI_ge (b := 3) hj' (by omega)), fun _ => ?_⟩
      refine x_gt P1.1.1 P1.2.1 hw hj' hs (x_gt P1.1.1 P1.2.1 hw hj' hu ?_)
      have es : sumN (fun j => cnK K k j * g j) (j + 1) = sumN (fun j => cnK K k j * g j) j + cnK K k j * g j := rfl
      refine JN_1 (fun v => v = nI (sumN (fun j => cnK K k j * g j) (j + 1))) (fun v hv => ?_) (fun K41 hK => ⟨fun y => hK _ ?_, fun y => ⟨nI_in hj' (by omega), ?_⟩⟩)
      · subst hv
        rintro v43 rfl
        rw [nI_1]
        exact hr hj' _ _ ⟨rfl, rfl⟩
      · have := (leI' (by omega) (by omega)).mp y
        have e0 : g j = 0 := by rw [hg', if_neg (by omega)]
        rw [es, e0, Nat.mul_zero, Nat.add_zero]
      · have : ¬ gtN (wt R.1 Mk Pr) u j n ≤ gtN (wt R.1 Mk Pr) s j n := fun w => y (nI_le w (by omega))
        have e1 : g j = 1 := by rw [hg', if_pos (by omega)]
        rw [nI_clamp (by omega), e6 j hj', nI_add]
        rintro v46 rfl
        refine hK _ ?_
        rw [es, e1, Nat.mul_one]
  · show fX12_worse a1 a2 a3 D _
    unfold fX12_worse
    rw [isMo_f m3 (by omega) q]
    exact ⟨fun _ => ⟨rfl, frA_r⟩, fun w => absurd rfl w⟩
end
