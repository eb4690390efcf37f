section
/-! MODELS: coin -/
noncomputable def gCo (kd : Nat) (R : RS) (Mk Pr Ne : Nat → Nat) (n S j : Nat) : Nat → Nat := sumN (fun t => if S.testBit t = true then Pr t * thN kd R Mk Pr Ne n S j t else 0)
def cnK (K : Nat → Nat) (k j : Nat) : Nat := sumN (fun i => if K i = j then 1 else 0) k
/-- the coin of a set -/
noncomputable def coN (kd : Nat) (R : RS) (Mk Pr Ne : Nat → Nat) (n S : Nat) (K : Nat → Nat) (k : Nat) : Nat := sumN (fun i => gCo kd R Mk Pr Ne n S (K i) n) k
theorem gCo_s {kd : Nat} {R : RS} {Mk Pr Ne : Nat → Nat} {n S j i : Nat} : gCo kd R Mk Pr Ne n S j (i + 1) = gCo kd R Mk Pr Ne n S j i + (if S.testBit i = true then Pr i * thN kd R Mk Pr Ne n S j i else 0) := rfl
theorem co_eq {K g : Nat → Nat} : ∀ k, (∀ i, i < k → K i < 3) → sumN (fun j => cnK K k j * g j) 3 = sumN (fun i => g (K i)) k
  | 0, _ => by show 0 + 0 * _ + 0 * _ + 0 * _ = 0; simp
  | k + 1, h => by
    have ih := co_eq (g := g) k (fun i hi => h i (by omega))
    have hk := h k (Nat.lt_succ_self _)
    have e : ∀ f : Nat → Nat, sumN f 3 = f 0 + f 1 + f 2 := fun f => by show 0 + f 0 + f 1 + f 2 = _; rw [Nat.zero_add]
    rw [e] at ih
    rw [e, sumN_s, ← ih]
    have c : ∀ j, cnK K (k + 1) j = cnK K k j + (if K k = j then 1 else 0) := fun j => rfl
    rw [c, c, c]
    have : K k = 0 ∨ K k = 1 ∨ K k = 2 := by omega
    rcases this with q | q | q
    · rw [q]; simp only [Nat.add_mul]; simp; omega
    · rw [q]; simp only [Nat.add_mul]; simp; omega
    · rw [q]; simp only [Nat.add_mul]; simp; omega
theorem x_shares {D : Dy} {t kd n S j : Nat} {R : RS} {Mk Pr Ne : Nat → Nat} (hG : XG D n Mk Pr Ne) (hM : okM R.1) (hg : gOK n Ne) (hS : S < 2 ^ n) (h0 : S ≠ 0) (hs : SH D t (fun o => (od kd R Mk Pr Ne n S j o).1) (fun o => (od kd R Mk Pr Ne n S j o).2)) {post : Int32 → Prop} (hp : post (nI (gCo kd R Mk Pr Ne n S j n))) : fX11_coinOfShares t kd (nI S) D post := by
  have n6 := hG.1
  have pw := pw6 n6
  unfold fX11_coinOfShares
  rw [hG.2.1]
  refine lp2_I n (fun i v1 v2 => v2 = nI i ∧ v1 = nI (gCo kd R Mk Pr Ne n S j i)) (by omega) (fun i hi v1 v2 hv rec hr => ?_) ⟨rfl, rfl⟩
  obtain ⟨rfl, rfl⟩ := hv
  by_cases e : i = n
  · subst e
    exact ⟨fun _ => hp, fun z => absurd (Int32.le_refl _) z⟩
  · have hi' : i < n := by omega
    obtain ⟨-, ⟨p1, p2⟩, -⟩ := hG.2.2 i hi'
    refine ⟨fun z => absurd z (nI_ge hi' (by omega)), fun _ => ?_⟩
    rw [isIn' (by omega) (by omega)]
    refine JN_1 (fun v => v = nI (gCo kd R Mk Pr Ne n S j (i + 1))) (fun v hv => ?_) (fun K hK => ⟨fun z => hK _ ?_, fun z => ⟨nI_in (by omega) (by omega), ?_⟩⟩)
    · subst hv
      rintro v14 rfl
      rw [nI_1]
      exact hr hi' _ _ ⟨rfl, rfl⟩
    · have z : S.testBit i = false := by rw [n0, bB_0] at z; exact z
      rw [gCo_s, if_neg (by rw [z]; simp), Nat.add_zero]
    · have z : S.testBit i = true := by rw [n0, bB_0] at z; simpa using z
      refine x_thous hs (by omega) (od_b hM hg n6 hS h0) ?_
      rw [nI_clamp (by omega), p1, nI_mul, nI_add]
      rintro v22 rfl
      refine hK _ ?_
      rw [gCo_s, if_pos z]; rfl
theorem gCo_0 {kd : Nat} {R : RS} {Mk Pr Ne : Nat → Nat} {n j i : Nat} : gCo kd R Mk Pr Ne n 0 j i = 0 := sumN_0 fun t _ => if_neg (by rw [Nat.zero_testBit]; decide)
theorem x_coinOf {D : Dy} {t kd n k S : Nat} {R : RS} {Mk Pr Ne K : Nat → Nat} (h : XP D t kd n R Mk Pr Ne) (hg : gOK n Ne) (hk : k ≤ 16) (hK : ∀ i, i < k → K i < 3) (h6 : ∀ j, j < 3 → D.1 6 j = nI (cnK K k j)) (hS : S < 2 ^ n) {post : Int32 → Dy → Prop} (hp : ∀ D', frS t kd D D' → post (nI (coN kd R Mk Pr Ne n S K k)) D') : fX11_coinOf t kd (nI S) D post := by
  have n6 := h.1.1.1
  have ht := h.1.2.1
  have hM := h.1.2.2.1
  have pw := pw6 n6
  have ec : coN kd R Mk Pr Ne n S K k = sumN (fun j => cnK K k j * gCo kd R Mk Pr Ne n S j n) 3 := (co_eq (g := fun j => gCo kd R Mk Pr Ne n S j n) k hK).symm
  rw [ec] at hp
  have cl : ∀ j, cnK K k j ≤ 1 * k := fun j => sumN_b (fun i => by split <;> omega) k
  unfold fX11_coinOf
  refine lp3_I 3 (fun j v1 v2 D' => v2 = nI j ∧ v1 = nI (sumN (fun j => cnK K k j * gCo kd R Mk Pr Ne n S j n) j) ∧ frS t kd D D') (by omega) (fun j hj v1 v2 D' hv rec hr => ?_) ⟨rfl, rfl, frS_r⟩
  obtain ⟨rfl, rfl, f1⟩ := hv
  by_cases e : j = 3
  · subst e
    exact ⟨fun _ => hp D' f1, fun z => absurd (Int32.le_refl _) z⟩
  · have hj' : j < 3 := by omega
    have cj := cl j
    have e6 : D'.1 6 j = nI (cnK K k j) := by rw [f1.1 _ _ (by omega) (by omega)]; exact h6 j hj'
    have es : sumN (fun j => cnK K k j * gCo kd R Mk Pr Ne n S j n) (j + 1) = sumN (fun j => cnK K k j * gCo kd R Mk Pr Ne n S j n) j + cnK K k j * gCo kd R Mk Pr Ne n S j n := rfl
    refine ⟨fun z => absurd z (nI_ge (b := 3) hj' (by omega)), fun _ => ⟨fun z => ?_, fun z => ⟨nI_in hj' (by omega), ?_⟩⟩⟩
    · have s0 : S = 0 := (nI_eq (b := 0) (by omega) (by omega)).mp z
      subst s0
      have z1 : sumN (fun j => cnK K k j * gCo kd R Mk Pr Ne n 0 j n) j = 0 := sumN_0 fun i _ => by rw [gCo_0, Nat.mul_zero]
      have z3 : sumN (fun j => cnK K k j * gCo kd R Mk Pr Ne n 0 j n) 3 = 0 := sumN_0 fun i _ => by rw [gCo_0, Nat.mul_zero]
      rw [z1, ← z3]; exact hp D' f1
    · have s0 : S ≠ 0 := fun y => z (by rw [y]; rfl)
      rw [nI_clamp (by omega), e6]
      refine JN_2 (fun v D3 => v = nI (sumN (fun j => cnK K k j * gCo kd R Mk Pr Ne n S j n) (j + 1)) ∧ frS t kd D D3) (fun v D3 hv => ?_) (fun K10 hK10 => ⟨fun z => hK10 _ _ ⟨?_, f1⟩, fun z => ?_⟩)
      · obtain ⟨rfl, f3⟩ := hv
        rw [nI_1]
        rintro v12 rfl
        exact hr hj' _ _ _ ⟨rfl, rfl, f3⟩
      · have z := (leI' (b := 0) (by omega) (by omega)).mp z
        have : cnK K k j = 0 := by omega
        rw [es, this, Nat.zero_mul, Nat.add_zero]
      · refine x_share (XP_s h f1) hj' hS fun D3 f3 s3 => ⟨nI_in hj' (by omega), ?_⟩
        have f13 := frS_t f1 f3
        refine x_shares (XG_s h.1.1 f13 ht) hM hg hS s0 s3 ?_
        rw [show D3.1 6 j = nI (cnK K k j) by rw [f3.1 _ _ (by omega) (by omega)]; exact e6, nI_mul, nI_add]
        rintro v26 rfl
        exact hK10 _ _ ⟨by rw [es], f13⟩
theorem m_coinOf {D : Dy} {m kd n k S : Nat} {R : RS} {Mk Pr Ne K : Nat → Nat} (h : MOq D m kd n R Mk Pr Ne) (hm : m < 10) (hkd : kd < 6) (hg : gOK n Ne) (hk : k ≤ 16) (h1 : D.1 33 1 = nI k) (h37 : ∀ i, i < k → D.1 37 i = nI (K i) ∧ K i < 3) (hS : S < 2 ^ n) {post : Int64 → Dy → Prop} (hp : ∀ D', frQo D D' → post (lN (coN kd R Mk Pr Ne n S K k)) D') : fX12_coinOf (nI m) (nI S) D post := by
  have n6 := h.1.2.2.1
  have hM := h.1.1
  have pw := pw6 n6
  unfold fX12_coinOf
  refine lp3_I k (fun i w v D' => v = nI i ∧ w = lN (coN kd R Mk Pr Ne n S K i) ∧ frQo D D') (by omega) (fun i hi w v D' hv rec hr => ?_) ⟨rfl, rfl, frQo_r⟩
  obtain ⟨rfl, rfl, f1⟩ := hv
  rw [f1.1, h1]
  by_cases e : i = k
  · subst e
    exact ⟨fun _ => hp D' f1, fun z => absurd (Int32.le_refl _) z⟩
  · have hi' : i < k := by omega
    obtain ⟨k1, k2⟩ := h37 i hi'
    refine ⟨fun z => absurd z (nI_ge hi' (by omega)), fun _ => ?_⟩
    refine lp3_I n (fun j w v D' => v = nI j ∧ w = lN (coN kd R Mk Pr Ne n S K i + gCo kd R Mk Pr Ne n S (K i) j) ∧ frQo D D') (by omega) (fun j hj w v D2 hv rec2 hr2 => ?_) ⟨rfl, rfl, f1⟩
    obtain ⟨rfl, rfl, f2⟩ := hv
    rw [f2.1, h.1.2.2.2.1]
    by_cases e2 : j = n
    · subst e2
      refine ⟨fun _ => ?_, fun z => absurd (Int32.le_refl _) z⟩
      rw [nI_1]
      rintro v13 rfl
      exact hr hi' _ _ _ ⟨rfl, rfl, f2⟩
    · have hj' : j < n := by omega
      obtain ⟨-, ⟨p1, p2⟩, -⟩ := h.1.2.2.2.2 j hj'
      refine ⟨fun z => absurd z (nI_ge hj' (by omega)), fun _ => ?_⟩
      rw [has' (by omega) (by omega)]
      refine JN_2 (fun w D3 => w = lN (coN kd R Mk Pr Ne n S K i + gCo kd R Mk Pr Ne n S (K i) (j + 1)) ∧ frQo D D3) (fun v D3 hv => ?_) (fun K22 hK => ⟨fun z => ⟨nI_in (by omega) (by omega), ?_⟩, fun z => hK _ _ ⟨?_, f2⟩⟩)
      · obtain ⟨rfl, f3⟩ := hv
        rw [nI_1]
        rintro v24 rfl
        exact hr2 hj' _ _ _ ⟨rfl, rfl, f3⟩
      · have z : S.testBit j = true := by rw [n0, bB_0] at z; simpa using z
        have s0 : S ≠ 0 := fun y => by rw [y, Nat.zero_testBit] at z; cases z
        rw [nI_clamp (n := i) (by omega), k1]
        refine m_find (MOq_c h f2.1) hm hkd k2 (Or.inl hj') hS ⟨nI_in (by omega) (by omega), ?_⟩
        obtain ⟨b1, b2, b3⟩ := odM_b (kd := kd) (k := K i) (o := j) (R := R) (Mk := Mk) (Pr := Pr) hM hg n6 hS s0
        have ot := odM_th (kd := kd) (k := K i) (o := j) (R := R) (Mk := Mk) (Pr := Pr) (Ne := Ne) n6 hS s0
        have e35 : (pO D2 (odM kd R Mk Pr Ne n S (K i) j).1 (odM kd R Mk Pr Ne n S (K i) j).2).1 35 j = nI (Pr j) := by rw [pO_1, f2.1]; exact p1
        rw [nI_clamp (by omega), e35, pO_a, pO_b]
        refine ⟨fun y => ?_, ?_⟩
        · have := (pk_lEQ (b := 0) (by omega) (by omega)).mp y; omega
        · rw [nI_l (by omega), show (1000 : Int64) = lN 1000 from rfl, lN_mul, pk_lDiv (by omega) (by omega) (by omega), ot, lN_mul, lN_add]
          rintro w33 rfl
          exact hK _ _ ⟨by rw [gCo_s, if_pos z, Nat.add_assoc], frQo_p f2⟩
      · have z : S.testBit j = false := by rw [n0, bB_0] at z; exact z
        rw [gCo_s, if_neg (by rw [z]; simp), Nat.add_zero]
theorem gCo_le {kd n S j : Nat} {R : RS} {Mk Pr Ne : Nat → Nat} (hM : okM R.1) (hg : gOK n Ne) (hn : n ≤ 6) (hP : ∀ i, i < n → Pr i < 100) (hS : S < 2 ^ n) : gCo kd R Mk Pr Ne n S j n ≤ 99000 * n := by
  have : gCo kd R Mk Pr Ne n S j n ≤ sumN (fun _ => 99000) n := sumN_le fun i hi => by
    split
    · next c =>
      have s0 : S ≠ 0 := fun y => by rw [y, Nat.zero_testBit] at c; cases c
      have t1 : thN kd R Mk Pr Ne n S j i ≤ 1000 := th_le (od_b hM hg hn hS s0)
      have p1 := hP i hi
      exact Nat.le_trans (Nat.mul_le_mul (show Pr i ≤ 99 by omega) t1) (by decide)
    · omega
  exact Nat.le_trans this (sumN_b (fun _ => Nat.le_refl _) n)
theorem coN_le {kd n S k : Nat} {R : RS} {Mk Pr Ne K : Nat → Nat} (hM : okM R.1) (hg : gOK n Ne) (hn : n ≤ 6) (hk : k ≤ 16) (hP : ∀ i, i < n → Pr i < 100) (hS : S < 2 ^ n) : coN kd R Mk Pr Ne n S K k ≤ 10000000 := by
  have : coN kd R Mk Pr Ne n S K k ≤ sumN (fun _ => 594000) k := sumN_le fun i hi => by
    have := gCo_le (kd := kd) (j := K i) (Mk := Mk) hM hg hn hP hS
    omega
  have h2 : sumN (fun _ => 594000) k ≤ 594000 * k := sumN_b (fun _ => Nat.le_refl _) k
  omega
theorem xg_p {D : Dy} {n : Nat} {Mk Pr Ne : Nat → Nat} (h : XG D n Mk Pr Ne) : ∀ i, i < n → Pr i < 100 := fun i hi => (h.2.2 i hi).2.1.2
theorem p_coin {mdl : Nat → Option (Nat × Nat)} {T n k c m : Nat} {Mk Pr Ne W S O U K : Nat → Nat} {D : Dy} {a1 a2 : Int32} (h : AB mdl T D n k c m Mk Pr Ne W S O U K) : fX11_coin mdl a1 a2 D (fun v D1 => fX12_coin a1 a2 D1 (fun v' D2 => v = v' ∧ frA mdl m D D2)) := by
  have hB := h.2.2.2.2.2.1
  obtain ⟨m1, m2, m3, -⟩ := hB
  obtain ⟨k16, t1, t2, t3⟩ := h.2.2.2.2.2.2.2
  have n6 := h.1.1
  have g0 := h.2.1.2.1
  have no : ¬ (iN a1 m ∧ iN a2 (2 ^ n)) → fX12_coin a1 a2 D (fun v' D2 => (-9223372036854775808 : Int64) = v' ∧ frA mdl m D D2) := by
    intro z
    unfold fX12_coin
    by_cases q : iN a1 m
    · obtain ⟨i, hi, rfl⟩ := q
      rw [isMo_t m3 (by omega) hi]
      refine JN_1 (fun D6 => D6 = D) (fun D6 e => by subst e; exact ⟨rfl, frA_r⟩) (fun K7 hK7 => ⟨fun z => hK7 _ rfl, fun _ => ?_⟩)
      exact s_isSet n6 g0 (fun q2 => absurd ⟨⟨i, hi, rfl⟩, q2⟩ z) (fun _ => ⟨fun _ => hK7 _ rfl, fun w => absurd rfl w⟩)
    · rw [isMo_f m3 (by omega) q]
      exact JN_1 (fun D6 => D6 = D) (fun D6 e => by subst e; exact ⟨rfl, frA_r⟩) (fun K7 hK7 => ⟨fun z => hK7 _ rfl, fun z => absurd rfl z⟩)
  unfold fX11_coin
  refine x_modelAt m1 m2 (fun i hi e => ?_) (fun q => ⟨fun _ => no fun w => q w.1, fun t kd z => (by cases z)⟩)
  subst e
  obtain ⟨t, kd, R, e, i10, k6, k4, hX, hear⟩ := AB_m h hi
  rw [e]
  refine ⟨fun z => (by cases z), fun t' kd' z => ?_⟩
  injection z with z
  injection z with z1 z2
  subst z1
  subst z2
  have ht := hX.2.1
  refine s_hasAll n6 h.1.2.1 (fun q => ⟨fun _ => ?_, fun w => absurd w (by decide)⟩) (fun q => ⟨fun w => absurd rfl w, fun _ => no fun w => q w.2⟩)
  obtain ⟨s, hs, rfl⟩ := id q
  have pw := pw6 n6
  refine x_ready hX fun D1 f1 P1 => x_coinOf P1 h.2.2.1 k16 (fun i hi => (t2 i hi).2) (fun j hj => ?_) hs fun D2 f2 => ?_
  · rw [f1.1 _ _ (by omega) (by omega) (by omega) (by omega) (by omega)]; exact t3 j hj
  · have fA := frT_A hi e (frT_t f1 (frS_T f2))
    have A1 := AB_A h fA
    have cl := coN_le (kd := kd) (Mk := Mk) (K := K) hX.2.2.1 h.2.2.1 n6 k16 (xg_p h.1) hs
    rw [nI_l (by omega)]
    show fX12_coin (nI i) (nI s) D2 _
    unfold fX12_coin
    rw [isMo_t A1.2.2.2.2.2.1.2.2.1 (by omega) hi]
    refine JN_1 (fun _ => False) (fun _ e => e.elim) (fun K7 hK7 => ⟨fun z => absurd z (by decide), fun _ => ?_⟩)
    refine s_isSet n6 A1.2.1.2.1 (fun _ => ⟨fun w => absurd w (by decide), fun _ => hear D2 A1 fA _ fun D3 f3 q3 => ⟨fun _ => ?_, fun z => absurd z (by decide)⟩⟩) (fun w => absurd q w)
    have fA3 := frA_t fA (frQ_A (mdl := mdl) (m := m) f3)
    obtain ⟨-, u1, u2, -⟩ := (AB_A h fA3).2.2.2.2.2.2.2
    exact m_coinOf q3 i10 k6 h.2.2.1 k16 u1 u2 hs fun D4 f4 => ⟨rfl, frA_t fA3 (frQo_A f4)⟩
end
