section
/-! MODELS: a new one -/
theorem x_init9 {D : Dy} {t L : Nat} {post : Dy → Prop} (h : ∀ D', (∀ b y, b < t → D'.1 b y = D.1 b y) → (∀ b y, b < t → D'.2 b y = D.2 b y) → XS D' t (md0, []) → D'.1 t 1 = nI L → D'.1 t 2 = nI 0 → D'.1 t 3 = nI 0 → post D') : fX9_init t (nI L) (dN D t) post := by
  unfold fX9_init
  rintro D1 rfl D3 rfl D5 rfl D7 rfl D9 rfl D11 rfl D13 rfl D15 rfl D17 rfl D19 e19
  have lo1 : ∀ b y, b < t → D19.1 b y = D.1 b y := fun b y hb => by
    have h0 : b ≠ t := by omega
    have h1 : b ≠ t + 1 := by omega
    have h2 : b ≠ t + 2 := by omega
    have h3 : b ≠ t + 3 := by omega
    have h4 : b ≠ t + 4 := by omega
    have h5 : b ≠ t + 5 := by omega
    have h6 : b ≠ t + 6 := by omega
    have h7 : b ≠ t + 7 := by omega
    have h8 : b ≠ t + 8 := by omega
    rw [e19]; simp [dN, sI, h0, h1, h2, h3, h4, h5, h6, h7, h8]
  have lo2 : ∀ b y, b < t → D19.2 b y = D.2 b y := fun b y hb => by
    have h0 : b ≠ t := by omega
    have h1 : b ≠ t + 1 := by omega
    have h2 : b ≠ t + 2 := by omega
    have h3 : b ≠ t + 3 := by omega
    have h4 : b ≠ t + 4 := by omega
    have h5 : b ≠ t + 5 := by omega
    have h6 : b ≠ t + 6 := by omega
    have h7 : b ≠ t + 7 := by omega
    have h8 : b ≠ t + 8 := by omega
    rw [e19]; simp [dN, sI, h0, h1, h2, h3, h4, h5, h6, h7, h8]
  have a1 : D19.1 t 1 = nI L := by rw [e19]; simp [dN, sI]
  have a2 : D19.1 t 2 = nI 0 := by rw [e19]; simp [dN, sI, nI_0]
  have a3 : D19.1 t 3 = nI 0 := by rw [e19]; simp [dN, sI, nI_0]
  have a6 : D19.1 t 6 = nI 0 := by rw [e19]; simp [dN, sI, nI_0]
  have a7 : D19.1 t 7 = nI 0 := by rw [e19]; simp [dN, sI, nI_0]
  have a8 : D19.1 t 8 = nI 6 := by rw [e19]; simp [dN, sI]; rfl
  have a12 : D19.1 t 12 = nI 0 := by rw [e19]; simp [dN, sI, nI_0]
  have a15 : D19.1 t 15 = nI 0 := by rw [e19]; simp [dN, sI, nI_0]
  have r2 : ∀ y, D19.1 (t + 2) y = nI 0 := fun y => by rw [e19]; simp [dN, sI, nI_0]
  have r3 : ∀ y, D19.1 (t + 3) y = nI 0 := fun y => by rw [e19]; simp [dN, sI, nI_0]
  clear e19
  refine lp2_I 6 (fun k v D' => v = nI k ∧ (D'.2 = D19.2 ∧ ∀ b, b ≠ t + 1 → D'.1 b = D19.1 b) ∧ ∀ i, i < k → D'.1 (t + 1) i = nI 10) (by omega) (fun k hk v D' hv rec hr => ?_) ⟨rfl, ⟨rfl, fun _ _ => rfl⟩, fun i hi => absurd hi (Nat.not_lt_zero _)⟩
  obtain ⟨rfl, ⟨q1, q2⟩, q3⟩ := hv
  by_cases e : k = 6
  · subst e
    refine ⟨fun _ => ?_, fun z => absurd (Int32.le_refl _) z⟩
    refine lp2_I 3 (fun k v D2 => v = nI k ∧ (D2.2 = D19.2 ∧ ∀ b, b ≠ t + 1 → b ≠ t + 4 → D2.1 b = D19.1 b) ∧ (∀ i, i < 6 → D2.1 (t + 1) i = nI 10) ∧ ∀ i, i < k → D2.1 (t + 4) i = nI 1) (by omega) (fun k hk v D2 hv rec hr => ?_) ⟨rfl, ⟨q1, fun b h1 _ => q2 b h1⟩, q3, fun i hi => absurd hi (Nat.not_lt_zero _)⟩
    obtain ⟨rfl, ⟨u1, u2⟩, u3, u4⟩ := hv
    by_cases e : k = 3
    · subst e
      refine ⟨fun _ => ?_, fun z => absurd (Int32.le_refl _) z⟩
      have et : D2.1 t = D19.1 t := u2 t (by omega) (by omega)
      refine h D2 (fun b y hb => by rw [u2 b (by omega) (by omega)]; exact lo1 b y hb) (fun b y hb => by rw [u1]; exact lo2 b y hb) ⟨⟨u3, fun j hj => by rw [u2 (t + 2) (by omega) (by omega)]; exact r2 j, by rw [et]; exact a6, by rw [et]; exact a7, ⟨6, by rw [et]; exact a8, by omega, by omega, rfl⟩, fun k hk => ⟨by rw [u2 (t + 3) (by omega) (by omega)]; exact r3 k, u4 k hk⟩⟩, ⟨by rw [et]; exact a12, fun i hi => absurd hi (Nat.not_lt_zero _)⟩, ⟨by rw [et]; exact a15, fun j hj => absurd hj (Nat.not_lt_zero _)⟩⟩ (by rw [et]; exact a1) (by rw [et]; exact a2) (by rw [et]; exact a3)
    · have k3 : k < 3 := by omega
      refine ⟨fun z => absurd z (nI_ge (b := 3) k3 (by omega)), fun _ => ⟨nI_in k3 (by omega), ?_⟩⟩
      rw [nI_clamp (by omega), nI_1]
      rintro D4 rfl v2 rfl
      refine hr (by omega) _ _ ⟨rfl, ⟨u1, fun b hb hb2 => by funext y; rw [sI_1, if_neg (by omega)]; exact congrFun (u2 b hb hb2) y⟩, fun i hi => by rw [sI_1, if_neg (by omega)]; exact u3 i hi, fun i hi => ?_⟩
      rw [sI_1]
      by_cases e : i = k
      · rw [if_pos ⟨rfl, e⟩]; rfl
      · rw [if_neg (fun z => e z.2)]; exact u4 i (by omega)
  · have k6 : k < 6 := by omega
    refine ⟨fun z => absurd z (nI_ge (b := 6) k6 (by omega)), fun _ => ⟨nI_in k6 (by omega), ?_⟩⟩
    rw [nI_clamp (by omega), nI_1]
    rintro D4 rfl v2 rfl
    refine hr (by omega) _ _ ⟨rfl, ⟨q1, fun b hb => by funext y; rw [sI_1, if_neg (by omega)]; exact congrFun (q2 b hb) y⟩, fun i hi => ?_⟩
    rw [sI_1]
    by_cases e : i = k
    · rw [if_pos ⟨rfl, e⟩]; rfl
    · rw [if_neg (fun z => e z.2)]; exact q3 i (by omega)
theorem x_new {D : Dy} {o : Nat} {a1 a2 : Int32} {post : Dy → Prop} (h : ∀ D', (∀ b y, b < o → D'.1 b y = D.1 b y) → (∀ b y, b < o → D'.2 b y = D.2 b y) → D'.1 o 0 = a1 → D'.1 o 1 = a2 → post D') : fX11_newModel o a1 a2 D post := by
  unfold fX11_newModel
  constructor
  · rintro - D1 rfl
    unfold fX5_init fX7_init fX4_init
    rintro D2 rfl D3 rfl D4 rfl D5 rfl D6 rfl D7 rfl D8 rfl
    refine h _ (fun b y hb => ?_) (fun b y hb => ?_) ?_ ?_
    · have h0 : b ≠ o := by omega
      have h1 : b ≠ o + 1 := by omega
      have h2 : b ≠ o + 2 := by omega
      have h3 : b ≠ o + 3 := by omega
      have h4 : b ≠ o + 4 := by omega
      have h5 : b ≠ o + 5 := by omega
      simp [dN, sI, h0, h1, h2, h3, h4, h5]
    · have h0 : b ≠ o := by omega
      have h1 : b ≠ o + 1 := by omega
      have h2 : b ≠ o + 2 := by omega
      have h3 : b ≠ o + 3 := by omega
      have h4 : b ≠ o + 4 := by omega
      have h5 : b ≠ o + 5 := by omega
      simp [dN, sI, h0, h1, h2, h3, h4, h5]
    · simp [dN, sI]
    · simp [dN, sI]
  · rintro - D1 rfl
    unfold fX4_init
    rintro D2 rfl D3 rfl D4 rfl D5 rfl D6 rfl
    refine h _ (fun b y hb => ?_) (fun b y hb => ?_) ?_ ?_
    · have h0 : b ≠ o := by omega
      have h1 : b ≠ o + 1 := by omega
      have h2 : b ≠ o + 2 := by omega
      have h3 : b ≠ o + 3 := by omega
      simp [dN, sI, h0, h1, h2, h3]
    · have h0 : b ≠ o := by omega
      have h1 : b ≠ o + 1 := by omega
      have h2 : b ≠ o + 2 := by omega
      have h3 : b ≠ o + 3 := by omega
      simp [dN, sI, h0, h1, h2, h3]
    · simp [dN, sI]
    · simp [dN, sI]
/-- all that is old is as it was, but for what a new model may change -/
def frM (T : Nat) (D D' : Dy) : Prop := (∀ b y, b < T → ¬ (b = 0 ∧ (y = 6 ∨ y = 8)) → ¬ (b = 33 ∧ (y = 13 ∨ y = 14 ∨ sc33 y)) → ¬ (43 ≤ b ∧ b ≤ 53) → D'.1 b y = D.1 b y) ∧ ∀ b y, b < T → D'.2 b y = D.2 b y
theorem kdOf_n {j : Nat} (h : j < 6) : kdOf (nI j) = j := by
  have : j = 0 ∨ j = 1 ∨ j = 2 ∨ j = 3 ∨ j = 4 ∨ j = 5 := by omega
  rcases this with rfl | rfl | rfl | rfl | rfl | rfl <;> rfl
theorem TX_c {D D' : Dy} {i t L : Nat} {b : Nat → Nat} {R : RS} (h : TX D i t L b R) (h1 : D'.1 45 i = D.1 45 i) (h2 : ∀ x, x < 120 → D'.1 44 (120 * i + x) = D.1 44 (120 * i + x)) (h3 : ∀ a y, (t ≤ a ∧ a ≤ t + 5) ∨ a = t + 8 → D'.1 a y = D.1 a y) : TX D' i t L b R := by
  obtain ⟨g1, g2, g3, g4, g5, g6, g7, g8, g9, g10, g11⟩ := h
  exact ⟨g1, by rw [h1]; exact g2, fun x hx => by rw [h2 x (by omega)]; exact g3 x hx, g4, g5, g6, XM_c g7 fun a y ha => h3 _ _ (by omega), ⟨by rw [h3 _ _ (by omega)]; exact g8.1, fun j hj => by rw [h3 _ _ (by omega)]; exact g8.2 j hj⟩, ⟨by rw [h3 _ _ (by omega)]; exact g9.1, fun j hj => by rw [h3 _ _ (by omega)]; exact g9.2 j hj⟩, g10, g11⟩
theorem MB_T {mdl : Nat → Option (Nat × Nat)} {T m : Nat} {D : Dy} (h : MB mdl T D m) {i t kd : Nat} (hi : i < m) (e : mdl i = some (t, kd)) : 65 ≤ t ∧ t + (9 + nNM kd) ≤ T ∧ kd < 6 := by
  obtain ⟨t', kd', e', k1, k2, k3, -⟩ := h.2.2.2 i hi
  rw [e] at e'
  injection e' with e'
  injection e' with e1 e2
  subst e1
  subst e2
  exact ⟨k2, k3, k1⟩
theorem MB_new {mdl : Nat → Option (Nat × Nat)} {T T' m : Nat} {D D' : Dy} (h : MB mdl T D m) (hT : T ≤ T') (h1 : D'.1 0 8 = nI m) (h2 : D'.1 33 13 = nI m) (h3 : ∀ i, i < m → D'.1 43 i = D.1 43 i ∧ D'.1 46 i = D.1 46 i) (h4 : ∀ b y, 65 ≤ b → b < T → D'.1 b y = D.1 b y) : MB mdl T' D' m := by
  obtain ⟨g1, g2, g3, g4⟩ := id h
  refine ⟨g1, h1, h2, fun i hi => ?_⟩
  obtain ⟨t, kd, e, k1, k2, k3, k4, k5, k6, k7, k8⟩ := g4 i hi
  have := (@nNM_2 kd).2.1
  exact ⟨t, kd, e, k1, k2, by omega, by rw [(h3 i hi).1]; exact k4, by rw [h4 _ _ (by omega) (by omega)]; exact k5, by rw [h4 _ _ (by omega) (by omega)]; exact k6, by rw [h4 _ _ (by omega) (by omega), (h3 i hi).2]; exact k7, k8⟩
theorem MB_put {mdl : Nat → Option (Nat × Nat)} {T m t kd : Nat} {D D' : Dy} (h : MB mdl T D m) (ht : T = t) (h65 : 65 ≤ t) (hk : kd < 6) (hm : m < 10) (h1 : D'.1 0 8 = nI (m + 1)) (h2 : D'.1 33 13 = nI (m + 1)) (h3 : ∀ i, i < m → D'.1 43 i = D.1 43 i ∧ D'.1 46 i = D.1 46 i) (h4 : ∀ b y, 65 ≤ b → b < T → D'.1 b y = D.1 b y) (h5 : D'.1 43 m = nI kd) (h6 : D'.1 (t + 9) 0 = nI kd) (h7 : D'.1 (t + 9) 1 = nI m) (h8 : D'.1 t 3 = D'.1 46 m) : MB (mdlU mdl m t kd) (t + (9 + nNM kd)) D' (m + 1) := by
  obtain ⟨g1, g2, g3, g4⟩ := id h
  have um : mdlU mdl m t kd m = some (t, kd) := if_pos rfl
  have uo : ∀ i, i ≠ m → mdlU mdl m t kd i = mdl i := fun i hi => if_neg hi
  refine ⟨by omega, h1, h2, fun i hi => ?_⟩
  by_cases e : i = m
  · subst e
    refine ⟨t, kd, um, hk, h65, Nat.le_refl _, h5, h6, h7, h8, fun j hj t' kd' e' hne => ?_⟩
    rw [uo j (fun z => hne z.symm)] at e'
    have := MB_T h (by omega) e'
    omega
  · have hi' : i < m := by omega
    obtain ⟨t1, kd1, e1, k1, k2, k3, k4, k5, k6, k7, k8⟩ := g4 i hi'
    have n1 := (@nNM_2 kd1).2.1
    refine ⟨t1, kd1, by rw [uo i e]; exact e1, k1, k2, by omega, by rw [(h3 i hi').1]; exact k4, by rw [h4 _ _ (by omega) (by omega)]; exact k5, by rw [h4 _ _ (by omega) (by omega)]; exact k6, by rw [h4 _ _ (by omega) (by omega), (h3 i hi').2]; exact k7, fun j hj t' kd' e' hne => ?_⟩
    by_cases ej : j = m
    · subst ej
      rw [um] at e'
      injection e' with e'
      injection e' with q1 q2
      omega
    · rw [uo j ej] at e'
      exact k8 j (by omega) t' kd' e' hne
def sLow33 (S S1 : Sh) : Prop := ∀ a, a < S.1 → a ≠ 13 → S1.2.1 a = S.2.1 a ∧ S1.2.2.1 a = S.2.2.1 a ∧ S1.2.2.2 a = S.2.2.2 a
theorem sLow33_t {S S1 S2 : Sh} (h : sLow33 S S1) (h2 : sLow33 S1 S2) (hle : S.1 ≤ S1.1) : sLow33 S S2 := fun a ha h13 => by
  have q1 := h a ha h13
  have q2 := h2 a (by omega) h13
  exact ⟨q2.1.trans q1.1, q2.2.1.trans q1.2.1, q2.2.2.trans q1.2.2⟩
theorem sLow_33 {S S1 : Sh} (h : sLow S S1 S.1) : sLow33 S S1 := fun a ha _ => h a ha
theorem p_model {mdl : Nat → Option (Nat × Nat)} {S : Sh} {m z : Nat} {D : Dy} {a1 : Int32} (hF : FX S mdl) (hSb : Sb S) (hT : 65 ≤ S.1) (hB : MB mdl S.1 D m) (hX : MX mdl D m) (hR : RX D z) : fX11_model S.1 S a1 D (fun v S1 D1 => ∃ mdl', FX S1 mdl' ∧ sLow33 S S1 ∧ Sb S1 ∧ S.1 ≤ S1.1 ∧ S1.1 ≤ S.1 + 15 ∧ fX12_model a1 D1 (fun v' D2 => v = v' ∧ (∃ m' z', MB mdl' S1.1 D2 m' ∧ MX mdl' D2 m' ∧ RX D2 z') ∧ frM S.1 D D2)) := by
  obtain ⟨m1, m2, m3, m4⟩ := id hB
  obtain ⟨z1, z2, z3, z4⟩ := id hR
  generalize ht : S.1 = t at hT hB
  have l33 : sLow33 S S := fun _ _ _ => ⟨rfl, rfl, rfl⟩
  have fr0 : frM t D D := ⟨fun _ _ _ _ _ _ => rfl, fun _ _ _ => rfl⟩
  have same : ∃ m' z', MB mdl S.1 D m' ∧ MX mdl D m' ∧ RX D z' := ⟨m, z, by rw [ht]; exact hB, hX, hR⟩
  unfold fX11_model
  by_cases q1 : iN a1 6
  · obtain ⟨kd, hkd, rfl⟩ := q1
    have ek := kdOf_n hkd
    have e6 : fX11_within (nI kd) (6 : Int32) = fX11_within (nI kd) (nI 6) := rfl
    have e5 : fX12_in (nI kd) 0 5 = fX12_in (nI kd) (nI 0) (nI 5) := rfl
    rw [e6, wi_t hkd (by omega), m2]
    refine ⟨fun _ => ⟨fun c => ?_, fun c => ⟨mdl, hF, l33, hSb, by omega, by omega, ?_⟩⟩, fun w => absurd w (by decide)⟩
    · have m10 : m < 10 := (ltI' (b := 10) (by omega) (by omega)).mp c
      rintro D8 rfl
      have e06 : (dN D t).1 0 6 = nI z := by
        show (if 0 = t then 0 else D.1 0 6) = _
        rw [if_neg (by omega)]; exact z2
      rw [e06]
      have bb : ∃ b : Nat → Nat, ∀ i, i < z → b i < 256 ∧ D.1 12 i = nI (b i) ∧ D.1 44 (1200 + i) = s8 (b i) := by
        have : ∀ i, ∃ b, i < z → b < 256 ∧ D.1 12 i = nI b ∧ D.1 44 (1200 + i) = s8 b := fun i => by
          by_cases hi : i < z
          · obtain ⟨b, hb⟩ := z4 i hi
            exact ⟨b, fun _ => hb⟩
          · exact ⟨0, fun w => absurd w hi⟩
        exact Classical.skolem.mp this
      obtain ⟨b, hb⟩ := bb
      refine x_init9 fun D10 lo1 lo2 S10 t1 t2 t3 => ?_
      rintro D11 rfl
      have e11 : ∀ a y, ¬ (a = 0 ∧ y = 6) → (sI D10 0 6 0).1 a y = D10.1 a y := fun a y w => by rw [sI_1, if_neg w]
      have T11 : XT (sI D10 0 6 0) t b z := ⟨hT, z1, by rw [e11 _ _ (by omega)]; exact t1, fun i hi => ⟨by rw [e11 _ _ (by omega), lo1 _ _ (by omega)]; exact (hb i hi).2.1, (hb i hi).1⟩⟩
      have S11 : XS (sI D10 0 6 0) t (md0, []) := ⟨XM_c S10.1 fun a y ha => e11 _ _ (by omega), XC_s S10.2.1 (by omega), XE_s S10.2.2 (by omega)⟩
      refine x_clauses T11 (by rw [e11 _ _ (by omega)]; exact t2) S11 (by rw [e11 _ _ (by omega)]; exact t3) fun D18 f18 p18 l18 g18 => ?_
      have old : ∀ a y, a < t → ¬ (a = 0 ∧ y = 6) → D18.1 a y = D.1 a y := fun a y h1 h2 => by
        rw [f18.2 a y (by omega) (by omega) (by omega), e11 a y h2]; exact lo1 a y h1
      have old2 : ∀ a y, a < t → D18.2 a y = D.2 a y := fun a y h1 => by
        rw [f18.1]; exact lo2 a y h1
      have e186 : D18.1 0 6 = nI 0 := by rw [f18.2 _ _ (by omega) (by omega) (by omega), sI_1, if_pos ⟨rfl, rfl⟩]; rfl
      -- the other, up to where it has read
      have rd : ∀ D1 : Dy, (∀ a y, a < t → ¬ (a = 0 ∧ (y = 6 ∨ y = 8)) → D1.1 a y = D.1 a y) → ∀ post : Int32 → Dy → Prop, (∀ D19, frU 0 (sI (sI (sI D1 45 10 (nI z)) 33 14 0) 33 33 0) D19 → D19.1 33 21 = nI (rTx (chr b z) z).1.2.1 → ((rTx (chr b z) z).1.1 = true → D19.1 33 22 = nI (rTx (chr b z) z).2) → post (if (rTx (chr b z) z).1.1 = true then 1 else 0) D19) → fX12_goes (10 : Int32) (sI (sI (sI D1 45 10 (nI z)) 33 14 0) 33 33 0) post := fun D1 o1 post hp => by
        refine m_goes (w := 10) (x := 0) (tv := tvM (sI (sI (sI D1 45 10 (nI z)) 33 14 0) 33 33 0) 0) (by omega) z1 (by rw [sI_1, if_neg (by omega), sI_1, if_neg (by omega), sI_1, if_pos ⟨rfl, rfl⟩]) (fun i hi => ⟨?_, (hb i hi).1⟩) (by rw [sI_1, if_pos ⟨rfl, rfl⟩]; rfl) (by omega) rfl fun D19 f19 p19 l19 g19 => hp D19 f19 p19 fun y => (g19 y).2
        rw [sI_1, if_neg (by omega), sI_1, if_neg (by omega), sI_1, if_neg (by omega), o1 _ _ (by omega) (by omega)]
        exact (hb i hi).2.2
      have c10 : (10 : Int32).toNatClampNeg = 10 := rfl
      have v10 : vp_in (10 : Int32) 11 := nI_in (c := 10) (by omega) (by omega)
      by_cases y : (rTx (chr b z) z).1.1 = true
      · rw [if_pos y]
        obtain ⟨x1, x2, x3⟩ := g18 y
        refine ⟨fun _ => ?_, fun w => absurd w (by decide)⟩
        have e188 : D18.1 0 8 = nI m := by rw [old _ _ (by omega) (by omega)]; exact m2
        rw [e188]
        refine x_new fun D20 n1 n2 n3 n4 => ⟨nI_in m10 (by omega), ?_⟩
        have e208 : D20.1 0 8 = nI m := by rw [n1 _ _ (by omega)]; exact e188
        rintro v21 rfl D23 rfl
        rw [e208, nI_clamp (by omega), nI_1]
        have fin : S.1 = t := ht
        -- shape
        have sT1 : (sT t S).1 = t + 9 := rfl
        have Sb1 : Sb (sT t S) := sT_Sb hSb ht
        have F1 : FX (sT t S) mdl := FX_low hF hSb (by rw [ht]; exact sT_low)
        have L1 : sLow33 S (sT t S) := sLow_33 (by rw [ht]; exact sT_low)
        have Sb2 : Sb (sNM (kdOf (nI kd)) (t + 9) t (sT t S)) := sNM_Sb Sb1 sT1
        have F2 : FX (sNM (kdOf (nI kd)) (t + 9) t (sT t S)) mdl := FX_low F1 Sb1 (by rw [sT1]; exact sNM_low)
        have L2 : sLow33 (sT t S) (sNM (kdOf (nI kd)) (t + 9) t (sT t S)) := sLow_33 (by rw [sT1]; exact sNM_low)
        have M2 : FMo (sNM (kdOf (nI kd)) (t + 9) t (sT t S)) t (kdOf (nI kd)) := sNM_FMo kdOf_lt sT_FT
        have F3 := FX_put (i := m) F2 M2 (by omega) (mdl_hi F2)
        rw [ek] at F3 L2 Sb2 ⊢
        have s1 : (sNM kd (t + 9) t (sT t S)).1 = t + 9 + nNM kd := sNM_1
        have nk := @nNM_2 kd
        have L3 : sLow33 S (sR (sNM kd (t + 9) t (sT t S)) 13 m (some (t + 9))) := fun a ha h13 => by
          have q := sLow33_t L1 L2 (by omega) a ha h13
          refine ⟨q.1, q.2.1, ?_⟩
          rw [← q.2.2]
          funext j
          show (if a = 13 ∧ j = m then _ else _) = _
          rw [if_neg (fun w => h13 w.1)]
        refine ⟨mdlU mdl m t kd, F3, L3, Sb_sR Sb2, ?_, ?_, ?_⟩
        · show t ≤ (sNM kd (t + 9) t (sT t S)).1; omega
        · show (sNM kd (t + 9) t (sT t S)).1 ≤ t + 15; omega
        · have eT : (sR (sNM kd (t + 9) t (sT t S)) 13 m (some (t + 9))).1 = t + (9 + nNM kd) := by
            show (sNM kd (t + 9) t (sT t S)).1 = _; omega
          rw [eT]
          have e23 : ∀ a y, ¬ (a = 0 ∧ y = 8) → (sI D20 0 8 (nI (m + 1))).1 a y = D20.1 a y := fun a y w => by rw [sI_1, if_neg w]
          have o23 : ∀ a y, a < t → ¬ (a = 0 ∧ (y = 6 ∨ y = 8)) → (sI D20 0 8 (nI (m + 1))).1 a y = D.1 a y := fun a y h1 h2 => by
            rw [e23 _ _ (by omega), n1 _ _ (by omega)]; exact old a y h1 (by omega)
          have x23 : ∀ a y, t ≤ a → a < t + 9 → (sI D20 0 8 (nI (m + 1))).1 a y = D18.1 a y := fun a y h1 h2 => by
            rw [e23 _ _ (by omega), n1 _ _ (by omega)]
          have o23' : ∀ a y, a < t → (sI D20 0 8 (nI (m + 1))).2 a y = D.2 a y := fun a y h1 => by
            show D20.2 a y = _
            rw [n2 _ _ (by omega)]; exact old2 a y h1
          have k23 : (sI D20 0 8 (nI (m + 1))).1 (t + 9) 0 = nI kd := by rw [e23 _ _ (by omega)]; exact n3
          have i23 : (sI D20 0 8 (nI (m + 1))).1 (t + 9) 1 = nI m := by rw [e23 _ _ (by omega)]; exact n4
          have c23 : (sI D20 0 8 (nI (m + 1))).1 0 8 = nI (m + 1) := by rw [sI_1, if_pos ⟨rfl, rfl⟩]
          have z23 : (sI D20 0 8 (nI (m + 1))).1 0 6 = nI 0 := by rw [e23 _ _ (by omega), n1 _ _ (by omega)]; exact e186
          generalize sI D20 0 8 (nI (m + 1)) = D1 at *
          have e13 : D1.1 33 13 = nI m := by rw [o23 _ _ (by omega) (by omega)]; exact m3
          have e14 : D1.1 33 14 = nI z := by rw [o23 _ _ (by omega) (by omega)]; exact z3
          unfold fX12_model
          rw [e5, ix_t (m := 5) (by omega) (by omega), e13, e14, c10]
          refine ⟨fun _ => ⟨fun _ => ⟨v10, ?_⟩, fun w => absurd ((nI_eq (b := 10) (by omega) (by omega)).mp w) (by omega)⟩, fun w => absurd w (by decide)⟩
          rintro D8 rfl D10' rfl D12 rfl
          refine rd D1 o23 _ fun D19 f19 p19 g19 => ?_
          rw [if_pos y]
          have g19 := g19 y
          refine ⟨fun _ => ?_, fun w => absurd w (by decide)⟩
          have f19' : ∀ a yy, ¬ (a = 33 ∧ (yy = 14 ∨ sc33 yy)) → ¬ (a = 45 ∧ yy = 10) → ¬ (47 ≤ a ∧ a ≤ 53) → D19.1 a yy = D1.1 a yy := fun a yy h1 h2 h3 => by
            unfold sc33 at h1
            rw [f19.2 a yy (by omega) (by omega) (by omega) (by omega) (by omega), sI_1, if_neg (by omega), sI_1, if_neg (by omega), sI_1, if_neg (by omega)]
          have e19 : D19.1 33 13 = nI m := by rw [f19' _ _ (by unfold sc33; omega) (by omega) (by omega)]; exact e13
          have e4510 : D19.1 45 10 = nI z := by
            rw [f19.2 _ _ (by omega) (by omega) (by omega) (by omega) (by omega), sI_1, if_neg (by omega), sI_1, if_neg (by omega), sI_1, if_pos ⟨rfl, rfl⟩]
          have e1914 : D19.1 33 14 = nI 0 := by
            rw [f19.2 _ _ (by omega) (by omega) (by omega) (by omega) (by omega), sI_1, if_neg (by omega), sI_1, if_pos ⟨rfl, rfl⟩]; rfl
          have d19 : D19.2 = D1.2 := f19.1
          rw [e19, e4510, nI_clamp (by omega)]
          refine ⟨v10, nI_in (by omega) (by omega), ?_⟩
          rintro D21 rfl
          have fr21 : ∀ a yy, ¬ (a = 45 ∧ yy = m) → (sI D19 45 m (nI z)).1 a yy = D19.1 a yy := fun a yy w => by rw [sI_1, if_neg w]
          refine lp2_I z (fun k v D' => v = nI k ∧ D'.2 = D1.2 ∧ (∀ a yy, ¬ (a = 44 ∧ 120 * m ≤ yy ∧ yy < 120 * m + k) → D'.1 a yy = (sI D19 45 m (nI z)).1 a yy) ∧ ∀ i, i < k → D'.1 44 (120 * m + i) = s8 (b i)) (by omega) (fun k hk v D' hv rec hr => ?_) ⟨rfl, d19, fun _ _ _ => rfl, fun i hi => absurd hi (Nat.not_lt_zero _)⟩
          obtain ⟨rfl, d', r1, r2⟩ := hv
          have k10 : D'.1 45 10 = nI z := by rw [r1 _ _ (by omega), fr21 _ _ (by omega)]; exact e4510
          have k13 : D'.1 33 13 = nI m := by rw [r1 _ _ (by omega), fr21 _ _ (by omega)]; exact e19
          rw [k10, k13]
          by_cases e : k = z
          · subst e
            refine ⟨v10, fun _ => ⟨nI_in m10 (by omega), ?_⟩, fun w => absurd (Int32.le_refl _) w⟩
            rw [nI_clamp (by omega)]
            rintro D28 rfl
            have s13 : ∀ v, (sI D' 43 m v).1 33 13 = nI m := fun v => by rw [sI_1, if_neg (by omega)]; exact k13
            rw [s13]
            refine ⟨nI_in m10 (by omega), ?_⟩
            rw [nI_clamp (by omega)]
            have s22 : (sI D' 43 m (nI kd)).1 33 22 = nI (rTx (chr b k) k).2 := by rw [sI_1, if_neg (by omega), r1 _ _ (by omega), fr21 _ _ (by omega)]; exact g19
            rw [s22]
            rintro D30 rfl
            have s13' : ∀ v, (sI (sI D' 43 m (nI kd)) 46 m v).1 33 13 = nI m := fun v => by rw [sI_1, if_neg (by omega)]; exact s13 _
            rw [s13', nI_1]
            rintro D32 rfl
            have e32 : (sI (sI (sI D' 43 m (nI kd)) 46 m (nI (rTx (chr b k) k).2)) 33 13 (nI (m + 1))).1 33 13 = nI (m + 1) := by rw [sI_1, if_pos ⟨rfl, rfl⟩]
            rw [e32, show (1 : Int32) = nI 1 from rfl, sub' (by omega), Nat.add_sub_cancel]
            have F : ∀ a yy, ¬ (a = 43 ∧ yy = m) → ¬ (a = 46 ∧ yy = m) → ¬ (a = 33 ∧ yy = 13) → (sI (sI (sI D' 43 m (nI kd)) 46 m (nI (rTx (chr b k) k).2)) 33 13 (nI (m + 1))).1 a yy = D'.1 a yy := fun a yy h1 h2 h3 => by
              rw [sI_1, if_neg h3, sI_1, if_neg h2, sI_1, if_neg h1]
            have E43 : (sI (sI (sI D' 43 m (nI kd)) 46 m (nI (rTx (chr b k) k).2)) 33 13 (nI (m + 1))).1 43 m = nI kd := by rw [sI_1, if_neg (by omega), sI_1, if_neg (by omega), sI_1, if_pos ⟨rfl, rfl⟩]
            have E46 : (sI (sI (sI D' 43 m (nI kd)) 46 m (nI (rTx (chr b k) k).2)) 33 13 (nI (m + 1))).1 46 m = nI (rTx (chr b k) k).2 := by rw [sI_1, if_neg (by omega), sI_1, if_pos ⟨rfl, rfl⟩]
            have d2 : (sI (sI (sI D' 43 m (nI kd)) 46 m (nI (rTx (chr b k) k).2)) 33 13 (nI (m + 1))).2 = D1.2 := d'
            generalize sI (sI (sI D' 43 m (nI kd)) 46 m (nI (rTx (chr b k) k).2)) 33 13 (nI (m + 1)) = D2 at *
            -- what is where
            have G : ∀ a yy, ¬ (a = 33 ∧ (yy = 13 ∨ yy = 14 ∨ sc33 yy)) → ¬ (a = 45 ∧ (yy = 10 ∨ yy = m)) → ¬ (47 ≤ a ∧ a ≤ 53) → ¬ (a = 43 ∧ yy = m) → ¬ (a = 46 ∧ yy = m) → ¬ (a = 44 ∧ 120 * m ≤ yy ∧ yy < 120 * m + k) → D2.1 a yy = D1.1 a yy := fun a yy h1 h2 h3 h4 h5 h6 => by
              rw [F a yy h4 h5 (fun w => h1 ⟨w.1, Or.inl w.2⟩), r1 a yy h6, fr21 a yy (fun w => h2 ⟨w.1, Or.inr w.2⟩), f19' a yy (fun w => h1 ⟨w.1, Or.inr w.2⟩) (fun w => h2 ⟨w.1, Or.inl w.2⟩) h3]
            have Gt : ∀ a yy, 65 ≤ a → D2.1 a yy = D1.1 a yy := fun a yy h => G a yy (by omega) (by omega) (by omega) (by omega) (by omega) (by omega)
            refine ⟨rfl, ⟨m + 1, 0, MB_put hB rfl hT hkd m10 ?_ e32 (fun i hi => ?_) (fun a yy h1 h2 => ?_) E43 ?_ ?_ ?_, fun i hi => ?_, ?_⟩, ⟨fun a yy h1 h2 h3 h4 => ?_, fun a yy h1 => ?_⟩⟩
            · rw [G _ _ (by omega) (by omega) (by omega) (by omega) (by omega) (by omega)]; exact c23
            · rw [G _ _ (by omega) (by omega) (by omega) (by omega) (by omega) (by omega), G _ _ (by omega) (by omega) (by omega) (by omega) (by omega) (by omega), o23 _ _ (by omega) (by omega), o23 _ _ (by omega) (by omega)]; exact ⟨rfl, rfl⟩
            · rw [Gt _ _ h1, o23 _ _ h2 (by omega)]
            · rw [Gt _ _ (by omega)]; exact k23
            · rw [Gt _ _ (by omega)]; exact i23
            · rw [Gt _ _ (by omega), x23 _ _ (by omega) (by omega), E46]; exact x3
            · by_cases e : i = m
              · subst e
                refine ⟨t, kd, k, b, (rTx (chr b k) k).1.2.2, if_pos rfl, z1, ?_, fun x hx => ⟨?_, (hb x hx).1⟩, y, rfl, x2.1, XM_c x1.1 fun a yy ha => by rw [Gt _ _ (by omega), x23 _ _ (by omega) (by omega)], ⟨?_, fun j hj => ?_⟩, ⟨?_, fun j hj => ?_⟩, Nat.le_trans x2.2.1 (Nat.le_trans l18 z1), x2.2.2⟩
                · rw [F _ _ (by omega) (by omega) (by omega), r1 _ _ (by omega), sI_1, if_pos ⟨rfl, rfl⟩]
                · rw [F _ _ (by omega) (by omega) (by omega)]; exact r2 x hx
                · rw [Gt _ _ (by omega), x23 _ _ (by omega) (by omega)]; exact x1.2.1.1
                · rw [Gt _ _ (by omega), x23 _ _ (by omega) (by omega)]; exact x1.2.1.2 j hj
                · rw [Gt _ _ (by omega), x23 _ _ (by omega) (by omega)]; exact x1.2.2.1
                · rw [Gt _ _ (by omega), x23 _ _ (by omega) (by omega)]; exact x1.2.2.2 j hj
              · have hi' : i < m := by omega
                obtain ⟨t', kd', L', b', R', e', h'⟩ := hX i hi'
                have lt' := MB_T hB hi' e'
                have n4' := (@nNM_2 kd').2.1
                refine ⟨t', kd', L', b', R', (if_neg e).trans e', TX_c h' ?_ (fun x hx => ?_) (fun a yy ha => ?_)⟩
                · rw [G _ _ (by omega) (by omega) (by omega) (by omega) (by omega) (by omega), o23 _ _ (by omega) (by omega)]
                · rw [G _ _ (by omega) (by omega) (by omega) (by omega) (by omega) (by omega), o23 _ _ (by omega) (by omega)]
                · rw [Gt _ _ (by omega), o23 _ _ (by omega) (by omega)]
            · refine ⟨Nat.zero_le _, ?_, ?_, fun i hi => absurd hi (Nat.not_lt_zero _)⟩
              · rw [G _ _ (by omega) (by omega) (by omega) (by omega) (by omega) (by omega)]; exact z23
              · rw [F _ _ (by omega) (by omega) (by omega), r1 _ _ (by omega), fr21 _ _ (by omega)]; exact e1914
            · rw [G _ _ h3 (by omega) (by omega) (by omega) (by omega) (by omega), o23 _ _ h1 h2]
            · rw [d2]; exact o23' _ _ h1
          · have hk' : k < z := by omega
            refine ⟨v10, fun w => absurd w (nI_ge hk' (by omega)), fun _ => ?_⟩
            rw [show (1200 : Int32) = nI 1200 from rfl, nI_add, show (120 : Int32) * nI m + nI k = nI (120 * m + k) by rw [show (120 : Int32) = nI 120 from rfl, nI_mul, nI_add], nI_clamp (by omega), nI_clamp (by omega), nI_1]
            refine ⟨nI_in (by omega) (by omega), nI_in (by omega) (by omega), ?_⟩
            have src : D'.1 44 (1200 + k) = s8 (b k) := by
              rw [r1 _ _ (by omega), fr21 _ _ (by omega), f19' _ _ (by omega) (by omega) (by omega), o23 _ _ (by omega) (by omega)]
              exact (hb k hk').2.2
            rw [src]
            rintro D34 rfl v36 rfl
            refine hr hk' _ _ ⟨rfl, d', fun a yy h => ?_, fun i hi => ?_⟩
            · rw [sI_1, if_neg (by omega)]; exact r1 a yy (by omega)
            · rw [sI_1]
              by_cases e : i = k
              · rw [if_pos ⟨rfl, by omega⟩, e]
              · rw [if_neg (by omega)]; exact r2 i (by omega)
      · rw [if_neg y]
        refine ⟨fun w => absurd rfl w, fun _ => ?_⟩
        have sT1 : (sT t S).1 = t + 9 := rfl
        refine ⟨mdl, FX_low hF hSb (by rw [ht]; exact sT_low), sLow_33 (by rw [ht]; exact sT_low), sT_Sb hSb ht, by omega, by omega, ?_⟩
        rw [sT1, p18]
        have e13 : D18.1 33 13 = nI m := by rw [old _ _ (by omega) (by omega)]; exact m3
        have e14 : D18.1 33 14 = nI z := by rw [old _ _ (by omega) (by omega)]; exact z3
        show fX12_model (nI kd) D18 _
        unfold fX12_model
        rw [e5, ix_t (m := 5) (by omega) (by omega), e13, e14, c10]
        refine ⟨fun _ => ⟨fun _ => ⟨v10, ?_⟩, fun w => absurd ((nI_eq (b := 10) (by omega) (by omega)).mp w) (by omega)⟩, fun w => absurd w (by decide)⟩
        rintro D8 rfl D10' rfl D12 rfl
        refine rd D18 (fun a yy h1 h2 => old a yy h1 (by omega)) _ fun D19 f19 p19 g19 => ?_
        rw [if_neg y]
        refine ⟨fun w => absurd rfl w, fun _ => ?_⟩
        rw [p19]
        have G : ∀ a yy, ¬ (a = 33 ∧ (yy = 14 ∨ sc33 yy)) → ¬ (a = 45 ∧ yy = 10) → ¬ (47 ≤ a ∧ a ≤ 53) → D19.1 a yy = D18.1 a yy := fun a yy h1 h2 h3 => by
          unfold sc33 at h1
          rw [f19.2 a yy (by omega) (by omega) (by omega) (by omega) (by omega), sI_1, if_neg (by omega), sI_1, if_neg (by omega), sI_1, if_neg (by omega)]
        refine ⟨rfl, ⟨m, 0, MB_new hB (by omega) ?_ ?_ (fun i hi => ?_) (fun a yy h1 h2 => ?_), fun i hi => ?_, ?_⟩, ⟨fun a yy h1 h2 h3 h4 => ?_, fun a yy h1 => ?_⟩⟩
        · rw [G _ _ (by omega) (by omega) (by omega), old _ _ (by omega) (by omega)]; exact m2
        · rw [G _ _ (by unfold sc33; omega) (by omega) (by omega)]; exact e13
        · rw [G _ _ (by omega) (by omega) (by omega), G _ _ (by omega) (by omega) (by omega), old _ _ (by omega) (by omega), old _ _ (by omega) (by omega)]; exact ⟨rfl, rfl⟩
        · rw [G _ _ (by omega) (by omega) (by omega), old _ _ h2 (by omega)]
        · obtain ⟨t', kd', L', b', R', e', h'⟩ := hX i hi
          have lt' := MB_T hB hi e'
          have n4' := (@nNM_2 kd').2.1
          refine ⟨t', kd', L', b', R', e', TX_c h' ?_ (fun x hx => ?_) (fun a yy ha => ?_)⟩
          · rw [G _ _ (by omega) (by omega) (by omega), old _ _ (by omega) (by omega)]
          · rw [G _ _ (by omega) (by omega) (by omega), old _ _ (by omega) (by omega)]
          · rw [G _ _ (by omega) (by omega) (by omega), old _ _ (by omega) (by omega)]
        · refine ⟨Nat.zero_le _, ?_, ?_, fun i hi => absurd hi (Nat.not_lt_zero _)⟩
          · rw [G _ _ (by omega) (by omega) (by omega)]; exact e186
          · rw [f19.2 _ _ (by omega) (by omega) (by omega) (by omega) (by omega), sI_1, if_neg (by omega), sI_1, if_pos ⟨rfl, rfl⟩]; rfl
        · rw [G _ _ (fun w => h3 ⟨w.1, Or.inr w.2⟩) (by omega) (by omega), old _ _ h1 (by omega)]
        · rw [f19.1]; exact old2 _ _ h1
    · have m10 : m = 10 := by
        have : ¬ m < 10 := fun w => c (nI_lt (b := 10) w (by omega))
        omega
      unfold fX12_model
      rw [e5, ix_t (m := 5) (by omega) (by omega), m3]
      exact ⟨fun _ => ⟨fun w => absurd (by rw [m10]; rfl) w, fun _ => ⟨rfl, same, ht ▸ fr0⟩⟩, fun w => absurd w (by decide)⟩
  · have e6 : fX11_within a1 (6 : Int32) = fX11_within a1 (nI 6) := rfl
    have e5 : fX12_in a1 0 5 = fX12_in a1 (nI 0) (nI 5) := rfl
    rw [e6, wi_f q1 (by omega)]
    refine ⟨fun w => absurd rfl w, fun _ => ⟨mdl, hF, l33, hSb, by omega, by omega, ?_⟩⟩
    unfold fX12_model
    rw [e5, ix_f (m := 5) q1 (by omega)]
    exact ⟨fun w => absurd rfl w, fun _ => ⟨rfl, same, ht ▸ fr0⟩⟩
end
