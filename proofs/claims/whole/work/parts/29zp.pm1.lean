section
/-! MODELS: what stands between the two, frames -/
/-- the text of a model, as the one and the other hold it -/
def TX (D : Dy) (i t L : Nat) (b : Nat → Nat) (R : RS) : Prop := L ≤ 120 ∧ D.1 45 i = nI L ∧ (∀ x, x < L → D.1 44 (120 * i + x) = s8 (b x) ∧ b x < 256) ∧ (rTx (chr b L) L).1.1 = true ∧ R = (rTx (chr b L) L).1.2.2 ∧ okM R.1 ∧ XM D t R.1 ∧ XC D t R.2.flatten ∧ XE D t R.2 ∧ R.2.flatten.length ≤ 120 ∧ R.2.length ≤ 10
def MX (mdl : Nat → Option (Nat × Nat)) (D : Dy) (m : Nat) : Prop := ∀ i, i < m → ∃ t kd L b R, mdl i = some (t, kd) ∧ TX D i t L b R
/-- what any model of the one writes as it reckons -/
def Scr (mdl : Nat → Option (Nat × Nat)) (m b : Nat) : Prop := ∃ i t kd, i < m ∧ mdl i = some (t, kd) ∧ (b = t + 6 ∨ b = t + 7 ∨ (t + 10 ≤ b ∧ b < t + (9 + nNM kd)))
theorem nNM_2 {kd : Nat} : (kd = 2 → nNM kd = 6) ∧ 4 ≤ nNM kd ∧ nNM kd ≤ 6 := by
  unfold nNM
  split
  · exact ⟨fun _ => rfl, by omega, by omega⟩
  · next c => exact ⟨fun z => absurd z c, by omega, by omega⟩
def sc33 (y : Nat) : Prop := y = 19 ∨ y = 20 ∨ y = 21 ∨ y = 22 ∨ y = 23 ∨ y = 28 ∨ y = 29 ∨ y = 30 ∨ y = 31 ∨ y = 33 ∨ y = 36 ∨ y = 37 ∨ y = 38
def frA (mdl : Nat → Option (Nat × Nat)) (m : Nat) (D D' : Dy) : Prop := (∀ b y, ¬ Scr mdl m b → ¬ (b = 33 ∧ sc33 y) → ¬ (47 ≤ b ∧ b ≤ 53) → D'.1 b y = D.1 b y) ∧ ∀ b y, ¬ Scr mdl m b → ¬ (b = 33 ∧ (y = 39 ∨ y = 40)) → D'.2 b y = D.2 b y
theorem frA_r {mdl : Nat → Option (Nat × Nat)} {m : Nat} {D : Dy} : frA mdl m D D := ⟨fun _ _ _ _ _ => rfl, fun _ _ _ _ => rfl⟩
theorem frA_t {mdl : Nat → Option (Nat × Nat)} {m : Nat} {D D' D'' : Dy} (h : frA mdl m D D') (h' : frA mdl m D' D'') : frA mdl m D D'' := ⟨fun b y h1 h2 h3 => (h'.1 b y h1 h2 h3).trans (h.1 b y h1 h2 h3), fun b y h1 h2 => (h'.2 b y h1 h2).trans (h.2 b y h1 h2)⟩
theorem frT_A {mdl : Nat → Option (Nat × Nat)} {m i t kd : Nat} {D D' : Dy} (hi : i < m) (e : mdl i = some (t, kd)) (f : frT t kd D D') : frA mdl m D D' := by
  obtain ⟨n2, n4, n6⟩ := @nNM_2 kd
  exact ⟨fun b y h _ _ => f.1 b y (fun z => h ⟨i, t, kd, hi, e, by omega⟩) (fun z => h ⟨i, t, kd, hi, e, by omega⟩) (fun z => h ⟨i, t, kd, hi, e, by omega⟩) (fun z => h ⟨i, t, kd, hi, e, by have := n2 z.1; omega⟩) (fun z => h ⟨i, t, kd, hi, e, by have := n2 z.1; omega⟩), fun b y h _ => f.2 b y (fun z => h ⟨i, t, kd, hi, e, by omega⟩) (fun z => h ⟨i, t, kd, hi, e, by omega⟩)⟩
theorem frQ_A {mdl : Nat → Option (Nat × Nat)} {m : Nat} {D D' : Dy} (f : frQ D D') : frA mdl m D D' := ⟨fun b y _ h1 h2 => f.2 b y (fun z => h1 z) h2, fun b y _ _ => by rw [f.1]⟩
theorem frQo_A {mdl : Nat → Option (Nat × Nat)} {m : Nat} {D D' : Dy} (f : frQo D D') : frA mdl m D D' := ⟨fun b y _ _ _ => by rw [f.1], fun b y _ h => f.2 b y h⟩
theorem MB_low {mdl : Nat → Option (Nat × Nat)} {T m : Nat} {D : Dy} (h : MB mdl T D m) {b : Nat} (hb : b < 65) : ¬ Scr mdl m b := by
  rintro ⟨i, t, kd, hi, e, z⟩
  obtain ⟨t', kd', e', -, l, -⟩ := h.2.2.2 i hi
  rw [e] at e'
  injection e' with e'
  injection e' with e1 e2
  omega
theorem MB_own {mdl : Nat → Option (Nat × Nat)} {T m j t kd d : Nat} {D : Dy} (h : MB mdl T D m) (hj : j < m) (e : mdl j = some (t, kd)) (hd : d ≤ 5 ∨ d = 8 ∨ d = 9) : ¬ Scr mdl m (t + d) := by
  rintro ⟨i, t', kd', hi, e', z⟩
  by_cases c : j = i
  · subst c
    rw [e] at e'
    injection e' with e'
    injection e' with e1 e2
    omega
  · obtain ⟨t1, kd1, e1, -, -, -, -, -, -, -, ap⟩ := h.2.2.2 j hj
    rw [e] at e1
    injection e1 with e1
    injection e1 with q1 q2
    subst q1
    subst q2
    have := ap i hi t' kd' e' c
    have n1 := (@nNM_2 kd).2.1
    omega
theorem MB_top {mdl : Nat → Option (Nat × Nat)} {T m : Nat} {D : Dy} (h : MB mdl T D m) {b : Nat} (hb : T ≤ b) : ¬ Scr mdl m b := by
  rintro ⟨i, t, kd, hi, e, z⟩
  obtain ⟨t', kd', e', -, -, l, -⟩ := h.2.2.2 i hi
  rw [e] at e'
  injection e' with e'
  injection e' with e1 e2
  subst e1
  subst e2
  omega
theorem frA_low {mdl : Nat → Option (Nat × Nat)} {T m : Nat} {D D' : Dy} (h : MB mdl T D m) (f : frA mdl m D D') {b y : Nat} (hb : b < 65) (h1 : ¬ (b = 33 ∧ sc33 y)) (h2 : ¬ (47 ≤ b ∧ b ≤ 53)) : D'.1 b y = D.1 b y := f.1 b y (MB_low h hb) h1 h2
theorem frA_own {mdl : Nat → Option (Nat × Nat)} {T m j t kd d : Nat} {D D' : Dy} (h : MB mdl T D m) (f : frA mdl m D D') (hj : j < m) (e : mdl j = some (t, kd)) (hd : d ≤ 5 ∨ d = 8 ∨ d = 9) {y : Nat} : D'.1 (t + d) y = D.1 (t + d) y := by
  obtain ⟨t1, kd1, e1, -, l, -⟩ := h.2.2.2 j hj
  rw [e] at e1
  injection e1 with e1
  injection e1 with q1 q2
  exact f.1 _ y (MB_own h hj e hd) (by omega) (by omega)
theorem MB_A {mdl : Nat → Option (Nat × Nat)} {T m : Nat} {D D' : Dy} (h : MB mdl T D m) (f : frA mdl m D D') : MB mdl T D' m := by
  obtain ⟨h1, h2, h3, h4⟩ := id h
  refine ⟨h1, by rw [frA_low h f (by omega) (by omega) (by omega)]; exact h2, by rw [frA_low h f (by omega) (by unfold sc33; omega) (by omega)]; exact h3, fun i hi => ?_⟩
  obtain ⟨t, kd, e, k1, k2, k3, k4, k5, k6, k7, k8⟩ := h4 i hi
  refine ⟨t, kd, e, k1, k2, k3, by rw [frA_low h f (by omega) (by omega) (by omega)]; exact k4, by rw [frA_own h f hi e (by omega)]; exact k5, by rw [frA_own h f hi e (by omega)]; exact k6, ?_, k8⟩
  have := frA_own (d := 0) (y := 3) h f hi e (by omega)
  rw [Nat.add_zero] at this
  rw [this, frA_low h f (by omega) (by omega) (by omega)]; exact k7
theorem TX_A {mdl : Nat → Option (Nat × Nat)} {T m i t kd L : Nat} {b : Nat → Nat} {R : RS} {D D' : Dy} (hB : MB mdl T D m) (f : frA mdl m D D') (hi : i < m) (e : mdl i = some (t, kd)) (h : TX D i t L b R) : TX D' i t L b R := by
  obtain ⟨h1, h2, h3, h4, h5, h6, h7, h8, h9, h10, h11⟩ := h
  have o : ∀ d y, d ≤ 5 ∨ d = 8 ∨ d = 9 → D'.1 (t + d) y = D.1 (t + d) y := fun d y hd => frA_own hB f hi e hd
  have o0 : ∀ y, D'.1 t y = D.1 t y := fun y => o 0 y (by omega)
  refine ⟨h1, by rw [frA_low hB f (by omega) (by omega) (by omega)]; exact h2, fun x hx => by rw [frA_low hB f (by omega) (by omega) (by omega)]; exact h3 x hx, h4, h5, h6, XM_c h7 fun a y ha => ?_, ⟨by rw [o0]; exact h8.1, fun j hj => by rw [o 8 _ (by omega)]; exact h8.2 j hj⟩, ⟨by rw [o0]; exact h9.1, fun j hj => by rw [o 5 _ (by omega)]; exact h9.2 j hj⟩, h10, h11⟩
  obtain ⟨d, hd, rfl⟩ : ∃ d, d ≤ 4 ∧ a = t + d := ⟨a - t, by omega, by omega⟩
  exact o d y (by omega)
theorem MX_A {mdl : Nat → Option (Nat × Nat)} {T m : Nat} {D D' : Dy} (hB : MB mdl T D m) (f : frA mdl m D D') (h : MX mdl D m) : MX mdl D' m := fun i hi => by
  obtain ⟨t, kd, L, b, R, e, q⟩ := h i hi
  exact ⟨t, kd, L, b, R, e, TX_A hB f hi e q⟩
/-- all that a reckoning needs -/
def AB (mdl : Nat → Option (Nat × Nat)) (T : Nat) (D : Dy) (n k c m : Nat) (Mk Pr Ne W S O U K : Nat → Nat) : Prop := XG D n Mk Pr Ne ∧ MG D n Mk Pr Ne ∧ gOK n Ne ∧ XChs D n c W S O U K ∧ MChs D n c W S O U K ∧ MB mdl T D m ∧ MX mdl D m ∧ (k ≤ 16 ∧ D.1 33 1 = nI k ∧ (∀ i, i < k → D.1 37 i = nI (K i) ∧ K i < 3) ∧ ∀ j, j < 3 → D.1 6 j = nI (sumN (fun i => if K i = j then 1 else 0) k))
theorem AB_A {mdl : Nat → Option (Nat × Nat)} {T n k c m : Nat} {Mk Pr Ne W S O U K : Nat → Nat} {D D' : Dy} (h : AB mdl T D n k c m Mk Pr Ne W S O U K) (f : frA mdl m D D') : AB mdl T D' n k c m Mk Pr Ne W S O U K := by
  obtain ⟨h1, h2, h3, h4, h5, h6, h7, h8, h9, h10, h11⟩ := h
  have lo : ∀ a y, a < 65 → ¬ (a = 33 ∧ sc33 y) → ¬ (47 ≤ a ∧ a ≤ 53) → D'.1 a y = D.1 a y := fun a y z1 z2 z3 => frA_low h6 f z1 z2 z3
  exact ⟨XG_c h1 fun a y ha => lo a y (by omega) (by omega) (by omega), MG_c h2 fun a y ha => lo a y (by omega) (by unfold sc33; omega) (by omega), h3, XChs_c h4 fun a y ha => lo a y (by omega) (by omega) (by omega), MChs_c h5 fun a y ha => lo a y (by omega) (by unfold sc33; omega) (by omega), MB_A h6 f, MX_A h6 f h7, h8, by rw [lo _ _ (by omega) (by unfold sc33; omega) (by omega)]; exact h9, fun i hi => by rw [lo _ _ (by omega) (by omega) (by omega)]; exact h10 i hi, fun j hj => by rw [lo _ _ (by omega) (by omega) (by omega)]; exact h11 j hj⟩
/-- one model of both -/
theorem AB_m {mdl : Nat → Option (Nat × Nat)} {T n k c m i : Nat} {Mk Pr Ne W S O U K : Nat → Nat} {D : Dy} (h : AB mdl T D n k c m Mk Pr Ne W S O U K) (hi : i < m) : ∃ t kd R, mdl i = some (t, kd) ∧ i < 10 ∧ kd < 6 ∧ D.1 43 i = nI kd ∧ XQ D t n R Mk Pr Ne ∧ ∀ D', AB mdl T D' n k c m Mk Pr Ne W S O U K → frA mdl m D D' → ∀ post : Int32 → Dy → Prop, (∀ D2, frQ D' D2 → MOq D2 i kd n R Mk Pr Ne → post 1 D2) → fX12_listen (nI i) D' post := by
  obtain ⟨h1, h2, h3, h4, h5, h6, h7, h8⟩ := id h
  obtain ⟨t, kd, e, k1, k2, k3, k4, -⟩ := h6.2.2.2 i hi
  obtain ⟨t', kd', L, b, R, e', q⟩ := h7 i hi
  rw [e] at e'
  injection e' with e'
  injection e' with e1 e2
  subst e1
  subst e2
  have m10 := h6.1
  obtain ⟨q1, q2, q3, q4, q5, q6, q7, q8, q9, q10, q11⟩ := id q
  have hH : okH R := q5 ▸ rTx_H q4
  refine ⟨t, kd, R, e, by omega, k1, k4, ⟨h1, k2, q6, q7, q8, q9, q10, q11, hH⟩, fun D' A' f post hp => ?_⟩
  obtain ⟨p1, p2, p3, -⟩ := TX_A h6 f hi e q
  have k4' : D'.1 43 i = nI kd := by rw [frA_low h6 f (by omega) (by omega) (by omega)]; exact k4
  refine m_listen (b := b) (L := L) (by omega) p1 p2 p3 q4 fun D2 f2 l2 => hp D2 f2 ?_
  rw [← q5] at l2
  obtain ⟨l3, l4, l5⟩ := l2
  have g2 := A'.2.1
  have g3 : MG D2 n Mk Pr Ne := MG_c g2 fun a y ha => f2.2 _ _ (by omega) (by omega)
  refine ⟨⟨q6, l3, g3⟩, by rw [f2.2 _ _ (by omega) (by omega)]; exact k4', l4, q11, fun j hj x hx => ?_⟩
  have n6 := h1.1
  obtain ⟨v, v1, v2⟩ := l5 x (by omega) j hj
  obtain ⟨⟨r1, r2⟩, ⟨r3, r4⟩, ⟨r5, r6⟩⟩ := g2.2.2 x hx
  have mem : R.2.getD j [] ∈ R.2 := by
    rw [List.getD_eq_getElem?_getD, List.getElem?_eq_getElem hj]; exact List.getElem_mem hj
  rw [hN_M r1 r3 r5 r2 r4 r6 (hH _ mem) v2]
  exact v1
theorem s_scored {a : Int32} {post : Int32 → Prop} (h1 : iN a 2 → post 1) (h0 : ¬ iN a 2 → post 0) : fX11_isScored a post := by
  unfold fX11_isScored
  refine JN_i (iN a 2) h1 (fun K hK => ⟨fun z => hK ⟨0, by omega, z⟩, fun z => ⟨fun z2 => h0 ?_, fun z2 => hK ⟨1, by omega, z2⟩⟩⟩)
  rintro ⟨j, hj, rfl⟩
  have : j = 0 ∨ j = 1 := by omega
  rcases this with rfl | rfl
  · exact z rfl
  · exact z2 rfl
theorem p_score {mdl : Nat → Option (Nat × Nat)} {T n k c m : Nat} {Mk Pr Ne W S O U K : Nat → Nat} {D : Dy} {a1 a2 : Int32} (h : AB mdl T D n k c m Mk Pr Ne W S O U K) : fX11_score mdl a1 a2 D (fun v D1 => fX12_score a1 a2 D1 (fun v' D2 => v = v' ∧ frA mdl m D D2)) := by
  have hB := h.2.2.2.2.2.1
  obtain ⟨m1, m2, m3, -⟩ := hB
  unfold fX11_score
  have no : ¬ (iN a1 m ∧ iN a2 2) → fX12_score a1 a2 D (fun v' D2 => (-1 : Int32) = v' ∧ frA mdl m D D2) := by
    intro z
    unfold fX12_score
    by_cases q : iN a1 m
    · obtain ⟨i, hi, rfl⟩ := q
      rw [isMo_t m3 (by omega) hi]
      refine JN_1 (fun D6 => D6 = D) (fun D6 e => by subst e; exact ⟨rfl, frA_r⟩) (fun K7 hK7 => ⟨fun z => hK7 _ rfl, fun _ => ?_⟩)
      have : fX12_in a2 0 1 = fX12_in a2 (nI 0) (nI 1) := rfl
      rw [this, ix_f (m := 1) (fun y => z ⟨⟨i, hi, rfl⟩, y⟩) (by omega)]
      exact ⟨fun _ => hK7 _ rfl, fun z => absurd rfl z⟩
    · rw [isMo_f m3 (by omega) q]
      exact JN_1 (fun D6 => D6 = D) (fun D6 e => by subst e; exact ⟨rfl, frA_r⟩) (fun K7 hK7 => ⟨fun z => hK7 _ rfl, fun z => absurd rfl z⟩)
  refine x_modelAt m1 m2 (fun i hi e => ?_) (fun q => JN_i True (fun _ => no fun w => q w.1) (fun K hK => ⟨fun _ => hK trivial, fun t kd z => by cases z⟩))
  subst e
  obtain ⟨t, kd, R, e, i10, k6, k4, hX, hear⟩ := AB_m h hi
  rw [e]
  refine JN_i (¬ iN a2 2) (fun w => no fun y => w y.2) (fun K hK => ⟨fun z => (by cases z), fun t' kd' z => ?_⟩)
  injection z with z
  injection z with z1 z2
  subst z1
  subst z2
  refine s_scored (fun q => ⟨fun _ => ?_, fun z => absurd z (by decide)⟩) (fun q => ⟨fun z => absurd rfl z, fun _ => hK q⟩)
  obtain ⟨a, ha, rfl⟩ := q
  refine x_score (a := a) hX h.2.2.1 h.2.2.2.1 (by omega) fun D1 f1 => ?_
  have fA := frT_A hi e f1
  have A1 := AB_A h fA
  show fX12_score (nI i) (nI a) D1 _
  unfold fX12_score
  rw [isMo_t A1.2.2.2.2.2.1.2.2.1 (by omega) hi]
  refine JN_1 (fun _ => False) (fun _ e => e.elim) (fun K7 hK7 => ⟨fun z => absurd z (by decide), fun _ => ?_⟩)
  have e2 : fX12_in (nI a) 0 1 = fX12_in (nI a) (nI 0) (nI 1) := rfl
  rw [e2, ix_t (m := 1) (by omega) (by omega)]
  refine ⟨fun z => absurd z (by decide), fun _ => hear D1 A1 fA _ fun D2 f2 q2 => ⟨fun _ => ?_, fun z => absurd z (by decide)⟩⟩
  have fA2 := frA_t fA (frQ_A (mdl := mdl) (m := m) f2)
  exact m_score q2 i10 k6 h.2.2.1 (AB_A h fA2).2.2.2.2.1 (by omega) fun D3 f3 => ⟨rfl, frA_t fA2 (frQo_A f3)⟩
theorem p_misses {mdl : Nat → Option (Nat × Nat)} {T n k c m : Nat} {Mk Pr Ne W S O U K : Nat → Nat} {D : Dy} {a1 a2 : Int32} (h : AB mdl T D n k c m Mk Pr Ne W S O U K) : fX11_misses mdl a1 a2 D (fun v D1 => fX12_misses a1 a2 D1 (fun v' D2 => v = v' ∧ frA mdl m D D2)) := by
  have hB := h.2.2.2.2.2.1
  obtain ⟨m1, m2, m3, -⟩ := hB
  unfold fX11_misses
  have no : ¬ (iN a1 m ∧ iN a2 2) → fX12_misses a1 a2 D (fun v' D2 => (-1 : Int32) = v' ∧ frA mdl m D D2) := by
    intro z
    unfold fX12_misses
    by_cases q : iN a1 m
    · obtain ⟨i, hi, rfl⟩ := q
      rw [isMo_t m3 (by omega) hi]
      refine JN_1 (fun D6 => D6 = D) (fun D6 e => by subst e; exact ⟨rfl, frA_r⟩) (fun K7 hK7 => ⟨fun z => hK7 _ rfl, fun _ => ?_⟩)
      have : fX12_in a2 0 1 = fX12_in a2 (nI 0) (nI 1) := rfl
      rw [this, ix_f (m := 1) (fun y => z ⟨⟨i, hi, rfl⟩, y⟩) (by omega)]
      exact ⟨fun _ => hK7 _ rfl, fun z => absurd rfl z⟩
    · rw [isMo_f m3 (by omega) q]
      exact JN_1 (fun D6 => D6 = D) (fun D6 e => by subst e; exact ⟨rfl, frA_r⟩) (fun K7 hK7 => ⟨fun z => hK7 _ rfl, fun z => absurd rfl z⟩)
  refine x_modelAt m1 m2 (fun i hi e => ?_) (fun q => JN_i True (fun _ => no fun w => q w.1) (fun K hK => ⟨fun _ => hK trivial, fun t kd z => by cases z⟩))
  subst e
  obtain ⟨t, kd, R, e, i10, k6, k4, hX, hear⟩ := AB_m h hi
  rw [e]
  refine JN_i (¬ iN a2 2) (fun w => no fun y => w y.2) (fun K hK => ⟨fun z => (by cases z), fun t' kd' z => ?_⟩)
  injection z with z
  injection z with z1 z2
  subst z1
  subst z2
  refine s_scored (fun q => ⟨fun _ => ?_, fun z => absurd z (by decide)⟩) (fun q => ⟨fun z => absurd rfl z, fun _ => hK q⟩)
  obtain ⟨a, ha, rfl⟩ := q
  refine x_misses (a := a) hX h.2.2.1 h.2.2.2.1 (by omega) fun D1 f1 => ?_
  have fA := frT_A hi e f1
  have A1 := AB_A h fA
  show fX12_misses (nI i) (nI a) D1 _
  unfold fX12_misses
  rw [isMo_t A1.2.2.2.2.2.1.2.2.1 (by omega) hi]
  refine JN_1 (fun _ => False) (fun _ e => e.elim) (fun K7 hK7 => ⟨fun z => absurd z (by decide), fun _ => ?_⟩)
  have e2 : fX12_in (nI a) 0 1 = fX12_in (nI a) (nI 0) (nI 1) := rfl
  rw [e2, ix_t (m := 1) (by omega) (by omega)]
  refine ⟨fun z => absurd z (by decide), fun _ => hear D1 A1 fA _ fun D2 f2 q2 => ⟨fun _ => ?_, fun z => absurd z (by decide)⟩⟩
  have fA2 := frA_t fA (frQ_A (mdl := mdl) (m := m) f2)
  exact m_misses q2 i10 k6 h.2.2.1 (AB_A h fA2).2.2.2.2.1 (by omega) fun D3 f3 => ⟨rfl, frA_t fA2 (frQo_A f3)⟩
end
