section
/-! MODELS: grid, which -/
theorem lp5_I {A B C E F : Type} {b : (A → B → C → E → F → Prop) → A → B → C → E → F → Prop} (n : Nat) (P : Nat → A → B → C → E → F → Prop) (hn : n < 1000000) (h : ∀ k, k ≤ n → ∀ x y z w u, P k x y z w u → ∀ rec : A → B → C → E → F → Prop, (k < n → ∀ x' y' z' w' u', P (k + 1) x' y' z' w' u' → rec x' y' z' w' u') → b rec x y z w u) {x : A} {y : B} {z : C} {w : E} {u : F} (h0 : P 0 x y z w u) : LP5 b FU x y z w u := by
  have H : ∀ N k, k ≤ n → n - k < N → ∀ x y z w u, P k x y z w u → LP5 b N x y z w u := by
    intro N
    induction N with
    | zero => intro k hk h0; omega
    | succ N ih => intro k hk h0 x y z w u hp; exact h k hk x y z w u hp _ fun hlt x' y' z' w' u' hp' => ih (k + 1) hlt (by omega) x' y' z' w' u' hp'
  exact H FU 0 (Nat.zero_le _) (FU_big (by omega)) _ _ _ _ _ h0
theorem JN_u3 {τ σ ρ : Type} {J : τ → σ → ρ → Prop} {b : (τ → σ → ρ → Prop) → Prop} (P : τ → σ → ρ → Prop) (hJ : ∀ x y z, P x y z → J x y z) (hb : ∀ K : τ → σ → ρ → Prop, (∀ x y z, P x y z → K x y z) → b K) : JN J b := hb J hJ
theorem JN_u4 {τ σ ρ υ : Type} {J : τ → σ → ρ → υ → Prop} {b : (τ → σ → ρ → υ → Prop) → Prop} (P : τ → σ → ρ → υ → Prop) (hJ : ∀ x y z w, P x y z w → J x y z w) (hb : ∀ K : τ → σ → ρ → υ → Prop, (∀ x y z w, P x y z w → K x y z w) → b K) : JN J b := hb J hJ
/-- the best so far and its score, behind j worths -/
def gq (f : Nat → Nat) : Nat → Int32 × Int32
  | 0 => (0, -1)
  | j + 1 => if (gq f j).2 < nI (f (j + 1)) then (nI (j + 1), nI (f (j + 1))) else gq f j
theorem gq_s {f : Nat → Nat} {j : Nat} : gq f (j + 1) = if (gq f j).2 < nI (f (j + 1)) then (nI (j + 1), nI (f (j + 1))) else gq f j := rfl
theorem okM_x {M : Mdt} {f v : Nat} (h : okM M) (hv : v ≤ 999) : okM (upN (md_w M) f v, M.2) := okM_W h hv
theorem XQ_W {D : Dy} {t n x w : Nat} {R : RS} {Mk Pr Ne : Nat → Nat} (h : XQ D t n R Mk Pr Ne) (hw : w ≤ 999) : XQ (sI D (t + 1) x (nI w)) t n (rsW R x w) Mk Pr Ne := by
  obtain ⟨h1, h2, h3, h4, h5, h6, h7, h8, h9⟩ := h
  obtain ⟨s1, s2, s3⟩ := XS_W (f := x) (v := w) (show XS D t R from ⟨h4, h5, h6⟩)
  exact ⟨XG_c h1 fun a y ha => by rw [sI_1, if_neg (by omega)], h2, okM_W h3 hw, s1, s2, s3, h7, h8, h9⟩
theorem MOq_W {D : Dy} {m kd n x w : Nat} {R : RS} {Mk Pr Ne : Nat → Nat} (h : MOq D m kd n R Mk Pr Ne) (hw : w ≤ 999) : MOq (sI D 47 x (nI w)) m kd n (rsW R x w) Mk Pr Ne := by
  obtain ⟨⟨h1, h2, h3⟩, h4, h5, h6, h7⟩ := h
  have e : ∀ a y, a ≠ 47 → (sI D 47 x (nI w)).1 a y = D.1 a y := fun a y z => by rw [sI_1, if_neg (fun q => z q.1)]
  obtain ⟨a1, a2, a3, a4, a5, a6⟩ := h2
  refine ⟨⟨okM_W h1 hw, ⟨fun i hi => ?_, fun i hi => by rw [e _ _ (by omega)]; exact a2 i hi, by rw [e _ _ (by omega)]; exact a3, by rw [e _ _ (by omega)]; exact a4, by rw [e _ _ (by omega)]; exact a5, fun k hk => by rw [e _ _ (by omega), e _ _ (by omega)]; exact a6 k hk⟩, MG_c h3 fun a y ha => e _ _ (by omega)⟩, by rw [e _ _ (by omega)]; exact h4, by rw [e _ _ (by omega)]; exact h5, h6, fun j hj y hy => by rw [e _ _ (by omega)]; exact h7 j hj y hy⟩
  rw [sI_1]
  show _ = nI (upN (md_w R.1) x w i)
  unfold upN
  by_cases c : i = x
  · rw [if_pos ⟨rfl, c⟩, if_pos c]
  · rw [if_neg (fun z => c z.2), if_neg c]; exact a1 i hi
theorem rsW_W {R : RS} {x w w' : Nat} : rsW (rsW R x w) x w' = rsW R x w' := by
  have : upN (upN (md_w R.1) x w) x w' = upN (md_w R.1) x w' := by
    funext i
    unfold upN
    by_cases c : i = x
    · rw [if_pos c, if_pos c]
    · rw [if_neg c, if_neg c, if_neg c]
  show ((upN (upN (md_w R.1) x w) x w', R.1.2), R.2) = ((upN (md_w R.1) x w', R.1.2), R.2)
  rw [this]
theorem MOq_o {D D' : Dy} {m kd n : Nat} {R : RS} {Mk Pr Ne : Nat → Nat} (h : MOq D m kd n R Mk Pr Ne) (f : frQo D D') : MOq D' m kd n R Mk Pr Ne := MOq_c h f.1
theorem MChs_1 {D D' : Dy} {n c : Nat} {W S O U K : Nat → Nat} (h : MChs D n c W S O U K) (e : D'.1 = D.1) : MChs D' n c W S O U K := MChs_c h fun a y _ => by rw [e]
theorem p_grid {mdl : Nat → Option (Nat × Nat)} {T n k c m : Nat} {Mk Pr Ne W S O U K : Nat → Nat} {D : Dy} {a1 a2 : Int32} (h : AB mdl T D n k c m Mk Pr Ne W S O U K) : fX11_grid mdl a1 a2 D (fun v D1 => fX12_grid a1 a2 D1 (fun v' D2 => v = v' ∧ frA mdl m D D2)) := by
  have hB := h.2.2.2.2.2.1
  obtain ⟨m1, m2, m3, -⟩ := hB
  have n6 := h.1.1
  have g0 := h.2.1.2.1
  have no : ¬ (iN a1 m ∧ iN a2 n) → fX12_grid a1 a2 D (fun v' D2 => (-1 : Int32) = v' ∧ frA mdl m D D2) := by
    intro z
    unfold fX12_grid
    by_cases q : iN a1 m
    · obtain ⟨i, hi, rfl⟩ := q
      rw [isMo_t m3 (by omega) hi]
      refine ⟨fun w => absurd w (by decide), fun _ => ?_⟩
      rw [isTh_f g0 (by omega) (fun y => z ⟨⟨i, hi, rfl⟩, y⟩)]
      exact ⟨fun _ => ⟨rfl, frA_r⟩, fun w => absurd rfl w⟩
    · rw [isMo_f m3 (by omega) q]
      exact ⟨fun _ => ⟨rfl, frA_r⟩, fun w => absurd rfl w⟩
  unfold fX11_grid
  refine x_modelAt m1 m2 (fun i hi e => ?_) (fun q => ⟨fun _ => no fun w => q w.1, fun t kd z => (by cases z)⟩)
  subst e
  obtain ⟨t, kd, R, e, i10, k6, k4, hX, hear⟩ := AB_m h hi
  rw [e]
  refine ⟨fun z => (by cases z), fun t' kd' z => ?_⟩
  injection z with z
  injection z with z1 z2
  subst z1
  subst z2
  refine s_has ?_
  rw [h.1.2.1]
  by_cases q : iN a2 n
  · rw [bI_t ((in_iff (by omega)).mpr q)]
    obtain ⟨x, hx, rfl⟩ := q
    have vx : vp_in (nI x) 6 := nI_in (by omega) (by omega)
    have ht := hX.2.1
    refine ⟨fun _ => ⟨vx, ?_⟩, fun w => absurd w (by decide)⟩
    rw [nI_clamp (n := x) (by omega)]
    rintro v13 rfl
    generalize hf : (fun w => scN kd (rsW R x w) Mk Pr Ne n W S O U K 0 c) = f
    have hf' : ∀ w, scN kd (rsW R x w) Mk Pr Ne n W S O U K 0 c = f w := fun w => by rw [← hf]
    refine lp4_I 30 (fun j v15 v16 v17 D' => v17 = nI (j + 1) ∧ v15 = (gq f j).1 ∧ v16 = (gq f j).2 ∧ (∀ w, w ≤ 999 → XQ (sI D' (t + 1) x (nI w)) t n (rsW R x w) Mk Pr Ne) ∧ frT t kd D (sI D' (t + 1) x (D.1 (t + 1) x))) (by omega) (fun j hj v15 v16 v17 D' hv rec hr => ?_) ⟨rfl, rfl, rfl, fun w hw => XQ_W hX hw, ?_⟩
    · obtain ⟨rfl, rfl, rfl, q1, f1⟩ := hv
      by_cases ej : j = 30
      · subst ej
        refine ⟨fun _ => ⟨vx, ?_⟩, fun z => absurd (nI_lt (a := 30) (b := 31) (by omega) (by omega)) z⟩
        rintro D1 rfl
        have fA := frT_A hi e f1
        have A1 := AB_A h fA
        generalize sI D' (t + 1) x (D.1 (t + 1) x) = D1 at fA A1
        show fX12_grid (nI i) (nI x) D1 _
        unfold fX12_grid
        rw [isMo_t A1.2.2.2.2.2.1.2.2.1 (by omega) hi]
        refine ⟨fun w => absurd w (by decide), fun _ => ?_⟩
        rw [isTh_t A1.2.1.2.1 (by omega) hx]
        refine ⟨fun w => absurd w (by decide), fun _ => hear D1 A1 fA _ fun D2 f2 q2 => ⟨fun _ => ?_, fun w => absurd w (by decide)⟩⟩
        have fA2 := frA_t fA (frQ_A (mdl := mdl) (m := m) f2)
        have C2 := (AB_A h fA2).2.2.2.2.1
        refine lp4_I 30 (fun j v15 v16 v17 D' => v17 = nI (j + 1) ∧ v15 = (gq f j).1 ∧ v16 = (gq f j).2 ∧ (∀ w, w ≤ 999 → MOq (sI D' 47 x (nI w)) i kd n (rsW R x w) Mk Pr Ne) ∧ frA mdl m D D' ∧ MChs D' n c W S O U K) (by omega) (fun j hj v15 v16 v17 D' hv rec hr => ?_) ⟨rfl, rfl, rfl, fun w hw => MOq_W q2 hw, fA2, C2⟩
        obtain ⟨rfl, rfl, rfl, q3, f3, C3⟩ := hv
        by_cases ej : j = 30
        · subst ej
          exact ⟨fun _ => ⟨rfl, f3⟩, fun z => absurd (nI_lt (a := 30) (b := 31) (by omega) (by omega)) z⟩
        · have hj' : j < 30 := by omega
          refine ⟨fun z => ?_, fun _ => ⟨vx, ?_⟩⟩
          · have := (ltI' (a := 30) (by omega) (by omega)).mp z; omega
          · rw [nI_clamp (n := x) (by omega)]
            rintro D27 rfl
            have C27 : MChs (sI D' 47 x (nI (j + 1))) n c W S O U K := MChs_c C3 fun a y ha => by rw [sI_1, if_neg (by omega)]
            refine m_score (a := 0) (q3 (j + 1) (by omega)) i10 k6 h.2.2.1 C27 (by omega) fun D4 f4 => ?_
            rw [hf']
            have f27 : frA mdl m D (sI D' 47 x (nI (j + 1))) := frA_t f3 ⟨fun b y _ _ h2 => by rw [sI_1, if_neg (by omega)], fun b y _ _ => rfl⟩
            refine JN_2 (fun v1 v2 => v1 = (gq f (j + 1)).1 ∧ v2 = (gq f (j + 1)).2) (fun v35 v36 hv => ?_) (fun K37 hK => ⟨fun z => hK _ _ ?_, fun z => hK _ _ ?_⟩)
            · obtain ⟨rfl, rfl⟩ := hv
              rw [nI_1]
              rintro v39 rfl
              refine hr hj' _ _ _ _ ⟨rfl, rfl, rfl, fun w hw => ?_, frA_t f27 (frQo_A f4), MChs_1 C27 f4.1⟩
              have := MOq_W (x := x) (w := w) (MOq_o (q3 (j + 1) (by omega)) f4) hw
              rw [rsW_W] at this
              exact this
            · rw [gq_s, if_pos z]; exact ⟨rfl, rfl⟩
            · rw [gq_s, if_neg z]; exact ⟨rfl, rfl⟩
      · have hj' : j < 30 := by omega
        refine ⟨fun z => ?_, fun _ => ⟨vx, ?_⟩⟩
        · have := (ltI' (a := 30) (by omega) (by omega)).mp z; omega
        · rintro D24 rfl
          have e24 : ∀ a y, ¬ (a = t + 1 ∧ y = x) → (sI D' (t + 1) x (nI (j + 1))).1 a y = (sI D' (t + 1) x (D.1 (t + 1) x)).1 a y := fun a y z => by rw [sI_1, if_neg z, sI_1, if_neg z]
          have C24 : XChs (sI D' (t + 1) x (nI (j + 1))) n c W S O U K := XChs_c h.2.2.2.1 fun a y ha => by
            rw [e24 _ _ (by omega), f1.1 _ _ (by omega) (by omega) (by omega) (by omega) (by omega)]
          refine x_score (a := 0) (q1 (j + 1) (by omega)) h.2.2.1 C24 (by omega) fun D3 f3 => ?_
          rw [hf']
          refine JN_2 (fun v1 v2 => v1 = (gq f (j + 1)).1 ∧ v2 = (gq f (j + 1)).2) (fun v35 v36 hv => ?_) (fun K37 hK => ⟨fun z => hK _ _ ?_, fun z => hK _ _ ?_⟩)
          · obtain ⟨rfl, rfl⟩ := hv
            rw [nI_1]
            rintro v39 rfl
            refine hr hj' _ _ _ _ ⟨rfl, rfl, rfl, fun w hw => ?_, ⟨fun b y h1 h2 h3 h4 h5 => ?_, fun b y h1 h2 => ?_⟩⟩
            · have := XQ_W (x := x) (w := w) (XQ_f (q1 (j + 1) (by omega)) f3) hw
              rw [rsW_W] at this
              exact this
            · rw [sI_1]
              by_cases z : b = t + 1 ∧ y = x
              · rw [if_pos z, z.1, z.2]
              · rw [if_neg z, f3.1 b y h1 h2 h3 h4 h5, e24 b y z]; exact f1.1 b y h1 h2 h3 h4 h5
            · show D3.2 b y = D.2 b y
              rw [f3.2 b y h1 h2]; exact f1.2 b y h1 h2
          · rw [gq_s, if_neg (Int32.not_lt.mpr z)]; exact ⟨rfl, rfl⟩
          · rw [gq_s, if_pos (Int32.not_le.mp z)]; exact ⟨rfl, rfl⟩
    · have : sI D (t + 1) x (D.1 (t + 1) x) = D := by
        refine Prod.ext (funext fun a => funext fun y => ?_) rfl
        rw [sI_1]
        by_cases z : a = t + 1 ∧ y = x
        · rw [if_pos z, z.1, z.2]
        · rw [if_neg z]
      rw [this]; exact frT_r
  · rw [bI_f (fun w => q ((in_iff (by omega)).mp w))]
    exact ⟨fun w => absurd rfl w, fun _ => no fun w => q w.2⟩
/-- the best of models so far, its score and its misses -/
def wq (f g : Nat → Nat) (a : Nat) : Nat → Nat × Nat × Nat
  | 0 => (a, f a, g a)
  | j + 1 => if (wq f g a j).2.1 < f (a + (j + 1)) ∨ (f (a + (j + 1)) = (wq f g a j).2.1 ∧ g (a + (j + 1)) < (wq f g a j).2.2) then (a + (j + 1), f (a + (j + 1)), g (a + (j + 1))) else wq f g a j
theorem wq_s {f g : Nat → Nat} {a j : Nat} : wq f g a (j + 1) = if (wq f g a j).2.1 < f (a + (j + 1)) ∨ (f (a + (j + 1)) = (wq f g a j).2.1 ∧ g (a + (j + 1)) < (wq f g a j).2.2) then (a + (j + 1), f (a + (j + 1)), g (a + (j + 1))) else wq f g a j := rfl
theorem wq_b {f g : Nat → Nat} {a : Nat} (hf : ∀ i, f i ≤ 1000000) (hg : ∀ i, g i ≤ 1000000) : ∀ j, (wq f g a j).1 ≤ a + j ∧ (wq f g a j).2.1 ≤ 1000000 ∧ (wq f g a j).2.2 ≤ 1000000
  | 0 => ⟨Nat.le_refl _, hf a, hg a⟩
  | j + 1 => by
    obtain ⟨h1, h2, h3⟩ := wq_b hf hg (a := a) j
    rw [wq_s]
    split
    · exact ⟨Nat.le_refl _, hf _, hg _⟩
    · exact ⟨by omega, h2, h3⟩
theorem XQ_A {mdl : Nat → Option (Nat × Nat)} {T m i t kd n : Nat} {R : RS} {Mk Pr Ne : Nat → Nat} {D D' : Dy} (hB : MB mdl T D m) (f : frA mdl m D D') (hi : i < m) (e : mdl i = some (t, kd)) (h : XQ D t n R Mk Pr Ne) : XQ D' t n R Mk Pr Ne := by
  have o : ∀ d y, d ≤ 5 ∨ d = 8 ∨ d = 9 → D'.1 (t + d) y = D.1 (t + d) y := fun d y hd => frA_own hB f hi e hd
  refine XQ_c h fun a y ha => ?_
  by_cases c : a ≤ 4
  · exact frA_low hB f (by omega) (by omega) (by omega)
  · obtain ⟨d, hd, rfl⟩ : ∃ d, (d ≤ 5 ∨ d = 8) ∧ a = t + d := ⟨a - t, by omega, by omega⟩
    exact o d y (by omega)
theorem sc_le {kd n c a : Nat} {R : RS} {Mk Pr Ne W S O U K : Nat → Nat} (hM : okM R.1) (hg : gOK n Ne) (hn : n ≤ 6) (hc : c ≤ 80) (hS : ∀ i, i < c → S i < 2 ^ n ∧ S i ≠ 0) : scN kd R Mk Pr Ne n W S O U K a c ≤ 1000000 ∧ msN kd R Mk Pr Ne n W S O U K a c ≤ 1000000 := by
  constructor
  · have : scN kd R Mk Pr Ne n W S O U K a c ≤ sumN (fun _ => 1000) c := sumN_le fun i hi => by
      split
      · exact th_le (od_b hM hg hn (hS i hi).1 (hS i hi).2)
      · omega
    have h2 : sumN (fun _ => 1000) c ≤ 1000 * c := sumN_b (fun _ => Nat.le_refl _) c
    omega
  · have : msN kd R Mk Pr Ne n W S O U K a c ≤ 1 * c := sumN_b (fun i => by split; split <;> omega; omega) c
    omega
theorem p_which {mdl : Nat → Option (Nat × Nat)} {T n k c m : Nat} {Mk Pr Ne W S O U K : Nat → Nat} {D : Dy} {a1 a2 : Int32} (h : AB mdl T D n k c m Mk Pr Ne W S O U K) : fX11_which mdl a1 a2 D (fun v D1 => fX12_which a1 a2 D1 (fun v' D2 => v = v' ∧ frA mdl m D D2)) := by
  have hB := h.2.2.2.2.2.1
  obtain ⟨m1, m2, m3, -⟩ := id hB
  have n6 := h.1.1
  have c80 := h.2.2.2.1.1
  have no : ¬ (iN a1 m ∧ iN a2 m ∧ a1 ≤ a2) → fX12_which a1 a2 D (fun v' D2 => (-1 : Int32) = v' ∧ frA mdl m D D2) := by
    intro z
    unfold fX12_which
    by_cases q : iN a1 m
    · obtain ⟨i, hi, rfl⟩ := q
      rw [isMo_t m3 (by omega) hi]
      refine ⟨fun w => absurd w (by decide), fun _ => ?_⟩
      by_cases q2 : iN a2 m
      · obtain ⟨i2, hi2, rfl⟩ := q2
        rw [isMo_t m3 (by omega) hi2]
        exact ⟨fun w => absurd w (by decide), fun _ => ⟨fun w => absurd ⟨⟨i, hi, rfl⟩, ⟨i2, hi2, rfl⟩, w⟩ z, fun _ => ⟨rfl, frA_r⟩⟩⟩
      · rw [isMo_f m3 (by omega) q2]
        exact ⟨fun _ => ⟨rfl, frA_r⟩, fun w => absurd rfl w⟩
    · rw [isMo_f m3 (by omega) q]
      exact ⟨fun _ => ⟨rfl, frA_r⟩, fun w => absurd rfl w⟩
  unfold fX11_which
  refine x_modelAt m1 m2 (fun a ha e => ?_) (fun q => ⟨fun _ => no fun w => q w.1, fun t kd z => (by cases z)⟩)
  subst e
  refine ⟨fun z => ?_, fun _ _ _ => x_modelAt m1 m2 (fun b hb e => ?_) (fun q => ⟨fun _ => no fun w => q w.2.1, fun t kd z => (by cases z)⟩)⟩
  · obtain ⟨t, kd, R, e, -⟩ := AB_m h ha
    rw [e] at z; cases z
  · subst e
    refine ⟨fun z => ?_, fun _ _ _ => ⟨fun hab => ?_, fun hab => no fun w => hab w.2.2⟩⟩
    · obtain ⟨t, kd, R, e, -⟩ := AB_m h hb
      rw [e] at z; cases z
    · have hab' : a ≤ b := (leI' (by omega) (by omega)).mp hab
      -- one choice of what each model is
      have H : ∀ i, ∃ q : Nat × Nat × RS, i < m → mdl i = some (q.1, q.2.1) ∧ i < 10 ∧ q.2.1 < 6 ∧ XQ D q.1 n q.2.2 Mk Pr Ne ∧ ∀ D', AB mdl T D' n k c m Mk Pr Ne W S O U K → frA mdl m D D' → ∀ post : Int32 → Dy → Prop, (∀ D2, frQ D' D2 → MOq D2 i q.2.1 n q.2.2 Mk Pr Ne → post 1 D2) → fX12_listen (nI i) D' post := fun i => by
        by_cases hi : i < m
        · obtain ⟨t, kd, R, e, i10, k6, -, hX, hear⟩ := AB_m h hi
          exact ⟨(t, kd, R), fun _ => ⟨e, i10, k6, hX, hear⟩⟩
        · exact ⟨(0, 0, (md0, [])), fun z => absurd z hi⟩
      obtain ⟨q, H⟩ := Classical.skolem.mp H
      generalize hf : (fun i => if i < m then scN (q i).2.1 (q i).2.2 Mk Pr Ne n W S O U K 1 c else 0) = f
      generalize hg : (fun i => if i < m then msN (q i).2.1 (q i).2.2 Mk Pr Ne n W S O U K 1 c else 0) = g
      have hf' : ∀ i, i < m → scN (q i).2.1 (q i).2.2 Mk Pr Ne n W S O U K 1 c = f i := fun i hi => by rw [← hf]; dsimp only; rw [if_pos hi]
      have hg' : ∀ i, i < m → msN (q i).2.1 (q i).2.2 Mk Pr Ne n W S O U K 1 c = g i := fun i hi => by rw [← hg]; dsimp only; rw [if_pos hi]
      have bb : ∀ i, i < m → scN (q i).2.1 (q i).2.2 Mk Pr Ne n W S O U K 1 c ≤ 1000000 ∧ msN (q i).2.1 (q i).2.2 Mk Pr Ne n W S O U K 1 c ≤ 1000000 := fun i hi => sc_le (H i hi).2.2.2.1.2.2.1 h.2.2.1 n6 c80 fun j hj => (h.2.2.2.1.2.2 j hj).2.1.2
      have fb : ∀ i, f i ≤ 1000000 := fun i => by
        rw [← hf]; dsimp only
        split
        · next w => exact (bb i w).1
        · omega
      have gb : ∀ i, g i ≤ 1000000 := fun i => by
        rw [← hg]; dsimp only
        split
        · next w => exact (bb i w).2
        · omega
      have wb := fun j => wq_b (a := a) fb gb j
      refine lp5_I (b + 1 - a) (fun j v14 v15 v16 v17 D' => v17 = nI (a + j) ∧ frA mdl m D D' ∧ ((j = 0 ∧ v15 = -nI 1) ∨ (∃ i, j = i + 1 ∧ v14 = nI (wq f g a i).1 ∧ v15 = nI (wq f g a i).2.1 ∧ v16 = nI (wq f g a i).2.2))) (by omega) (fun j hj v14 v15 v16 v17 D' hv rec hr => ?_) ⟨rfl, frA_r, Or.inl ⟨rfl, rfl⟩⟩
      obtain ⟨rfl, fA, st⟩ := hv
      by_cases ej : j = b + 1 - a
      · subst ej
        refine ⟨fun _ => ?_, fun z => absurd (nI_lt (by omega) (by omega)) z⟩
        have A1 := AB_A h fA
        obtain ⟨i0, ei, rfl, -, -⟩ : ∃ i, b + 1 - a = i + 1 ∧ v14 = nI (wq f g a i).1 ∧ v15 = nI (wq f g a i).2.1 ∧ v16 = nI (wq f g a i).2.2 := by
          rcases st with ⟨z, -⟩ | z
          · omega
          · exact z
        show fX12_which (nI a) (nI b) D' _
        unfold fX12_which
        rw [isMo_t A1.2.2.2.2.2.1.2.2.1 (by omega) ha]
        refine ⟨fun w => absurd w (by decide), fun _ => ?_⟩
        rw [isMo_t A1.2.2.2.2.2.1.2.2.1 (by omega) hb]
        refine ⟨fun w => absurd w (by decide), fun _ => ⟨fun _ => ?_, fun w => absurd hab w⟩⟩
        refine lp5_I (b + 1 - a) (fun j v14 v15 v16 v17 D' => v17 = nI (a + j) ∧ frA mdl m D D' ∧ ((j = 0 ∧ v14 = -nI 1) ∨ (∃ i, j = i + 1 ∧ v14 = nI (wq f g a i).1 ∧ v15 = nI (wq f g a i).2.1 ∧ v16 = nI (wq f g a i).2.2))) (by omega) (fun j hj v14 v15 v16 v17 D' hv rec hr => ?_) ⟨rfl, fA, Or.inl ⟨rfl, rfl⟩⟩
        obtain ⟨rfl, fA, st⟩ := hv
        by_cases ej : j = b + 1 - a
        · rcases st with ⟨z, -⟩ | ⟨i1, e1, rfl, -, -⟩
          · omega
          · have : i1 = i0 := by omega
            subst this
            refine ⟨fun _ => ⟨rfl, fA⟩, fun z => absurd (nI_lt (by omega) (by omega)) z⟩
        · have hj' : j < b + 1 - a := by omega
          have him : a + j < m := by omega
          refine ⟨fun z => ?_, fun _ => ?_⟩
          · have := (ltI' (by omega) (by omega)).mp z; omega
          · obtain ⟨e, i10, k6, hX, hear⟩ := H (a + j) him
            refine hear D' (AB_A h fA) fA _ fun D2 f2 q2 => ⟨fun _ => ?_, fun w => absurd w (by decide)⟩
            have fA2 := frA_t fA (frQ_A (mdl := mdl) (m := m) f2)
            refine m_score (a := 1) q2 i10 k6 h.2.2.1 (AB_A h fA2).2.2.2.2.1 (by omega) fun D3 f3 => ?_
            have fA3 := frA_t fA2 (frQo_A (mdl := mdl) (m := m) f3)
            refine m_misses (a := 1) (MOq_o q2 f3) i10 k6 h.2.2.1 (AB_A h fA3).2.2.2.2.1 (by omega) fun D4 f4 => ?_
            have fA4 := frA_t fA3 (frQo_A (mdl := mdl) (m := m) f4)
            rw [hf' _ him, hg' _ him]
            have f1 := fb (a + j)
            have g1 := gb (a + j)
            refine JN_u3 (fun v1 v2 v3 => v1 = nI (wq f g a j).1 ∧ v2 = nI (wq f g a j).2.1 ∧ v3 = nI (wq f g a j).2.2) (fun v1 v2 v3 hv => ?_) (fun K44 hK => ?_)
            · obtain ⟨rfl, rfl, rfl⟩ := hv
              rw [nI_1]
              rintro v46 rfl
              exact hr hj' _ _ _ _ _ ⟨by rw [Nat.add_assoc], fA4, Or.inr ⟨j, rfl, rfl, rfl, rfl⟩⟩
            · rcases st with ⟨rfl, rfl⟩ | ⟨i1, rfl, rfl, rfl, rfl⟩
              · exact JN_p (hK _ _ _ ⟨rfl, rfl, rfl⟩) (fun K hK' => ⟨fun _ => hK', fun w => absurd nI1n.1 w⟩)
              · obtain ⟨w1, w2, w3⟩ := wb i1
                have ws := wq_s (f := f) (g := g) (a := a) (j := i1)
                refine JN_i ((wq f g a i1).2.1 < f (a + (i1 + 1)) ∨ (f (a + (i1 + 1)) = (wq f g a i1).2.1 ∧ g (a + (i1 + 1)) < (wq f g a i1).2.2)) (fun y => hK _ _ _ (by rw [ws, if_pos y]; exact ⟨rfl, rfl, rfl⟩)) (fun K48 hK48 => ⟨fun w => absurd w (nI0nlt (by omega)), fun _ => ⟨fun y => hK _ _ _ ?_, fun y => ⟨fun y2 => hK48 (Or.inl ?_), fun y2 => ⟨fun y3 => hK48 (Or.inr ⟨(nI_eq (by omega) (by omega)).mp y2, (ltI' (by omega) (by omega)).mp y3⟩), fun y3 => hK _ _ _ ?_⟩⟩⟩⟩)
                · have y := (ltI' (by omega) (by omega)).mp y
                  rw [ws, if_neg (by omega)]; exact ⟨rfl, rfl, rfl⟩
                · have y : ¬ f (a + (i1 + 1)) < (wq f g a i1).2.1 := fun z => y (nI_lt z (by omega))
                  have y2 : ¬ f (a + (i1 + 1)) = (wq f g a i1).2.1 := fun z => y2 (by rw [z])
                  omega
                · have y2 := (nI_eq (by omega) (by omega)).mp y2
                  have y3 : ¬ g (a + (i1 + 1)) < (wq f g a i1).2.2 := fun z => y3 (nI_lt z (by omega))
                  rw [ws, if_neg (by omega)]; exact ⟨rfl, rfl, rfl⟩
      · have hj' : j < b + 1 - a := by omega
        have him : a + j < m := by omega
        have A1 := AB_A h fA
        refine ⟨fun z => ?_, fun _ => ?_⟩
        · have := (ltI' (by omega) (by omega)).mp z; omega
        · refine x_modelAt m1 A1.2.2.2.2.2.1.2.1 (fun i hi e => ?_) (fun z => absurd ⟨a + j, him, rfl⟩ z)
          have ei : i = a + j := ((nI_eq (by omega) (by omega)).mp e).symm
          subst ei
          obtain ⟨e, i10, k6, hX, hear⟩ := H (a + j) him
          rw [e]
          refine JN_u4 (fun v1 v2 v3 D3 => v1 = nI (wq f g a j).1 ∧ v2 = nI (wq f g a j).2.1 ∧ v3 = nI (wq f g a j).2.2 ∧ frA mdl m D D3) (fun v1 v2 v3 D3 hv => ?_) (fun K31 hK => ⟨fun z => (by cases z), fun t' kd' z => ?_⟩)
          · obtain ⟨rfl, rfl, rfl, fA3⟩ := hv
            rw [nI_1]
            rintro v33 rfl
            exact hr hj' _ _ _ _ _ ⟨by rw [Nat.add_assoc], fA3, Or.inr ⟨j, rfl, rfl, rfl, rfl⟩⟩
          · injection z with z
            injection z with z1 z2
            subst z1
            subst z2
            have X1 := XQ_A hB fA him e hX
            refine x_score (a := 1) X1 h.2.2.1 A1.2.2.2.1 (by omega) fun D3 f3 => ?_
            have fA3 := frA_t fA (frT_A him e f3)
            refine x_misses (a := 1) (XQ_A hB fA3 him e hX) h.2.2.1 (AB_A h fA3).2.2.2.1 (by omega) fun D4 f4 => ?_
            have fA4 := frA_t fA3 (frT_A him e f4)
            rw [hf' _ him, hg' _ him]
            have f1 := fb (a + j)
            have g1 := gb (a + j)
            rcases st with ⟨rfl, rfl⟩ | ⟨i1, rfl, rfl, rfl, rfl⟩
            · refine JN_p (hK _ _ _ _ ⟨rfl, rfl, rfl, fA4⟩) (fun K hK' => ⟨fun _ => hK', fun w => absurd ?_ w⟩)
              exact Int32.lt_of_lt_of_le nI1n.1 (nI0le (by omega))
            · obtain ⟨w1, w2, w3⟩ := wb i1
              have ws := wq_s (f := f) (g := g) (a := a) (j := i1)
              refine JN_i ((wq f g a i1).2.1 < f (a + (i1 + 1)) ∨ (f (a + (i1 + 1)) = (wq f g a i1).2.1 ∧ g (a + (i1 + 1)) < (wq f g a i1).2.2)) (fun y => hK _ _ _ _ (by rw [ws, if_pos y]; exact ⟨rfl, rfl, rfl, fA4⟩)) (fun K48 hK48 => ⟨fun y => hK48 (Or.inl ((ltI' (by omega) (by omega)).mp y)), fun y => ⟨fun y2 => hK _ _ _ _ ?_, fun y2 => ⟨fun y3 => hK _ _ _ _ ?_, fun y3 => hK48 (Or.inr ⟨(nI_eq (by omega) (by omega)).mp y2, Nat.lt_of_not_le fun w => y3 (nI_le w (by omega))⟩)⟩⟩⟩)
              · have y : ¬ (wq f g a i1).2.1 < f (a + (i1 + 1)) := fun z => y (nI_lt z (by omega))
                have y2 : ¬ f (a + (i1 + 1)) = (wq f g a i1).2.1 := fun z => y2 (by rw [z])
                rw [ws, if_neg (by omega)]; exact ⟨rfl, rfl, rfl, fA4⟩
              · have y : ¬ (wq f g a i1).2.1 < f (a + (i1 + 1)) := fun z => y (nI_lt z (by omega))
                have y3 := (leI' (by omega) (by omega)).mp y3
                rw [ws, if_neg (by omega)]; exact ⟨rfl, rfl, rfl, fA4⟩
end
