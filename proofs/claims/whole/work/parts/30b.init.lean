section
/-! THE START: nothing is there, and so it stands between the two -/
set_option maxRecDepth 100000 in
set_option maxHeartbeats 8000000 in
theorem op_init {D D0 : Dy} (h : D0 = dN D 0) : fX11_init D0 (fun D1 => ∀ D2 : Dy, D2 = dN D1 33 → fX12_init D2 (fun D3 => Rel (fun _ => none) 65 D3)) := by
  unfold fX11_init fX1_init fX0_init fX6_init fX10_init
  rintro A1 rfl A2 rfl A3 rfl A4 rfl A5 rfl A6 rfl A7 rfl A8 rfl A9 rfl A10 rfl A11 rfl A12 rfl A13 rfl A14 rfl A15 rfl A16 rfl A17 rfl A18 rfl A19 rfl A20 rfl A21 rfl A22 rfl A23 rfl A24 rfl A25 rfl A26 rfl A27 e27
  rw [h] at e27
  have f1 : A27.1 0 3 = nI 0 := by rw [e27]; simp [dN, dM, sI, nI_0]
  have f2 : A27.1 0 6 = nI 0 := by rw [e27]; simp [dN, dM, sI, nI_0]
  have f3 : A27.1 0 8 = nI 0 := by rw [e27]; simp [dN, dM, sI, nI_0]
  have f4 : A27.1 0 11 = nI 0 := by rw [e27]; simp [dN, dM, sI, nI_0]
  have f5 : A27.1 1 3 = nI 0 := by rw [e27]; simp [dN, dM, sI, nI_0]
  have f6 : A27.1 7 4 = nI 0 := by rw [e27]; simp [dN, dM, sI, nI_0]
  have f7 : ∀ j, A27.1 6 j = nI 0 := fun j => by rw [e27]; simp [dN, dM, sI, nI_0]
  have f8 : A27.1 22 1 = nI 0 := by rw [e27]; simp [dN, dM, sI, nI_0]
  have f9 : ∀ j, A27.1 25 j = nI 0 := fun j => by rw [e27]; simp [dN, dM, sI, nI_0]
  clear e27
  refine lp2_I 6 (fun k v D' => v = nI k ∧ (∀ b, b ≠ 24 → D'.1 b = A27.1 b) ∧ ∀ i, i < k → D'.1 24 i = -1) (by omega) (fun k hk v D' hv rec hr => ?_) ⟨rfl, fun _ _ => rfl, fun i hi => absurd hi (Nat.not_lt_zero _)⟩
  obtain ⟨rfl, q1, q2⟩ := hv
  by_cases e : k = 6
  · subst e
    refine ⟨fun _ => ?_, fun z => absurd (Int32.le_refl _) z⟩
    rintro B0 rfl
    unfold fX12_init
    rintro B1 rfl B3 rfl B5 rfl B7 rfl B9 rfl B11 rfl B13 rfl B15 rfl B17 rfl B19 rfl B21 rfl B23 rfl B25 rfl B27 rfl B29 rfl B31 rfl B33 rfl B35 rfl B37 rfl B39 rfl B41 rfl B43 rfl B45 rfl B47 rfl B49 rfl B51 rfl B53 rfl B55 rfl B57 rfl B59 rfl B61 rfl B63 rfl B65 rfl B67 rfl B69 rfl B71 rfl B73 rfl B75 rfl B77 rfl B79 rfl B81 rfl B83 rfl B85 rfl B87 rfl B89 rfl B91 rfl B93 rfl B95 rfl B97 rfl B99 rfl B101 rfl
    refine ⟨nI_in (c := 0) (by omega) (by omega), ?_⟩
    rintro B103 rfl
    refine ⟨nI_in (c := 1) (by omega) (by omega), ?_⟩
    rintro B105 rfl
    refine ⟨nI_in (c := 2) (by omega) (by omega), ?_⟩
    rintro B107 rfl
    refine ⟨nI_in (c := 3) (by omega) (by omega), ?_⟩
    rintro B109 rfl
    refine ⟨nI_in (c := 4) (by omega) (by omega), ?_⟩
    rintro B111 rfl
    refine ⟨nI_in (c := 5) (by omega) (by omega), ?_⟩
    rintro B113 rfl
    rintro B115 rfl B117 rfl BL eL
    have G : ∀ b y, b < 33 → BL.1 b y = D'.1 b y := fun b y hb => by
      have h33 : b ≠ 33 := by omega
      have h34 : b ≠ 34 := by omega
      have h35 : b ≠ 35 := by omega
      have h36 : b ≠ 36 := by omega
      have h37 : b ≠ 37 := by omega
      have h38 : b ≠ 38 := by omega
      have h39 : b ≠ 39 := by omega
      have h40 : b ≠ 40 := by omega
      have h41 : b ≠ 41 := by omega
      have h42 : b ≠ 42 := by omega
      have h43 : b ≠ 43 := by omega
      have h44 : b ≠ 44 := by omega
      have h45 : b ≠ 45 := by omega
      have h46 : b ≠ 46 := by omega
      have h47 : b ≠ 47 := by omega
      have h48 : b ≠ 48 := by omega
      have h49 : b ≠ 49 := by omega
      have h50 : b ≠ 50 := by omega
      have h51 : b ≠ 51 := by omega
      have h52 : b ≠ 52 := by omega
      have h53 : b ≠ 53 := by omega
      have h54 : b ≠ 54 := by omega
      have h55 : b ≠ 55 := by omega
      have h56 : b ≠ 56 := by omega
      have h57 : b ≠ 57 := by omega
      have h58 : b ≠ 58 := by omega
      have h59 : b ≠ 59 := by omega
      have h60 : b ≠ 60 := by omega
      have h61 : b ≠ 61 := by omega
      have h62 : b ≠ 62 := by omega
      have h63 : b ≠ 63 := by omega
      have h64 : b ≠ 64 := by omega
      rw [eL]; simp [dN, sI, sL, h33, h34, h35, h36, h37, h38, h39, h40, h41, h42, h43, h44, h45, h46, h47, h48, h49, h50, h51, h52, h53, h54, h55, h56, h57, h58, h59, h60, h61, h62, h63, h64]
    have g0 : BL.1 33 0 = nI 0 := by rw [eL]; simp [dN, sI, sL, nI_0]
    have g1 : BL.1 33 1 = nI 0 := by rw [eL]; simp [dN, sI, sL, nI_0]
    have g2 : BL.1 33 2 = nI 0 := by rw [eL]; simp [dN, sI, sL, nI_0]
    have g3 : BL.1 33 3 = nI 0 := by rw [eL]; simp [dN, sI, sL, nI_0]
    have g13 : BL.1 33 13 = nI 0 := by rw [eL]; simp [dN, sI, sL, nI_0]
    have g14 : BL.1 33 14 = nI 0 := by rw [eL]; simp [dN, sI, sL, nI_0]
    have g48 : BL.1 33 48 = nI 0 := by rw [eL]; simp [dN, sI, sL, nI_0]
    have g46 : BL.1 33 46 = -nI 1 := by rw [eL]; simp [dN, sI, sL]; rfl
    have g62 : ∀ j, BL.1 62 j = nI 0 := fun j => by rw [eL]; simp [dN, sI, sL, nI_0]
    have g61 : ∀ j, j < 6 → BL.1 61 j = -1 := fun j hj => by
      have : j = 0 ∨ j = 1 ∨ j = 2 ∨ j = 3 ∨ j = 4 ∨ j = 5 := by omega
      rw [eL]
      rcases this with rfl | rfl | rfl | rfl | rfl | rfl <;> simp [dN, sI, sL] <;> first | rfl | decide
    clear eL
    have K : ∀ b y, b < 33 → b ≠ 24 → BL.1 b y = A27.1 b y := fun b y h1 h2 => by rw [G b y h1, q1 b h2]
    refine ⟨0, 0, 0, 0, 0, 0, Nat.le_refl _, ⟨by omega, by rw [K _ _ (by omega) (by omega)]; exact f5, g0, fun i hi => absurd hi (Nat.not_lt_zero _)⟩, ⟨by omega, by rw [K _ _ (by omega) (by omega)]; exact f1, g1, fun i hi => absurd hi (Nat.not_lt_zero _), fun j hj => by rw [K _ _ (by omega) (by omega), f7]; rfl⟩, ⟨by omega, by rw [K _ _ (by omega) (by omega)]; exact f6, g2, fun i hi => absurd hi (Nat.not_lt_zero _)⟩, ⟨by omega, by rw [K _ _ (by omega) (by omega)]; exact f4, g3, fun i hi => absurd hi (Nat.not_lt_zero _)⟩, ⟨by omega, by rw [K _ _ (by omega) (by omega)]; exact f3, g13, fun i hi => absurd hi (Nat.not_lt_zero _)⟩, fun i hi => absurd hi (Nat.not_lt_zero _), ⟨0, by omega, by rw [K _ _ (by omega) (by omega)]; exact f8, g48, fun i hi => absurd hi (Nat.not_lt_zero _)⟩, fun i hi => ⟨⟨by rw [g61 i hi, G _ _ (by omega), q2 i hi], by rw [g62, K _ _ (by omega) (by omega), f9]⟩, Or.inl (by rw [G _ _ (by omega), q2 i hi]), 0, by omega, by rw [K _ _ (by omega) (by omega), f9], fun _ => rfl, fun j hj => absurd hj (Nat.not_lt_zero _)⟩, ⟨by omega, by rw [K _ _ (by omega) (by omega)]; exact f2, g14, fun i hi => absurd hi (Nat.not_lt_zero _)⟩, ⟨Or.inl g46, fun z => ?_⟩⟩
    rw [g46, ngeq2' (by omega) (by omega) (by omega)] at z
    exact z.elim
  · have k6 : k < 6 := by omega
    refine ⟨fun z => absurd z (nI_ge (b := 6) k6 (by omega)), fun _ => ⟨nI_in k6 (by omega), ?_⟩⟩
    rw [nI_clamp (by omega), nI_1]
    rintro D4 rfl v2 rfl
    refine hr (by omega) _ _ ⟨rfl, fun b hb => by funext y; rw [sI_1, if_neg (fun w => hb w.1)]; exact congrFun (q1 b hb) y, fun i hi => ?_⟩
    rw [sI_1]
    by_cases e : i = k
    · rw [if_pos ⟨rfl, e⟩]
    · rw [if_neg (fun z => e z.2)]; exact q2 i (by omega)
end
