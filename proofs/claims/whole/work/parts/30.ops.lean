section
/-! EACH CALL, on the one and then on the other: they answer alike, and what stands between the two still stands -/
theorem op_thing {mdl : Nat → Option (Nat × Nat)} {T : Nat} {D : Dy} {a1 : Int32} {a2 : Int32} {a3 : Int32} (h : Rel mdl T D) : ∃ PP : Int32 → Int32 → Dy → Prop, (∀ v v' D2, PP v v' D2 → v = v' ∧ Rel mdl T D2) ∧ fX11_thing a1 a2 a3 D (fun (v : Int32) (D1 : Dy) => fX12_thing a1 a2 a3 D1 (fun (v' : Int32) (D2 : Dy) => PP v v' D2)) := by
  obtain ⟨n, k, c, a, m, z, h⟩ := h
  have h0 := h
  obtain ⟨hT, hg, ht, hc, ha, hB, hX, hR, hP, hZ, hK⟩ := h
  refine ⟨_, ?_, p_thing hg hc ha⟩
  rintro v v' D2 ⟨e, f⟩
  rcases f with rfl | ⟨c0, a0, n6, q, f⟩
  · exact ⟨e, n, k, c, a, m, z, h0⟩
  subst c0
  subst a0
  have lo : (∀ b y, ¬ (b = 1 ∧ y = 3) → ¬ (b = 33 ∧ y = 0) → ¬ (2 ≤ b ∧ b ≤ 4) → ¬ (34 ≤ b ∧ b ≤ 36) → D2.1 b y = D.1 b y) ∧ D2.2 = D.2 := by
    rw [f]
    exact ⟨fun b y h1 h2 h3 h4 => by rw [sI_1, if_neg (by omega), sI_1, if_neg (by omega), sI_1, if_neg (by omega), sI_1, if_neg (by omega), sI_1, if_neg (by omega), sI_1, if_neg (by omega), sI_1, if_neg (by omega), sI_1, if_neg (by omega)], rfl⟩
  have lo1 : ∀ b y, (b = 7 ∧ y = 4) ∨ (b = 33 ∧ (y = 2 ∨ y = 3 ∨ y = 46)) ∨ (b = 0 ∧ y = 11) → D2.1 b y = D.1 b y := fun b y hb => lo.1 b y (by omega) (by omega) (by omega) (by omega)
  exact ⟨e, n + 1, k, 0, 0, m, z, hT, q, RT_e ht fun b y hb => lo.1 b y (by omega) (by omega) (by omega) (by omega), ⟨hc.1, by rw [lo1 _ _ (by omega)]; exact hc.2.1, by rw [lo1 _ _ (by omega)]; exact hc.2.2.1, fun i hi => absurd hi (Nat.not_lt_zero _)⟩, ⟨ha.1, by rw [lo1 _ _ (by omega)]; exact ha.2.1, by rw [lo1 _ _ (by omega)]; exact ha.2.2.1, fun i hi => absurd hi (Nat.not_lt_zero _)⟩, MB_e hB fun b y hb => lo.1 b y (by omega) (by omega) (by omega) (by omega), MX_e hB hX fun b y hb => lo.1 b y (by omega) (by omega) (by omega) (by omega), RR_e hR fun b y hb => lo.1 b y (by omega) (by omega) (by omega) (by omega), RP_e hP (fun b y hb => lo.1 b y (by omega) (by omega) (by omega) (by omega)) (fun b y hb => by rw [lo.2]), RX_e hZ fun b y hb => lo.1 b y (by omega) (by omega) (by omega) (by omega), RK_n hK (lo1 _ _ (by omega)) hg.1⟩
theorem op_price {mdl : Nat → Option (Nat × Nat)} {T : Nat} {D : Dy} {a1 : Int32} {a2 : Int32} (h : Rel mdl T D) : ∃ PP : Int32 → Int32 → Dy → Prop, (∀ v v' D2, PP v v' D2 → v = v' ∧ Rel mdl T D2) ∧ fX11_price a1 a2 D (fun (v : Int32) (D1 : Dy) => fX12_price a1 a2 D1 (fun (v' : Int32) (D2 : Dy) => PP v v' D2)) := by
  obtain ⟨n, k, c, a, m, z, h⟩ := h
  have h0 := h
  obtain ⟨hT, hg, ht, hc, ha, hB, hX, hR, hP, hZ, hK⟩ := h
  refine ⟨_, ?_, p_price hg⟩
  rintro v v' D2 ⟨e, q, f⟩
  have lo : (∀ b y, b ≠ 3 → b ≠ 35 → D2.1 b y = D.1 b y) ∧ D2.2 = D.2 := by
    rcases f with rfl | ⟨i, x, rfl⟩
    · exact ⟨fun _ _ _ _ => rfl, rfl⟩
    · exact ⟨fun b y h1 h2 => by rw [sI_1, if_neg (fun w => h2 w.1), sI_1, if_neg (fun w => h1 w.1)], rfl⟩
  exact ⟨e, n, k, c, a, m, z, hT, q, RT_e ht fun b y hb => lo.1 b y (by omega) (by omega), RC_e hc fun b y hb => lo.1 b y (by omega) (by omega), RA_e ha fun b y hb => lo.1 b y (by omega) (by omega), MB_e hB fun b y hb => lo.1 b y (by omega) (by omega), MX_e hB hX fun b y hb => lo.1 b y (by omega) (by omega), RR_e hR fun b y hb => lo.1 b y (by omega) (by omega), RP_e hP (fun b y hb => lo.1 b y (by omega) (by omega)) (fun b y hb => by rw [lo.2]), RX_e hZ fun b y hb => lo.1 b y (by omega) (by omega), RK_e hK fun b y hb => lo.1 b y (by omega) (by omega)⟩
theorem op_taker {mdl : Nat → Option (Nat × Nat)} {T : Nat} {D : Dy} {a1 : Int32} (h : Rel mdl T D) : ∃ PP : Int32 → Int32 → Dy → Prop, (∀ v v' D2, PP v v' D2 → v = v' ∧ Rel mdl T D2) ∧ fX11_taker a1 D (fun (v : Int32) (D1 : Dy) => fX12_taker a1 D1 (fun (v' : Int32) (D2 : Dy) => PP v v' D2)) := by
  obtain ⟨n, k, c, a, m, z, h⟩ := h
  have h0 := h
  obtain ⟨hT, hg, ht, hc, ha, hB, hX, hR, hP, hZ, hK⟩ := h
  refine ⟨_, ?_, p_taker ht⟩
  rintro v v' D2 ⟨e, k', q1, q2, f⟩
  have lo : (∀ b y, ¬ (b = 0 ∧ y = 3) → ¬ (b = 33 ∧ y = 1) → b ≠ 5 → b ≠ 6 → b ≠ 37 → D2.1 b y = D.1 b y) ∧ D2.2 = D.2 := by
    rcases f with rfl | ⟨i, j, x, rfl⟩
    · exact ⟨fun _ _ _ _ _ _ _ => rfl, rfl⟩
    · exact ⟨fun b y h1 h2 h3 h4 h5 => by rw [sI_1, if_neg h2, sI_1, if_neg (fun w => h5 w.1), sI_1, if_neg h1, sI_1, if_neg (fun w => h4 w.1), sI_1, if_neg (fun w => h3 w.1)], rfl⟩
  exact ⟨e, n, k', c, a, m, z, hT, RG_e hg fun b y hb => lo.1 b y (by omega) (by omega) (by omega) (by omega) (by omega), q2, RC_k (RC_e hc fun b y hb => lo.1 b y (by omega) (by omega) (by omega) (by omega) (by omega)) q1, RA_e ha fun b y hb => lo.1 b y (by omega) (by omega) (by omega) (by omega) (by omega), MB_e hB fun b y hb => lo.1 b y (by omega) (by omega) (by omega) (by omega) (by omega), MX_e hB hX fun b y hb => lo.1 b y (by omega) (by omega) (by omega) (by omega) (by omega), RR_e hR fun b y hb => lo.1 b y (by omega) (by omega) (by omega) (by omega) (by omega), RP_e hP (fun b y hb => lo.1 b y (by omega) (by omega) (by omega) (by omega) (by omega)) (fun b y hb => by rw [lo.2]), RX_e hZ fun b y hb => lo.1 b y (by omega) (by omega) (by omega) (by omega) (by omega), RK_e hK fun b y hb => lo.1 b y (by omega) (by omega) (by omega) (by omega) (by omega)⟩
theorem op_choice {mdl : Nat → Option (Nat × Nat)} {T : Nat} {D : Dy} {a1 : Int32} {a2 : Int32} {a3 : Int32} (h : Rel mdl T D) : ∃ PP : Int32 → Int32 → Dy → Prop, (∀ v v' D2, PP v v' D2 → v = v' ∧ Rel mdl T D2) ∧ fX11_choice a1 a2 a3 D (fun (v : Int32) (D1 : Dy) => fX12_choice a1 a2 a3 D1 (fun (v' : Int32) (D2 : Dy) => PP v v' D2)) := by
  obtain ⟨n, k, c, a, m, z, h⟩ := h
  have h0 := h
  obtain ⟨hT, hg, ht, hc, ha, hB, hX, hR, hP, hZ, hK⟩ := h
  refine ⟨_, ?_, p_choice hg.1 ht.1 hc.1 hg.2.1 hg.2.2.1 ht.2.1 ht.2.2.1 hc.2.1 hc.2.2.1⟩
  rintro v v' D2 ⟨e, w, L, q, rfl⟩
  exact ⟨e, n, k, c + L.length, a, m, z, hT, RG_e hg fun b y hb => add_o (by omega) (by omega) (by omega) (by omega) (by omega), RT_e ht fun b y hb => add_o (by omega) (by omega) (by omega) (by omega) (by omega), RC_plus hg.1 hc q, RA_e ha fun b y hb => add_o (by omega) (by omega) (by omega) (by omega) (by omega), MB_e hB fun b y hb => add_o (by omega) (by omega) (by omega) (by omega) (by omega), MX_e hB hX fun b y hb => add_o (by omega) (by omega) (by omega) (by omega) (by omega), RR_e hR fun b y hb => add_o (by omega) (by omega) (by omega) (by omega) (by omega), RP_e hP (fun b y hb => add_o (by omega) (by omega) (by omega) (by omega) (by omega)) (fun b y hb => rfl), RX_e hZ fun b y hb => add_o (by omega) (by omega) (by omega) (by omega) (by omega), RK_add hK q.1⟩
theorem op_put {mdl : Nat → Option (Nat × Nat)} {T : Nat} {D : Dy} {a1 : Int32} {a2 : Int32} (h : Rel mdl T D) : ∃ PP : Int32 → Int32 → Dy → Prop, (∀ v v' D2, PP v v' D2 → v = v' ∧ Rel mdl T D2) ∧ fX11_put a1 a2 D (fun (v : Int32) (D1 : Dy) => fX12_put a1 a2 D1 (fun (v' : Int32) (D2 : Dy) => PP v v' D2)) := by
  obtain ⟨n, k, c, a, m, z, h⟩ := h
  have h0 := h
  obtain ⟨hT, hg, ht, hc, ha, hB, hX, hR, hP, hZ, hK⟩ := h
  refine ⟨_, ?_, p_put ht.1 hc⟩
  rintro v v' D2 ⟨e, q, f⟩
  rcases f with rfl | ⟨i, x, w, i1, i2, i3, rfl⟩
  · exact ⟨e, n, k, c, a, m, z, h0⟩
  have k16 := ht.1
  have lo : ∀ b y, b ≠ 11 → b ≠ 41 → b ≠ 58 → (sI (sI (sI D 11 i x) 41 i x) 58 w 0).1 b y = D.1 b y := fun b y h1 h2 h3 => by rw [sI_1, if_neg (fun w => h3 w.1), sI_1, if_neg (fun w => h2 w.1), sI_1, if_neg (fun w => h1 w.1)]
  exact ⟨e, n, k, c, a, m, z, hT, RG_e hg fun b y hb => lo b y (by omega) (by omega) (by omega), RT_e ht fun b y hb => lo b y (by omega) (by omega) (by omega), q, RA_e ha fun b y hb => lo b y (by omega) (by omega) (by omega), MB_e hB fun b y hb => lo b y (by omega) (by omega) (by omega), MX_e hB hX fun b y hb => lo b y (by omega) (by omega) (by omega), RR_e hR fun b y hb => lo b y (by omega) (by omega) (by omega), RP_e hP (fun b y hb => lo b y (by omega) (by omega) (by omega)) (fun b y hb => rfl), RX_e hZ fun b y hb => lo b y (by omega) (by omega) (by omega), RK_put hK i2 (by omega)⟩
theorem op_of {mdl : Nat → Option (Nat × Nat)} {T : Nat} {D : Dy} {a1 : Int32} {a2 : Int32} (h : Rel mdl T D) : ∃ PP : Int32 → Int32 → Prop, (∀ v v', PP v v' → v = v' ∧ Rel mdl T D) ∧ fX11_of a1 a2 D (fun (v : Int32) => fX12_of a1 a2 D (fun (v' : Int32) => PP v v')) := by
  obtain ⟨n, k, c, a, m, z, h⟩ := h
  have h0 := h
  obtain ⟨hT, hg, ht, hc, ha, hB, hX, hR, hP, hZ, hK⟩ := h
  refine ⟨_, ?_, p_of hg.1 hc⟩
  rintro v v' e
  exact ⟨e, n, k, c, a, m, z, h0⟩
theorem op_feed {mdl : Nat → Option (Nat × Nat)} {T : Nat} {D : Dy} {a1 : Int32} {a2 : Int32} (h : Rel mdl T D) : ∃ PP : Int32 → Int32 → Dy → Prop, (∀ v v' D2, PP v v' D2 → v = v' ∧ Rel mdl T D2) ∧ fX11_feed a1 a2 D (fun (v : Int32) (D1 : Dy) => fX12_feed a1 a2 D1 (fun (v' : Int32) (D2 : Dy) => PP v v' D2)) := by
  obtain ⟨n, k, c, a, m, z, h⟩ := h
  have h0 := h
  obtain ⟨hT, hg, ht, hc, ha, hB, hX, hR, hP, hZ, hK⟩ := h
  refine ⟨_, ?_, p_feed hZ⟩
  rintro v v' D2 ⟨e, ⟨z', q⟩, f⟩
  exact ⟨e, n, k, c, a, m, z', hT, RG_e hg fun b y hb => f.2 b y (by omega) (by omega) (by omega) (by omega), RT_e ht fun b y hb => f.2 b y (by omega) (by omega) (by omega) (by omega), RC_e hc fun b y hb => f.2 b y (by omega) (by omega) (by omega) (by omega), RA_e ha fun b y hb => f.2 b y (by omega) (by omega) (by omega) (by omega), MB_e hB fun b y hb => f.2 b y (by omega) (by omega) (by omega) (by omega), MX_e hB hX fun b y hb => f.2 b y (by omega) (by omega) (by omega) (by omega), RR_e hR fun b y hb => f.2 b y (by omega) (by omega) (by omega) (by omega), RP_e hP (fun b y hb => f.2 b y (by omega) (by omega) (by omega) (by omega)) (fun b y hb => by rw [f.1]), q, RK_e hK fun b y hb => f.2 b y (by omega) (by omega) (by omega) (by omega)⟩
theorem op_model {mdl : Nat → Option (Nat × Nat)} {S : Sh} {D : Dy} {a1 : Int32} (hF : FX S mdl) (hSb : Sb S) (h : Rel mdl S.1 D) : ∃ PP : (Nat → Option (Nat × Nat)) → Sh → Dy → Prop, (∀ mdl' S1 D2, S.1 ≤ S1.1 → PP mdl' S1 D2 → Rel mdl' S1.1 D2) ∧ fX11_model S.1 S a1 D (fun (v : Int32) (S1 : Sh) (D1 : Dy) => ∃ mdl', FX S1 mdl' ∧ sLow33 S S1 ∧ Sb S1 ∧ S.1 ≤ S1.1 ∧ S1.1 ≤ S.1 + 15 ∧ fX12_model a1 D1 (fun (v' : Int32) (D2 : Dy) => v = v' ∧ PP mdl' S1 D2)) := by
  obtain ⟨n, k, c, a, m, z, h⟩ := h
  have h0 := h
  obtain ⟨hT, hg, ht, hc, ha, hB, hX, hR, hP, hZ, hK⟩ := h
  refine ⟨_, ?_, p_model hF hSb hT hB hX hZ⟩
  rintro mdl' S1 D2 hle ⟨⟨m', z', q1, q2, q3⟩, q4⟩
  have lo : ∀ b y, b < 65 → ¬ (b = 0 ∧ (y = 6 ∨ y = 8)) → ¬ (b = 33 ∧ (y = 13 ∨ y = 14 ∨ sc33 y)) → ¬ (43 ≤ b ∧ b ≤ 53) → D2.1 b y = D.1 b y := fun b y h1 h2 h3 h4 => q4.1 b y (by omega) h2 h3 h4
  exact ⟨n, k, c, a, m', z', by omega, RG_e hg fun b y hb => lo b y (by omega) (by omega) (by unfold sc33; omega) (by omega), RT_e ht fun b y hb => lo b y (by omega) (by omega) (by unfold sc33; omega) (by omega), RC_e hc fun b y hb => lo b y (by omega) (by omega) (by unfold sc33; omega) (by omega), RA_e ha fun b y hb => lo b y (by omega) (by omega) (by unfold sc33; omega) (by omega), q1, q2, RR_e hR fun b y hb => lo b y (by omega) (by omega) (by unfold sc33; omega) (by omega), RP_e hP (fun b y hb => lo b y (by omega) (by omega) (by unfold sc33; omega) (by omega)) (fun b y hb => q4.2 b y (by omega)), q3, RK_e hK fun b y hb => lo b y (by omega) (by omega) (by unfold sc33; omega) (by omega)⟩
theorem op_weight {mdl : Nat → Option (Nat × Nat)} {T : Nat} {D : Dy} {a1 : Int32} {a2 : Int32} {a3 : Int32} (h : Rel mdl T D) : ∃ PP : Int32 → Int32 → Dy → Prop, (∀ v v' D2, PP v v' D2 → v = v' ∧ Rel mdl T D2) ∧ fX11_weight mdl a1 a2 a3 D (fun (v : Int32) => fX12_weight a1 a2 a3 D (fun (v' : Int32) (D2 : Dy) => PP v v' D2)) := by
  obtain ⟨n, k, c, a, m, z, h⟩ := h
  have h0 := h
  obtain ⟨hT, hg, ht, hc, ha, hB, hX, hR, hP, hZ, hK⟩ := h
  obtain ⟨Mk, Pr, Ne, W, S, O, U, K, hA⟩ := AB_of h0
  refine ⟨_, ?_, p_weight hA⟩
  rintro v v' D2 ⟨e, q⟩
  exact ⟨e, Rel_A h0 q⟩
theorem op_odds {mdl : Nat → Option (Nat × Nat)} {T : Nat} {D : Dy} {a1 : Int32} {a2 : Int32} {a3 : Int32} {a4 : Int32} {a5 : Int32} (h : Rel mdl T D) : ∃ PP : Int64 → Int64 → Dy → Prop, (∀ v v' D2, PP v v' D2 → v = v' ∧ Rel mdl T D2) ∧ fX11_odds mdl a1 a2 a3 a4 a5 D (fun (v : Int64) (D1 : Dy) => fX12_odds a1 a2 a3 a4 a5 D1 (fun (v' : Int64) (D2 : Dy) => PP v v' D2)) := by
  obtain ⟨n, k, c, a, m, z, h⟩ := h
  have h0 := h
  obtain ⟨hT, hg, ht, hc, ha, hB, hX, hR, hP, hZ, hK⟩ := h
  obtain ⟨Mk, Pr, Ne, W, S, O, U, K, hA⟩ := AB_of h0
  refine ⟨_, ?_, p_odds hA⟩
  rintro v v' D2 ⟨e, q⟩
  exact ⟨e, Rel_A h0 q⟩
theorem op_score {mdl : Nat → Option (Nat × Nat)} {T : Nat} {D : Dy} {a1 : Int32} {a2 : Int32} (h : Rel mdl T D) : ∃ PP : Int32 → Int32 → Dy → Prop, (∀ v v' D2, PP v v' D2 → v = v' ∧ Rel mdl T D2) ∧ fX11_score mdl a1 a2 D (fun (v : Int32) (D1 : Dy) => fX12_score a1 a2 D1 (fun (v' : Int32) (D2 : Dy) => PP v v' D2)) := by
  obtain ⟨n, k, c, a, m, z, h⟩ := h
  have h0 := h
  obtain ⟨hT, hg, ht, hc, ha, hB, hX, hR, hP, hZ, hK⟩ := h
  obtain ⟨Mk, Pr, Ne, W, S, O, U, K, hA⟩ := AB_of h0
  refine ⟨_, ?_, p_score hA⟩
  rintro v v' D2 ⟨e, q⟩
  exact ⟨e, Rel_A h0 q⟩
theorem op_misses {mdl : Nat → Option (Nat × Nat)} {T : Nat} {D : Dy} {a1 : Int32} {a2 : Int32} (h : Rel mdl T D) : ∃ PP : Int32 → Int32 → Dy → Prop, (∀ v v' D2, PP v v' D2 → v = v' ∧ Rel mdl T D2) ∧ fX11_misses mdl a1 a2 D (fun (v : Int32) (D1 : Dy) => fX12_misses a1 a2 D1 (fun (v' : Int32) (D2 : Dy) => PP v v' D2)) := by
  obtain ⟨n, k, c, a, m, z, h⟩ := h
  have h0 := h
  obtain ⟨hT, hg, ht, hc, ha, hB, hX, hR, hP, hZ, hK⟩ := h
  obtain ⟨Mk, Pr, Ne, W, S, O, U, K, hA⟩ := AB_of h0
  refine ⟨_, ?_, p_misses hA⟩
  rintro v v' D2 ⟨e, q⟩
  exact ⟨e, Rel_A h0 q⟩
theorem op_grid {mdl : Nat → Option (Nat × Nat)} {T : Nat} {D : Dy} {a1 : Int32} {a2 : Int32} (h : Rel mdl T D) : ∃ PP : Int32 → Int32 → Dy → Prop, (∀ v v' D2, PP v v' D2 → v = v' ∧ Rel mdl T D2) ∧ fX11_grid mdl a1 a2 D (fun (v : Int32) (D1 : Dy) => fX12_grid a1 a2 D1 (fun (v' : Int32) (D2 : Dy) => PP v v' D2)) := by
  obtain ⟨n, k, c, a, m, z, h⟩ := h
  have h0 := h
  obtain ⟨hT, hg, ht, hc, ha, hB, hX, hR, hP, hZ, hK⟩ := h
  obtain ⟨Mk, Pr, Ne, W, S, O, U, K, hA⟩ := AB_of h0
  refine ⟨_, ?_, p_grid hA⟩
  rintro v v' D2 ⟨e, q⟩
  exact ⟨e, Rel_A h0 q⟩
theorem op_which {mdl : Nat → Option (Nat × Nat)} {T : Nat} {D : Dy} {a1 : Int32} {a2 : Int32} (h : Rel mdl T D) : ∃ PP : Int32 → Int32 → Dy → Prop, (∀ v v' D2, PP v v' D2 → v = v' ∧ Rel mdl T D2) ∧ fX11_which mdl a1 a2 D (fun (v : Int32) (D1 : Dy) => fX12_which a1 a2 D1 (fun (v' : Int32) (D2 : Dy) => PP v v' D2)) := by
  obtain ⟨n, k, c, a, m, z, h⟩ := h
  have h0 := h
  obtain ⟨hT, hg, ht, hc, ha, hB, hX, hR, hP, hZ, hK⟩ := h
  obtain ⟨Mk, Pr, Ne, W, S, O, U, K, hA⟩ := AB_of h0
  refine ⟨_, ?_, p_which hA⟩
  rintro v v' D2 ⟨e, q⟩
  exact ⟨e, Rel_A h0 q⟩
theorem op_agree {mdl : Nat → Option (Nat × Nat)} {T : Nat} {D : Dy} {a1 : Int32} (h : Rel mdl T D) : ∃ PP : Int32 → Int32 → Dy → Prop, (∀ v v' D2, PP v v' D2 → v = v' ∧ Rel mdl T D2) ∧ fX11_agree a1 D (fun (v : Int32) (D1 : Dy) => fX12_agree a1 D1 (fun (v' : Int32) (D2 : Dy) => PP v v' D2)) := by
  obtain ⟨n, k, c, a, m, z, h⟩ := h
  have h0 := h
  obtain ⟨hT, hg, ht, hc, ha, hB, hX, hR, hP, hZ, hK⟩ := h
  refine ⟨_, ?_, p_agree (BO_of hg ht hc) hK⟩
  rintro v v' D2 ⟨e, q1, q2⟩
  exact ⟨e, Rel_C h0 q1 q2⟩
theorem op_letgo {mdl : Nat → Option (Nat × Nat)} {T : Nat} {D : Dy} {a1 : Int32} (h : Rel mdl T D) : ∃ PP : Int32 → Int32 → Dy → Prop, (∀ v v' D2, PP v v' D2 → v = v' ∧ Rel mdl T D2) ∧ fX11_letgo a1 D (fun (v : Int32) (D1 : Dy) => fX12_letgo a1 D1 (fun (v' : Int32) (D2 : Dy) => PP v v' D2)) := by
  obtain ⟨n, k, c, a, m, z, h⟩ := h
  have h0 := h
  obtain ⟨hT, hg, ht, hc, ha, hB, hX, hR, hP, hZ, hK⟩ := h
  refine ⟨_, ?_, p_letgo (BO_of hg ht hc) hK⟩
  rintro v v' D2 ⟨e, q1, q2⟩
  exact ⟨e, Rel_C h0 q1 q2⟩
theorem op_like {mdl : Nat → Option (Nat × Nat)} {T : Nat} {D : Dy} {a1 : Int32} {a2 : Int32} (h : Rel mdl T D) : ∃ PP : Int32 → Int32 → Dy → Prop, (∀ v v' D2, PP v v' D2 → v = v' ∧ Rel mdl T D2) ∧ fX11_like a1 a2 D (fun (v : Int32) (D1 : Dy) => fX12_like a1 a2 D1 (fun (v' : Int32) (D2 : Dy) => PP v v' D2)) := by
  obtain ⟨n, k, c, a, m, z, h⟩ := h
  have h0 := h
  obtain ⟨hT, hg, ht, hc, ha, hB, hX, hR, hP, hZ, hK⟩ := h
  refine ⟨_, ?_, p_like (BO_of hg ht hc) hK⟩
  rintro v v' D2 ⟨e, q1, q2⟩
  exact ⟨e, Rel_C h0 q1 q2⟩
theorem op_would {mdl : Nat → Option (Nat × Nat)} {T : Nat} {D : Dy} {a1 : Int32} {a2 : Int32} (h : Rel mdl T D) : ∃ PP : Int32 → Int32 → Dy → Prop, (∀ v v' D2, PP v v' D2 → v = v' ∧ Rel mdl T D2) ∧ fX11_would a1 a2 D (fun (v : Int32) (D1 : Dy) => fX12_would a1 a2 D1 (fun (v' : Int32) (D2 : Dy) => PP v v' D2)) := by
  obtain ⟨n, k, c, a, m, z, h⟩ := h
  have h0 := h
  obtain ⟨hT, hg, ht, hc, ha, hB, hX, hR, hP, hZ, hK⟩ := h
  refine ⟨_, ?_, p_would (BO_of hg ht hc) hK⟩
  rintro v v' D2 ⟨e, q1, q2⟩
  exact ⟨e, Rel_C h0 q1 q2⟩
theorem op_must {mdl : Nat → Option (Nat × Nat)} {T : Nat} {D : Dy} {a1 : Int32} {a2 : Int32} {a3 : Int32} (h : Rel mdl T D) : ∃ PP : Int32 → Int32 → Dy → Prop, (∀ v v' D2, PP v v' D2 → v = v' ∧ Rel mdl T D2) ∧ fX11_must a1 a2 a3 D (fun (v : Int32) (D1 : Dy) => fX12_must a1 a2 a3 D1 (fun (v' : Int32) (D2 : Dy) => PP v v' D2)) := by
  obtain ⟨n, k, c, a, m, z, h⟩ := h
  have h0 := h
  obtain ⟨hT, hg, ht, hc, ha, hB, hX, hR, hP, hZ, hK⟩ := h
  refine ⟨_, ?_, p_must (BO_of hg ht hc) hK⟩
  rintro v v' D2 ⟨e, q1, q2⟩
  exact ⟨e, Rel_C h0 q1 q2⟩
theorem op_ask {mdl : Nat → Option (Nat × Nat)} {T : Nat} {D : Dy} {a1 : Int32} (h : Rel mdl T D) : ∃ PP : Int32 → Int32 → Dy → Prop, (∀ v v' D2, PP v v' D2 → v = v' ∧ Rel mdl T D2) ∧ fX11_ask a1 D (fun (v : Int32) (D1 : Dy) => fX12_ask a1 D1 (fun (v' : Int32) (D2 : Dy) => PP v v' D2)) := by
  obtain ⟨n, k, c, a, m, z, h⟩ := h
  have h0 := h
  obtain ⟨hT, hg, ht, hc, ha, hB, hX, hR, hP, hZ, hK⟩ := h
  refine ⟨_, ?_, p_ask hg ha⟩
  rintro v v' D2 ⟨e, a', q, f⟩
  have lo : (∀ b y, ¬ (b = 0 ∧ y = 11) → ¬ (b = 33 ∧ y = 3) → b ≠ 21 → b ≠ 42 → D2.1 b y = D.1 b y) ∧ D2.2 = D.2 := by
    rcases f with rfl | ⟨i, rfl⟩
    · exact ⟨fun _ _ _ _ _ _ => rfl, rfl⟩
    · exact ⟨fun b y h1 h2 h3 h4 => by rw [sI_1, if_neg h2, sI_1, if_neg (fun w => h4 w.1), sI_1, if_neg h1, sI_1, if_neg (fun w => h3 w.1)], rfl⟩
  exact ⟨e, n, k, c, a', m, z, hT, RG_e hg fun b y hb => lo.1 b y (by omega) (by omega) (by omega) (by omega), RT_e ht fun b y hb => lo.1 b y (by omega) (by omega) (by omega) (by omega), RC_e hc fun b y hb => lo.1 b y (by omega) (by omega) (by omega) (by omega), q, MB_e hB fun b y hb => lo.1 b y (by omega) (by omega) (by omega) (by omega), MX_e hB hX fun b y hb => lo.1 b y (by omega) (by omega) (by omega) (by omega), RR_e hR fun b y hb => lo.1 b y (by omega) (by omega) (by omega) (by omega), RP_e hP (fun b y hb => lo.1 b y (by omega) (by omega) (by omega) (by omega)) (fun b y hb => by rw [lo.2]), RX_e hZ fun b y hb => lo.1 b y (by omega) (by omega) (by omega) (by omega), RK_e hK fun b y hb => lo.1 b y (by omega) (by omega) (by omega) (by omega)⟩
theorem op_next {mdl : Nat → Option (Nat × Nat)} {T : Nat} {D : Dy} {a1 : Int32} (h : Rel mdl T D) : ∃ PP : Int32 → Int32 → Dy → Prop, (∀ v v' D2, PP v v' D2 → v = v' ∧ Rel mdl T D2) ∧ fX11_next a1 D (fun (v : Int32) (D1 : Dy) => fX12_next a1 D1 (fun (v' : Int32) (D2 : Dy) => PP v v' D2)) := by
  obtain ⟨n, k, c, a, m, z, h⟩ := h
  have h0 := h
  obtain ⟨hT, hg, ht, hc, ha, hB, hX, hR, hP, hZ, hK⟩ := h
  refine ⟨_, ?_, p_next (BO_of hg ht hc) hK ha⟩
  rintro v v' D2 ⟨e, q1, q2⟩
  exact ⟨e, Rel_C h0 q1 q2⟩
theorem op_silly {mdl : Nat → Option (Nat × Nat)} {T : Nat} {D : Dy} {a1 : Int32} (h : Rel mdl T D) : ∃ PP : Int32 → Int32 → Prop, (∀ v v', PP v v' → v = v' ∧ Rel mdl T D) ∧ fX11_silly a1 D (fun (v : Int32) => fX12_silly a1 D (fun (v' : Int32) => PP v v')) := by
  obtain ⟨n, k, c, a, m, z, h⟩ := h
  have h0 := h
  obtain ⟨hT, hg, ht, hc, ha, hB, hX, hR, hP, hZ, hK⟩ := h
  refine ⟨_, ?_, p_silly hg⟩
  rintro v v' e
  exact ⟨e, n, k, c, a, m, z, h0⟩
theorem op_could {mdl : Nat → Option (Nat × Nat)} {T : Nat} {D : Dy} {a1 : Int32} (h : Rel mdl T D) : ∃ PP : Int32 → Int32 → Prop, (∀ v v', PP v v' → v = v' ∧ Rel mdl T D) ∧ fX11_could a1 D (fun (v : Int32) => fX12_could a1 D (fun (v' : Int32) => PP v v')) := by
  obtain ⟨n, k, c, a, m, z, h⟩ := h
  have h0 := h
  obtain ⟨hT, hg, ht, hc, ha, hB, hX, hR, hP, hZ, hK⟩ := h
  refine ⟨_, ?_, p_could hg.1 ht.1 hc ha⟩
  rintro v v' e
  exact ⟨e, n, k, c, a, m, z, h0⟩
theorem op_away {mdl : Nat → Option (Nat × Nat)} {T : Nat} {D : Dy} {a1 : Int32} {a2 : Int32} {a3 : Int32} (h : Rel mdl T D) : ∃ PP : Int32 → Int32 → Prop, (∀ v v', PP v v' → v = v' ∧ Rel mdl T D) ∧ fX11_away a1 a2 a3 D (fun (v : Int32) => fX12_away a1 a2 a3 D (fun (v' : Int32) => PP v v')) := by
  obtain ⟨n, k, c, a, m, z, h⟩ := h
  have h0 := h
  obtain ⟨hT, hg, ht, hc, ha, hB, hX, hR, hP, hZ, hK⟩ := h
  refine ⟨_, ?_, p_away ht.1 hg hc⟩
  rintro v v' e
  exact ⟨e, n, k, c, a, m, z, h0⟩
theorem op_coin {mdl : Nat → Option (Nat × Nat)} {T : Nat} {D : Dy} {a1 : Int32} {a2 : Int32} (h : Rel mdl T D) : ∃ PP : Int64 → Int64 → Dy → Prop, (∀ v v' D2, PP v v' D2 → v = v' ∧ Rel mdl T D2) ∧ fX11_coin mdl a1 a2 D (fun (v : Int64) (D1 : Dy) => fX12_coin a1 a2 D1 (fun (v' : Int64) (D2 : Dy) => PP v v' D2)) := by
  obtain ⟨n, k, c, a, m, z, h⟩ := h
  have h0 := h
  obtain ⟨hT, hg, ht, hc, ha, hB, hX, hR, hP, hZ, hK⟩ := h
  obtain ⟨Mk, Pr, Ne, W, S, O, U, K, hA⟩ := AB_of h0
  refine ⟨_, ?_, p_coin hA⟩
  rintro v v' D2 ⟨e, q⟩
  exact ⟨e, Rel_A h0 q⟩
theorem op_lay {mdl : Nat → Option (Nat × Nat)} {T : Nat} {D : Dy} {a1 : Int32} {a2 : Int32} (h : Rel mdl T D) : ∃ PP : Int32 → Int32 → Dy → Prop, (∀ v v' D2, PP v v' D2 → v = v' ∧ Rel mdl T D2) ∧ fX11_lay mdl a1 a2 D (fun (v : Int32) (D1 : Dy) => fX12_lay a1 a2 D1 (fun (v' : Int32) (D2 : Dy) => PP v v' D2)) := by
  obtain ⟨n, k, c, a, m, z, h⟩ := h
  have h0 := h
  obtain ⟨hT, hg, ht, hc, ha, hB, hX, hR, hP, hZ, hK⟩ := h
  obtain ⟨Mk, Pr, Ne, W, S, O, U, K, hA⟩ := AB_of h0
  refine ⟨_, ?_, p_lay hA⟩
  rintro v v' D2 ⟨e, q⟩
  exact ⟨e, Rel_A h0 q⟩
theorem op_best {mdl : Nat → Option (Nat × Nat)} {T : Nat} {D : Dy} {a1 : Int32} {a2 : Int32} {a3 : Int32} (h : Rel mdl T D) : ∃ PP : Int32 → Int32 → Dy → Prop, (∀ v v' D2, PP v v' D2 → v = v' ∧ Rel mdl T D2) ∧ fX11_best mdl a1 a2 a3 D (fun (v : Int32) (D1 : Dy) => fX12_best a1 a2 a3 D1 (fun (v' : Int32) (D2 : Dy) => PP v v' D2)) := by
  obtain ⟨n, k, c, a, m, z, h⟩ := h
  have h0 := h
  obtain ⟨hT, hg, ht, hc, ha, hB, hX, hR, hP, hZ, hK⟩ := h
  obtain ⟨Mk, Pr, Ne, W, S, O, U, K, hA⟩ := AB_of h0
  refine ⟨_, ?_, p_best hA⟩
  rintro v v' D2 ⟨e, q⟩
  exact ⟨e, Rel_A h0 q⟩
theorem op_worse {mdl : Nat → Option (Nat × Nat)} {T : Nat} {D : Dy} {a1 : Int32} {a2 : Int32} {a3 : Int32} (h : Rel mdl T D) : ∃ PP : Int32 → Int32 → Dy → Prop, (∀ v v' D2, PP v v' D2 → v = v' ∧ Rel mdl T D2) ∧ fX11_worse mdl a1 a2 a3 D (fun (v : Int32) (D1 : Dy) => fX12_worse a1 a2 a3 D1 (fun (v' : Int32) (D2 : Dy) => PP v v' D2)) := by
  obtain ⟨n, k, c, a, m, z, h⟩ := h
  have h0 := h
  obtain ⟨hT, hg, ht, hc, ha, hB, hX, hR, hP, hZ, hK⟩ := h
  obtain ⟨Mk, Pr, Ne, W, S, O, U, K, hA⟩ := AB_of h0
  refine ⟨_, ?_, p_worse hA⟩
  rintro v v' D2 ⟨e, q⟩
  exact ⟨e, Rel_A h0 q⟩
theorem op_act {mdl : Nat → Option (Nat × Nat)} {T : Nat} {D : Dy} {a1 : Int32} {a2 : Int32} {a3 : Int32} (h : Rel mdl T D) : ∃ PP : Int32 → Int32 → Dy → Prop, (∀ v v' D2, PP v v' D2 → v = v' ∧ Rel mdl T D2) ∧ fX11_act mdl a1 a2 a3 D (fun (v : Int32) (D1 : Dy) => fX12_act a1 a2 a3 D1 (fun (v' : Int32) (D2 : Dy) => PP v v' D2)) := by
  obtain ⟨n, k, c, a, m, z, h⟩ := h
  have h0 := h
  obtain ⟨hT, hg, ht, hc, ha, hB, hX, hR, hP, hZ, hK⟩ := h
  refine ⟨_, ?_, p_act hB⟩
  rintro v v' D2 ⟨e, q, f⟩
  exact ⟨e, n, k, c, a, m, z, hT, RG_e hg fun b y hb => f.2 b y (by omega) (by omega) (by omega) (by omega), RT_e ht fun b y hb => f.2 b y (by omega) (by omega) (by omega) (by omega), RC_e hc fun b y hb => f.2 b y (by omega) (by omega) (by omega) (by omega), RA_e ha fun b y hb => f.2 b y (by omega) (by omega) (by omega) (by omega), MB_e hB fun b y hb => f.2 b y (by omega) (by omega) (by omega) (by omega), MX_e hB hX fun b y hb => f.2 b y (by omega) (by omega) (by omega) (by omega), q, RP_e hP (fun b y hb => f.2 b y (by omega) (by omega) (by omega) (by omega)) (fun b y hb => by rw [f.1]), RX_e hZ fun b y hb => f.2 b y (by omega) (by omega) (by omega) (by omega), RK_e hK fun b y hb => f.2 b y (by omega) (by omega) (by omega) (by omega)⟩
theorem op_trace {mdl : Nat → Option (Nat × Nat)} {T : Nat} {D : Dy} {a1 : Int32} (h : Rel mdl T D) : ∃ PP : Int32 → Int32 → Prop, (∀ v v', PP v v' → v = v' ∧ Rel mdl T D) ∧ fX11_trace a1 D (fun (v : Int32) => fX12_trace a1 D (fun (v' : Int32) => PP v v')) := by
  obtain ⟨n, k, c, a, m, z, h⟩ := h
  have h0 := h
  obtain ⟨hT, hg, ht, hc, ha, hB, hX, hR, hP, hZ, hK⟩ := h
  refine ⟨_, ?_, p_trace hR⟩
  rintro v v' e
  exact ⟨e, n, k, c, a, m, z, h0⟩
theorem op_taken {mdl : Nat → Option (Nat × Nat)} {T : Nat} {D : Dy} {a1 : Int32} {a2 : Int32} (h : Rel mdl T D) : ∃ PP : Int32 → Int32 → Prop, (∀ v v', PP v v' → v = v' ∧ Rel mdl T D) ∧ fX11_taken mdl a1 a2 D (fun (v : Int32) => fX12_taken a1 a2 D (fun (v' : Int32) => PP v v')) := by
  obtain ⟨n, k, c, a, m, z, h⟩ := h
  have h0 := h
  obtain ⟨hT, hg, ht, hc, ha, hB, hX, hR, hP, hZ, hK⟩ := h
  refine ⟨_, ?_, p_taken hB⟩
  rintro v v' e
  exact ⟨e, n, k, c, a, m, z, h0⟩
theorem op_sheet {mdl : Nat → Option (Nat × Nat)} {T : Nat} {D : Dy} {a1 : Int32} {a2 : Int32} {a3 : Int32} {a4 : Int32} (h : Rel mdl T D) : ∃ PP : Int32 → Int32 → Dy → Prop, (∀ v v' D2, PP v v' D2 → v = v' ∧ Rel mdl T D2) ∧ fX11_sheet mdl a1 a2 a3 a4 D (fun (v : Int32) (D1 : Dy) => fX12_sheet a1 a2 a3 a4 D1 (fun (v' : Int32) (D2 : Dy) => PP v v' D2)) := by
  obtain ⟨n, k, c, a, m, z, h⟩ := h
  have h0 := h
  obtain ⟨hT, hg, ht, hc, ha, hB, hX, hR, hP, hZ, hK⟩ := h
  refine ⟨_, ?_, p_sheet hg.1 ht.1 hc.1 hg.2.1 hg.2.2.1 ht.2.1 ht.2.2.1 hc.2.1 hc.2.2.1 hP⟩
  rintro v v' D2 ⟨e, w, L, q, rfl⟩
  exact ⟨e, n, k, c + L.length, a, m, z, hT, RG_e hg fun b y hb => add_o (by omega) (by omega) (by omega) (by omega) (by omega), RT_e ht fun b y hb => add_o (by omega) (by omega) (by omega) (by omega) (by omega), RC_plus hg.1 hc q, RA_e ha fun b y hb => add_o (by omega) (by omega) (by omega) (by omega) (by omega), MB_e hB fun b y hb => add_o (by omega) (by omega) (by omega) (by omega) (by omega), MX_e hB hX fun b y hb => add_o (by omega) (by omega) (by omega) (by omega) (by omega), RR_e hR fun b y hb => add_o (by omega) (by omega) (by omega) (by omega) (by omega), RP_e hP (fun b y hb => add_o (by omega) (by omega) (by omega) (by omega) (by omega)) (fun b y hb => rfl), RX_e hZ fun b y hb => add_o (by omega) (by omega) (by omega) (by omega) (by omega), RK_add hK q.1⟩
theorem op_count {mdl : Nat → Option (Nat × Nat)} {T : Nat} {D : Dy} {a1 : Int32} (h : Rel mdl T D) : ∃ PP : Int32 → Int32 → Prop, (∀ v v', PP v v' → v = v' ∧ Rel mdl T D) ∧ fX11_count a1 D (fun (v : Int32) => fX12_count a1 D (fun (v' : Int32) => PP v v')) := by
  obtain ⟨n, k, c, a, m, z, h⟩ := h
  have h0 := h
  obtain ⟨hT, hg, ht, hc, ha, hB, hX, hR, hP, hZ, hK⟩ := h
  obtain ⟨r, r1, r2, r3, -⟩ := hR
  refine ⟨_, ?_, p_count hg.1 hg.2.1 hg.2.2.1 ht.2.1 ht.2.2.1 hc.2.1 hc.2.2.1 hB.2.1 hB.2.2.1 hZ.2.1 hZ.2.2.1 ha.2.1 ha.2.2.1 r2 r3⟩
  rintro v v' e
  exact ⟨e, n, k, c, a, m, z, h0⟩
theorem op_tape {mdl : Nat → Option (Nat × Nat)} {T : Nat} {D : Dy} {a1 : Int32} {a2 : Int32} {a3 : Int32} (h : Rel mdl T D) : ∃ PP : Int32 → Int32 → Dy → Prop, (∀ v v' D2, PP v v' D2 → v = v' ∧ Rel mdl T D2) ∧ fX11_tape mdl a1 a2 a3 D (fun (v : Int32) (D1 : Dy) => fX12_tape a1 a2 a3 D1 (fun (v' : Int32) (D2 : Dy) => PP v v' D2)) := by
  obtain ⟨n, k, c, a, m, z, h⟩ := h
  have h0 := h
  obtain ⟨hT, hg, ht, hc, ha, hB, hX, hR, hP, hZ, hK⟩ := h
  refine ⟨_, ?_, p_tape hP⟩
  rintro v v' D2 ⟨e, q, f, -⟩
  exact ⟨e, n, k, c, a, m, z, hT, RG_e hg fun b y hb => f b y (by omega) (by omega) (by omega) (by omega), RT_e ht fun b y hb => f b y (by omega) (by omega) (by omega) (by omega), RC_e hc fun b y hb => f b y (by omega) (by omega) (by omega) (by omega), RA_e ha fun b y hb => f b y (by omega) (by omega) (by omega) (by omega), MB_e hB fun b y hb => f b y (by omega) (by omega) (by omega) (by omega), MX_e hB hX fun b y hb => f b y (by omega) (by omega) (by omega) (by omega), RR_e hR fun b y hb => f b y (by omega) (by omega) (by omega) (by omega), q, RX_e hZ fun b y hb => f b y (by omega) (by omega) (by omega) (by omega), RK_e hK fun b y hb => f b y (by omega) (by omega) (by omega) (by omega)⟩
theorem op_item {mdl : Nat → Option (Nat × Nat)} {T : Nat} {D : Dy} {a1 : Int32} {a2 : Int32} {a3 : Int64} (h : Rel mdl T D) : ∃ PP : Int32 → Int32 → Dy → Prop, (∀ v v' D2, PP v v' D2 → v = v' ∧ Rel mdl T D2) ∧ fX11_item mdl a1 a2 a3 D (fun (v : Int32) (D1 : Dy) => fX12_item a1 a2 a3 D1 (fun (v' : Int32) (D2 : Dy) => PP v v' D2)) := by
  obtain ⟨n, k, c, a, m, z, h⟩ := h
  have h0 := h
  obtain ⟨hT, hg, ht, hc, ha, hB, hX, hR, hP, hZ, hK⟩ := h
  refine ⟨_, ?_, p_item hP⟩
  rintro v v' D2 ⟨e, q, f⟩
  have lo : D2.1 = D.1 := by
    rcases f with rfl | ⟨i, j, x, -, rfl⟩
    · rfl
    · rfl
  exact ⟨e, n, k, c, a, m, z, hT, RG_e hg fun b y hb => by rw [lo], RT_e ht fun b y hb => by rw [lo], RC_e hc fun b y hb => by rw [lo], RA_e ha fun b y hb => by rw [lo], MB_e hB fun b y hb => by rw [lo], MX_e hB hX fun b y hb => by rw [lo], RR_e hR fun b y hb => by rw [lo], q, RX_e hZ fun b y hb => by rw [lo], RK_e hK fun b y hb => by rw [lo]⟩
theorem op_read {mdl : Nat → Option (Nat × Nat)} {T : Nat} {D : Dy} {a1 : Int32} {a2 : Int32} (h : Rel mdl T D) : ∃ PP : Int64 → Int64 → Prop, (∀ v v', PP v v' → v = v' ∧ Rel mdl T D) ∧ fX11_read mdl a1 a2 D (fun (v : Int64) => fX12_read a1 a2 D (fun (v' : Int64) => PP v v')) := by
  obtain ⟨n, k, c, a, m, z, h⟩ := h
  have h0 := h
  obtain ⟨hT, hg, ht, hc, ha, hB, hX, hR, hP, hZ, hK⟩ := h
  refine ⟨_, ?_, p_read hP⟩
  rintro v v' e
  exact ⟨e, n, k, c, a, m, z, h0⟩
theorem op_shift {mdl : Nat → Option (Nat × Nat)} {T : Nat} {D : Dy} {a1 : Int32} {a2 : Int32} {a3 : Int32} {a4 : Int32} {a5 : Int32} (h : Rel mdl T D) : ∃ PP : Int32 → Int32 → Dy → Prop, (∀ v v' D2, PP v v' D2 → v = v' ∧ Rel mdl T D2) ∧ fX11_shift mdl a1 a2 a3 a4 a5 D (fun (v : Int32) (D1 : Dy) => fX12_shift a1 a2 a3 a4 a5 D1 (fun (v' : Int32) (D2 : Dy) => PP v v' D2)) := by
  obtain ⟨n, k, c, a, m, z, h⟩ := h
  have h0 := h
  obtain ⟨hT, hg, ht, hc, ha, hB, hX, hR, hP, hZ, hK⟩ := h
  refine ⟨_, ?_, p_shift hP⟩
  rintro v v' D2 ⟨e, q, f, -⟩
  exact ⟨e, n, k, c, a, m, z, hT, RG_e hg fun b y hb => f b y (by omega) (by omega) (by omega) (by omega), RT_e ht fun b y hb => f b y (by omega) (by omega) (by omega) (by omega), RC_e hc fun b y hb => f b y (by omega) (by omega) (by omega) (by omega), RA_e ha fun b y hb => f b y (by omega) (by omega) (by omega) (by omega), MB_e hB fun b y hb => f b y (by omega) (by omega) (by omega) (by omega), MX_e hB hX fun b y hb => f b y (by omega) (by omega) (by omega) (by omega), RR_e hR fun b y hb => f b y (by omega) (by omega) (by omega) (by omega), q, RX_e hZ fun b y hb => f b y (by omega) (by omega) (by omega) (by omega), RK_e hK fun b y hb => f b y (by omega) (by omega) (by omega) (by omega)⟩
end
