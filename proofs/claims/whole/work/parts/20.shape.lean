/-! the shape of the world when a model is made -/
def Sb (S : Sh) : Prop := ∀ a, S.2.1 a ≠ 0 → a < S.1
def sLow (S S' : Sh) (b : Nat) : Prop := ∀ a, a < b → S'.2.1 a = S.2.1 a ∧ S'.2.2.1 a = S.2.2.1 a ∧ S'.2.2.2 a = S.2.2.2 a
theorem Sb_sNa {S : Sh} {a kd ln : Nat} (h : Sb S) (ha : S.1 = a) : Sb (sNa S a kd ln) := fun b hb => by
  show b < a + 1
  by_cases e : b = a
  · omega
  · have : S.2.1 b ≠ 0 := by simpa [sNa, e] using hb
    have := h b this
    omega
theorem Sb_sR {S : Sh} {a k : Nat} {r : Option Nat} (h : Sb S) : Sb (sR S a k r) := h
def sT (t : Nat) (S : Sh) : Sh := S9_16 t (sNa S t 10 0)
def sNM (kd o t : Nat) (S : Sh) : Sh := if kd = 2 then S5_4 o t (sNa S o (mcls kd + 1) 0) else S4_6 o t (sNa S o (mcls kd + 1) 0)
theorem sT_1 {t : Nat} {S : Sh} : (sT t S).1 = t + 9 := rfl
theorem sT_Sb {t : Nat} {S : Sh} (h : Sb S) (ht : S.1 = t) : Sb (sT t S) := by
  unfold sT S9_16 S9_15 S9_14 S9_13 S9_12 S9_11 S9_10 S9_9 S9_8 S9_7 S9_6 S9_5 S9_4 S9_3 S9_2 S9_1 S9_0
  exact Sb_sR (Sb_sNa (Sb_sR (Sb_sR (Sb_sNa (Sb_sR (Sb_sNa (Sb_sR (Sb_sNa (Sb_sR (Sb_sNa (Sb_sR (Sb_sNa (Sb_sR (Sb_sNa (Sb_sR (Sb_sNa (Sb_sNa h ht) rfl)) rfl)) rfl)) rfl)) rfl)) rfl)) rfl))) rfl)
theorem sT_low {t : Nat} {S : Sh} : sLow S (sT t S) t := fun a ha => by
  have e0 : a ≠ t := by omega
  have e1 : a ≠ t + 1 := by omega
  have e2 : a ≠ t + 2 := by omega
  have e3 : a ≠ t + 3 := by omega
  have e4 : a ≠ t + 4 := by omega
  have e5 : a ≠ t + 5 := by omega
  have e6 : a ≠ t + 6 := by omega
  have e7 : a ≠ t + 7 := by omega
  have e8 : a ≠ t + 8 := by omega
  refine ⟨?_, ?_, ?_⟩ <;> simp [sT, S9_16, S9_15, S9_14, S9_13, S9_12, S9_11, S9_10, S9_9, S9_8, S9_7, S9_6, S9_5, S9_4, S9_3, S9_2, S9_1, S9_0, sNa, sR, e0, e1, e2, e3, e4, e5, e6, e7, e8]
theorem sT_FT {t : Nat} {S : Sh} : FT (sT t S) t := by
  refine ⟨?_, fun j h1 h2 => ?_, ?_, ?_, ?_, ?_, ?_, ?_, ?_, ?_, ?_⟩
  case refine_2 =>
    obtain rfl | rfl | rfl | rfl | rfl | rfl | rfl | rfl : j = 1 ∨ j = 2 ∨ j = 3 ∨ j = 4 ∨ j = 5 ∨ j = 6 ∨ j = 7 ∨ j = 8 := by omega
    all_goals simp [sT, S9_16, S9_15, S9_14, S9_13, S9_12, S9_11, S9_10, S9_9, S9_8, S9_7, S9_6, S9_5, S9_4, S9_3, S9_2, S9_1, S9_0, sNa, sR]
  all_goals simp [sT, S9_16, S9_15, S9_14, S9_13, S9_12, S9_11, S9_10, S9_9, S9_8, S9_7, S9_6, S9_5, S9_4, S9_3, S9_2, S9_1, S9_0, sNa, sR]
def nNM (kd : Nat) : Nat := if kd = 2 then 6 else 4
theorem sNM_1 {kd o t : Nat} {S : Sh} : (sNM kd o t S).1 = o + nNM kd := by
  unfold sNM nNM
  by_cases h : kd = 2
  · rw [if_pos h, if_pos h]; rfl
  · rw [if_neg h, if_neg h]; rfl
theorem sNM_Sb {kd o t : Nat} {S : Sh} (h : Sb S) (ho : S.1 = o) : Sb (sNM kd o t S) := by
  have h4 : Sb (S4_6 o t (sNa S o (mcls kd + 1) 0)) := by
    unfold S4_6 S4_5 S4_4 S4_3 S4_2 S4_1 S4_0
    exact Sb_sR (Sb_sR (Sb_sNa (Sb_sR (Sb_sNa (Sb_sR (Sb_sNa (Sb_sNa h ho) rfl)) rfl)) rfl))
  unfold sNM
  split
  · unfold S5_4 S5_3 S5_2 S5_1 S5_0 S7_0
    exact Sb_sR (Sb_sNa (Sb_sR (Sb_sNa h4 rfl)) rfl)
  · exact h4
theorem sNM_low {kd o t : Nat} {S : Sh} : sLow S (sNM kd o t S) o := fun a ha => by
  have e0 : a ≠ o := by omega
  have e1 : a ≠ o + 1 := by omega
  have e2 : a ≠ o + 2 := by omega
  have e3 : a ≠ o + 3 := by omega
  have e4 : a ≠ o + 4 := by omega
  have e5 : a ≠ o + 5 := by omega
  unfold sNM
  split <;> refine ⟨?_, ?_, ?_⟩ <;> simp [S5_4, S5_3, S5_2, S5_1, S5_0, S7_0, S4_6, S4_5, S4_4, S4_3, S4_2, S4_1, S4_0, sNa, sR, e0, e1, e2, e3, e4, e5]
theorem FT_low {S S' : Sh} {t b : Nat} (h : FT S t) (hx : sLow S S' b) (hb : t + 8 < b) : FT S' t := by
  obtain ⟨g1, g2, g3, g4, g5, g6, g7, g8, g9, g10, g11⟩ := h
  have x0 := hx t (by omega)
  refine ⟨x0.1.trans g1, fun j h1 h2 => ?_, ?_, ?_, ?_, ?_, ?_, ?_, ?_, ?_, ?_⟩
  · have xj := hx (t + j) (by omega)
    exact ⟨xj.1.trans (g2 j h1 h2).1, xj.2.1.trans (g2 j h1 h2).2⟩
  all_goals (rw [x0.2.2]; assumption)
theorem FMo_low {S S' : Sh} {t kd b : Nat} (h : FMo S t kd) (hx : sLow S S' b) (hb : t + (9 + nNM kd) ≤ b) : FMo S' t kd := by
  obtain ⟨g1, g2, g3, g4, g5, g6, g7, g8, g9, g10, g11⟩ := h
  have hn : 4 ≤ nNM kd := by unfold nNM; split <;> omega
  have x9 := hx (t + 9) (by omega)
  have x10 := hx (t + 10) (by omega)
  have x11 := hx (t + 11) (by omega)
  have x12 := hx (t + 12) (by omega)
  refine ⟨FT_low g1 hx (by omega), g2, x9.1.trans g3, ⟨x10.1.trans g4.1, x10.2.1.trans g4.2⟩, ⟨x11.1.trans g5.1, x11.2.1.trans g5.2⟩, ⟨x12.1.trans g6.1, x12.2.1.trans g6.2⟩, by rw [x9.2.2]; exact g7, by rw [x9.2.2]; exact g8, by rw [x9.2.2]; exact g9, by rw [x9.2.2]; exact g10, fun hk => ?_⟩
  have hn6 : nNM kd = 6 := by unfold nNM; rw [if_pos hk]
  have x13 := hx (t + 13) (by omega)
  have x14 := hx (t + 14) (by omega)
  obtain ⟨q1, q2, q3, q4⟩ := g11 hk
  exact ⟨⟨x13.1.trans q1.1, x13.2.1.trans q1.2⟩, ⟨x14.1.trans q2.1, x14.2.1.trans q2.2⟩, by rw [x9.2.2]; exact q3, by rw [x9.2.2]; exact q4⟩
theorem FMo_end {S : Sh} {t kd : Nat} (h : FMo S t kd) (hb : Sb S) : t + (9 + nNM kd) ≤ S.1 := by
  unfold nNM
  split
  · next hk =>
    have := hb (t + 14) (by rw [(h.2.2.2.2.2.2.2.2.2.2 hk).2.1.1]; decide)
    omega
  · have := hb (t + 12) (by rw [h.2.2.2.2.2.1.1]; decide)
    omega
theorem sNM_FMo {kd t : Nat} {S : Sh} (hkd : kd < 6) (hT : FT S t) : FMo (sNM kd (t + 9) t S) t kd := by
  refine ⟨FT_low hT sNM_low (by omega), hkd, ?_, ?_, ?_, ?_, ?_, ?_, ?_, ?_, fun hk => ?_⟩
  all_goals unfold sNM
  case refine_9 => rw [if_pos hk]; refine ⟨⟨?_, ?_⟩, ⟨?_, ?_⟩, ?_, ?_⟩ <;> simp [S5_4, S5_3, S5_2, S5_1, S5_0, S7_0, S4_6, S4_5, S4_4, S4_3, S4_2, S4_1, S4_0, sNa, sR]
  all_goals split <;> simp [S5_4, S5_3, S5_2, S5_1, S5_0, S7_0, S4_6, S4_5, S4_4, S4_3, S4_2, S4_1, S4_0, sNa, sR]
theorem FX_low {S S' : Sh} {mdl : Nat → Option (Nat × Nat)} (h : FX S mdl) (hb : Sb S) (hx : sLow S S' S.1) : FX S' mdl := by
  have hk : ∀ a, a < 33 → a < S.1 := fun a ha => hb a (by rw [(h.1 a ha).1]; revert a; decide)
  refine ⟨fun a ha => ?_, fun q hq => ?_, fun i hi => ?_, fun i hi t kd hm => FMo_low (h.2.2.2 i hi t kd hm) hx (FMo_end (h.2.2.2 i hi t kd hm) hb)⟩
  · have := hx a (hk a ha)
    exact ⟨this.1.trans (h.1 a ha).1, this.2.1.trans (h.1 a ha).2⟩
  · have h33 : ∀ q ∈ rTabX, q.1 < 33 := by decide
    rw [(hx q.1 (hk _ (h33 q hq))).2.2]; exact h.2.1 q hq
  · rw [(hx 13 (hk 13 (by decide))).2.2]; exact h.2.2.1 i hi
theorem FM_low {S S' : Sh} (h : FM S) (hb : Sb S) (hx : sLow S S' S.1) : FM S' := by
  have hk : ∀ a, 33 ≤ a → a < 65 → a < S.1 := fun a h1 h2 => hb a (by rw [(h.1 a h1 h2).1]; exact (by decide : ∀ a, a < 65 → 33 ≤ a → kTab.getD a 0 ≠ 0) a h2 h1)
  refine ⟨fun a h1 h2 => ?_, fun q hq => ?_⟩
  · have := hx a (hk a h1 h2)
    exact ⟨this.1.trans (h.1 a h1 h2).1, this.2.1.trans (h.1 a h1 h2).2⟩
  · have h33 : ∀ q ∈ rTabM, 33 ≤ q.1 ∧ q.1 < 65 := by decide
    rw [(hx q.1 (hk _ (h33 q hq).1 (h33 q hq).2)).2.2]; exact h.2 q hq
theorem sNa_low {S : Sh} {a kd ln : Nat} : sLow S (sNa S a kd ln) a := fun b hb => by
  have e : b ≠ a := by omega
  refine ⟨?_, ?_, ?_⟩ <;> simp [sNa, e]
theorem sR_low {S : Sh} {a k : Nat} {r : Option Nat} {b : Nat} (h : b ≤ a) : sLow S (sR S a k r) b := fun c hc => by
  have e : c ≠ a := by omega
  refine ⟨rfl, rfl, ?_⟩
  simp [sR, e]
def mdlU (mdl : Nat → Option (Nat × Nat)) (i t kd : Nat) : Nat → Option (Nat × Nat) := fun j => if j = i then some (t, kd) else mdl j
/-- a model at its place in the row -/
theorem FX_put {S : Sh} {mdl : Nat → Option (Nat × Nat)} (h : FX S mdl) {i t kd : Nat} (hM : FMo S t kd) (ht : 33 ≤ t) (h65 : ∀ i, i < 10 → ∀ t kd, mdl i = some (t, kd) → 33 ≤ t) : FX (sR S 13 i (some (t + 9))) (mdlU mdl i t kd) := by
  have hne : ∀ {t' kd' : Nat}, 33 ≤ t' → FMo S t' kd' → FMo (sR S 13 i (some (t + 9))) t' kd' := by
    intro t' kd' h33 h
    obtain ⟨⟨f1, f2, f3, f4, f5, f6, f7, f8, f9, f10, f11⟩, g2, g3, g4, g5, g6, g7, g8, g9, g10, g11⟩ := h
    have e0 : t' ≠ 13 := by omega
    have e9 : t' + 9 ≠ 13 := by omega
    refine ⟨⟨f1, f2, ?_, ?_, ?_, ?_, ?_, ?_, ?_, ?_, ?_⟩, g2, g3, g4, g5, g6, ?_, ?_, ?_, ?_, fun hk => ⟨(g11 hk).1, (g11 hk).2.1, ?_, ?_⟩⟩
    all_goals simp only [sR, e0, e9, false_and, if_false]
    all_goals first | assumption | exact (g11 hk).2.2.1 | exact (g11 hk).2.2.2
  refine ⟨h.1, fun q hq => ?_, fun j hj => ?_, fun j hj t' kd' hm => ?_⟩
  · have h33 : ∀ q ∈ rTabX, q.1 ≠ 13 := by decide
    have := h33 q hq
    simp only [sR, this, false_and, if_false]; exact h.2.1 q hq
  · by_cases e : j = i
    · simp [sR, mdlU, e]
    · have := h.2.2.1 j hj
      simp only [sR, mdlU, e, and_false, if_false]; exact this
  · unfold mdlU at hm
    split at hm
    · cases hm; exact hne ht hM
    · exact hne (h65 j hj t' kd' hm) (h.2.2.2 j hj t' kd' hm)
theorem cfm2 {kd : Nat} (h : kd < 6) : ∃ C T, CF (mcls kd) C T ∧ mcls kd < 13 ∧ ((C, "WhyChosen$Model") ∈ cyL ∨ C = "WhyChosen$Model") := by
  obtain rfl | rfl | rfl | rfl | rfl | rfl : kd = 0 ∨ kd = 1 ∨ kd = 2 ∨ kd = 3 ∨ kd = 4 ∨ kd = 5 := by omega
  · exact ⟨_, _, cf_4, by decide, Or.inr rfl⟩
  · exact ⟨_, _, cf_7, by decide, Or.inl (by decide)⟩
  · exact ⟨_, _, cf_5, by decide, Or.inl (by decide)⟩
  · exact ⟨_, _, cf_3, by decide, Or.inl (by decide)⟩
  · exact ⟨_, _, cf_2, by decide, Or.inl (by decide)⟩
  · exact ⟨_, _, cf_8, by decide, Or.inl (by decide)⟩
theorem sNa_high {S : Sh} {a kd ln b : Nat} (hb : ∀ c, b ≤ c → S.2.1 c = 0) (ha : a < b) : ∀ c, b ≤ c → (sNa S a kd ln).2.1 c = 0 := fun c hc => by
  have e : c ≠ a := by omega
  simp [sNa, e, hb c hc]
theorem sR_high {S : Sh} {a k b : Nat} {r : Option Nat} (hb : ∀ c, b ≤ c → S.2.1 c = 0) : ∀ c, b ≤ c → (sR S a k r).2.1 c = 0 := hb
theorem sM_high {S : Sh} {N K b : Nat} (hb : ∀ c, b ≤ c → S.2.1 c = 0) (ha : S.1 + N < b) : ∀ c, b ≤ c → (sM S N K).2.1 c = 0 := fun c hc => by
  have e : c ≠ S.1 := by omega
  have e2 : ¬ (S.1 < c ∧ c ≤ S.1 + N) := by omega
  simp [sM, e, e2, hb c hc]
theorem SQh_0 : ∀ c, 65 ≤ c → SQ_0.2.1 c = 0 := fun _ _ => rfl
theorem SQh_1 : ∀ c, 65 ≤ c → SQ_1.2.1 c = 0 := sNa_high SQh_0 (by decide)
theorem SQh_2 : ∀ c, 65 ≤ c → SQ_2.2.1 c = 0 := sNa_high SQh_1 (by decide)
theorem SQh_3 : ∀ c, 65 ≤ c → SQ_3.2.1 c = 0 := sNa_high SQh_2 (by decide)
theorem SQh_4 : ∀ c, 65 ≤ c → SQ_4.2.1 c = 0 := sR_high SQh_3
theorem SQh_5 : ∀ c, 65 ≤ c → SQ_5.2.1 c = 0 := sNa_high SQh_4 (by decide)
theorem SQh_6 : ∀ c, 65 ≤ c → SQ_6.2.1 c = 0 := sR_high SQh_5
theorem SQh_7 : ∀ c, 65 ≤ c → SQ_7.2.1 c = 0 := sNa_high SQh_6 (by decide)
theorem SQh_8 : ∀ c, 65 ≤ c → SQ_8.2.1 c = 0 := sR_high SQh_7
theorem SQh_9 : ∀ c, 65 ≤ c → SQ_9.2.1 c = 0 := sR_high SQh_8
theorem SQh_10 : ∀ c, 65 ≤ c → SQ_10.2.1 c = 0 := sNa_high SQh_9 (by decide)
theorem SQh_11 : ∀ c, 65 ≤ c → SQ_11.2.1 c = 0 := sR_high SQh_10
theorem SQh_12 : ∀ c, 65 ≤ c → SQ_12.2.1 c = 0 := sNa_high SQh_11 (by decide)
theorem SQh_13 : ∀ c, 65 ≤ c → SQ_13.2.1 c = 0 := sR_high SQh_12
theorem SQh_14 : ∀ c, 65 ≤ c → SQ_14.2.1 c = 0 := sNa_high SQh_13 (by decide)
theorem SQh_15 : ∀ c, 65 ≤ c → SQ_15.2.1 c = 0 := sNa_high SQh_14 (by decide)
theorem SQh_16 : ∀ c, 65 ≤ c → SQ_16.2.1 c = 0 := sR_high SQh_15
theorem SQh_17 : ∀ c, 65 ≤ c → SQ_17.2.1 c = 0 := sNa_high SQh_16 (by decide)
theorem SQh_18 : ∀ c, 65 ≤ c → SQ_18.2.1 c = 0 := sR_high SQh_17
theorem SQh_19 : ∀ c, 65 ≤ c → SQ_19.2.1 c = 0 := sNa_high SQh_18 (by decide)
theorem SQh_20 : ∀ c, 65 ≤ c → SQ_20.2.1 c = 0 := sR_high SQh_19
theorem SQh_21 : ∀ c, 65 ≤ c → SQ_21.2.1 c = 0 := sNa_high SQh_20 (by decide)
theorem SQh_22 : ∀ c, 65 ≤ c → SQ_22.2.1 c = 0 := sR_high SQh_21
theorem SQh_23 : ∀ c, 65 ≤ c → SQ_23.2.1 c = 0 := sR_high SQh_22
theorem SQh_24 : ∀ c, 65 ≤ c → SQ_24.2.1 c = 0 := sNa_high SQh_23 (by decide)
theorem SQh_25 : ∀ c, 65 ≤ c → SQ_25.2.1 c = 0 := sR_high SQh_24
theorem SQh_26 : ∀ c, 65 ≤ c → SQ_26.2.1 c = 0 := sNa_high SQh_25 (by decide)
theorem SQh_27 : ∀ c, 65 ≤ c → SQ_27.2.1 c = 0 := sR_high SQh_26
theorem SQh_28 : ∀ c, 65 ≤ c → SQ_28.2.1 c = 0 := sNa_high SQh_27 (by decide)
theorem SQh_29 : ∀ c, 65 ≤ c → SQ_29.2.1 c = 0 := sNa_high SQh_28 (by decide)
theorem SQh_30 : ∀ c, 65 ≤ c → SQ_30.2.1 c = 0 := sR_high SQh_29
theorem SQh_31 : ∀ c, 65 ≤ c → SQ_31.2.1 c = 0 := sNa_high SQh_30 (by decide)
theorem SQh_32 : ∀ c, 65 ≤ c → SQ_32.2.1 c = 0 := sR_high SQh_31
theorem SQh_33 : ∀ c, 65 ≤ c → SQ_33.2.1 c = 0 := sNa_high SQh_32 (by decide)
theorem SQh_34 : ∀ c, 65 ≤ c → SQ_34.2.1 c = 0 := sR_high SQh_33
theorem SQh_35 : ∀ c, 65 ≤ c → SQ_35.2.1 c = 0 := sNa_high SQh_34 (by decide)
theorem SQh_36 : ∀ c, 65 ≤ c → SQ_36.2.1 c = 0 := sR_high SQh_35
theorem SQh_37 : ∀ c, 65 ≤ c → SQ_37.2.1 c = 0 := sNa_high SQh_36 (by decide)
theorem SQh_38 : ∀ c, 65 ≤ c → SQ_38.2.1 c = 0 := sR_high SQh_37
theorem SQh_39 : ∀ c, 65 ≤ c → SQ_39.2.1 c = 0 := sNa_high SQh_38 (by decide)
theorem SQh_40 : ∀ c, 65 ≤ c → SQ_40.2.1 c = 0 := sR_high SQh_39
theorem SQh_41 : ∀ c, 65 ≤ c → SQ_41.2.1 c = 0 := sR_high SQh_40
theorem SQh_42 : ∀ c, 65 ≤ c → SQ_42.2.1 c = 0 := sNa_high SQh_41 (by decide)
theorem SQh_43 : ∀ c, 65 ≤ c → SQ_43.2.1 c = 0 := sR_high SQh_42
theorem SQh_44 : ∀ c, 65 ≤ c → SQ_44.2.1 c = 0 := sNa_high SQh_43 (by decide)
theorem SQh_45 : ∀ c, 65 ≤ c → SQ_45.2.1 c = 0 := sNa_high SQh_44 (by decide)
theorem SQh_46 : ∀ c, 65 ≤ c → SQ_46.2.1 c = 0 := sR_high SQh_45
theorem SQh_47 : ∀ c, 65 ≤ c → SQ_47.2.1 c = 0 := sR_high SQh_46
theorem SQh_48 : ∀ c, 65 ≤ c → SQ_48.2.1 c = 0 := sNa_high SQh_47 (by decide)
theorem SQh_49 : ∀ c, 65 ≤ c → SQ_49.2.1 c = 0 := sR_high SQh_48
theorem SQh_50 : ∀ c, 65 ≤ c → SQ_50.2.1 c = 0 := sNa_high SQh_49 (by decide)
theorem SQh_51 : ∀ c, 65 ≤ c → SQ_51.2.1 c = 0 := sR_high SQh_50
theorem SQh_52 : ∀ c, 65 ≤ c → SQ_52.2.1 c = 0 := sM_high SQh_51 (by decide)
theorem SQh_53 : ∀ c, 65 ≤ c → SQ_53.2.1 c = 0 := sR_high SQh_52
theorem SQh_54 : ∀ c, 65 ≤ c → SQ_54.2.1 c = 0 := sNa_high SQh_53 (by decide)
theorem SQh_55 : ∀ c, 65 ≤ c → SQ_55.2.1 c = 0 := sNa_high SQh_54 (by decide)
theorem SQh_56 : ∀ c, 65 ≤ c → SQ_56.2.1 c = 0 := sR_high SQh_55
theorem SQh_57 : ∀ c, 65 ≤ c → SQ_57.2.1 c = 0 := sNa_high SQh_56 (by decide)
theorem SQh_58 : ∀ c, 65 ≤ c → SQ_58.2.1 c = 0 := sR_high SQh_57
theorem SQh_59 : ∀ c, 65 ≤ c → SQ_59.2.1 c = 0 := sNa_high SQh_58 (by decide)
theorem SQh_60 : ∀ c, 65 ≤ c → SQ_60.2.1 c = 0 := sR_high SQh_59
theorem SQh_61 : ∀ c, 65 ≤ c → SQ_61.2.1 c = 0 := sNa_high SQh_60 (by decide)
theorem SQh_62 : ∀ c, 65 ≤ c → SQ_62.2.1 c = 0 := sR_high SQh_61
theorem SQh_63 : ∀ c, 65 ≤ c → SQ_63.2.1 c = 0 := sNa_high SQh_62 (by decide)
theorem SQh_64 : ∀ c, 65 ≤ c → SQ_64.2.1 c = 0 := sR_high SQh_63
theorem SQh_65 : ∀ c, 65 ≤ c → SQ_65.2.1 c = 0 := sNa_high SQh_64 (by decide)
theorem SQh_66 : ∀ c, 65 ≤ c → SQ_66.2.1 c = 0 := sR_high SQh_65
theorem SQh_67 : ∀ c, 65 ≤ c → SQ_67.2.1 c = 0 := sNa_high SQh_66 (by decide)
theorem SQh_68 : ∀ c, 65 ≤ c → SQ_68.2.1 c = 0 := sR_high SQh_67
theorem SQh_69 : ∀ c, 65 ≤ c → SQ_69.2.1 c = 0 := sNa_high SQh_68 (by decide)
theorem SQh_70 : ∀ c, 65 ≤ c → SQ_70.2.1 c = 0 := sR_high SQh_69
theorem SQh_71 : ∀ c, 65 ≤ c → SQ_71.2.1 c = 0 := sNa_high SQh_70 (by decide)
theorem SQh_72 : ∀ c, 65 ≤ c → SQ_72.2.1 c = 0 := sR_high SQh_71
theorem SQh_73 : ∀ c, 65 ≤ c → SQ_73.2.1 c = 0 := sNa_high SQh_72 (by decide)
theorem SQh_74 : ∀ c, 65 ≤ c → SQ_74.2.1 c = 0 := sR_high SQh_73
theorem SQh_75 : ∀ c, 65 ≤ c → SQ_75.2.1 c = 0 := sNa_high SQh_74 (by decide)
theorem SQh_76 : ∀ c, 65 ≤ c → SQ_76.2.1 c = 0 := sR_high SQh_75
theorem SQh_77 : ∀ c, 65 ≤ c → SQ_77.2.1 c = 0 := sNa_high SQh_76 (by decide)
theorem SQh_78 : ∀ c, 65 ≤ c → SQ_78.2.1 c = 0 := sR_high SQh_77
theorem SQh_79 : ∀ c, 65 ≤ c → SQ_79.2.1 c = 0 := sNa_high SQh_78 (by decide)
theorem SQh_80 : ∀ c, 65 ≤ c → SQ_80.2.1 c = 0 := sR_high SQh_79
theorem SQh_81 : ∀ c, 65 ≤ c → SQ_81.2.1 c = 0 := sNa_high SQh_80 (by decide)
theorem SQh_82 : ∀ c, 65 ≤ c → SQ_82.2.1 c = 0 := sR_high SQh_81
theorem SQh_83 : ∀ c, 65 ≤ c → SQ_83.2.1 c = 0 := sNa_high SQh_82 (by decide)
theorem SQh_84 : ∀ c, 65 ≤ c → SQ_84.2.1 c = 0 := sR_high SQh_83
theorem SQh_85 : ∀ c, 65 ≤ c → SQ_85.2.1 c = 0 := sNa_high SQh_84 (by decide)
theorem SQh_86 : ∀ c, 65 ≤ c → SQ_86.2.1 c = 0 := sR_high SQh_85
theorem SQh_87 : ∀ c, 65 ≤ c → SQ_87.2.1 c = 0 := sNa_high SQh_86 (by decide)
theorem SQh_88 : ∀ c, 65 ≤ c → SQ_88.2.1 c = 0 := sR_high SQh_87
theorem SQh_89 : ∀ c, 65 ≤ c → SQ_89.2.1 c = 0 := sNa_high SQh_88 (by decide)
theorem SQh_90 : ∀ c, 65 ≤ c → SQ_90.2.1 c = 0 := sR_high SQh_89
theorem SQh_91 : ∀ c, 65 ≤ c → SQ_91.2.1 c = 0 := sNa_high SQh_90 (by decide)
theorem SQh_92 : ∀ c, 65 ≤ c → SQ_92.2.1 c = 0 := sR_high SQh_91
theorem SQh_93 : ∀ c, 65 ≤ c → SQ_93.2.1 c = 0 := sNa_high SQh_92 (by decide)
theorem SQh_94 : ∀ c, 65 ≤ c → SQ_94.2.1 c = 0 := sR_high SQh_93
theorem SQh_95 : ∀ c, 65 ≤ c → SQ_95.2.1 c = 0 := sNa_high SQh_94 (by decide)
theorem SQh_96 : ∀ c, 65 ≤ c → SQ_96.2.1 c = 0 := sR_high SQh_95
theorem SQh_97 : ∀ c, 65 ≤ c → SQ_97.2.1 c = 0 := sNa_high SQh_96 (by decide)
theorem SQh_98 : ∀ c, 65 ≤ c → SQ_98.2.1 c = 0 := sR_high SQh_97
theorem SQh_99 : ∀ c, 65 ≤ c → SQ_99.2.1 c = 0 := sNa_high SQh_98 (by decide)
theorem SQh_100 : ∀ c, 65 ≤ c → SQ_100.2.1 c = 0 := sR_high SQh_99
theorem SQh_101 : ∀ c, 65 ≤ c → SQ_101.2.1 c = 0 := sNa_high SQh_100 (by decide)
theorem SQh_102 : ∀ c, 65 ≤ c → SQ_102.2.1 c = 0 := sR_high SQh_101
theorem SQh_103 : ∀ c, 65 ≤ c → SQ_103.2.1 c = 0 := sNa_high SQh_102 (by decide)
theorem SQh_104 : ∀ c, 65 ≤ c → SQ_104.2.1 c = 0 := sR_high SQh_103
theorem SQh_105 : ∀ c, 65 ≤ c → SQ_105.2.1 c = 0 := sNa_high SQh_104 (by decide)
theorem SQh_106 : ∀ c, 65 ≤ c → SQ_106.2.1 c = 0 := sR_high SQh_105
theorem SQh_107 : ∀ c, 65 ≤ c → SQ_107.2.1 c = 0 := sNa_high SQh_106 (by decide)
theorem SQh_108 : ∀ c, 65 ≤ c → SQ_108.2.1 c = 0 := sR_high SQh_107
theorem SQh_109 : ∀ c, 65 ≤ c → SQ_109.2.1 c = 0 := sNa_high SQh_108 (by decide)
theorem SQh_110 : ∀ c, 65 ≤ c → SQ_110.2.1 c = 0 := sR_high SQh_109
theorem SQh_111 : ∀ c, 65 ≤ c → SQ_111.2.1 c = 0 := sNa_high SQh_110 (by decide)
theorem SQh_112 : ∀ c, 65 ≤ c → SQ_112.2.1 c = 0 := sR_high SQh_111
theorem SQh_113 : ∀ c, 65 ≤ c → SQ_113.2.1 c = 0 := sNa_high SQh_112 (by decide)
theorem SQh_114 : ∀ c, 65 ≤ c → SQ_114.2.1 c = 0 := sR_high SQh_113
theorem SQh_115 : ∀ c, 65 ≤ c → SQ_115.2.1 c = 0 := sNa_high SQh_114 (by decide)
theorem SQh_116 : ∀ c, 65 ≤ c → SQ_116.2.1 c = 0 := sR_high SQh_115
theorem SE_high : ∀ c, 65 ≤ c → SE.2.1 c = 0 := SQh_116
theorem SE_Sb : Sb SE := by
  intro a ha
  apply Classical.byContradiction
  intro h
  have h65 : 65 ≤ a := by have : SE.1 = 65 := SE_1; omega
  exact ha (SE_high a h65)
