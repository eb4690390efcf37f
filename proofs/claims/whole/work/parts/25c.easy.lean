theorem w3 {a : Int32} {m : Nat} {M : Int32} (hM : M = nI m) (hm : m ≤ 1000000) {post : Int32 → Prop} (h1 : iN a m → post 1) (h0 : ¬ iN a m → post 0) : fX11_within a M post := by
  subst hM
  refine s_within ?_
  by_cases q : iN a m
  · rw [bI_t ((in_iff hm).mpr q)]; exact h1 q
  · rw [bI_f (fun z => q ((in_iff hm).mp z))]; exact h0 q
theorem m3 {a : Int32} {m : Nat} {M : Int32} (hM : M = nI m - 1) (hm : m ≤ 1000000) {post : Int32 → Prop} (h1 : iN a m → post 1) (h0 : ¬ iN a m → post 0) : fX12_in a 0 M post := by
  subst hM
  refine s_in ?_
  by_cases q : iN a m
  · rw [bI_t ((in_iff' hm).mpr q)]; exact h1 q
  · rw [bI_f (fun z => q ((in_iff' hm).mp z))]; exact h0 q
theorem p_thing {D : Dy} {n k c a : Nat} {a1 a2 a3 : Int32} (h : RG D n) (hc : RC D n k c) (ha : RA D n a) : fX11_thing a1 a2 a3 D (fun v D1 => fX12_thing a1 a2 a3 D1 (fun v' D2 => v = v' ∧ ((D2 = D) ∨ (c = 0 ∧ a = 0 ∧ n < 6 ∧ RG D2 (n + 1) ∧ D2 = sI (sI (sI (sI (sI (sI (sI (sI D 2 n a1) 3 n a2) 4 n a3) 1 3 (nI (n + 1))) 34 n a1) 35 n a2) 36 n a3) 33 0 (nI (n + 1)))))) := by
  obtain ⟨h6, hx, hm, hr⟩ := id h
  obtain ⟨c80, cx, cm, -⟩ := hc
  obtain ⟨a10, ax, am, -⟩ := ha
  have hbad : ∀ v, (¬ (iN a1 256 ∧ iN a2 100 ∧ iN a3 4) → v = -2) → ((iN a1 256 ∧ iN a2 100 ∧ iN a3 4) → (0 < c ∨ 0 < a) → v = -3) → ((iN a1 256 ∧ iN a2 100 ∧ iN a3 4) → ¬ (0 < c ∨ 0 < a) → n = 6 ∧ v = -4) → fX12_thing a1 a2 a3 D (fun v' D2 => v = v' ∧ ((D2 = D) ∨ (c = 0 ∧ a = 0 ∧ n < 6 ∧ RG D2 (n + 1) ∧ D2 = sI (sI (sI (sI (sI (sI (sI (sI D 2 n a1) 3 n a2) 4 n a3) 1 3 (nI (n + 1))) 34 n a1) 35 n a2) 36 n a3) 33 0 (nI (n + 1))))) := by
    intro v v1 v2 v3
    unfold fX12_thing
    refine m3 (m := 256) rfl (by omega) (fun q1 => ⟨fun z => absurd z (by decide), fun _ => ?_⟩) (fun q => ⟨fun _ => ⟨v1 fun z => q z.1, Or.inl rfl⟩, fun z => absurd rfl z⟩)
    refine m3 (m := 100) rfl (by omega) (fun q2 => ⟨fun z => absurd z (by decide), fun _ => ?_⟩) (fun q => ⟨fun _ => ⟨v1 fun z => q z.2.1, Or.inl rfl⟩, fun z => absurd rfl z⟩)
    refine m3 (m := 4) rfl (by omega) (fun q3 => ⟨fun _ => ?_, fun z => absurd z (by decide)⟩) (fun q => ⟨fun z => absurd rfl z, fun _ => ⟨v1 fun z => q z.2.2, Or.inl rfl⟩⟩)
    rw [cm, am, hm]
    refine ⟨fun z => ⟨v2 ⟨q1, q2, q3⟩ (Or.inl ((nI_ltI (a := 0) (by omega) (by omega)).mp z)), Or.inl rfl⟩, fun z => ⟨fun z2 => ?_, fun z2 => ⟨v2 ⟨q1, q2, q3⟩ (Or.inr ?_), Or.inl rfl⟩⟩⟩
    · have e1 : ¬ 0 < c := fun q => z (nI_lt (a := 0) q (by omega))
      have e2 : ¬ 0 < a := fun q => absurd z2 (nI_nle q (by omega))
      obtain ⟨e3, e4⟩ := v3 ⟨q1, q2, q3⟩ (by omega)
      rw [e3]
      exact ⟨fun q => absurd rfl q, fun _ => ⟨e4, Or.inl rfl⟩⟩
    · apply Classical.byContradiction
      intro q
      exact z2 (by rw [show a = 0 by omega]; decide)
  unfold fX11_thing
  refine w3 (m := 256) rfl (by omega) (fun q1 => ⟨fun z => absurd z (by decide), fun _ => ?_⟩) (fun q => ⟨fun _ => hbad _ (fun _ => rfl) (fun z => absurd z.1 q) (fun z => absurd z.1 q), fun z => absurd rfl z⟩)
  refine w3 (m := 100) rfl (by omega) (fun q2 => ⟨fun z => absurd z (by decide), fun _ => ?_⟩) (fun q => ⟨fun _ => hbad _ (fun _ => rfl) (fun z => absurd z.2.1 q) (fun z => absurd z.2.1 q), fun z => absurd rfl z⟩)
  refine w3 (m := 4) rfl (by omega) (fun q3 => ⟨fun _ => ?_, fun z => absurd z (by decide)⟩) (fun q => ⟨fun z => absurd rfl z, fun _ => hbad _ (fun _ => rfl) (fun z => absurd z.2.2 q) (fun z => absurd z.2.2 q)⟩)
  rw [cx, ax]
  refine ⟨fun z => hbad _ (fun w => absurd ⟨q1, q2, q3⟩ w) (fun _ _ => rfl) (fun _ w => absurd (Or.inl ((nI_ltI (a := 0) (by omega) (by omega)).mp z)) w), fun z => ⟨fun z2 => ?_, fun z2 => hbad _ (fun w => absurd ⟨q1, q2, q3⟩ w) (fun _ _ => rfl) (fun _ w => absurd (Or.inr ?_) w)⟩⟩
  · have e1 : c = 0 := by
      have : ¬ 0 < c := fun q => z (nI_lt (a := 0) q (by omega))
      omega
    have e2 : a = 0 := by
      have : ¬ 0 < a := fun q => absurd z2 (nI_nle q (by omega))
      omega
    unfold fX1_add
    rw [hx]
    refine ⟨fun q => ?_, fun q => hbad _ (fun w => absurd ⟨q1, q2, q3⟩ w) (fun _ w => absurd w (by omega)) (fun _ _ => ⟨?_, rfl⟩)⟩
    · have hn : n < 6 := (nI_ltI (a := n) (b := 6) (by omega) (by omega)).mp q
      have hcl : (nI n).toNatClampNeg = n := nI_clamp (by omega)
      have hin : vp_in (nI n) 6 := nI_in (by omega) (by omega)
      rw [hcl]
      refine ⟨hin, ?_⟩
      rintro D1 rfl
      have f1 : (sI D 2 n a1).1 1 3 = nI n := by simp [sI, hx]
      rw [f1, hcl]
      refine ⟨hin, ?_⟩
      rintro D2 rfl
      have f2 : (sI (sI D 2 n a1) 3 n a2).1 1 3 = nI n := by simp [sI, hx]
      rw [f2, hcl]
      refine ⟨hin, ?_⟩
      rintro D3 rfl v rfl
      have f3 : (sI (sI (sI D 2 n a1) 3 n a2) 4 n a3).1 1 3 = nI n := by simp [sI, hx]
      rw [f3, nI_1]
      rintro D4 rfl
      unfold fX12_thing
      refine m3 (m := 256) rfl (by omega) (fun _ => ⟨fun z => absurd z (by decide), fun _ => ?_⟩) (fun w => absurd q1 w)
      refine m3 (m := 100) rfl (by omega) (fun _ => ⟨fun z => absurd z (by decide), fun _ => ?_⟩) (fun w => absurd q2 w)
      refine m3 (m := 4) rfl (by omega) (fun _ => ⟨fun _ => ?_, fun z => absurd z (by decide)⟩) (fun w => absurd q3 w)
      have g1 : (sI (sI (sI (sI D 2 n a1) 3 n a2) 4 n a3) 1 3 (nI (n + 1))).1 33 2 = nI 0 := by simp [sI, cm, e1]
      have g2 : (sI (sI (sI (sI D 2 n a1) 3 n a2) 4 n a3) 1 3 (nI (n + 1))).1 33 3 = nI 0 := by simp [sI, am, e2]
      have g3 : (sI (sI (sI (sI D 2 n a1) 3 n a2) 4 n a3) 1 3 (nI (n + 1))).1 33 0 = nI n := by simp [sI, hm]
      rw [g1, g2, g3, hcl]
      refine ⟨fun w => absurd w (by decide), fun _ => ⟨fun _ => ⟨fun _ => ⟨hin, ?_⟩, fun w => ?_⟩, fun w => absurd (by decide) w⟩⟩
      · rintro D5 rfl
        have g4 : (sI (sI (sI (sI (sI D 2 n a1) 3 n a2) 4 n a3) 1 3 (nI (n + 1))) 34 n a1).1 33 0 = nI n := by simp [sI, hm]
        rw [g4, hcl]
        refine ⟨hin, ?_⟩
        rintro D6 rfl
        have g5 : (sI (sI (sI (sI (sI (sI D 2 n a1) 3 n a2) 4 n a3) 1 3 (nI (n + 1))) 34 n a1) 35 n a2).1 33 0 = nI n := by simp [sI, hm]
        rw [g5, hcl]
        refine ⟨hin, ?_⟩
        rintro D7 rfl D8 rfl
        have g6 : (sI (sI (sI (sI (sI (sI (sI D 2 n a1) 3 n a2) 4 n a3) 1 3 (nI (n + 1))) 34 n a1) 35 n a2) 36 n a3).1 33 0 = nI n := by simp [sI, hm]
        rw [g6, nI_1]
        have g7 : ∀ D' : Dy, (sI D' 33 0 (nI (n + 1))).1 33 0 = nI (n + 1) := fun D' => by simp [sI]
        rw [g7, nI_pred]
        refine ⟨rfl, Or.inr ⟨e1, e2, hn, ⟨by omega, by simp [sI], by simp [sI], fun i hi => ?_⟩, rfl⟩⟩
        by_cases e : i = n
        · subst e
          exact ⟨⟨by simp [sI], by simp [sI], by simp [sI]⟩, by simpa [sI] using q1, by simpa [sI] using q2, by simpa [sI] using q3⟩
        · obtain ⟨⟨z1, z2, z3⟩, z4, z5, z6⟩ := hr i (by omega)
          exact ⟨⟨by simp [sI, e, z1], by simp [sI, e, z2], by simp [sI, e, z3]⟩, by simpa [sI, e] using z4, by simpa [sI, e] using z5, by simpa [sI, e] using z6⟩
      · have := (nI_eq (a := n) (b := 6) (by omega) (by omega)).mp w
        omega
    · have : ¬ n < 6 := fun w => q (nI_lt (a := n) (b := 6) w (by omega))
      omega
  · apply Classical.byContradiction
    intro q
    exact z2 (by rw [show a = 0 by omega]; decide)
