/-! easy calls -/
theorem p_ask {D : Dy} {n a : Nat} {a1 : Int32} (hg : RG D n) (h : RA D n a) : fX11_ask a1 D (fun v D1 => fX12_ask a1 D1 (fun v' D2 => v = v' ∧ ∃ a', RA D2 n a' ∧ (D2 = D ∨ ∃ i, D2 = sI (sI (sI (sI D 21 i a1) 0 11 (nI (i + 1))) 42 i a1) 33 3 (nI (i + 1))))) := by
  obtain ⟨h6, gx, gm, -⟩ := hg
  obtain ⟨h10, hx, hm, hr⟩ := id h
  unfold fX11_ask
  refine s_hasSome h6 gx (fun q1 q2 => ?_) (fun q => ?_)
  · refine ⟨fun _ => ?_, fun z => absurd z (by decide)⟩
    rw [hx]
    refine ⟨fun c => ?_, fun c => ?_⟩
    · have ha : a < 10 := by
        have := (nI_ltI (a := a) (b := 10) (by omega) (by omega)).mp c
        exact this
      have hcl : (nI a).toNatClampNeg = a := nI_clamp (by omega)
      refine ⟨nI_in (by omega) (by omega), ?_⟩
      rw [hcl]
      rintro D1 rfl v rfl D2 rfl
      have e1 : (sI D 21 a a1).1 0 11 = nI a := by simp [sI, hx]
      rw [e1, nI_1]
      unfold fX12_ask
      refine s_isSet (n := n) h6 (by simp [sI, gm]) (fun _ => ?_) (fun z => absurd q1 z)
      refine ⟨fun z => absurd z (by decide), fun _ => ⟨fun _ => ?_, fun z => absurd z q2⟩⟩
      have e3 : (sI (sI D 21 a a1) 0 11 (nI (a + 1))).1 33 3 = nI a := by simp [sI, hm]
      rw [e3]
      refine ⟨fun _ => ?_, fun z => ?_⟩
      · refine ⟨nI_in (by omega) (by omega), ?_⟩
        rw [hcl]
        rintro D3 rfl D4 rfl
        have e4 : (sI (sI (sI D 21 a a1) 0 11 (nI (a + 1))) 42 a a1).1 33 3 = nI a := by simp [sI, hm]
        rw [e4, nI_1]
        refine ⟨?_, a + 1, ⟨by omega, by simp [sI], by simp [sI], fun i hi => ?_⟩, Or.inr ⟨a, rfl⟩⟩
        · have : (sI (sI (sI (sI D 21 a a1) 0 11 (nI (a + 1))) 42 a a1) 33 3 (nI (a + 1))).1 33 3 = nI (a + 1) := by simp [sI]
          rw [this, nI_pred]
        · by_cases e : i = a
          · subst e; refine ⟨by simp [sI], by simpa [sI] using q1, by simpa [sI] using q2⟩
          · obtain ⟨z1, z2, z3⟩ := hr i (by omega)
            refine ⟨by simp [sI, e, z1], by simpa [sI, e] using z2, by simpa [sI, e] using z3⟩
      · have := (nI_eq (a := a) (b := 10) (by omega) (by omega)).mp z
        omega
    · have ha : a = 10 := by
        have : ¬ a < 10 := fun q => c (nI_lt (a := a) (b := 10) q (by omega))
        omega
      unfold fX12_ask
      refine s_isSet (n := n) h6 gm (fun _ => ?_) (fun z => absurd q1 z)
      refine ⟨fun z => absurd z (by decide), fun _ => ⟨fun _ => ?_, fun z => absurd z q2⟩⟩
      rw [hm, ha]
      exact ⟨fun z => absurd rfl z, fun _ => ⟨rfl, a, h, Or.inl rfl⟩⟩
  · refine ⟨fun z => absurd rfl z, fun _ => ?_⟩
    unfold fX12_ask
    refine s_isSet (n := n) h6 gm (fun q1 => ?_) (fun _ => ⟨fun _ => ⟨rfl, a, h, Or.inl rfl⟩, fun z => absurd rfl z⟩)
    exact ⟨fun z => absurd z (by decide), fun _ => ⟨fun z => absurd ⟨q1, z⟩ q, fun _ => ⟨rfl, a, h, Or.inl rfl⟩⟩⟩
theorem p_put {D : Dy} {n k c : Nat} {a1 a2 : Int32} (hk : k ≤ 16) (h : RC D n k c) : fX11_put a1 a2 D (fun v D1 => fX12_put a1 a2 D1 (fun v' D2 => v = v' ∧ RC D2 n k c ∧ (D2 = D ∨ ∃ i x w, i < c ∧ D.1 8 i = nI w ∧ w < k ∧ D2 = sI (sI (sI D 11 i x) 41 i x) 58 w 0))) := by
  obtain ⟨h80, hx, hm, hr⟩ := id h
  unfold fX11_put
  refine s_within ?_
  rw [hx]
  refine ⟨fun c1 => ?_, fun c1 => ?_⟩
  · rw [bI_1, in_iff (by omega)] at c1
    obtain ⟨j, hj, rfl⟩ := c1
    have hcl : (nI j).toNatClampNeg = j := nI_clamp (by omega)
    have hin : vp_in (nI j) 80 := nI_in (by omega) (by omega)
    have hB : ∀ D', D' = D → (¬ iN a2 3) → fX12_put (nI j) a2 D' (fun v' D2 => (-2 : Int32) = v' ∧ RC D2 n k c ∧ (D2 = D ∨ ∃ i x w, i < c ∧ D.1 8 i = nI w ∧ w < k ∧ D2 = sI (sI (sI D 11 i x) 41 i x) 58 w 0)) := by
      rintro D' rfl hb
      unfold fX12_put
      refine s_isChoice ?_
      rw [hm]
      refine ⟨fun _ => ?_, fun z => absurd ((in_iff' (by omega)).mpr ⟨j, hj, rfl⟩) (bI_0.mp z)⟩
      refine s_in ⟨fun z => absurd ((in_iff' (n := 3) (by omega)).mp (bI_1.mp z)) hb, fun _ => ⟨rfl, h, Or.inl rfl⟩⟩
    refine ⟨fun e0 => hB D rfl ?_, fun e0 => ⟨fun e1 => ?_, fun e1 => hB D rfl ?_⟩⟩
    · rintro ⟨x, hx3, rfl⟩; exact nI_pos (by omega) e0
    · obtain ⟨x, hx3, rfl⟩ := nI_of2 (M := 2) (n := 2) (by decide) e0 e1
      refine ⟨hin, ?_⟩
      rintro v rfl
      refine ⟨hin, ?_⟩
      rintro D1 rfl
      rw [hcl]
      unfold fX12_put
      refine s_isChoice ?_
      have e3 : (sI D 11 j (nI x)).1 33 2 = nI c := by simp [sI, hm]
      rw [e3]
      refine ⟨fun _ => ?_, fun z => absurd ((in_iff' (by omega)).mpr ⟨j, hj, rfl⟩) (bI_0.mp z)⟩
      refine s_in ⟨fun _ => ?_, fun z => absurd ((in_iff' (n := 3) (by omega)).mpr ⟨x, by omega, rfl⟩) (bI_0.mp z)⟩
      refine ⟨hin, ?_⟩
      rintro v rfl
      refine ⟨hin, ?_⟩
      rintro D2 rfl
      rw [hcl]
      obtain ⟨⟨g1, g2, g3⟩, ⟨w, hw, g4⟩, g5, g6, g7⟩ := hr j hj
      have e4 : (sI (sI D 11 j (nI x)) 41 j (nI x)).1 38 j = nI w := by simp [sI, g1, g4]
      rw [e4]
      refine ⟨hin, nI_in (by omega) (by omega), ?_⟩
      rintro D3 rfl
      rw [nI_clamp (n := w) (by omega)]
      refine ⟨by simp [sI, g3], ⟨h80, by simp [sI, hx], by simp [sI, hm], fun i hi => ?_⟩, Or.inr ⟨j, nI x, w, hj, g4, hw, rfl⟩⟩
      obtain ⟨⟨k1, k2, k3⟩, k4, k5, k6, k7⟩ := hr i hi
      by_cases e : i = j
      · subst e
        exact ⟨⟨by simp [sI, k1], by simp [sI, k2], by simp [sI]⟩, by simpa [sI] using k4, by simpa [sI] using k5, ⟨x, by omega, by simp [sI]⟩, by simpa [sI] using k7⟩
      · exact ⟨⟨by simp [sI, k1], by simp [sI, k2], by simp [sI, e, k3]⟩, by simpa [sI] using k4, by simpa [sI] using k5, by simpa [sI, e] using k6, by simpa [sI] using k7⟩
    · rintro ⟨x, hx3, rfl⟩; exact e1 (nI_le (a := x) (b := 2) (by omega) (by omega))
  · unfold fX12_put
    refine s_isChoice ?_
    rw [hm]
    exact ⟨fun c3 => absurd ((in_iff (by omega)).mpr ((in_iff' (by omega)).mp (bI_1.mp c3))) (bI_0.mp c1), fun _ => ⟨rfl, h, Or.inl rfl⟩⟩
