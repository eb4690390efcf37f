/-! easy calls -/
theorem p_ask {D : Dy} {n a : Nat} {a1 : Int32} (hg : RG D n) (h : RA D n a) : fX11_ask a1 D (fun v D1 => fX12_ask a1 D1 (fun v' D2 => v = v' ∧ ∃ a', RA D2 n a' ∧ (D2 = D ∨ ∃ i, D2 = sI (sI (sI (sI D 21 i a1) 0 11 (nI (i + 1))) 42 i a1) 33 3 (nI (i + 1))))) := by
  obtain ⟨h6, gx, gm, -⟩ := hg
  obtain ⟨h10, hx, hm, hr⟩ := id h
  unfold fX11_ask
  refine s_hasSome h6 gx (fun q1 q2 => ?_) (fun q => ?_)
  · refine ⟨fun _ => ?_, fun z => absurd z (by decide)⟩
    rw [hx]
    refine ⟨fun c => ?_, fun c => ?_⟩
    · have ha : a < 10 := by
        have := (nI_ltI (a := a) (b := 10) (by omega) (by omega)).mp c
        exact this
      have hcl : (nI a).toNatClampNeg = a := nI_clamp (by omega)
      refine ⟨nI_in (by omega) (by omega), ?_⟩
      rw [hcl]
      rintro D1 rfl v rfl D2 rfl
      have e1 : (sI D 21 a a1).1 0 11 = nI a := by simp [sI, hx]
      rw [e1, nI_1]
      unfold fX12_ask
      refine s_isSet (n := n) h6 (by simp [sI, gm]) (fun _ => ?_) (fun z => absurd q1 z)
      refine ⟨fun z => absurd z (by decide), fun _ => ⟨fun _ => ?_, fun z => absurd z q2⟩⟩
      have e3 : (sI (sI D 21 a a1) 0 11 (nI (a + 1))).1 33 3 = nI a := by simp [sI, hm]
      rw [e3]
      refine ⟨fun _ => ?_, fun z => ?_⟩
      · refine ⟨nI_in (by omega) (by omega), ?_⟩
        rw [hcl]
        rintro D3 rfl D4 rfl
        have e4 : (sI (sI (sI D 21 a a1) 0 11 (nI (a + 1))) 42 a a1).1 33 3 = nI a := by simp [sI, hm]
        rw [e4, nI_1]
        refine ⟨?_, a + 1, ⟨by omega, by simp [sI], by simp [sI], fun i hi => ?_⟩, Or.inr ⟨a, rfl⟩⟩
        · have : (sI (sI (sI (sI D 21 a a1) 0 11 (nI (a + 1))) 42 a a1) 33 3 (nI (a + 1))).1 33 3 = nI (a + 1) := by simp [sI]
          rw [this, nI_pred]
        · by_cases e : i = a
          · subst e; refine ⟨by simp [sI], by simpa [sI] using q1, by simpa [sI] using q2⟩
          · obtain ⟨z1, z2, z3⟩ := hr i (by omega)
            refine ⟨by simp [sI, e, z1], by simpa [sI, e] using z2, by simpa [sI, e] using z3⟩
      · have := (nI_eq (a := a) (b := 10) (by omega) (by omega)).mp z
        omega
    · have ha : a = 10 := by
        have : ¬ a < 10 := fun q => c (nI_lt (a := a) (b := 10) q (by omega))
        omega
      unfold fX12_ask
      refine s_isSet (n := n) h6 gm (fun _ => ?_) (fun z => absurd q1 z)
      refine ⟨fun z => absurd z (by decide), fun _ => ⟨fun _ => ?_, fun z => absurd z q2⟩⟩
      rw [hm, ha]
      exact ⟨fun z => absurd rfl z, fun _ => ⟨rfl, a, h, Or.inl rfl⟩⟩
  · refine ⟨fun z => absurd rfl z, fun _ => ?_⟩
    unfold fX12_ask
    refine s_isSet (n := n) h6 gm (fun q1 => ?_) (fun _ => ⟨fun _ => ⟨rfl, a, h, Or.inl rfl⟩, fun z => absurd rfl z⟩)
    exact ⟨fun z => absurd z (by decide), fun _ => ⟨fun z => absurd ⟨q1, z⟩ q, fun _ => ⟨rfl, a, h, Or.inl rfl⟩⟩⟩
