/-! tapes -/
def RP (D : Dy) : Prop := ∀ i, i < 6 → (D.1 61 i = D.1 24 i ∧ D.1 62 i = D.1 25 i) ∧ (D.1 24 i = -1 ∨ iN (D.1 24 i) 5) ∧ ∃ z, z ≤ 60 ∧ D.1 25 i = nI z ∧ (D.1 24 i = -1 → z = 0) ∧ ∀ j, j < z → D.2 63 (60 * i + j) = D.2 (27 + i) j
theorem s_isTape {a : Int32} {post : Int32 → Prop} (h1 : iN a 6 → post 1) (h0 : ¬ iN a 6 → post 0) : fX12_isTape a post := by
  unfold fX12_isTape
  exact m3 (m := 6) rfl (by omega) (fun q => ⟨Or.inr rfl, h1 q⟩) (fun q => ⟨Or.inl rfl, h0 q⟩)
theorem nI_mul (a b : Nat) : nI a * nI b = nI (a * b) := (Int32.ofNat_mul a b).symm
theorem tp_ix {i j : Nat} : (60 : Int32) * nI i + nI j = nI (60 * i + j) := by
  rw [show (60 : Int32) = nI 60 from rfl, nI_mul, nI_add]
theorem p_read {mdl : Nat → Option (Nat × Nat)} {D : Dy} {a1 a2 : Int32} (h : RP D) : fX11_read mdl a1 a2 D (fun v => fX12_read a1 a2 D (fun v' => v = v')) := by
  unfold fX11_read
  refine w3 (m := 6) rfl (by omega) (fun q1 => ⟨fun z => absurd z (by decide), fun _ => ?_⟩) (fun q1 => ⟨fun _ => ?_, fun z => absurd rfl z⟩)
  · obtain ⟨i, hi, rfl⟩ := q1
    have hin : vp_in (nI i) 6 := nI_in hi (by omega)
    have hcl : (nI i).toNatClampNeg = i := nI_clamp (by omega)
    obtain ⟨⟨g1, g2⟩, g3, z, g4, g5, g6, g7⟩ := h i hi
    rw [hcl]
    refine ⟨hin, w3 (m := z) g5 (by omega) (fun q2 => ⟨fun _ => ?_, fun w => absurd w (by decide)⟩) (fun q2 => ⟨fun w => absurd rfl w, fun _ => ?_⟩)⟩
    · obtain ⟨j, hj, rfl⟩ := q2
      have hcj : (nI j).toNatClampNeg = j := nI_clamp (by omega)
      refine ⟨hin, nI_in (by omega) (by omega), ?_⟩
      rw [hcj]
      unfold fX12_read
      refine s_isTape (fun _ => ?_) (fun w => absurd ⟨i, hi, rfl⟩ w)
      simp only [JN]
      rw [hcl, g1, g2]
      refine ⟨fun w => absurd w (by decide), fun _ => ⟨hin, fun w => ?_, fun _ => ⟨hin, m3 (m := z) (by rw [g5]) (by omega) (fun _ => ⟨fun _ => ⟨?_, ?_⟩, fun w => absurd w (by decide)⟩) (fun w => absurd ⟨j, hj, rfl⟩ w)⟩⟩⟩
      · rcases g3 with g3 | ⟨u, hu, g3⟩
        · have := g6 g3; omega
        · rw [g3] at w; exact absurd w (nI_pos (by omega))
      · rw [tp_ix]; exact nI_in (by omega) (by omega)
      · rw [tp_ix, nI_clamp (by omega)]; exact (g7 j hj).symm
    · unfold fX12_read
      refine s_isTape (fun _ => ?_) (fun w => absurd ⟨i, hi, rfl⟩ w)
      simp only [JN]
      rw [hcl, g1, g2]
      exact ⟨fun w => absurd w (by decide), fun _ => ⟨hin, fun _ => trivial, fun _ => ⟨hin, m3 (m := z) (by rw [g5]) (by omega) (fun w => absurd w q2) (fun _ => ⟨fun w => absurd rfl w, fun _ => trivial⟩)⟩⟩⟩
  · unfold fX12_read
    refine s_isTape (fun w => absurd w q1) (fun _ => ?_)
    simp only [JN]
    exact ⟨fun _ => trivial, fun w => absurd trivial w⟩
