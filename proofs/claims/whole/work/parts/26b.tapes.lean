theorem s_asItem {x : Int32} {v : Int64} {post : Int64 → Prop} {u : Nat} (hu : u < 5) (hx : x = nI u) (h : ∀ w, post w) : fX11_asItem x v post := by
  unfold fX11_asItem
  exact ⟨fun _ => h _, fun _ => ⟨fun _ => h _, fun _ => ⟨fun _ => h _, fun _ => ⟨fun _ => h _, fun _ => ⟨fun _ => h _, fun _ => h _⟩⟩⟩⟩⟩
/-- both narrow alike -/
def nrw (u : Nat) (v : Int64) : Int64 := if u = 0 then ((v.toInt32.toInt8).toInt32).toInt64 else if u = 1 then ((v.toInt32.toInt16).toInt32).toInt64 else if u = 2 then v.toInt32.toInt64 else if u = 3 then v else if lg_cmp v 0 = 0 then 0 else 1
theorem n_asItem {u : Nat} (hu : u < 5) {v : Int64} {post : Int64 → Prop} (h : post (nrw u v)) : fX11_asItem (nI u) v post := by
  unfold fX11_asItem
  unfold nrw at h
  obtain rfl | rfl | rfl | rfl | rfl : u = 0 ∨ u = 1 ∨ u = 2 ∨ u = 3 ∨ u = 4 := by omega
  · exact ⟨fun _ => h, fun z => absurd (by decide) z⟩
  · exact ⟨fun z => absurd z (by decide), fun _ => ⟨fun _ => h, fun z => absurd (by decide) z⟩⟩
  · exact ⟨fun z => absurd z (by decide), fun _ => ⟨fun z => absurd z (by decide), fun _ => ⟨fun _ => h, fun z => absurd (by decide) z⟩⟩⟩
  · exact ⟨fun z => absurd z (by decide), fun _ => ⟨fun z => absurd z (by decide), fun _ => ⟨fun z => absurd z (by decide), fun _ => ⟨fun _ => h, fun z => absurd (by decide) z⟩⟩⟩⟩
  · refine ⟨fun z => absurd z (by decide), fun _ => ⟨fun z => absurd z (by decide), fun _ => ⟨fun z => absurd z (by decide), fun _ => ⟨fun z => absurd z (by decide), fun _ => ⟨fun z => ?_, fun z => ?_⟩⟩⟩⟩⟩
    · simpa [z] using h
    · simpa [z] using h
theorem n_narrow {u : Nat} (hu : u < 5) {v : Int64} {post : Int64 → Prop} (h : post (nrw u v)) : fX12_narrow (nI u) v post := by
  unfold fX12_narrow
  unfold nrw at h
  obtain rfl | rfl | rfl | rfl | rfl : u = 0 ∨ u = 1 ∨ u = 2 ∨ u = 3 ∨ u = 4 := by omega
  · exact ⟨fun z => absurd (by decide) z, fun _ => h⟩
  · exact ⟨fun _ => ⟨fun z => absurd (by decide) z, fun _ => h⟩, fun z => absurd z (by decide)⟩
  · exact ⟨fun _ => ⟨fun _ => ⟨fun z => absurd (by decide) z, fun _ => h⟩, fun z => absurd z (by decide)⟩, fun z => absurd z (by decide)⟩
  · exact ⟨fun _ => ⟨fun _ => ⟨fun _ => ⟨fun _ => h, fun z => absurd z (by decide)⟩, fun z => absurd z (by decide)⟩, fun z => absurd z (by decide)⟩, fun z => absurd z (by decide)⟩
  · refine ⟨fun _ => ⟨fun _ => ⟨fun _ => ⟨fun z => absurd (by decide) z, fun _ => ⟨fun z => ?_, fun z => ?_⟩⟩, fun z => absurd z (by decide)⟩, fun z => absurd z (by decide)⟩, fun z => absurd z (by decide)⟩
    · simpa [z] using h
    · simpa [z] using h
theorem p_item {mdl : Nat → Option (Nat × Nat)} {D : Dy} {a1 a2 : Int32} {a3 : Int64} (h : RP D) : fX11_item mdl a1 a2 a3 D (fun v D1 => fX12_item a1 a2 a3 D1 (fun v' D2 => v = v' ∧ RP D2 ∧ (D2 = D ∨ ∃ i j x, i < 6 ∧ D2 = sL (sL D (27 + i) j x) 63 (60 * i + j) x))) := by
  unfold fX11_item
  refine w3 (m := 6) rfl (by omega) (fun q1 => ⟨fun _ => ?_, fun z => absurd z (by decide)⟩) (fun q1 => ⟨fun z => absurd rfl z, fun _ => ?_⟩)
  · obtain ⟨i, hi, rfl⟩ := q1
    have hin : vp_in (nI i) 6 := nI_in hi (by omega)
    have hcl : (nI i).toNatClampNeg = i := nI_clamp (by omega)
    obtain ⟨⟨g1, g2⟩, g3, z, g4, g5, g6, g7⟩ := h i hi
    rw [hcl]
    refine ⟨hin, fun c1 => ⟨hin, ?_⟩, fun c1 => ?_⟩
    · obtain ⟨u, hu, e⟩ : iN (D.1 24 i) 5 := by
        rcases g3 with g3 | g3
        · rw [g3] at c1; exact absurd c1 (by decide)
        · exact g3
      refine w3 (m := z) g5 (by omega) (fun q2 => ⟨fun _ => ?_, fun w => absurd w (by decide)⟩) (fun q2 => ⟨fun w => absurd rfl w, fun _ => ?_⟩)
      · obtain ⟨j, hj, rfl⟩ := q2
        have hcj : (nI j).toNatClampNeg = j := nI_clamp (by omega)
        refine ⟨hin, hin, ?_⟩
        rw [e]
        refine n_asItem hu ⟨nI_in (by omega) (by omega), ?_⟩
        rw [hcj]
        rintro D1 rfl
        unfold fX12_item
        refine s_isTape (fun _ => ?_) (fun w => absurd ⟨i, hi, rfl⟩ w)
        have k1 : (sL D (27 + i) j (nrw u a3)).1 = D.1 := rfl
        rw [k1, hcl, g1, g2, e, g5]
        refine ⟨fun _ => ⟨hin, fun _ => ⟨hin, m3 (m := z) rfl (by omega) (fun _ => ⟨fun _ => ⟨hin, n_narrow hu ⟨?_, ?_⟩⟩, fun w => absurd w (by decide)⟩) (fun w => absurd ⟨j, hj, rfl⟩ w)⟩, fun w => absurd (nI_pos' (by omega)) w⟩, fun w => absurd w (by decide)⟩
        · rw [tp_ix]; exact nI_in (by omega) (by omega)
        · rw [tp_ix, nI_clamp (by omega)]
          rintro D2 rfl
          refine ⟨rfl, fun i' hi' => ?_, Or.inr ⟨i, j, _, hi, rfl⟩⟩
          obtain ⟨⟨y1, y2⟩, y3, z', y4, y5, y6, y7⟩ := h i' hi'
          refine ⟨⟨y1, y2⟩, y3, z', y4, y5, y6, fun j' hj' => ?_⟩
          have n63 : ¬ 27 + i' = 63 := by omega
          have n63' : ¬ (63 : Nat) = 27 + i := by omega
          by_cases e1 : i' = i
          · subst e1
            by_cases e2 : j' = j
            · subst e2; simp [sL, n63]
            · have e3 : ¬ 60 * i' + j' = 60 * i' + j := by omega
              simp [sL, n63, n63', e2, e3, y7 j' hj']
          · have e3 : ¬ 60 * i' + j' = 60 * i + j := by omega
            have e4 : ¬ 27 + i' = 27 + i := by omega
            have := y7 j' hj'
            simp only [sL, n63, n63', e3, e4, false_and, and_false, if_false]
            exact this
      · unfold fX12_item
        refine s_isTape (fun _ => ?_) (fun w => absurd ⟨i, hi, rfl⟩ w)
        rw [hcl, g1, g2, e, g5]
        exact ⟨fun _ => ⟨hin, fun _ => ⟨hin, m3 (m := z) rfl (by omega) (fun w => absurd w q2) (fun _ => ⟨fun w => absurd rfl w, fun _ => ⟨rfl, h, Or.inl rfl⟩⟩)⟩, fun w => absurd (nI_pos' (by omega)) w⟩, fun w => absurd w (by decide)⟩
    · unfold fX12_item
      refine s_isTape (fun _ => ?_) (fun w => absurd ⟨i, hi, rfl⟩ w)
      rw [hcl, g1]
      exact ⟨fun _ => ⟨hin, fun w => absurd w c1, fun _ => ⟨rfl, h, Or.inl rfl⟩⟩, fun w => absurd w (by decide)⟩
  · unfold fX12_item
    exact s_isTape (fun w => absurd w q1) (fun _ => ⟨fun w => absurd rfl w, fun _ => ⟨rfl, h, Or.inl rfl⟩⟩)
