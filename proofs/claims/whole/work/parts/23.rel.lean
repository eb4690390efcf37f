/-! what stands between the two: goods, takers, choices, asks -/
def iN (x : Int32) (n : Nat) : Prop := ∃ a : Nat, a < n ∧ x = nI a
def RG (D : Dy) (n : Nat) : Prop := n ≤ 6 ∧ D.1 1 3 = nI n ∧ D.1 33 0 = nI n ∧ ∀ i, i < n → (D.1 34 i = D.1 2 i ∧ D.1 35 i = D.1 3 i ∧ D.1 36 i = D.1 4 i) ∧ iN (D.1 2 i) 256 ∧ iN (D.1 3 i) 100 ∧ iN (D.1 4 i) 4
theorem RG_c {D D' : Dy} {n : Nat} (h : RG D n) (h1 : D'.1 1 3 = D.1 1 3) (h2 : D'.1 33 0 = D.1 33 0) (h3 : ∀ b, b = 2 ∨ b = 3 ∨ b = 4 ∨ b = 34 ∨ b = 35 ∨ b = 36 → D'.1 b = D.1 b) : RG D' n := by
  unfold RG at h ⊢
  rw [h1, h2, h3 2 (by omega), h3 3 (by omega), h3 4 (by omega), h3 34 (by omega), h3 35 (by omega), h3 36 (by omega)]
  exact h
theorem in_iff {a : Int32} {n : Nat} (hn : n ≤ 1000000) : (¬ a < 0 ∧ ¬ nI n ≤ a) ↔ ∃ j : Nat, j < n ∧ a = nI j := by
  constructor
  · rintro ⟨h1, h2⟩
    obtain ⟨j, hj, rfl⟩ := nI_of h1
    exact ⟨j, Nat.not_le.mp fun q => h2 (nI_le q hj), rfl⟩
  · rintro ⟨j, hj, rfl⟩
    exact ⟨nI_pos (by omega), nI_ge hj (by omega)⟩
theorem in_iff' {a : Int32} {n : Nat} (hn : n ≤ 1000000) : (¬ a < 0 ∧ ¬ nI n - 1 < a) ↔ ∃ j : Nat, j < n ∧ a = nI j := by
  constructor
  · rintro ⟨h1, h2⟩
    obtain ⟨j, hj, rfl⟩ := nI_of h1
    refine ⟨j, Nat.not_le.mp fun q => h2 ?_, rfl⟩
    cases n with
    | zero => exact Int32.lt_iff_toInt_lt.mpr (by rw [nI_toInt hj]; exact Int.lt_of_lt_of_le (show (nI 0 - 1).toInt < 0 by decide) (Int.natCast_nonneg j))
    | succ n => rw [nI_pred]; exact nI_lt (by omega) hj
  · rintro ⟨j, hj, rfl⟩
    refine ⟨nI_pos (by omega), ?_⟩
    cases n with
    | zero => omega
    | succ n => rw [nI_pred]; exact nI_nlt (by omega) (by omega)
theorem p_price {D : Dy} {n : Nat} {a1 a2 : Int32} (h : RG D n) : fX11_price a1 a2 D (fun v D1 => fX12_price a1 a2 D1 (fun v' D2 => v = v' ∧ RG D2 n ∧ (D2 = D ∨ ∃ i x, D2 = sI (sI D 3 i x) 35 i x))) := by
  obtain ⟨h6, hx, hm, hr⟩ := id h
  unfold fX11_price
  refine s_has ?_
  rw [hx]
  refine ⟨fun c1 => ?_, fun c1 => ?_⟩
  · rw [bI_1, in_iff (by omega)] at c1
    obtain ⟨j, hj, rfl⟩ := c1
    have hcl : (nI j).toNatClampNeg = j := nI_clamp (by omega)
    refine s_within ⟨fun c2 => ?_, fun c2 => ?_⟩
    · have c2' := bI_1.mp c2
      rw [show (100 : Int32) = nI 100 from rfl, in_iff (by omega)] at c2'
      obtain ⟨w, hw, rfl⟩ := c2'
      refine ⟨nI_in (by omega) (by omega), ?_⟩
      rintro v rfl
      refine ⟨nI_in (by omega) (by omega), ?_⟩
      rintro D1 rfl
      unfold fX12_price
      refine s_isThing ?_
      have e33 : (sI D 3 (nI j).toNatClampNeg (nI w)).1 33 0 = nI n := by simp [sI, hm]
      rw [e33]
      refine ⟨fun _ => ?_, fun c3 => absurd ((in_iff' (by omega)).mpr ⟨j, hj, rfl⟩) (bI_0.mp c3)⟩
      refine s_in ⟨fun _ => ?_, fun c3 => absurd ?_ (bI_0.mp c3)⟩
      · refine ⟨nI_in (by omega) (by omega), ?_⟩
        rintro v rfl
        refine ⟨nI_in (by omega) (by omega), ?_⟩
        rintro D2 rfl
        rw [hcl]
        refine ⟨?_, ?_, Or.inr ⟨_, _, rfl⟩⟩
        · have := (hr j hj).1.2.1
          simp [sI, this]
        · refine ⟨h6, by simp [sI, hx], by simp [sI, hm], fun i hi => ?_⟩
          obtain ⟨⟨g1, g2, g3⟩, g4, g5, g6⟩ := hr i hi
          by_cases e : i = j
          · subst e; refine ⟨⟨by simp [sI, g1], by simp [sI], by simp [sI, g3]⟩, by simpa [sI] using g4, ⟨w, hw, by simp [sI]⟩, by simpa [sI] using g6⟩
          · refine ⟨⟨by simp [sI, g1], by simp [sI, e, g2], by simp [sI, g3]⟩, by simpa [sI] using g4, by simpa [sI, e] using g5, by simpa [sI] using g6⟩
      · exact (in_iff' (n := 100) (by omega)).mpr ⟨w, hw, rfl⟩
    · unfold fX12_price
      refine s_isThing ?_
      rw [hm]
      refine ⟨fun _ => ?_, fun c3 => absurd ((in_iff' (by omega)).mpr ⟨j, hj, rfl⟩) (bI_0.mp c3)⟩
      refine s_in ⟨fun c3 => absurd ?_ (bI_0.mp c2), fun c3 => ⟨rfl, h, Or.inl rfl⟩⟩
      exact (in_iff (n := 100) (by omega)).mpr ((in_iff' (n := 100) (by omega)).mp (bI_1.mp c3))
  · unfold fX12_price
    refine s_isThing ?_
    rw [hm]
    refine ⟨fun c3 => absurd ((in_iff (by omega)).mpr ((in_iff' (by omega)).mp (bI_1.mp c3))) (bI_0.mp c1), fun _ => ⟨rfl, h, Or.inl rfl⟩⟩
