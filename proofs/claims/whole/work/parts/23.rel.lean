/-! what stands between the two: goods, takers, choices, asks -/
def iN (x : Int32) (n : Nat) : Prop := ∃ a : Nat, a < n ∧ x = nI a
def RG (D : Dy) (n : Nat) : Prop := n ≤ 6 ∧ D.1 1 3 = nI n ∧ D.1 33 0 = nI n ∧ ∀ i, i < n → (D.1 34 i = D.1 2 i ∧ D.1 35 i = D.1 3 i ∧ D.1 36 i = D.1 4 i) ∧ iN (D.1 2 i) 256 ∧ iN (D.1 3 i) 100 ∧ iN (D.1 4 i) 4
theorem RG_c {D D' : Dy} {n : Nat} (h : RG D n) (h1 : D'.1 1 3 = D.1 1 3) (h2 : D'.1 33 0 = D.1 33 0) (h3 : ∀ b, b = 2 ∨ b = 3 ∨ b = 4 ∨ b = 34 ∨ b = 35 ∨ b = 36 → D'.1 b = D.1 b) : RG D' n := by
  unfold RG at h ⊢
  rw [h1, h2, h3 2 (by omega), h3 3 (by omega), h3 4 (by omega), h3 34 (by omega), h3 35 (by omega), h3 36 (by omega)]
  exact h
theorem in_iff {a : Int32} {n : Nat} (hn : n ≤ 1000000) : (¬ a < 0 ∧ ¬ nI n ≤ a) ↔ ∃ j : Nat, j < n ∧ a = nI j := by
  constructor
  · rintro ⟨h1, h2⟩
    obtain ⟨j, hj, rfl⟩ := nI_of h1
    exact ⟨j, Nat.not_le.mp fun q => h2 (nI_le q hj), rfl⟩
  · rintro ⟨j, hj, rfl⟩
    exact ⟨nI_pos (by omega), nI_ge hj (by omega)⟩
theorem in_iff' {a : Int32} {n : Nat} (hn : n ≤ 1000000) : (¬ a < 0 ∧ ¬ nI n - 1 < a) ↔ ∃ j : Nat, j < n ∧ a = nI j := by
  constructor
  · rintro ⟨h1, h2⟩
    obtain ⟨j, hj, rfl⟩ := nI_of h1
    refine ⟨j, Nat.not_le.mp fun q => h2 ?_, rfl⟩
    cases n with
    | zero => exact Int32.lt_iff_toInt_lt.mpr (by rw [nI_toInt hj]; exact Int.lt_of_lt_of_le (show (nI 0 - 1).toInt < 0 by decide) (Int.natCast_nonneg j))
    | succ n => rw [nI_pred]; exact nI_lt (by omega) hj
  · rintro ⟨j, hj, rfl⟩
    refine ⟨nI_pos (by omega), ?_⟩
    cases n with
    | zero => omega
    | succ n => rw [nI_pred]; exact nI_nlt (by omega) (by omega)
theorem p_price {D : Dy} {n : Nat} {a1 a2 : Int32} (h : RG D n) : fX11_price a1 a2 D (fun v D1 => fX12_price a1 a2 D1 (fun v' D2 => v = v' ∧ RG D2 n ∧ (D2 = D ∨ ∃ i x, D2 = sI (sI D 3 i x) 35 i x))) := by
  obtain ⟨h6, hx, hm, hr⟩ := id h
  unfold fX11_price
  refine s_has ?_
  rw [hx]
  refine ⟨fun c1 => ?_, fun c1 => ?_⟩
  · rw [bI_1, in_iff (by omega)] at c1
    obtain ⟨j, hj, rfl⟩ := c1
    have hcl : (nI j).toNatClampNeg = j := nI_clamp (by omega)
    refine s_within ⟨fun c2 => ?_, fun c2 => ?_⟩
    · have c2' := bI_1.mp c2
      rw [show (100 : Int32) = nI 100 from rfl, in_iff (by omega)] at c2'
      obtain ⟨w, hw, rfl⟩ := c2'
      refine ⟨nI_in (by omega) (by omega), ?_⟩
      rintro v rfl
      refine ⟨nI_in (by omega) (by omega), ?_⟩
      rintro D1 rfl
      unfold fX12_price
      refine s_isThing ?_
      have e33 : (sI D 3 (nI j).toNatClampNeg (nI w)).1 33 0 = nI n := by simp [sI, hm]
      rw [e33]
      refine ⟨fun _ => ?_, fun c3 => absurd ((in_iff' (by omega)).mpr ⟨j, hj, rfl⟩) (bI_0.mp c3)⟩
      refine s_in ⟨fun _ => ?_, fun c3 => absurd ?_ (bI_0.mp c3)⟩
      · refine ⟨nI_in (by omega) (by omega), ?_⟩
        rintro v rfl
        refine ⟨nI_in (by omega) (by omega), ?_⟩
        rintro D2 rfl
        rw [hcl]
        refine ⟨?_, ?_, Or.inr ⟨_, _, rfl⟩⟩
        · have := (hr j hj).1.2.1
          simp [sI, this]
        · refine ⟨h6, by simp [sI, hx], by simp [sI, hm], fun i hi => ?_⟩
          obtain ⟨⟨g1, g2, g3⟩, g4, g5, g6⟩ := hr i hi
          by_cases e : i = j
          · subst e; refine ⟨⟨by simp [sI, g1], by simp [sI], by simp [sI, g3]⟩, by simpa [sI] using g4, ⟨w, hw, by simp [sI]⟩, by simpa [sI] using g6⟩
          · refine ⟨⟨by simp [sI, g1], by simp [sI, e, g2], by simp [sI, g3]⟩, by simpa [sI] using g4, by simpa [sI, e] using g5, by simpa [sI] using g6⟩
      · exact (in_iff' (n := 100) (by omega)).mpr ⟨w, hw, rfl⟩
    · unfold fX12_price
      refine s_isThing ?_
      rw [hm]
      refine ⟨fun _ => ?_, fun c3 => absurd ((in_iff' (by omega)).mpr ⟨j, hj, rfl⟩) (bI_0.mp c3)⟩
      refine s_in ⟨fun c3 => absurd ?_ (bI_0.mp c2), fun c3 => ⟨rfl, h, Or.inl rfl⟩⟩
      exact (in_iff (n := 100) (by omega)).mpr ((in_iff' (n := 100) (by omega)).mp (bI_1.mp c3))
  · unfold fX12_price
    refine s_isThing ?_
    rw [hm]
    refine ⟨fun c3 => absurd ((in_iff (by omega)).mpr ((in_iff' (by omega)).mp (bI_1.mp c3))) (bI_0.mp c1), fun _ => ⟨rfl, h, Or.inl rfl⟩⟩
def RT (D : Dy) (k : Nat) : Prop := k ≤ 16 ∧ D.1 0 3 = nI k ∧ D.1 33 1 = nI k ∧ (∀ i, i < k → D.1 37 i = D.1 5 i ∧ iN (D.1 5 i) 3) ∧ ∀ j, j < 3 → D.1 6 j = nI ((List.range k).countP fun i => D.1 5 i == nI j)
/-- the option o is in the set x -/
def sBit (x : Int32) (o : Nat) : Prop := x.toNatClampNeg.testBit o = true
def RC (D : Dy) (n k c : Nat) : Prop := c ≤ 80 ∧ D.1 7 4 = nI c ∧ D.1 33 2 = nI c ∧ ∀ i, i < c → (D.1 38 i = D.1 8 i ∧ D.1 39 i = D.1 9 i ∧ D.1 41 i = D.1 11 i) ∧ iN (D.1 8 i) k ∧ (iN (D.1 9 i) (2 ^ n) ∧ D.1 9 i ≠ 0) ∧ iN (D.1 11 i) 3 ∧ ((D.1 10 i = 7 ∧ D.1 40 i = -1) ∨ ∃ o, o < n ∧ D.1 10 i = nI o ∧ D.1 40 i = nI o ∧ sBit (D.1 9 i) o)
def RA (D : Dy) (n a : Nat) : Prop := a ≤ 10 ∧ D.1 0 11 = nI a ∧ D.1 33 3 = nI a ∧ ∀ i, i < a → D.1 42 i = D.1 21 i ∧ iN (D.1 21 i) (2 ^ n) ∧ D.1 21 i ≠ 0
theorem p_of {D : Dy} {n k c : Nat} {a1 a2 : Int32} (hn : n ≤ 6) (h : RC D n k c) : fX11_of a1 a2 D (fun v => fX12_of a1 a2 D (fun v' => v = v')) := by
  obtain ⟨h80, hx, hm, hr⟩ := id h
  unfold fX11_of
  refine s_within ?_
  rw [hx]
  refine ⟨fun c1 => ?_, fun c1 => ?_⟩
  · have c1' := c1
    rw [bI_1, in_iff (by omega)] at c1
    obtain ⟨j, hj, rfl⟩ := c1
    have hcl : (nI j).toNatClampNeg = j := nI_clamp (by omega)
    have hin : vp_in (nI j) 80 := nI_in (by omega) (by omega)
    obtain ⟨⟨g1, g2, g3⟩, -, -, -, g4⟩ := hr j hj
    have hM : ∀ v : Int32, ((a2 = 0 → v = D.1 38 j) ∧ (a2 = 1 → v = D.1 39 j) ∧ (a2 = 2 → v = if 0 ≤ D.1 40 j then D.1 40 j else -5) ∧ (a2 = 3 → v = D.1 41 j) ∧ (a2 ≠ 0 → a2 ≠ 1 → a2 ≠ 2 → a2 ≠ 3 → v = -1)) → fX12_of (nI j) a2 D (fun v' => v = v') := by
      intro v hv
      unfold fX12_of
      refine s_isChoice ?_
      rw [hm]
      refine ⟨fun _ => ?_, fun c3 => absurd ((in_iff' (by omega)).mpr ⟨j, hj, rfl⟩) (bI_0.mp c3)⟩
      rw [hcl]
      refine ⟨fun e0 => ⟨hin, hv.1 e0⟩, fun e0 => ⟨fun e1 => ⟨hin, hv.2.1 e1⟩, fun e1 => ⟨fun e2 => ⟨hin, fun q => ⟨hin, (hv.2.2.1 e2).trans (if_pos q)⟩, fun q => (hv.2.2.1 e2).trans (if_neg q)⟩, fun e2 => ⟨fun e3 => ⟨hin, hv.2.2.2.1 e3⟩, fun e3 => hv.2.2.2.2 e0 e1 e2 e3⟩⟩⟩⟩
    rw [hcl]
    refine ⟨fun e0 => ⟨hin, hM _ ⟨fun _ => g1.symm, fun q => absurd (e0.symm.trans q) (by decide), fun q => absurd (e0.symm.trans q) (by decide), fun q => absurd (e0.symm.trans q) (by decide), fun q => absurd e0 q⟩⟩, fun e0 => ⟨fun e1 => ⟨hin, hM _ ⟨fun q => absurd q e0, fun _ => g2.symm, fun q => absurd (e1.symm.trans q) (by decide), fun q => absurd (e1.symm.trans q) (by decide), fun _ q => absurd e1 q⟩⟩, fun e1 => ⟨fun e2 => ⟨hin, fun q => ⟨hin, hM _ ⟨fun z => absurd z e0, fun z => absurd z e1, fun _ => ?_, fun z => absurd (e2.symm.trans z) (by decide), fun _ _ z => absurd e2 z⟩⟩, fun q => hM _ ⟨fun z => absurd z e0, fun z => absurd z e1, fun _ => ?_, fun z => absurd (e2.symm.trans z) (by decide), fun _ _ z => absurd e2 z⟩⟩, fun e2 => ⟨fun e3 => ⟨hin, hM _ ⟨fun z => absurd z e0, fun z => absurd z e1, fun z => absurd z e2, fun _ => g3.symm, fun _ _ _ z => absurd e3 z⟩⟩, fun e3 => hM _ ⟨fun z => absurd z e0, fun z => absurd z e1, fun z => absurd z e2, fun z => absurd z e3, fun _ _ _ _ => rfl⟩⟩⟩⟩⟩
    · rcases g4 with ⟨z, -⟩ | ⟨o, ho, z1, z2, -⟩
      · exact absurd z q
      · rw [z1, z2, if_pos (nI_pos' (by omega))]
    · rcases g4 with ⟨-, z⟩ | ⟨o, ho, z1, z2, -⟩
      · rw [z, if_neg (by decide)]
      · rw [z1] at q
        have := (nI_eq (a := o) (b := 7) (by omega) (by omega)).mp q
        omega
  · unfold fX12_of
    refine s_isChoice ?_
    rw [hm]
    exact ⟨fun c3 => absurd ((in_iff (by omega)).mpr ((in_iff' (by omega)).mp (bI_1.mp c3))) (bI_0.mp c1), fun _ => rfl⟩
