/-! sets of things, as bits of an int -/
theorem bt_nI (n : Nat) {i : Nat} (hi : i < 32) : bt (nI n) i = n.testBit i := by
  show (BitVec.ofNat 32 n).getLsbD i = _
  rw [BitVec.getLsbD_ofNat]; simp [hi]
theorem nI_shr {j n : Nat} (hj : j < 2 ^ 31) (hn : n < 31) : nI j >>> (nI n &&& 31) = nI (j >>> n) := by
  refine b_ext fun i hi => ?_
  rw [b_sshr n (by omega) _ hi, bt_nI _ hi, Nat.testBit_shiftRight]
  split
  · next h => rw [bt_nI _ h]
  · next h =>
    rw [bt_nI _ (by omega), Nat.testBit_lt_two_pow (Nat.lt_of_lt_of_le hj (Nat.pow_le_pow_right (by decide) (Nat.le_refl _))), Nat.testBit_lt_two_pow (Nat.lt_of_lt_of_le hj (Nat.pow_le_pow_right (by decide) (by omega)))]
theorem nI_shl1 {n : Nat} (hn : n < 31) : (1 : Int32) <<< (nI n &&& 31) = nI (2 ^ n) := by
  have : ∀ n, n < 31 → (1 : Int32) <<< (nI n &&& 31) = nI (2 ^ n) := by decide +kernel
  exact this n hn
theorem shr_0 {j n : Nat} (hj : j < 2 ^ 31) (hn : n < 31) : nI j >>> (nI n &&& 31) = 0 ↔ j < 2 ^ n := by
  rw [nI_shr hj hn, ← nI_0, nI_eq (Nat.lt_of_le_of_lt (Nat.shiftRight_le j n) hj) (by omega), Nat.shiftRight_eq_div_pow, Nat.div_eq_zero_iff]
  have := Nat.two_pow_pos n
  omega
theorem set_X {a : Int32} {n : Nat} (hn : n < 31) : (¬ a < 0 ∧ a >>> (nI n &&& 31) = 0) ↔ iN a (2 ^ n) := by
  constructor
  · rintro ⟨h1, h2⟩
    obtain ⟨j, hj, rfl⟩ := nI_of h1
    exact ⟨j, (shr_0 hj hn).mp h2, rfl⟩
  · rintro ⟨j, hj, rfl⟩
    have : j < 2 ^ 31 := Nat.lt_of_lt_of_le hj (Nat.pow_le_pow_right (by decide) (by omega))
    exact ⟨nI_pos this, (shr_0 this hn).mpr hj⟩
theorem set_M {a : Int32} {n : Nat} (hn : n ≤ 6) : (¬ a < 0 ∧ ¬ ((1 : Int32) <<< (nI n &&& 31)) - 1 < a) ↔ iN a (2 ^ n) := by
  rw [nI_shl1 (by omega)]
  exact in_iff' (Nat.le_trans (Nat.pow_le_pow_right (by decide) hn) (by decide))
theorem s_hasAll {a : Int32} {D : Dy} {n : Nat} (hn : n ≤ 6) (hx : D.1 1 3 = nI n) {post : Int32 → Prop} (h1 : iN a (2 ^ n) → post 1) (h0 : ¬ iN a (2 ^ n) → post 0) : fX1_hasAll a D post := by
  simp only [fX1_hasAll, JN, hx]
  refine ⟨fun c => h0 fun q => ((set_X (by omega)).mpr q).1 c, fun c => ⟨fun c2 => h0 fun q => c2 ((set_X (by omega)).mpr q).2, fun c2 => h1 ((set_X (by omega)).mp ⟨c, c2⟩)⟩⟩
theorem s_hasSome {a : Int32} {D : Dy} {n : Nat} (hn : n ≤ 6) (hx : D.1 1 3 = nI n) {post : Int32 → Prop} (h1 : iN a (2 ^ n) → a ≠ 0 → post 1) (h0 : ¬ (iN a (2 ^ n) ∧ a ≠ 0) → post 0) : fX1_hasSome a D post := by
  simp only [fX1_hasSome, JN]
  refine ⟨fun c => h0 fun q => q.2 c, fun c => s_hasAll hn hx (fun q => ⟨fun z => absurd z (by decide), fun _ => h1 q c⟩) (fun q => ⟨fun _ => h0 fun z => q z.1, fun z => absurd rfl z⟩)⟩
theorem s_isSet {a : Int32} {D : Dy} {n : Nat} (hn : n ≤ 6) (hm : D.1 33 0 = nI n) {post : Int32 → Prop} (h1 : iN a (2 ^ n) → post 1) (h0 : ¬ iN a (2 ^ n) → post 0) : fX12_isSet a D post := by
  unfold fX12_isSet
  rw [hm]
  refine s_in ⟨bI_01, ?_⟩
  by_cases q : iN a (2 ^ n)
  · rw [bI_t ((set_M hn).mpr q)]; exact h1 q
  · rw [bI_f (fun z => q ((set_M hn).mp z))]; exact h0 q
