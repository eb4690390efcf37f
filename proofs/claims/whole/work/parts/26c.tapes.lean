/-- a loop that counts up, over a world that is known at each turn -/
theorem lp2_up {τ : Type} {b : (Int32 → τ → Prop) → Int32 → τ → Prop} {n : Nat} (hn : n < 1000000) (dk : Nat → τ) (hs : ∀ k, k < n → ∀ rec : Int32 → τ → Prop, rec (nI (k + 1)) (dk (k + 1)) → b rec (nI k) (dk k)) (he : ∀ rec : Int32 → τ → Prop, b rec (nI n) (dk n)) : LP2 b FU 0 (dk 0) := by
  refine lp2_in (fun m x y => ∃ k, k ≤ n ∧ m = n - k ∧ x = nI k ∧ y = dk k) ?_ FU n 0 (dk 0) (FU_big (by omega)) ⟨0, by omega, by omega, by rw [nI_0], rfl⟩
  rintro m x y ⟨k, hk, rfl, rfl, rfl⟩ rec hrec
  by_cases e : k = n
  · subst e; exact he rec
  · exact hs k (by omega) rec (hrec (n - (k + 1)) _ _ (by omega) ⟨k + 1, by omega, rfl, rfl, rfl⟩)
theorem s_fits {a1 a2 : Int32} {z : Nat} (hz : z ≤ 60) {post : Int32 → Prop} (h1 : ∀ i n : Nat, a1 = nI i → a2 = nI n → i + n ≤ z → post 1) (h0 : ¬ (∃ i n : Nat, a1 = nI i ∧ a2 = nI n ∧ i + n ≤ z) → post 0) : fX11_fits a1 a2 (nI z) post := by
  simp only [fX11_fits, JN]
  refine ⟨fun c => h0 ?_, fun c => ⟨fun c2 => h0 ?_, fun c2 => ⟨fun c3 => h0 ?_, fun c3 => ⟨fun c4 => h0 ?_, fun c4 => ?_⟩⟩⟩⟩
  · rintro ⟨i, n, rfl, rfl, hle⟩; exact nI_pos (by omega) c
  · rintro ⟨i, n, rfl, rfl, hle⟩; exact nI_pos (by omega) c2
  · rintro ⟨i, n, rfl, rfl, hle⟩
    have := (nI_ltI (a := z) (b := n) (by omega) (by omega)).mp c3
    omega
  · rintro ⟨i, n, rfl, rfl, hle⟩
    have e : nI z - nI n = nI (z - n) := by
      have : nI z = nI (z - n) + nI n := by rw [nI_add]; congr 1; omega
      rw [this, Int32.add_sub_cancel]
    rw [e] at c4
    have := (nI_ltI (a := z - n) (b := i) (by omega) (by omega)).mp c4
    omega
  · obtain ⟨n, hn, rfl⟩ := nI_of c
    obtain ⟨i, hi, rfl⟩ := nI_of c2
    have h3 : n ≤ z := Nat.not_lt.mp fun q => c3 (nI_lt q hn)
    have e : nI z - nI n = nI (z - n) := by
      have : nI z = nI (z - n) + nI n := by rw [nI_add]; congr 1; omega
      rw [this, Int32.add_sub_cancel]
    rw [e] at c4
    have h4 : i ≤ z - n := Nat.not_lt.mp fun q => c4 (nI_lt q hi)
    exact h1 i n rfl rfl (by omega)
theorem nI_subN {z n : Nat} (h : n ≤ z) : nI z - nI n = nI (z - n) := by
  have : nI z = nI (z - n) + nI n := by rw [nI_add]; congr 1; omega
  rw [this, Int32.add_sub_cancel]
