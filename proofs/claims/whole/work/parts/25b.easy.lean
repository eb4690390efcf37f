theorem countP_put {f : Nat → Int32} {k : Nat} {a : Int32} {x : Int32} : ((List.range (k + 1)).countP fun i => (if i = k then a else f i) == x) = ((List.range k).countP fun i => f i == x) + (if a = x then 1 else 0) := by
  rw [List.range_succ, List.countP_append]
  congr 1
  · apply List.countP_congr
    intro i hi
    have : i ≠ k := Nat.ne_of_lt (List.mem_range.mp hi)
    simp [this]
  · by_cases h : a = x <;> simp [h]
theorem p_taker {D : Dy} {k : Nat} {a1 : Int32} (h : RT D k) : fX11_taker a1 D (fun v D1 => fX12_taker a1 D1 (fun v' D2 => v = v' ∧ ∃ k', k ≤ k' ∧ RT D2 k' ∧ (D2 = D ∨ ∃ i j x, D2 = sI (sI (sI (sI (sI D 5 i a1) 6 j x) 0 3 (nI (i + 1))) 37 i a1) 33 1 (nI (i + 1))))) := by
  obtain ⟨h16, hx, hm, hr, hc⟩ := id h
  unfold fX11_taker
  refine s_within ⟨fun c1 => ?_, fun c1 => ?_⟩
  · have c1' := bI_1.mp c1
    rw [show (3 : Int32) = nI 3 from rfl, in_iff (by omega)] at c1'
    obtain ⟨w, hw, rfl⟩ := c1'
    rw [hx]
    have hin3 : vp_in (nI w) 3 := nI_in hw (by omega)
    have hM1 : ∀ D' : Dy, fX12_taker (nI w) D' (fun v' D2 => True) → True := fun _ _ => trivial
    refine ⟨fun c => ?_, fun c => ?_⟩
    · have hk : k < 16 := (nI_ltI (a := k) (b := 16) (by omega) (by omega)).mp c
      have hcl : (nI k).toNatClampNeg = k := nI_clamp (by omega)
      have hcw : (nI w).toNatClampNeg = w := nI_clamp (by omega)
      refine ⟨nI_in (by omega) (by omega), ?_⟩
      rw [hcl, hcw]
      rintro D1 rfl
      refine ⟨hin3, hin3, ?_⟩
      rintro D2 rfl v rfl D3 rfl
      have e1 : (sI (sI D 5 k (nI w)) 6 w ((sI D 5 k (nI w)).1 6 w + 1)).1 0 3 = nI k := by simp [sI, hx]
      rw [e1, nI_1]
      unfold fX12_taker
      refine s_in ⟨fun _ => ?_, fun z => absurd ((in_iff' (n := 3) (by omega)).mpr ⟨w, hw, rfl⟩) (bI_0.mp z)⟩
      have e3 : (sI (sI (sI D 5 k (nI w)) 6 w ((sI D 5 k (nI w)).1 6 w + 1)) 0 3 (nI (k + 1))).1 33 1 = nI k := by simp [sI, hm]
      rw [e3]
      refine ⟨fun _ => ⟨nI_in (by omega) (by omega), ?_⟩, fun z => ?_⟩
      · rw [hcl]
        rintro D4 rfl D5 rfl
        have e4 : (sI (sI (sI (sI D 5 k (nI w)) 6 w ((sI D 5 k (nI w)).1 6 w + 1)) 0 3 (nI (k + 1))) 37 k (nI w)).1 33 1 = nI k := by simp [sI, hm]
        rw [e4, nI_1]
        refine ⟨?_, k + 1, by omega, ⟨by omega, by simp [sI], by simp [sI], fun i hi => ?_, fun j hj => ?_⟩, Or.inr ⟨k, w, _, rfl⟩⟩
        · have : ∀ D' : Dy, (sI D' 33 1 (nI (k + 1))).1 33 1 = nI (k + 1) := fun D' => by simp [sI]
          rw [this, nI_pred]
        · by_cases e : i = k
          · subst e; exact ⟨by simp [sI], w, hw, by simp [sI]⟩
          · obtain ⟨z1, z2⟩ := hr i (by omega)
            exact ⟨by simp [sI, e, z1], by simpa [sI, e] using z2⟩
        · have ef : (fun i => (sI (sI (sI (sI (sI D 5 k (nI w)) 6 w ((sI D 5 k (nI w)).1 6 w + 1)) 0 3 (nI (k + 1))) 37 k (nI w)) 33 1 (nI (k + 1))).1 5 i == nI j) = fun i => (if i = k then nI w else D.1 5 i) == nI j := by
            funext i; simp [sI]
          rw [ef, countP_put]
          by_cases e : j = w
          · subst e
            rw [if_pos rfl]; refine Eq.trans ?_ ((congrArg (· + 1) (hc j hj)).trans (nI_1 _)); simp [sI]
          · have e2 : ¬ nI w = nI j := fun z => e ((nI_eq (by omega) (by omega)).mp z).symm
            rw [if_neg e2, Nat.add_zero]; refine Eq.trans ?_ (hc j hj); simp [sI, e]
      · have := (nI_eq (a := k) (b := 16) (by omega) (by omega)).mp z
        omega
    · have hk : k = 16 := by
        have : ¬ k < 16 := fun q => c (nI_lt (a := k) (b := 16) q (by omega))
        omega
      unfold fX12_taker
      refine s_in ⟨fun _ => ?_, fun z => absurd ((in_iff' (n := 3) (by omega)).mpr ⟨w, hw, rfl⟩) (bI_0.mp z)⟩
      rw [hm]
      exact ⟨fun z => absurd (by rw [hk]; rfl) z, fun _ => ⟨rfl, k, Nat.le_refl _, h, Or.inl rfl⟩⟩
  · unfold fX12_taker
    refine s_in ⟨fun z => absurd ?_ (bI_0.mp c1), fun _ => ⟨rfl, k, Nat.le_refl _, h, Or.inl rfl⟩⟩
    exact (in_iff (n := 3) (by omega)).mpr ((in_iff' (n := 3) (by omega)).mp (bI_1.mp z))
