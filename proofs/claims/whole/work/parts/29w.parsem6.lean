/-! E: where it ends, what it says -/
theorem rFig_pos {b : Nat → Nat} {L s p : Nat} {acc : List Nat} (hp : p ≤ L) : p ≤ (rFig (chr b L) s p acc).2.1 ∧ (rFig (chr b L) s p acc).2.1 ≤ L := by
  unfold rFig
  split
  · next c =>
    have := (chr_lt (b := b) (L := L) (p := p) (K := 61) (by omega) c).1
    split
    · next d => have := (dig_lt d).1; exact ⟨by show p ≤ p + 2; omega, by show p + 2 ≤ L; omega⟩
    · exact ⟨by show p ≤ p + 1; omega, by show p + 1 ≤ L; omega⟩
  · exact ⟨Nat.le_refl _, hp⟩
theorem rPrc_pos {b : Nat → Nat} {L p : Nat} {acc : List Nat} (hp : p ≤ L) : p ≤ (rPrc (chr b L) p acc).2.1 ∧ (rPrc (chr b L) p acc).2.1 ≤ L := by
  unfold rPrc
  split
  · next c =>
    have := (chr_lt (b := b) (L := L) (p := p) (K := chr b L p) (by omega) rfl).1
    split
    · have h1 := nmF_le (ch := chr b L) 3 (p + 1) 0
      have h2 := nmF_L (b := b) (L := L) 3 (p + 1) 0 (by omega)
      exact ⟨by show p ≤ (nmF (chr b L) 3 (p + 1) 0).1; omega, h2⟩
    · exact ⟨by show p ≤ p + 1; omega, by show p + 1 ≤ L; omega⟩
  · exact ⟨Nat.le_refl _, hp⟩
theorem rT_pos {b : Nat → Nat} {L p : Nat} {acc : List Nat} (hp : p ≤ L) : p ≤ (rT (chr b L) p acc).2.1 ∧ (rT (chr b L) p acc).2.1 ≤ L ∧ ((rT (chr b L) p acc).1 = true → p < (rT (chr b L) p acc).2.1) := by
  have lt : ∀ K, K < 128 → chr b L p = K → p + 1 ≤ L := fun K hK c => (chr_lt hK c).1
  unfold rT
  split
  · next c => have := rPrc_pos (b := b) (acc := acc) (lt 112 (by omega) c); exact ⟨by omega, this.2, fun _ => by omega⟩
  · split
    · next c => have := rFig_pos (b := b) (s := 3) (acc := acc) (lt 109 (by omega) c); exact ⟨by omega, this.2, fun _ => by omega⟩
    · split
      · next c => have := rFig_pos (b := b) (s := 4) (acc := acc) (lt 116 (by omega) c); exact ⟨by omega, this.2, fun _ => by omega⟩
      · split
        · next c => have := rFig_pos (b := b) (s := 5) (acc := acc) (lt 110 (by omega) c); exact ⟨by omega, this.2, fun _ => by omega⟩
        · exact ⟨Nat.le_refl _, hp, fun z => by cases z⟩
theorem rLp_pos {b : Nat → Nat} {L sep op : Nat} {one : Nat → List Nat → Rd} (hs : sep < 128) (h : ∀ p acc, p ≤ L → p ≤ (one p acc).2.1 ∧ (one p acc).2.1 ≤ L) : ∀ k p acc, p ≤ L → p ≤ (rLp (chr b L) one sep op k p acc).2.1 ∧ (rLp (chr b L) one sep op k p acc).2.1 ≤ L
  | 0, p, acc, hp => ⟨Nat.le_refl _, hp⟩
  | k + 1, p, acc, hp => by
    rw [rLp_s]
    split
    · next c =>
      have h1 := h (p + 1) acc (chr_lt hs c).1
      split
      · have := rLp_pos (b := b) (op := op) hs h k (one (p + 1) acc).2.1 ((one (p + 1) acc).2.2 ++ [op]) h1.2
        exact ⟨by omega, this.2⟩
      · exact ⟨by omega, h1.2⟩
    · exact ⟨Nat.le_refl _, hp⟩
theorem rE_pos {b : Nat → Nat} {L : Nat} : ∀ n w d p acc, p ≤ L → p ≤ (rE (chr b L) n w d p acc).2.1 ∧ (rE (chr b L) n w d p acc).2.1 ≤ L ∧ ((rE (chr b L) n w d p acc).1 = true → p < (rE (chr b L) n w d p acc).2.1)
  | 0, _, _, p, _, hp => ⟨Nat.le_refl _, hp, fun z => by cases z⟩
  | n + 1, 0, d, p, acc, hp => by
    rw [rE_0]
    split
    · next c =>
      have h1 := rE_pos (b := b) n 0 (d + 1) (p + 1) acc (chr_lt (by omega) c.2).1
      split
      · exact ⟨by show p ≤ (rE (chr b L) n 0 (d + 1) (p + 1) acc).2.1; omega, h1.2.1, fun _ => by show p < (rE (chr b L) n 0 (d + 1) (p + 1) acc).2.1; omega⟩
      · exact ⟨by omega, h1.2.1, fun _ => by omega⟩
    · split
      · next c =>
        have h1 := rE_pos (b := b) n 2 (d + 1) (p + 1) acc (chr_lt (by omega) c.2).1
        split
        · split
          · next c2 =>
            have := (chr_lt (by omega) c2).1
            exact ⟨by show p ≤ (rE (chr b L) n 2 (d + 1) (p + 1) acc).2.1 + 1; omega, by show (rE (chr b L) n 2 (d + 1) (p + 1) acc).2.1 + 1 ≤ L; omega, fun _ => by show p < (rE (chr b L) n 2 (d + 1) (p + 1) acc).2.1 + 1; omega⟩
          · exact ⟨by show p ≤ (rE (chr b L) n 2 (d + 1) (p + 1) acc).2.1; omega, h1.2.1, fun z => by cases z⟩
        · exact ⟨by omega, h1.2.1, fun _ => by omega⟩
      · exact rT_pos hp
  | n + 1, 1, d, p, acc, hp => by
    rw [rE_1]
    have h1 := rE_pos (b := b) n 0 d p acc hp
    split
    · next c =>
      have := rLp_pos (b := b) (sep := 38) (op := 1) (by omega) (fun p acc hp => ⟨(rE_pos (b := b) n 0 d p acc hp).1, (rE_pos (b := b) n 0 d p acc hp).2.1⟩) 120 (rE (chr b L) n 0 d p acc).2.1 (rE (chr b L) n 0 d p acc).2.2 h1.2.1
      have := h1.2.2 c
      exact ⟨by omega, by omega, fun _ => by omega⟩
    · exact h1
  | n + 1, w + 2, d, p, acc, hp => by
    rw [show rE (chr b L) (n + 1) (w + 2) d p acc = rE (chr b L) (n + 1) 2 d p acc from rfl, rE_2]
    have h1 := rE_pos (b := b) n 1 d p acc hp
    split
    · next c =>
      have := rLp_pos (b := b) (sep := 124) (op := 2) (by omega) (fun p acc hp => ⟨(rE_pos (b := b) n 1 d p acc hp).1, (rE_pos (b := b) n 1 d p acc hp).2.1⟩) 120 (rE (chr b L) n 1 d p acc).2.1 (rE (chr b L) n 1 d p acc).2.2 h1.2.1
      have := h1.2.2 c
      exact ⟨by omega, by omega, fun _ => by omega⟩
    · exact h1
theorem rLp_end {b : Nat → Nat} {L sep op : Nat} {one : Nat → List Nat → Rd} {Q : Nat → Prop} (hs : sep < 128) (h : ∀ p acc, p ≤ L → (one p acc).2.1 ≤ L ∧ ((one p acc).1 = true → p < (one p acc).2.1 ∧ Q (one p acc).2.1)) : ∀ k p acc, p ≤ L → L < k + p → Q p → (rLp (chr b L) one sep op k p acc).1 = true → chr b L (rLp (chr b L) one sep op k p acc).2.1 ≠ sep ∧ Q (rLp (chr b L) one sep op k p acc).2.1
  | 0, p, acc, hp, hk, _, _ => by omega
  | k + 1, p, acc, hp, hk, hq, h1 => by
    rw [rLp_s] at h1 ⊢
    by_cases c : chr b L p = sep
    · rw [if_pos c] at h1 ⊢
      obtain ⟨g1, g2⟩ := h (p + 1) acc (chr_lt hs c).1
      by_cases c2 : (one (p + 1) acc).1 = true
      · rw [if_pos c2] at h1 ⊢
        obtain ⟨g3, g4⟩ := g2 c2
        exact rLp_end hs h k _ _ g1 (by omega) g4 h1
      · rw [if_neg c2] at h1
        exact absurd h1 c2
    · rw [if_neg c]
      exact ⟨c, hq⟩
theorem rE_end1 {b : Nat → Nat} {L n d p : Nat} {acc : List Nat} (hL : L ≤ 120) (hp : p ≤ L) (h : (rE (chr b L) (n + 1) 1 d p acc).1 = true) : chr b L (rE (chr b L) (n + 1) 1 d p acc).2.1 ≠ 38 := by
  rw [rE_1] at h ⊢
  have h1 := rE_pos (b := b) n 0 d p acc hp
  by_cases c : (rE (chr b L) n 0 d p acc).1 = true
  · rw [if_pos c] at h ⊢
    have := h1.2.2 c
    exact (rLp_end (Q := fun _ => True) (by omega) (fun p acc hp => ⟨(rE_pos n 0 d p acc hp).2.1, fun z => ⟨(rE_pos n 0 d p acc hp).2.2 z, trivial⟩⟩) 120 _ _ h1.2.1 (by omega) trivial h).1
  · rw [if_neg c] at h; exact absurd h c
theorem rE_end2 {b : Nat → Nat} {L n d p : Nat} {acc : List Nat} (hL : L ≤ 120) (hp : p ≤ L) (h : (rE (chr b L) (n + 2) 2 d p acc).1 = true) : chr b L (rE (chr b L) (n + 2) 2 d p acc).2.1 ≠ 124 ∧ chr b L (rE (chr b L) (n + 2) 2 d p acc).2.1 ≠ 38 := by
  rw [rE_2] at h ⊢
  have h1 := rE_pos (b := b) (n + 1) 1 d p acc hp
  by_cases c : (rE (chr b L) (n + 1) 1 d p acc).1 = true
  · rw [if_pos c] at h ⊢
    have := h1.2.2 c
    exact rLp_end (Q := fun q => chr b L q ≠ 38) (by omega) (fun p acc hp => ⟨(rE_pos (n + 1) 1 d p acc hp).2.1, fun z => ⟨(rE_pos (n + 1) 1 d p acc hp).2.2 z, rE_end1 hL hp z⟩⟩) 120 _ _ h1.2.1 (by omega) (rE_end1 hL hp c) h
  · rw [if_neg c] at h; exact absurd h c
theorem rLp_says {ch : Nat → Nat} {tv : Nat → Bool} {sep op : Nat} {one : Nat → List Nat → Rd} (hop : op = 1 ∨ op = 2) (h : ∀ p acc, (one p acc).1 = true → ∃ v, Says tv acc (one p acc) v) {acc0 : List Nat} : ∀ k p acc v0, (∃ c0, acc = acc0 ++ c0 ∧ ∀ s, ev tv c0 s = v0 :: s) → (rLp ch one sep op k p acc).1 = true → ∃ v, Says tv acc0 (rLp ch one sep op k p acc) v
  | 0, p, acc, v0, h0, _ => ⟨v0, h0⟩
  | k + 1, p, acc, v0, h0, h1 => by
    rw [rLp_s] at h1 ⊢
    by_cases c : ch p = sep
    · rw [if_pos c] at h1 ⊢
      by_cases c2 : (one (p + 1) acc).1 = true
      · rw [if_pos c2] at h1 ⊢
        obtain ⟨v, c3, e1, e2⟩ := h (p + 1) acc c2
        obtain ⟨c0, e3, e4⟩ := h0
        refine rLp_says hop h k _ _ (if op = 1 then v0 && v else v0 || v) ⟨c0 ++ c3 ++ [op], by rw [e1, e3]; simp [List.append_assoc], fun s => ?_⟩ h1
        rw [ev_app, ev_app, e4, e2]
        show evS tv op (v :: v0 :: s) = _
        rcases hop with rfl | rfl <;> rfl
      · rw [if_neg c2] at h1; exact absurd h1 c2
    · rw [if_neg c] at h1 ⊢
      exact ⟨v0, h0⟩
theorem rE_says {ch : Nat → Nat} {tv : Nat → Bool} : ∀ n w d p acc, (rE ch n w d p acc).1 = true → ∃ v, Says tv acc (rE ch n w d p acc) v
  | 0, _, _, _, _, h => by cases h
  | n + 1, 0, d, p, acc, h => by
    rw [rE_0] at h ⊢
    by_cases c : d < 4 ∧ ch p = 33
    · rw [if_pos c] at h ⊢
      by_cases c2 : (rE ch n 0 (d + 1) (p + 1) acc).1 = true
      · rw [if_pos c2]
        obtain ⟨v, c3, e1, e2⟩ := rE_says (tv := tv) n 0 (d + 1) (p + 1) acc c2
        refine ⟨!v, c3 ++ [0], by show _ ++ [0] = _; rw [e1, List.append_assoc], fun s => ?_⟩
        rw [ev_app, e2]
        show evS tv 0 (v :: s) = _
        rfl
      · rw [if_neg c2] at h; exact absurd h c2
    · rw [if_neg c] at h ⊢
      by_cases c1 : d < 4 ∧ ch p = 40
      · rw [if_pos c1] at h ⊢
        by_cases c2 : (rE ch n 2 (d + 1) (p + 1) acc).1 = true
        · rw [if_pos c2] at h ⊢
          by_cases c4 : ch (rE ch n 2 (d + 1) (p + 1) acc).2.1 = 41
          · rw [if_pos c4]
            exact rE_says (tv := tv) n 2 (d + 1) (p + 1) acc c2
          · rw [if_neg c4] at h; cases h
        · rw [if_neg c2] at h; exact absurd h c2
      · rw [if_neg c1] at h ⊢
        obtain ⟨cc, e1, e2⟩ := rT_app h
        exact ⟨_, says_t e1 e2⟩
  | n + 1, 1, d, p, acc, h => by
    rw [rE_1] at h ⊢
    by_cases c : (rE ch n 0 d p acc).1 = true
    · rw [if_pos c] at h ⊢
      obtain ⟨v, hv⟩ := rE_says (tv := tv) n 0 d p acc c
      exact rLp_says (by omega) (fun p acc h => rE_says n 0 d p acc h) 120 _ _ v hv h
    · rw [if_neg c] at h; exact absurd h c
  | n + 1, w + 2, d, p, acc, h => by
    rw [show rE ch (n + 1) (w + 2) d p acc = rE ch (n + 1) 2 d p acc from rfl, rE_2] at h ⊢
    by_cases c : (rE ch n 1 d p acc).1 = true
    · rw [if_pos c] at h ⊢
      obtain ⟨v, hv⟩ := rE_says (tv := tv) n 1 d p acc c
      exact rLp_says (by omega) (fun p acc h => rE_says n 1 d p acc h) 120 _ _ v hv h
    · rw [if_neg c] at h; exact absurd h c
