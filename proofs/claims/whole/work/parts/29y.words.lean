/-! WORDS: told once; the one's reader of them -/
def lc (ch : Nat → Nat) : List Nat → Nat → Nat
  | [], _ => 0
  | c :: cs, p => if ch p = c then lc ch cs (p + 1) + 1 else 0
def wds : Nat → List Nat
  | 0 => [119, 111, 114, 116, 104]
  | 1 => [109, 97, 114, 107]
  | 2 => [112, 114, 105, 99, 101]
  | 3 => [110, 111, 110, 101]
  | 4 => [108, 111, 111, 107]
  | 5 => [107, 105, 110, 100]
  | _ => [112, 105, 99, 107]
/-- the word that it can only be -/
def wsel (ch : Nat → Nat) (p : Nat) : Nat := if ch p = 107 then 5 else if ch p = 108 then 4 else if ch p = 109 then 1 else if ch p = 112 then (if ch (p + 1) = 105 then 6 else 2) else if ch p = 119 then 0 else 3
theorem wsel_lt {ch : Nat → Nat} {p : Nat} : wsel ch p < 7 := by
  unfold wsel
  repeat' split
  all_goals omega
theorem lc_le {ch : Nat → Nat} : ∀ ws p, lc ch ws p ≤ ws.length
  | [], _ => Nat.le_refl _
  | c :: cs, p => by
    unfold lc
    split
    · have := lc_le (ch := ch) cs (p + 1); simp; omega
    · exact Nat.zero_le _
theorem lc_at {ch : Nat → Nat} : ∀ ws p n, (∀ i, i < n → ch (p + i) = ws.getD i 0) → n ≤ ws.length → (n = ws.length ∨ ch (p + n) ≠ ws.getD n 0) → lc ch ws p = n
  | [], _, n, _, hn, _ => (Nat.le_zero.mp hn).symm
  | c :: cs, p, 0, _, hn, h2 => by
    have : ch p ≠ c := by
      rcases h2 with h2 | h2
      · cases h2
      · exact h2
    unfold lc; rw [if_neg this]
  | c :: cs, p, n + 1, h, hn, h2 => by
    have e : ch p = c := h 0 (Nat.succ_pos _)
    unfold lc; rw [if_pos e]
    have := lc_at cs (p + 1) n (fun i hi => by have := h (i + 1) (by omega); rw [show p + 1 + i = p + (i + 1) by omega]; exact this) (by simp at hn; omega) (by
      rcases h2 with h2 | h2
      · left; simp at h2; omega
      · right; rw [show p + 1 + n = p + (n + 1) by omega]; exact h2)
    rw [this]
theorem lc_z {ch : Nat → Nat} {c p : Nat} {cs : List Nat} (h : ch p ≠ c) : lc ch (c :: cs) p = 0 := if_neg h
theorem lc_c {ch : Nat → Nat} {c p : Nat} {cs : List Nat} (h : ch p = c) : lc ch (c :: cs) p = lc ch cs (p + 1) + 1 := if_pos h
theorem wds_o {ch : Nat → Nat} {p i : Nat} (hi : i < 7) (h : i ≠ wsel ch p) : lc ch (wds i) p ≤ lc ch (wds (wsel ch p)) p ∧ lc ch (wds i) p < (wds i).length := by
  have z : ∀ {c cs}, wds i = c :: cs → ch p ≠ c → lc ch (wds i) p ≤ lc ch (wds (wsel ch p)) p ∧ lc ch (wds i) p < (wds i).length := fun {c cs} e h => by
    rw [e, lc_z h]; exact ⟨Nat.zero_le _, Nat.succ_pos _⟩
  have w : wsel ch p = if ch p = 107 then 5 else if ch p = 108 then 4 else if ch p = 109 then 1 else if ch p = 112 then (if ch (p + 1) = 105 then 6 else 2) else if ch p = 119 then 0 else 3 := rfl
  by_cases c112 : ch p = 112
  · have e : wsel ch p = if ch (p + 1) = 105 then 6 else 2 := by rw [w, c112]; rfl
    by_cases c105 : ch (p + 1) = 105
    · rw [if_pos c105] at e
      rw [e] at h ⊢
      by_cases i2 : i = 2
      · subst i2
        show lc ch [112, 114, 105, 99, 101] p ≤ lc ch [112, 105, 99, 107] p ∧ lc ch [112, 114, 105, 99, 101] p < 5
        rw [lc_c c112, lc_c c112, lc_z (by omega)]; omega
      · have : i = 0 ∨ i = 1 ∨ i = 3 ∨ i = 4 ∨ i = 5 := by omega
        rw [e] at z
        rcases this with rfl | rfl | rfl | rfl | rfl
        all_goals exact z rfl (by omega)
    · rw [if_neg c105] at e
      rw [e] at h ⊢
      by_cases i2 : i = 6
      · subst i2
        show lc ch [112, 105, 99, 107] p ≤ lc ch [112, 114, 105, 99, 101] p ∧ lc ch [112, 105, 99, 107] p < 4
        rw [lc_c c112, lc_c c112, lc_z (by omega)]; omega
      · have : i = 0 ∨ i = 1 ∨ i = 3 ∨ i = 4 ∨ i = 5 := by omega
        rw [e] at z
        rcases this with rfl | rfl | rfl | rfl | rfl
        all_goals exact z rfl (by omega)
  · rw [if_neg c112] at w
    have : i = 0 ∨ i = 1 ∨ i = 2 ∨ i = 3 ∨ i = 4 ∨ i = 5 ∨ i = 6 := by omega
    rw [w] at h
    rcases this with rfl | rfl | rfl | rfl | rfl | rfl | rfl
    · exact z rfl (fun y => h (by rw [y]; rfl))
    · exact z rfl (fun y => h (by rw [y]; rfl))
    · exact z rfl c112
    · exact z rfl (fun y => h (by rw [y]; rfl))
    · exact z rfl (fun y => h (by rw [y]; rfl))
    · exact z rfl (fun y => h (by rw [y]; rfl))
    · exact z rfl c112
theorem wLen_is : ∀ i, i < 7 → wLen.getD i 0 = (wds i).length := by decide
theorem wByt_is : ∀ i, i < 7 → ∀ k, k < 5 → k < (wds i).length → (wByt.getD i []).getD k 0 = nI ((wds i).getD k 0) ∧ (wds i).getD k 0 < 128 := by decide
theorem wds_5 : ∀ i, (wds i).length ≤ 5
  | 0 => by decide
  | 1 => by decide
  | 2 => by decide
  | 3 => by decide
  | 4 => by decide
  | 5 => by decide
  | _ + 6 => by show 4 ≤ 5; decide
theorem x_alike {D : Dy} {t L p i : Nat} {b : Nat → Nat} (hT : XT D t b L) (hp : D.1 t 2 = nI p) (hpL : p ≤ L) (hi : i < 7) {post : Int32 → Prop} (h : post (nI (lc (chr b L) (wds i) p))) : fX9_countAlike t i D post := by
  obtain ⟨t1, t2, t3, t4⟩ := hT
  have w5 := wds_5 i
  unfold fX9_countAlike
  rw [wLen_is i hi, t3, hp, sub' hpL]
  refine lp1_I (wds i).length (fun k v => v = nI k ∧ ∀ j, j < k → chr b L (p + j) = (wds i).getD j 0) (by omega) (fun k hk v hv rec hr => ?_) ⟨rfl, fun j hj => absurd hj (Nat.not_lt_zero _)⟩
  obtain ⟨rfl, hj⟩ := hv
  have fin : (k = (wds i).length ∨ chr b L (p + k) ≠ (wds i).getD k 0) → post (nI k) := fun q => by
    rw [lc_at _ _ k hj hk q] at h; exact h
  refine ⟨fun z => fin (Or.inl ?_), fun z => ?_⟩
  · have := (leI' (by omega) (by omega)).mp z; omega
  · have hk' : k < (wds i).length := Nat.lt_of_not_le fun y => z (nI_le y (by omega))
    obtain ⟨e1, e2⟩ := wByt_is i hi k (by omega) hk'
    refine ⟨fun z2 => fin (Or.inr fun y => ?_), fun z2 => ?_⟩
    · have := (leI' (by omega) (by omega)).mp z2
      have := (chr_lt e2 y).1
      omega
    · have hkL : p + k < L := Nat.lt_of_not_le fun y => z2 (nI_le (by omega) (by omega))
      obtain ⟨b1, b2⟩ := t4 (p + k) hkL
      rw [nI_add]
      refine ⟨nI_in hk' (by omega), nI_in (by omega) (by omega), ?_⟩
      rw [nI_clamp (by omega), nI_clamp (by omega), b1, e1]
      refine ⟨fun z3 => fin (Or.inr fun y => z3 ?_), fun z3 => ?_⟩
      · rw [(chr_lt e2 y).2]
      · have z3 : nI ((wds i).getD k 0) = nI (b (p + k)) := by first | exact z3 | exact Classical.byContradiction z3
        have e3 := (nI_eq (by omega) (by omega)).mp z3
        rw [nI_1]
        rintro v7 rfl
        refine hr hk' _ ⟨rfl, fun j hj2 => ?_⟩
        by_cases c : j = k
        · subst c; exact chr_eq e2 hkL e3.symm
        · exact hj j (by omega)
theorem x_word {D : Dy} {t L p : Nat} {b : Nat → Nat} (hT : XT D t b L) (hp : D.1 t 2 = nI p) (hpL : p ≤ L) {post : Int32 → Dy → Prop} (h1 : lc (chr b L) (wds (wsel (chr b L) p)) p = (wds (wsel (chr b L) p)).length → post (nI (wsel (chr b L) p)) (sI D t 2 (nI (p + (wds (wsel (chr b L) p)).length)))) (h0 : lc (chr b L) (wds (wsel (chr b L) p)) p < (wds (wsel (chr b L) p)).length → post (-nI 1) (sI D t 2 (nI (p + lc (chr b L) (wds (wsel (chr b L) p)) p)))) : fX9_readWord t D post := by
  have t2 := hT.2.1
  have w7 := wsel_lt (ch := chr b L) (p := p)
  have lw := wds_5 (wsel (chr b L) p)
  have ll := lc_le (ch := chr b L) (wds (wsel (chr b L) p)) p
  unfold fX9_readWord
  refine lp2_I 7 (fun k v1 v2 => v2 = nI k ∧ ∃ m, v1 = nI m ∧ m ≤ lc (chr b L) (wds (wsel (chr b L) p)) p ∧ (wsel (chr b L) p < k → m = lc (chr b L) (wds (wsel (chr b L) p)) p) ∧ ∀ i, i < k → lc (chr b L) (wds i) p < (wds i).length) (by omega) (fun k hk v1 v2 hv rec hr => ?_) ⟨rfl, 0, rfl, Nat.zero_le _, fun z => absurd z (Nat.not_lt_zero _), fun i hi => absurd hi (Nat.not_lt_zero _)⟩
  obtain ⟨rfl, m, rfl, m1, m2, m3⟩ := hv
  refine ⟨fun z => ?_, fun z => ?_⟩
  · have k7 : 7 ≤ k := (leI' (b := k) (a := 7) (by omega) (by omega)).mp z
    rintro D6 rfl
    rw [hp, nI_add, m2 (by omega)]
    exact h0 (m3 _ (by omega))
  · have k7 : k < 7 := Nat.lt_of_not_le fun y => z (nI_le (a := 7) y (by omega))
    have wa : ∀ (pp : Nat → Prop), pp k → fX9_wordAt (nI k) pp := fun pp hh => by
      unfold fX9_wordAt
      have : k = 0 ∨ k = 1 ∨ k = 2 ∨ k = 3 ∨ k = 4 ∨ k = 5 ∨ k = 6 := by omega
      rcases this with rfl | rfl | rfl | rfl | rfl | rfl | rfl
      all_goals simpa (decide := true) using hh
    refine wa _ ?_
    refine x_alike hT hp hpL k7 ?_
    have lk := lc_le (ch := chr b L) (wds k) p
    have l5 := wds_5 k
    rintro v18 rfl
    rw [wLen_is k k7]
    have eN : Int32.ofNat (wds k).length = nI (wds k).length := rfl
    rw [eN]
    refine ⟨fun z2 => ?_, fun z2 => ?_⟩
    · have nk : lc (chr b L) (wds k) p < (wds k).length := by
        refine Nat.lt_of_le_of_ne lk fun y => z2 ?_
        rw [y]
      rintro v21 rfl
      rw [nI_1]
      by_cases c : m < lc (chr b L) (wds k) p
      · rw [if_pos (nI_lt c (by omega))]
        refine hr k7 _ _ ⟨rfl, _, rfl, ?_, fun w => ?_, fun i hi => ?_⟩
        · by_cases e : k = wsel (chr b L) p
          · rw [e]; exact Nat.le_refl _
          · exact (wds_o k7 e).1
        · by_cases e : k = wsel (chr b L) p
          · rw [e]
          · have := (wds_o k7 e).1
            have := m2 (by omega)
            omega
        · by_cases e : i = k
          · rw [e]; exact nk
          · exact m3 i (by omega)
      · rw [if_neg (nI_nlt (by omega) (by omega))]
        refine hr k7 _ _ ⟨rfl, _, rfl, m1, fun w => ?_, fun i hi => ?_⟩
        · by_cases e : k = wsel (chr b L) p
          · rw [← e] at m1 ⊢; omega
          · exact m2 (by omega)
        · by_cases e : i = k
          · rw [e]; exact nk
          · exact m3 i (by omega)
    · have z2 : nI (lc (chr b L) (wds k) p) = nI (wds k).length := by first | exact z2 | exact Classical.byContradiction z2
      have e2 := (nI_eq (by omega) (by omega)).mp z2
      have e : k = wsel (chr b L) p := by
        refine Classical.byContradiction fun y => ?_
        have := (wds_o k7 y).2
        omega
      rintro D23 rfl
      rw [hp, nI_add, e2, e]
      rw [e] at e2
      exact h1 e2
