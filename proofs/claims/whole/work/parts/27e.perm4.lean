/-! the fewest that a row breaks, told over the sets of the first ones -/
def mn1 (f : Nat → Nat) : Nat → Nat
  | 0 => f 0
  | k + 1 => min (mn1 f k) (f (k + 1))
theorem mn1_le {f : Nat → Nat} {k : Nat} : ∀ n, k ≤ n → mn1 f n ≤ f k
  | 0, h => by rw [Nat.le_zero.mp h]; exact Nat.le_refl _
  | n + 1, h => by
    show min _ _ ≤ _
    by_cases e : k = n + 1
    · rw [e]; exact Nat.min_le_right _ _
    · exact Nat.le_trans (Nat.min_le_left _ _) (mn1_le n (by omega))
theorem mn1_at {f : Nat → Nat} : ∀ n, ∃ k, k ≤ n ∧ f k = mn1 f n
  | 0 => ⟨0, Nat.le_refl _, rfl⟩
  | n + 1 => by
    obtain ⟨k, h1, h2⟩ := mn1_at (f := f) n
    by_cases c : mn1 f n ≤ f (n + 1)
    · exact ⟨k, by omega, by rw [h2]; exact (Nat.min_eq_left c).symm⟩
    · exact ⟨n + 1, by omega, (Nat.min_eq_right (by omega)).symm⟩
def brk (Q : List (Nat × Nat)) (s P : Nat) : Nat := Q.countP fun q => q.1 == s && (q.2 &&& P != 0)
def mnS (Q : List (Nat × Nat)) (N P : Nat) : Nat := mn1 (fun v => cst Q P (ord (unu P N) P v)) (fac (unu P N) - 1)
theorem mnS_all {Q : List (Nat × Nat)} {N P : Nat} (h : unu P N = 0) : mnS Q N P = 0 := by
  unfold mnS; rw [h]; rfl
theorem mnS_le {Q : List (Nat × Nat)} {N P s : Nat} (hN : N ≤ 32) (hs : s < N) (h : P.testBit s = false) : mnS Q N P ≤ brk Q s P + mnS Q N (P ||| 2 ^ s) := by
  have hp := (unu_put (N := N) h).2 hs
  obtain ⟨r, hr⟩ : ∃ r, unu P N = r + 1 := ⟨unu P N - 1, by omega⟩
  have hu : unu (P ||| 2 ^ s) N = r := by rw [unu_put' h hs, hr]; rfl
  obtain ⟨v, hv, e⟩ := mn1_at (f := fun v => cst Q (P ||| 2 ^ s) (ord r (P ||| 2 ^ s) v)) (fac r - 1)
  have fp := fac_pos r
  obtain ⟨m1, m2⟩ := ord_mk hN hs h hr (v := v) (by omega)
  unfold mnS
  rw [hr, hu, ← e]
  refine Nat.le_trans (mn1_le (k := unu P s * fac r + v) _ (by omega)) ?_
  rw [m2]
  exact Nat.le_refl _
theorem mnS_at {Q : List (Nat × Nat)} {N P : Nat} (hN : N ≤ 32) (h : unu P N ≠ 0) : ∃ s, s < N ∧ P.testBit s = false ∧ brk Q s P + mnS Q N (P ||| 2 ^ s) ≤ mnS Q N P := by
  obtain ⟨r, hr⟩ : ∃ r, unu P N = r + 1 := ⟨unu P N - 1, by omega⟩
  obtain ⟨v, hv, e⟩ := mn1_at (f := fun v => cst Q P (ord (r + 1) P v)) (fac (r + 1) - 1)
  have fp := fac_pos (r + 1)
  obtain ⟨s, v', h1, h2, h3, h4⟩ := ord_fst hN hr (v := v) (by omega)
  have hu : unu (P ||| 2 ^ s) N = r := by rw [unu_put' h2 h1, hr]; rfl
  refine ⟨s, h1, h2, ?_⟩
  unfold mnS
  rw [hr, hu, ← e]
  skip
  rw [h4]
  exact Nat.add_le_add_left (mn1_le (k := v') _ (by omega)) _
def lst (Q : List (Nat × Nat)) (L : Nat → Nat) (P : Nat) : Nat → (Nat → Nat)
  | 0 => L
  | j + 1 => fun X => if P.testBit j = false ∧ X = (P ||| 2 ^ j) then min (L P + brk Q j P) (lst Q L P j X) else lst Q L P j X
def lsq (Q : List (Nat × Nat)) (N : Nat) : Nat → (Nat → Nat)
  | 0 => fun X => if X = 0 then 0 else 80
  | k + 1 => lst Q (lsq Q N k) k N
theorem lst_le {Q : List (Nat × Nat)} {L : Nat → Nat} {P X : Nat} : ∀ j, lst Q L P j X ≤ L X
  | 0 => Nat.le_refl _
  | j + 1 => by
    have := lst_le (Q := Q) (L := L) (P := P) (X := X) j
    show (if _ then _ else _) ≤ _
    split
    · exact Nat.le_trans (Nat.min_le_right _ _) this
    · exact this
theorem lst_lo {Q : List (Nat × Nat)} {L : Nat → Nat} {P X : Nat} (h : X ≤ P) : ∀ j, lst Q L P j X = L X
  | 0 => rfl
  | j + 1 => by
    show (if _ then _ else _) = _
    rw [if_neg, lst_lo h j]
    rintro ⟨h1, h2⟩
    have := or_ne h1
    omega
theorem lst_put {Q : List (Nat × Nat)} {L : Nat → Nat} {P s : Nat} (h : P.testBit s = false) : ∀ j, s < j → lst Q L P j (P ||| 2 ^ s) ≤ L P + brk Q s P
  | 0, h0 => absurd h0 (by omega)
  | j + 1, hj => by
    show (if _ then _ else _) ≤ _
    by_cases e : s = j
    · subst e
      rw [if_pos ⟨h, rfl⟩]; exact Nat.min_le_left _ _
    · have := lst_put (Q := Q) (L := L) h j (by omega)
      split
      · exact Nat.le_trans (Nat.min_le_right _ _) this
      · exact this
theorem lst_or {Q : List (Nat × Nat)} {L : Nat → Nat} {P X : Nat} : ∀ j, lst Q L P j X = L X ∨ ∃ s, s < j ∧ P.testBit s = false ∧ X = (P ||| 2 ^ s) ∧ lst Q L P j X = L P + brk Q s P
  | 0 => Or.inl rfl
  | j + 1 => by
    by_cases c : P.testBit j = false ∧ X = (P ||| 2 ^ j)
    · have e : lst Q L P (j + 1) X = min (L P + brk Q j P) (lst Q L P j X) := if_pos c
      by_cases d : L P + brk Q j P ≤ lst Q L P j X
      · exact Or.inr ⟨j, by omega, c.1, c.2, by rw [e, Nat.min_eq_left d]⟩
      · rw [e, Nat.min_eq_right (by omega)]
        rcases lst_or (Q := Q) (L := L) (P := P) (X := X) j with h | ⟨s, h1, h2, h3, h4⟩
        · exact Or.inl h
        · exact Or.inr ⟨s, by omega, h2, h3, h4⟩
    · have e : lst Q L P (j + 1) X = lst Q L P j X := if_neg c
      rw [e]
      rcases lst_or (Q := Q) (L := L) (P := P) (X := X) j with h | ⟨s, h1, h2, h3, h4⟩
      · exact Or.inl h
      · exact Or.inr ⟨s, by omega, h2, h3, h4⟩
theorem lsq_80 {Q : List (Nat × Nat)} {N X : Nat} : ∀ k, lsq Q N k X ≤ 80
  | 0 => by show (if X = 0 then 0 else 80) ≤ 80; split <;> omega
  | k + 1 => Nat.le_trans (lst_le N) (lsq_80 k)
theorem lsq_inv {Q : List (Nat × Nat)} {N : Nat} (hN : N ≤ 32) : ∀ k, k ≤ 2 ^ N - 1 → (∀ P, k ≤ P → P < 2 ^ N → min 80 (mnS Q N 0) ≤ lsq Q N k P + mnS Q N P) ∧ ∃ P, k ≤ P ∧ P < 2 ^ N ∧ lsq Q N k P + mnS Q N P ≤ mnS Q N 0 := by
  have h2 := Nat.two_pow_pos N
  intro k
  induction k with
  | zero =>
    intro _
    refine ⟨fun P _ _ => ?_, 0, Nat.le_refl _, h2, ?_⟩
    · show _ ≤ (if P = 0 then 0 else 80) + _
      by_cases e : P = 0
      · rw [e]; simp; omega
      · rw [if_neg e]; omega
    · show (if (0 : Nat) = 0 then 0 else 80) + _ ≤ _
      simp
  | succ k ih =>
    intro hk
    obtain ⟨i1, P0, i2, i3, i4⟩ := ih (by omega)
    have hu : unu k N ≠ 0 := fun z => by have := (all_unu (by omega)).mp z; omega
    constructor
    · intro P hkP hP
      rcases lst_or (Q := Q) (L := lsq Q N k) (P := k) (X := P) N with h | ⟨s, h1, h2', h3, h4⟩
      · show _ ≤ lst Q (lsq Q N k) k N P + _
        rw [h]; exact i1 P (by omega) hP
      · show _ ≤ lst Q (lsq Q N k) k N P + _
        have a := mnS_le (Q := Q) hN h1 h2'
        have b := i1 k (Nat.le_refl _) (by omega)
        rw [h4, h3]; omega
    · by_cases c : P0 = k
      · subst c
        obtain ⟨s, s1, s2, s3⟩ := mnS_at (Q := Q) hN hu
        have a := or_ne s2
        have b := lst_put (Q := Q) (L := lsq Q N P0) s2 N s1
        refine ⟨P0 ||| 2 ^ s, by omega, or_lt (by omega) s1, ?_⟩
        show lst Q (lsq Q N P0) P0 N _ + _ ≤ _
        omega
      · have b := lst_le (Q := Q) (L := lsq Q N k) (P := k) (X := P0) N
        refine ⟨P0, by omega, i3, ?_⟩
        show lst Q (lsq Q N k) k N _ + _ ≤ _
        omega
theorem lsq_M {Q : List (Nat × Nat)} {N : Nat} (hN : N ≤ 32) : lsq Q N (2 ^ N - 1) (2 ^ N - 1) = min 80 (mnS Q N 0) := by
  have h2 := Nat.two_pow_pos N
  obtain ⟨i1, P, i2, i3, i4⟩ := lsq_inv (Q := Q) hN (2 ^ N - 1) (Nat.le_refl _)
  have e : P = 2 ^ N - 1 := by omega
  subst e
  have a := i1 (2 ^ N - 1) (Nat.le_refl _) (by omega)
  have z : mnS Q N (2 ^ N - 1) = 0 := mnS_all ((all_unu (by omega)).mpr rfl)
  have b := lsq_80 (Q := Q) (N := N) (X := 2 ^ N - 1) (2 ^ N - 1)
  omega
theorem lsq_lo {Q : List (Nat × Nat)} {N X : Nat} : ∀ k, X ≤ k → lsq Q N k X = lsq Q N X X := by
  intro k hk
  induction k with
  | zero => rw [Nat.le_zero.mp hk]
  | succ k ih =>
    by_cases e : X = k + 1
    · rw [e]
    · show lst Q (lsq Q N k) k N X = _
      rw [lst_lo (by omega), ih (by omega)]
