/-! ORDERS, told over the sets of the first ones: forward sums -/
def wst (N : Nat) (may : Nat → Nat → Bool) (W : Nat → Nat) (P j : Nat) : Nat → Nat := fun X => W X + sumN (fun s => if (may s P && X == (P ||| 2 ^ s)) = true then W P else 0) j
def wsq (N : Nat) (may : Nat → Nat → Bool) : Nat → Nat → Nat
  | 0 => fun X => if X = 0 then 1 else 0
  | k + 1 => wst N may (wsq N may k) k N
theorem or_ne {P s : Nat} (h : P.testBit s = false) : P < (P ||| 2 ^ s) := by
  have h1 : P ≤ P ||| 2 ^ s := Nat.left_le_or
  rcases Nat.lt_or_eq_of_le h1 with h2 | h2
  · exact h2
  · have : (P ||| 2 ^ s).testBit s = true := by rw [tb_or]; simp
    rw [← h2, h] at this; cases this
theorem or_lt {P s N : Nat} (h : P < 2 ^ N) (hs : s < N) : (P ||| 2 ^ s) < 2 ^ N := Nat.or_lt_two_pow h (Nat.pow_lt_pow_right (by decide) hs)
theorem wst_lo {N P j X : Nat} {may : Nat → Nat → Bool} {W : Nat → Nat} (hm : ∀ s P, may s P = true → P.testBit s = false) (hX : X ≤ P) : wst N may W P j X = W X := by
  unfold wst
  rw [sumN_0, Nat.add_zero]
  intro s hs
  rw [if_neg]
  intro c
  rw [Bool.and_eq_true, beq_iff_eq] at c
  have := or_ne (hm s P c.1)
  omega
theorem wsq_lo {N : Nat} {may : Nat → Nat → Bool} (hm : ∀ s P, may s P = true → P.testBit s = false) {X : Nat} : ∀ k, X ≤ k → wsq N may k X = wsq N may X X := by
  intro k hk
  induction k with
  | zero => rw [Nat.le_zero.mp hk]
  | succ k ih =>
    by_cases e : X = k + 1
    · rw [e]
    · show wst N may (wsq N may k) k N X = _
      rw [wst_lo hm (by omega), ih (by omega)]
/-- what is told behind P, once for all: 'leaf' here, T of all that may follow -/
theorem wsq_sum {N : Nat} {may : Nat → Nat → Bool} (hm : ∀ s P, may s P = true → P.testBit s = false) {T leaf : Nat → Nat} (hT : ∀ P, P < 2 ^ N - 1 → T P = leaf P + sumN (fun s => if may s P = true then T (P ||| 2 ^ s) else 0) N) : ∀ k, k ≤ 2 ^ N - 1 → sumN (fun P => wsq N may k P * (if P < k then leaf P else T P)) (2 ^ N) = T 0 := by
  have h2 := Nat.two_pow_pos N
  intro k
  induction k with
  | zero =>
    intro _
    rw [sumN_one (c := 0) h2]
    · show (if (0 : Nat) = 0 then 1 else 0) * (if 0 < 0 then leaf 0 else T 0) = T 0
      simp
    · intro P _ hP
      show (if P = 0 then 1 else 0) * _ = 0
      simp [hP]
  | succ k ih =>
    intro hk
    have ih := ih (by omega)
    have e1 : sumN (fun P => wsq N may (k + 1) P * (if P < k + 1 then leaf P else T P)) (2 ^ N) + wsq N may k k * T k = sumN (fun P => wsq N may k P * (if P < k then leaf P else T P)) (2 ^ N) + wsq N may k k * leaf k + wsq N may k k * sumN (fun s => if may s k = true then T (k ||| 2 ^ s) else 0) N := by
      have a1 : sumN (fun P => wsq N may (k + 1) P * (if P < k + 1 then leaf P else T P)) (2 ^ N) = sumN (fun P => wsq N may k P * (if P < k + 1 then leaf P else T P)) (2 ^ N) + sumN (fun P => sumN (fun s => if (may s k && P == (k ||| 2 ^ s)) = true then wsq N may k k * T (k ||| 2 ^ s) else 0) N) (2 ^ N) := by
        rw [← sumN_plus]
        refine sumN_c fun P hP => ?_
        show (wsq N may k P + sumN _ N) * _ = _
        rw [Nat.add_mul, Nat.mul_comm (sumN _ N), ← sumN_times]
        congr 1
        refine sumN_c fun s hs => ?_
        by_cases c : (may s k && P == (k ||| 2 ^ s)) = true
        · rw [if_pos c, if_pos c]
          rw [Bool.and_eq_true, beq_iff_eq] at c
          have := or_ne (hm s k c.1)
          rw [if_neg (by omega), c.2, Nat.mul_comm]
        · rw [if_neg c, if_neg c, Nat.mul_zero]
      have a2 : sumN (fun P => sumN (fun s => if (may s k && P == (k ||| 2 ^ s)) = true then wsq N may k k * T (k ||| 2 ^ s) else 0) N) (2 ^ N) = wsq N may k k * sumN (fun s => if may s k = true then T (k ||| 2 ^ s) else 0) N := by
        rw [sumN_swap, ← sumN_times]
        refine sumN_c fun s hs => ?_
        by_cases c : may s k = true
        · rw [sumN_one (c := k ||| 2 ^ s) (or_lt (by omega) hs)]
          · simp [c]
          · intro P _ hP; simp [hP]
        · rw [sumN_0]
          · simp [c]
          · intro P _; simp [c]
      have a3 : sumN (fun P => wsq N may k P * (if P < k + 1 then leaf P else T P)) (2 ^ N) + sumN (fun P => if P = k then wsq N may k k * T k else 0) (2 ^ N) = sumN (fun P => wsq N may k P * (if P < k then leaf P else T P)) (2 ^ N) + sumN (fun P => if P = k then wsq N may k k * leaf k else 0) (2 ^ N) := by
        rw [← sumN_plus, ← sumN_plus]
        refine sumN_c fun P hP => ?_
        by_cases c : P = k
        · subst c; simp; omega
        · have : P < k + 1 ↔ P < k := by omega
          simp [c, this]
      have a4 : ∀ x, sumN (fun P => if P = k then x else 0) (2 ^ N) = x := by
        intro x
        rw [sumN_one (c := k) (by omega)]
        · simp
        · intro P _ hP; simp [hP]
      rw [a4, a4] at a3
      rw [a1, a2]
      omega
    have e2 := hT k (by omega)
    rw [e2, Nat.mul_add] at e1
    omega
theorem all_unu {N P : Nat} (hP : P < 2 ^ N) : unu P N = 0 ↔ P = 2 ^ N - 1 := by
  have key : ∀ m, (unu P m = 0 ↔ ∀ i, i < m → P.testBit i = true) := by
    intro m
    induction m with
    | zero => simp [unu]
    | succ m ih =>
      rw [unu_s, Nat.add_eq_zero_iff, ih]
      constructor
      · rintro ⟨h1, h2⟩ i hi
        by_cases e : i = m
        · subst e; refine Classical.byContradiction fun z => ?_; rw [if_neg z] at h2; cases h2
        · exact h1 i (by omega)
      · intro h; exact ⟨fun i hi => h i (by omega), if_pos (h m (by omega))⟩
  rw [key]
  constructor
  · intro h
    refine Nat.eq_of_testBit_eq fun i => ?_
    rw [Nat.testBit_two_pow_sub_one]
    by_cases c : i < N
    · rw [h i c]; simp [c]
    · rw [Nat.testBit_lt_two_pow (Nat.lt_of_lt_of_le hP (Nat.pow_le_pow_right (by decide) (by omega)))]; simp [c]
  · rintro rfl i hi
    rw [Nat.testBit_two_pow_sub_one]; simp [hi]
theorem may_ex {Q : List (Nat × Nat)} {e P : Nat} (h : mayS Q e P = true) : P.testBit e = false := by
  unfold mayS at h
  cases c : P.testBit e
  · rfl
  · rw [c] at h; cases h
theorem fac_sum {P N : Nat} (hN : N ≤ 32) (h : unu P N ≠ 0) : fac (unu P N) = sumN (fun s => if P.testBit s = true then 0 else fac (unu (P ||| 2 ^ s) N)) N := by
  obtain ⟨r, hr⟩ : ∃ r, unu P N = r + 1 := ⟨unu P N - 1, by omega⟩
  have e1 : sumN (fun s => if P.testBit s = true then 0 else fac (unu (P ||| 2 ^ s) N)) N = sumN (fun s => if P.testBit s = true then 0 else fac r) N := by
    refine sumN_c fun s hs => ?_
    by_cases c : P.testBit s = true
    · rw [if_pos c, if_pos c]
    · rw [if_neg c, if_neg c, unu_put' (by simpa using c) hs, hr]; rfl
  rw [e1, ← sum_nth N hN (h := fun _ => fac r), hr]
  show (r + 1) * fac r = _
  rw [show (fun _ : Nat => fac r) = (fun k => fac r * (fun _ => 1) k) from by funext k; simp, sumN_times]
  have : ∀ m, sumN (fun _ => 1) m = m := by
    intro m; induction m with
    | zero => rfl
    | succ m ih => rw [sumN_s, ih]
  rw [this, Nat.mul_comm]
theorem wsq_bd {N : Nat} (hN : N ≤ 32) {may : Nat → Nat → Bool} (hm : ∀ s P, may s P = true → P.testBit s = false) {k P : Nat} (hk : k ≤ 2 ^ N - 1) (hP : P < 2 ^ N) : wsq N may k P ≤ fac (unu 0 N) := by
  have h2 := Nat.two_pow_pos N
  have base : ∀ k, k ≤ 2 ^ N - 1 → ∀ P, k ≤ P → P < 2 ^ N → wsq N may k P ≤ fac (unu 0 N) := by
    intro k hk P hkP hP
    have hs := wsq_sum hm (T := fun P => fac (unu P N)) (leaf := fun P => fac (unu P N) - sumN (fun s => if may s P = true then fac (unu (P ||| 2 ^ s) N) else 0) N) (by
      intro P hP
      have hu : unu P N ≠ 0 := fun z => by have := (all_unu (by omega)).mp z; omega
      have le : sumN (fun s => if may s P = true then fac (unu (P ||| 2 ^ s) N) else 0) N ≤ fac (unu P N) := by
        rw [fac_sum hN hu]
        refine sumN_le fun s hs => ?_
        by_cases c : may s P = true
        · rw [if_pos c, if_neg (by rw [hm s P c]; simp)]; exact Nat.le_refl _
        · rw [if_neg c]; exact Nat.zero_le _
      show fac (unu P N) = fac (unu P N) - _ + _
      omega) k hk
    rw [← hs]
    have h1 := sumN_mem (f := fun P => wsq N may k P * (if P < k then fac (unu P N) - sumN (fun s => if may s P = true then fac (unu (P ||| 2 ^ s) N) else 0) N else fac (unu P N))) hP
    refine Nat.le_trans ?_ h1
    skip
    rw [if_neg (by omega)]
    exact Nat.le_mul_of_pos_right _ (fac_pos _)
  by_cases c : k ≤ P
  · exact base k hk P c hP
  · rw [wsq_lo hm k (by omega)]
    exact base P (by omega) P (Nat.le_refl _) hP
/-- once more than none, it goes on so -/
theorem wsq_up {N : Nat} {may : Nat → Nat → Bool} {P s k : Nat} (hs : s < N) (hc : may s P = true) (hk : P < k) (h : 0 < wsq N may P P) : 0 < wsq N may k (P ||| 2 ^ s) := by
  have mono : ∀ k X, wsq N may k X ≤ wsq N may (k + 1) X := fun k X => Nat.le_add_right _ _
  have h1 : 0 < wsq N may (P + 1) (P ||| 2 ^ s) := by
    refine Nat.lt_of_lt_of_le ?_ (Nat.le_add_left _ _)
    refine sumN_pos.mpr ⟨s, hs, ?_⟩
    rw [if_pos (by rw [hc]; simp)]; exact h
  have : ∀ d, 0 < wsq N may (P + 1 + d) (P ||| 2 ^ s) := by
    intro d
    induction d with
    | zero => exact h1
    | succ d ih => exact Nat.lt_of_lt_of_le ih (mono _ _)
  have := this (k - P - 1)
  rwa [show P + 1 + (k - P - 1) = k by omega] at this
theorem sB_le {Q : List (Nat × Nat)} {N P : Nat} : sB Q N P ≤ fac (unu P N) := by
  unfold sB
  have h1 : sumN (fun v => if okL Q P (ord (unu P N) P v) = true then 1 else 0) (fac (unu P N)) ≤ sumN (fun _ => 1) (fac (unu P N)) := sumN_le fun v _ => by split <;> omega
  have : ∀ m, sumN (fun _ => 1) m = m := by
    intro m; induction m with
    | zero => rfl
    | succ m ih => rw [sumN_s, ih]
  rw [this] at h1; exact h1
theorem wsq_B {Q : List (Nat × Nat)} {N : Nat} (hN : N ≤ 32) : wsq N (mayS Q) (2 ^ N - 1) (2 ^ N - 1) = sB Q N 0 := by
  have h2 := Nat.two_pow_pos N
  have hs := wsq_sum (N := N) (may := mayS Q) (fun _ _ => may_ex) (T := sB Q N) (leaf := fun _ => 0) (by
    intro P hP
    have hu : unu P N ≠ 0 := fun z => by have := (all_unu (by omega)).mp z; omega
    rw [Nat.zero_add]
    exact sB_rec hN hu) (2 ^ N - 1) (Nat.le_refl _)
  rw [← hs, sumN_one (c := 2 ^ N - 1) (by omega)]
  · rw [if_neg (by omega), sB_all ((all_unu (by omega)).mpr rfl), Nat.mul_one]
  · intro P hP hne
    rw [if_pos (by omega), Nat.mul_zero]
/-- those that take s of S, told at the set ahead of s -/
theorem wsq_T {Q : List (Nat × Nat)} {N S s0 : Nat} (hN : N ≤ 31) (hS : S &&& (2 ^ N - 1) ≠ 0) (hs0 : s0 < N) (hb : S.testBit s0 = true) : sumN (fun P => if P &&& S = 0 ∧ mayS Q s0 P = true then wsq N (mayS Q) (2 ^ N - 1) P * sB Q N (P ||| 2 ^ s0) else 0) (2 ^ N - 1) = tkS Q N S s0 0 := by
  have h2 := Nat.two_pow_pos N
  have dj : ∀ P e, ((P ||| 2 ^ e) &&& S = 0) ↔ (P &&& S = 0 ∧ S.testBit e = false) := by
    intro P e
    rw [Nat.and_comm]
    have := and_or2 (a := S) (P := P) (e := e)
    rw [Nat.and_comm P S]
    by_cases x : S &&& (P ||| 2 ^ e) = 0
    · have z : ¬ (S &&& P ≠ 0 ∨ S.testBit e = true) := fun w => this.mpr w x
      refine ⟨fun _ => ⟨Classical.byContradiction fun w => z (Or.inl w), ?_⟩, fun _ => x⟩
      cases w : S.testBit e
      · rfl
      · exact absurd (Or.inr w) z
    · refine ⟨fun w => absurd w x, fun w => ?_⟩
      rcases this.mp x with y | y
      · exact absurd w.1 y
      · rw [w.2] at y; cases y
  have hs := wsq_sum (N := N) (may := mayS Q) (fun _ _ => may_ex) (T := fun P => if P &&& S = 0 then tkS Q N S s0 P else 0) (leaf := fun P => if P &&& S = 0 ∧ mayS Q s0 P = true then sB Q N (P ||| 2 ^ s0) else 0) (by
    intro P hP
    have hu : unu P N ≠ 0 := fun z => by have := (all_unu (by omega)).mp z; omega
    by_cases c : P &&& S = 0
    · skip
      rw [if_pos c, tkS_rec (by omega) hu]
      have e1 : ∀ s, s < N → (if mayS Q s P = true then (if S.testBit s = true then (if s = s0 then sB Q N (P ||| 2 ^ s) else 0) else tkS Q N S s0 (P ||| 2 ^ s)) else 0) = (if s = s0 then (if mayS Q s P = true then sB Q N (P ||| 2 ^ s) else 0) else 0) + (if mayS Q s P = true then (if (P ||| 2 ^ s) &&& S = 0 then tkS Q N S s0 (P ||| 2 ^ s) else 0) else 0) := by
        intro s hs
        have dd := dj P s
        by_cases m : mayS Q s P = true
        · by_cases b : S.testBit s = true
          · have : ¬ ((P ||| 2 ^ s) &&& S = 0) := fun z => by rw [(dd.mp z).2] at b; cases b
            simp [m, b, this]
          · have b' : S.testBit s = false := by simpa using b
            have : (P ||| 2 ^ s) &&& S = 0 := dd.mpr ⟨c, b'⟩
            have ne : s ≠ s0 := fun z => by rw [z, hb] at b'; cases b'
            simp [m, b', this, ne]
        · simp [m]
      rw [sumN_c e1, sumN_plus]
      congr 1
      rw [sumN_one (c := s0) hs0]
      · simp [c]
      · intro s _ hne; simp [hne]
    · skip
      rw [if_neg c, if_neg (fun z => c z.1), sumN_0]
      intro s hs
      have : ¬ ((P ||| 2 ^ s) &&& S = 0) := fun z => c ((dj P s).mp z).1
      simp [this]) (2 ^ N - 1) (Nat.le_refl _)
  skip
  rw [Nat.zero_and, if_pos rfl] at hs
  rw [← hs, show (2 : Nat) ^ N = (2 ^ N - 1) + 1 by omega, sumN_s, show 2 ^ N - 1 + 1 - 1 = 2 ^ N - 1 by omega]
  have e9 : ¬ ((2 ^ N - 1) &&& S = 0) := by rw [Nat.and_comm]; exact hS
  rw [if_neg (by omega), if_neg e9, Nat.mul_zero, Nat.add_zero]
  refine sumN_c fun P hP => ?_
  rw [if_pos hP]
  by_cases c : P &&& S = 0 ∧ mayS Q s0 P = true
  · rw [if_pos c, if_pos c]
  · rw [if_neg c, if_neg c, Nat.mul_zero]
theorem tkS_le {Q : List (Nat × Nat)} {N S s P : Nat} : tkS Q N S s P ≤ sB Q N P := by
  unfold tkS sB
  refine sumN_le fun v _ => ?_
  cases okL Q P (ord (unu P N) P v)
  · simp
  · simp; split <;> omega
