/-! takes, the most, the bits; the fewest -/
def mxN (f : Nat → Nat) : Nat → Nat
  | 0 => 0
  | k + 1 => max (mxN f k) (f k)
theorem mxN_le {f : Nat → Nat} {b : Nat} : ∀ n, (∀ k, k < n → f k ≤ b) → mxN f n ≤ b
  | 0, _ => Nat.zero_le _
  | n + 1, h => Nat.max_le.mpr ⟨mxN_le n fun k hk => h k (by omega), h n (by omega)⟩
/-- the rows that take s of a set, none for what is not in it -/
def tkA (Q : List (Nat × Nat)) (N S s : Nat) : Nat := if S.testBit s = true then tkS Q N S s 0 else 0
theorem sB_5040 {Q : List (Nat × Nat)} {n : Nat} (hn : n ≤ 6) : sB Q (n + 1) 0 ≤ 5040 := by
  have := sB_le (Q := Q) (N := n + 1) (P := 0)
  rw [unu0] at this
  exact Nat.le_trans this (fac7 (by omega))
theorem tkA_5040 {Q : List (Nat × Nat)} {n S s : Nat} (hn : n ≤ 6) : tkA Q (n + 1) S s ≤ 5040 := by
  unfold tkA
  split
  · exact Nat.le_trans tkS_le (sB_5040 hn)
  · omega
theorem x_takes {D : Dy} {n S : Nat} {Q : List (Nat × Nat)} (hn : n ≤ 6) (hS : S < 2 ^ n) (hA : AH D n Q) (hW : ∀ X, X < 2 ^ (n + 1) → D.1 18 X = nI (wsq (n + 1) (mayS Q) (2 ^ (n + 1) - 1) X) ∧ (wsq (n + 1) (mayS Q) (2 ^ (n + 1) - 1) X ≠ 0 → D.1 19 X = nI (sB Q (n + 1) X))) {post : Dy → Prop} (hp : ∀ D', frI 20 20 D D' → (∀ s, s < n + 1 → D'.1 20 s = nI (tkA Q (n + 1) (S ||| 2 ^ n) s)) → post D') : fX6_countTakes (nI S) D post := by
  have pw := pw6 hn
  have pw7 : 2 ^ (n + 1) ≤ 128 := Nat.pow_le_pow_right (n := 2) (by decide) (show n + 1 ≤ 7 by omega)
  have pw2 : 2 ≤ 2 ^ (n + 1) := Nat.pow_le_pow_right (n := 2) (i := 1) (by decide) (by omega)
  have hT : ∀ s0, s0 < n + 1 → (S ||| 2 ^ n).testBit s0 = true → sumN (fun P => if P &&& (S ||| 2 ^ n) = 0 ∧ mayS Q s0 P = true then wsq (n + 1) (mayS Q) (2 ^ (n + 1) - 1) P * sB Q (n + 1) (P ||| 2 ^ s0) else 0) (2 ^ (n + 1) - 1) = tkS Q (n + 1) (S ||| 2 ^ n) s0 0 := fun s0 h1 h2 => wsq_T (by omega) (by
    intro z
    have := congrArg (fun x => x.testBit n) z
    simp only [Nat.testBit_and, Nat.testBit_or, Nat.testBit_two_pow_self, Nat.testBit_two_pow_sub_one, Nat.zero_testBit] at this
    simp at this) h1 h2
  have hlt : ∀ {X : Nat}, X < 2 ^ (n + 1) ↔ X ≤ 2 ^ (n + 1) - 1 := by intro X; omega
  have hO : (S ||| 2 ^ n) < 2 ^ (n + 1) := Nat.or_lt_two_pow (Nat.lt_of_lt_of_le hS (Nat.pow_le_pow_right (by decide) (by omega))) (Nat.pow_lt_pow_right (by decide) (by omega))
  generalize hM : 2 ^ (n + 1) - 1 = M at *
  have hM1 : 2 ^ (n + 1) = M + 1 := by omega
  generalize hOO : S ||| 2 ^ n = O at *
  unfold fX6_countTakes fX6_withNothing
  rw [hA.1]
  have ev : (1 <<< (nI (n + 1) &&& 31)) - 1 = nI M := by rw [n1, shl' (by omega), hM1, sub' (by omega)]; rfl
  have eo : nI S ||| 1 <<< ((nI (n + 1) - 1) &&& 31) = nI O := by rw [n1, sub' (by omega), show n + 1 - 1 = n by omega, shl' (by omega), nI_or, hOO]
  rw [ev, eo]
  rintro v6 rfl
  refine lp2_I (n + 1) (fun k x D' => x = nI k ∧ frI 20 20 D D' ∧ ∀ s, s < k → D'.1 20 s = nI 0) (by omega) (fun k hk x D' hpp rec hr => ?_) ⟨rfl, frI_r, fun X hX => by omega⟩
  obtain ⟨rfl, p1, p2⟩ := hpp
  have A1 := AH_f hA (frI_w p1 (by omega) (by omega))
  rw [A1.1]
  by_cases e : k = n + 1
  · subst e
    refine ⟨fun _ => ?_, fun z => absurd (Int32.le_refl _) z⟩
    let g := fun s P => if P &&& O = 0 ∧ mayS Q s P = true then wsq (n + 1) (mayS Q) M P * sB Q (n + 1) (P ||| 2 ^ s) else 0
    have hg : ∀ s P, g s P = if P &&& O = 0 ∧ mayS Q s P = true then wsq (n + 1) (mayS Q) M P * sB Q (n + 1) (P ||| 2 ^ s) else 0 := fun _ _ => rfl
    refine lp2_I M (fun k x D' => x = nI k ∧ frI 20 20 D D' ∧ ∀ s, s < n + 1 → D'.1 20 s = nI (if O.testBit s = true then sumN (g s) k else 0)) (by omega) (fun k hk x D' hpp rec hr => ?_) ⟨rfl, p1, fun s hs => by rw [p2 s hs]; split <;> rfl⟩
    obtain ⟨rfl, r1, r2⟩ := hpp
    by_cases e : k = M
    · subst e
      refine ⟨fun _ => hp D' r1 fun s hs => ?_, fun z => absurd (Int32.le_refl _) z⟩
      rw [r2 s hs]
      unfold tkA
      by_cases b : O.testBit s = true
      · rw [if_pos b, if_pos b, ← hT s hs b]
      · rw [if_neg b, if_neg b]
    · have hk' : k < M := by omega
      have hr := hr hk'
      have wb := wbd (Q := Q) (k := M) (P := k) hn (by omega) (by omega)
      refine ⟨fun z => absurd z (nI_ge hk' (by omega)), fun _ => ?_⟩
      refine JN_1 (fun D'' => frI 20 20 D D'' ∧ ∀ s, s < n + 1 → D''.1 20 s = nI (if O.testBit s = true then sumN (g s) (k + 1) else 0)) (fun D'' hD => ?_) (fun K hK => ?_)
      · rintro v21 rfl
        rw [nI_1]
        exact hr _ _ ⟨rfl, hD.1, hD.2⟩
      · have skip : (∀ s, s < n + 1 → g s k = 0) → K D' := fun h0 => hK _ ⟨r1, fun s hs => by rw [r2 s hs, sumN_s, h0 s hs]; rfl⟩
        rw [nI_and]
        have ha : k &&& O < 2 ^ 31 := Nat.lt_of_le_of_lt Nat.and_le_left (by omega)
        refine ⟨fun z => skip fun s hs => ?_, fun z => ⟨nI_in (by omega) (by omega), ?_⟩⟩
        · rw [hg, if_neg]
          intro y; exact z (by rw [y.1]; rfl)
        · have z0 : k &&& O = 0 := (nI_eq (b := 0) ha (by omega)).mp z
          rw [nI_clamp (by omega), r1.2 _ _ (by omega), (hW k (by omega)).1]
          refine ⟨fun y => ?_, fun y => skip fun s hs => ?_⟩
          · have hw : 0 < wsq (n + 1) (mayS Q) M k := Nat.pos_of_ne_zero fun y2 => by
              rw [y2] at y
              first | exact y rfl | exact absurd y (fun z => z rfl)
            refine lp2_I (n + 1) (fun j y D'' => y = nI j ∧ frI 20 20 D D'' ∧ ∀ s, s < n + 1 → D''.1 20 s = nI (if O.testBit s = true then sumN (g s) k + (if s < j then g s k else 0) else 0)) (by omega) (fun j hj y D'' hjj rec2 hr2 => ?_) ⟨rfl, r1, fun s hs => by rw [r2 s hs, if_neg (show ¬ s < 0 by omega)]; rfl⟩
            obtain ⟨rfl, q1, q2⟩ := hjj
            have A3 := AH_f hA (frI_w q1 (by omega) (by omega))
            rw [A3.1]
            by_cases c : j = n + 1
            · subst c
              exact ⟨fun _ => hK _ ⟨q1, fun s hs => by rw [q2 s hs, if_pos hs]; rfl⟩, fun z => absurd (Int32.le_refl _) z⟩
            · have hj' : j < n + 1 := by omega
              have hr2 := hr2 hj'
              have keep : (O.testBit j = true → g j k = 0) → ∀ v38 : Int32, v38 = nI j + 1 → rec2 v38 D'' := by
                rintro h0 v38 rfl
                rw [nI_1]
                refine hr2 _ _ ⟨rfl, q1, fun s hs => ?_⟩
                rw [q2 s hs]
                by_cases b : O.testBit s = true
                · rw [if_pos b, if_pos b]
                  by_cases e2 : s = j
                  · subst e2; rw [if_neg (by omega), if_pos (by omega), h0 b]
                  · by_cases e3 : s < j
                    · rw [if_pos e3, if_pos (by omega)]
                    · rw [if_neg e3, if_neg (by omega)]
                · rw [if_neg b, if_neg b]
              refine ⟨fun z => absurd z (nI_ge hj' (by omega)), fun _ => ?_⟩
              rw [isIn' (by omega) (by omega)]
              by_cases b : O.testBit j = true
              · rw [b]
                refine ⟨fun z => absurd z (by decide), fun _ => ?_⟩
                rw [x_may hn hj' (by omega) (A3.2.1 j (by omega)) A3.2.2]
                by_cases m : mayS Q j k = true
                · rw [m]
                  have hl : (k ||| 2 ^ j) < 2 ^ (n + 1) := or_lt (by omega) hj'
                  have hup : wsq (n + 1) (mayS Q) M (k ||| 2 ^ j) ≠ 0 := by
                    have := wsq_up (N := n + 1) (may := mayS Q) (k := M) hj' m hk' (by rwa [wsq_lo (fun _ _ => may_ex) M (by omega)] at hw)
                    omega
                  refine ⟨fun z => absurd z (by decide), fun _ => ⟨nI_in (by omega) (by omega), nI_in (by omega) (by omega), ?_⟩⟩
                  rw [n1, shl' (by omega), nI_or]
                  refine ⟨nI_in (by omega) (by omega), nI_in (by omega) (by omega), ?_⟩
                  rintro D47 rfl v38 rfl
                  rw [nI_add]
                  refine hr2 _ _ ⟨rfl, frI_s q1 (by omega), fun s hs => ?_⟩
                  rw [nI_clamp (n := j) (by omega), nI_clamp (n := k ||| 2 ^ j) (by omega), sI_1]
                  by_cases e2 : s = j
                  · subst e2
                    rw [if_pos ⟨rfl, rfl⟩, q2 s hs, if_pos b, if_pos b, if_neg (by omega), if_pos (by omega), q1.2 18 _ (by omega), q1.2 19 _ (by omega), (hW k (by omega)).1, (hW _ hl).2 hup, nI_mul, nI_add, hg, if_pos ⟨z0, m⟩]; rfl
                  · rw [if_neg (fun z => e2 z.2), q2 s hs]
                    by_cases bs : O.testBit s = true
                    · rw [if_pos bs, if_pos bs]
                      by_cases e3 : s < j
                      · rw [if_pos e3, if_pos (by omega)]
                      · rw [if_neg e3, if_neg (by omega)]
                    · rw [if_neg bs, if_neg bs]
                · have m' : mayS Q j k = false := by simpa using m
                  rw [m']
                  refine ⟨fun _ => keep fun _ => ?_, fun z => absurd rfl z⟩
                  rw [hg, if_neg (fun z => m z.2)]
              · have b' : O.testBit j = false := by simpa using b
                rw [b']
                exact ⟨fun _ => keep fun z => absurd z b, fun z => absurd rfl z⟩
          · have w0 : wsq (n + 1) (mayS Q) M k = 0 := (nI_eq (b := 0) (by omega) (by omega)).mp y
            rw [hg, w0, Nat.zero_mul]; split <;> rfl
  · have hk' : k < n + 1 := by omega
    have hr := hr hk'
    refine ⟨fun z => absurd z (nI_ge hk' (by omega)), fun _ => ⟨nI_in (by omega) (by omega), ?_⟩⟩
    rintro D49 rfl v51 rfl
    rw [nI_1, nI_clamp (by omega)]
    refine hr _ _ ⟨rfl, frI_s p1 (by omega), fun s hs => ?_⟩
    rw [sI_1]
    by_cases x : s = k
    · rw [if_pos ⟨rfl, x⟩]; rfl
    · rw [if_neg (fun z => x z.2)]; exact p2 s (by omega)
