/-! ways and rests -/
def frI (p q : Nat) (D D' : Dy) : Prop := D'.2 = D.2 ∧ ∀ b x, b < p ∨ q < b → D'.1 b x = D.1 b x
theorem frI_r {p q : Nat} {D : Dy} : frI p q D D := ⟨rfl, fun _ _ _ => rfl⟩
theorem frI_t {p q : Nat} {D D' D'' : Dy} (h : frI p q D D') (h' : frI p q D' D'') : frI p q D D'' := ⟨h'.1.trans h.1, fun b x hb => (h'.2 b x hb).trans (h.2 b x hb)⟩
theorem frI_s {p q : Nat} {D D' : Dy} {a k : Nat} {v : Int32} (h : frI p q D D') (ha : p ≤ a ∧ a ≤ q) : frI p q D (sI D' a k v) := ⟨h.1, fun b x hb => by rw [sI_1, if_neg (by omega)]; exact h.2 b x hb⟩
theorem frI_w {p q p' q' : Nat} {D D' : Dy} (h : frI p q D D') (h1 : p' ≤ p) (h2 : q ≤ q') : frI p' q' D D' := ⟨h.1, fun b x hb => h.2 b x (by omega)⟩
def AH (D : Dy) (n : Nat) (Q : List (Nat × Nat)) : Prop := D.1 14 0 = nI (n + 1) ∧ (∀ s, s < 7 → D.1 15 s = nI (ahd s Q)) ∧ QOK (n + 1) Q
theorem AH_f {D D' : Dy} {n : Nat} {Q : List (Nat × Nat)} (h : AH D n Q) (f : frI 18 20 D D') : AH D' n Q := ⟨by rw [f.2 _ _ (by omega)]; exact h.1, fun s hs => by rw [f.2 _ _ (by omega)]; exact h.2.1 s hs, h.2.2⟩
theorem unu0 : ∀ m, unu 0 m = m
  | 0 => rfl
  | m + 1 => by rw [unu_s, unu0 m, Nat.zero_testBit]; rfl
theorem wbd {Q : List (Nat × Nat)} {n k P : Nat} (hn : n ≤ 6) (hk : k ≤ 2 ^ (n + 1) - 1) (hP : P < 2 ^ (n + 1)) : wsq (n + 1) (mayS Q) k P ≤ 5040 := by
  have h := wsq_bd (N := n + 1) (may := mayS Q) (by omega) (fun _ _ => may_ex) hk hP
  rw [unu0] at h
  exact Nat.le_trans h (fac7 (by omega))
theorem x_rests {D : Dy} {n : Nat} {Q : List (Nat × Nat)} (hn : n ≤ 6) (hA : AH D n Q) (hW : ∀ X, X < 2 ^ (n + 1) → D.1 18 X = nI (wsq (n + 1) (mayS Q) (2 ^ (n + 1) - 1) X)) {post : Dy → Prop} (hp : ∀ D', frI 19 19 D D' → (∀ X, X < 2 ^ (n + 1) → wsq (n + 1) (mayS Q) (2 ^ (n + 1) - 1) X ≠ 0 → D'.1 19 X = nI (sB Q (n + 1) X)) → post D') : fX6_countRests (nI (2 ^ (n + 1) - 1)) D post := by
  have pw7 : 2 ^ (n + 1) ≤ 128 := Nat.pow_le_pow_right (n := 2) (by decide) (show n + 1 ≤ 7 by omega)
  have pw2 : 2 ≤ 2 ^ (n + 1) := Nat.pow_le_pow_right (n := 2) (i := 1) (by decide) (by omega)
  generalize hM : 2 ^ (n + 1) - 1 = M at *
  have hM1 : 2 ^ (n + 1) = M + 1 := by omega
  unfold fX6_countRests
  refine ⟨nI_in (by omega) (by omega), ?_⟩
  rintro D1 rfl v3 rfl
  rw [nI_clamp (by omega), n1, dn_0 (by omega)]
  refine lp2_I M (fun k x D' => x = dn M k ∧ frI 19 19 D D' ∧ ∀ X, M - k ≤ X → X < 2 ^ (n + 1) → wsq (n + 1) (mayS Q) M X ≠ 0 → D'.1 19 X = nI (sB Q (n + 1) X)) (by omega) (fun k hk x D' hpp rec hr => ?_) ⟨rfl, frI_s frI_r (by omega), fun X h1 h2 _ => ?_⟩
  · obtain ⟨rfl, p1, p2⟩ := hpp
    by_cases e : k = M
    · subst e
      have e1 := dn_neg (n := k) (k := k) (by omega)
      exact ⟨fun _ => hp D' p1 fun X hX hne => p2 X (by omega) hX hne, fun z => absurd e1 z⟩
    · have hk' : k < M := by omega
      have hr := hr hk'
      rw [dn_lt hk']
      generalize hP : M - 1 - k = P at *
      have hPM : P < M := by omega
      refine ⟨fun z => absurd z (nI_pos (by omega)), fun _ => ⟨nI_in (by omega) (by omega), ?_⟩⟩
      rintro D10 rfl
      rw [nI_clamp (by omega)]
      have e18 : ∀ D'', frI 19 19 D D'' → ∀ X, X < 2 ^ (n + 1) → D''.1 18 X = nI (wsq (n + 1) (mayS Q) M X) := fun D'' f X hX => by rw [f.2 _ _ (by omega)]; exact hW X hX
      have wb := wbd (Q := Q) (k := M) (P := P) hn (by omega) (by omega)
      refine lp2_I (n + 1) (fun j y D'' => y = nI j ∧ frI 19 19 D D'' ∧ (∀ X, P < X → D''.1 19 X = D'.1 19 X) ∧ (0 < wsq (n + 1) (mayS Q) M P → D''.1 19 P = nI (sumN (fun s => if mayS Q s P = true then sB Q (n + 1) (P ||| 2 ^ s) else 0) j))) (by omega) (fun j hj y D'' hjj rec2 hr2 => ?_) ⟨rfl, frI_s p1 (by omega), fun X hX => by rw [sI_1, if_neg (by omega)], fun _ => by rw [sI_1, if_pos ⟨rfl, rfl⟩]; rfl⟩
      obtain ⟨rfl, q1, q2, q3⟩ := hjj
      have A2 := AH_f hA (frI_w q1 (by omega) (by omega))
      rw [A2.1]
      refine JN_i (wsq (n + 1) (mayS Q) M P = 0 ∨ j = n + 1) (fun hq => ?_) (fun K hK => ?_)
      · rintro v18 rfl
        have ed : nI P + -nI 1 = dn M (k + 1) := by rw [← hP]; exact dn_s (by omega) hk'
        rw [ed]
        refine hr _ _ ⟨rfl, q1, fun X h1 h2 hne => ?_⟩
        by_cases c : P < X
        · rw [q2 X c]; exact p2 X (by omega) h2 hne
        · have : X = P := by omega
          subst this
          rcases hq with hq | hq
          · exact absurd hq hne
          · rw [q3 (by omega), hq, sB_rec (by omega) (fun z => by have := (all_unu h2).mp z; omega)]
      · by_cases c : j = n + 1
        · subst c
          exact ⟨fun _ => hK (Or.inr rfl), fun z => absurd (Int32.le_refl _) z⟩
        · have hj' : j < n + 1 := by omega
          refine ⟨fun z => absurd z (nI_ge hj' (by omega)), fun _ => ⟨nI_in (by omega) (by omega), ?_⟩⟩
          rw [e18 _ q1 P (by omega)]
          refine ⟨fun z => hK (Or.inl ?_), fun z => ?_⟩
          · have := (leI' (a := wsq (n + 1) (mayS Q) M P) (b := 0) (by omega) (by omega)).mp z
            omega
          · have hw : 0 < wsq (n + 1) (mayS Q) M P := Nat.pos_of_ne_zero fun y => z (by rw [y]; exact Int32.le_refl _)
            have q3 := q3 hw
            rw [x_may hn hj' (by omega) (A2.2.1 j (by omega)) A2.2.2]
            have hr2 := hr2 hj'
            by_cases m : mayS Q j P = true
            · rw [m]
              have hl : (P ||| 2 ^ j) < 2 ^ (n + 1) := or_lt (by omega) hj'
              have hgt := or_ne (may_ex m)
              refine ⟨fun z => absurd z (by decide), fun _ => ⟨nI_in (by omega) (by omega), ?_⟩⟩
              rw [shl' (by omega), nI_or]
              refine ⟨nI_in (by omega) (by omega), nI_in (by omega) (by omega), ?_⟩
              rintro D33 rfl v30 rfl
              rw [nI_add]
              have hup : wsq (n + 1) (mayS Q) M (P ||| 2 ^ j) ≠ 0 := by
                have := wsq_up (N := n + 1) (may := mayS Q) (k := M) hj' m hPM (by rwa [wsq_lo (fun _ _ => may_ex) M (by omega)] at hw)
                omega
              refine hr2 _ _ ⟨rfl, frI_s q1 (by omega), fun X hX => ?_, fun _ => ?_⟩
              · rw [sI_1, if_neg (by omega)]; exact q2 X hX
              · rw [sI_1, if_pos ⟨rfl, rfl⟩, q3, nI_clamp (by omega), q2 _ hgt, p2 _ (by omega) hl hup, nI_add, sumN_s, if_pos m]
            · have m' : mayS Q j P = false := by simpa using m
              rw [m']
              refine ⟨fun _ => ?_, fun z => absurd rfl z⟩
              rintro v30 rfl
              rw [nI_add]
              refine hr2 _ _ ⟨rfl, q1, q2, fun _ => ?_⟩
              rw [q3, sumN_s, if_neg m]; rfl
  · have : X = M := by omega
    subst this
    rw [sI_1, if_pos ⟨rfl, rfl⟩, sB_all ((all_unu (by omega)).mpr (by omega))]
theorem wst_s {N : Nat} {may : Nat → Nat → Bool} {W : Nat → Nat} {P j X : Nat} : wst N may W P (j + 1) X = wst N may W P j X + (if (may j P && X == (P ||| 2 ^ j)) = true then W P else 0) := by
  unfold wst; rw [sumN_s, Nat.add_assoc]
theorem x_count {D : Dy} {n : Nat} {Q : List (Nat × Nat)} (hn : n ≤ 6) (hA : AH D n Q) {post : Int32 → Dy → Prop} (hp : ∀ D', frI 18 19 D D' → (∀ X, X < 2 ^ (n + 1) → D'.1 18 X = nI (wsq (n + 1) (mayS Q) (2 ^ (n + 1) - 1) X) ∧ (wsq (n + 1) (mayS Q) (2 ^ (n + 1) - 1) X ≠ 0 → D'.1 19 X = nI (sB Q (n + 1) X))) → post (nI (sB Q (n + 1) 0)) D') : fX6_countAgreeing D post := by
  have pw7 : 2 ^ (n + 1) ≤ 128 := Nat.pow_le_pow_right (n := 2) (by decide) (show n + 1 ≤ 7 by omega)
  have pw2 : 2 ≤ 2 ^ (n + 1) := Nat.pow_le_pow_right (n := 2) (i := 1) (by decide) (by omega)
  have hB : wsq (n + 1) (mayS Q) (2 ^ (n + 1) - 1) (2 ^ (n + 1) - 1) = sB Q (n + 1) 0 := wsq_B (by omega)
  have hrest := fun D1 post => x_rests (D := D1) (n := n) (Q := Q) (post := post) hn
  have hlt : ∀ {X : Nat}, X < 2 ^ (n + 1) ↔ X ≤ 2 ^ (n + 1) - 1 := by intro X; omega
  generalize hM : 2 ^ (n + 1) - 1 = M at *
  have hM1 : 2 ^ (n + 1) = M + 1 := by omega
  unfold fX6_countAgreeing
  rw [hA.1]
  have ev : (1 <<< (nI (n + 1) &&& 31)) - 1 = nI M := by rw [n1, shl' (by omega), hM1, sub' (by omega)]; rfl
  rw [ev]
  rintro v1 rfl
  refine lp2_I (M + 1) (fun k x D' => x = nI k ∧ frI 18 19 D D' ∧ ∀ X, X < k → D'.1 18 X = nI 0) (by omega) (fun k hk x D' hpp rec hr => ?_) ⟨rfl, frI_r, fun X hX => by omega⟩
  obtain ⟨rfl, p1, p2⟩ := hpp
  by_cases e : k = M + 1
  · subst e
    refine ⟨fun _ => ⟨nI_in (c := 0) (by omega) (by omega), ?_⟩, fun z => absurd (nI_lt (by omega) (by omega)) z⟩
    rintro D8 rfl
    refine lp2_I M (fun k x D' => x = nI k ∧ frI 18 19 D D' ∧ ∀ X, X < M + 1 → D'.1 18 X = nI (wsq (n + 1) (mayS Q) k X)) (by omega) (fun k hk x D' hpp rec hr => ?_) ⟨rfl, frI_s p1 (by omega), fun X hX => ?_⟩
    · obtain ⟨rfl, r1, r2⟩ := hpp
      have A2 := AH_f hA (frI_w r1 (by omega) (by omega))
      by_cases e : k = M
      · subst e
        refine ⟨fun _ => ?_, fun z => absurd (Int32.le_refl _) z⟩
        refine hrest D' _ A2 (fun X hX => r2 X (by omega)) (fun D'' f h19 => ⟨nI_in (by omega) (by omega), ?_⟩)
        rw [nI_clamp (by omega), f.2 _ _ (by omega), r2 _ (by omega), hB]
        exact hp D'' (frI_t r1 (frI_w f (by omega) (by omega))) fun X hX => ⟨by rw [f.2 _ _ (by omega)]; exact r2 X (by omega), fun hne => h19 X hX hne⟩
      · have hk' : k < M := by omega
        have hr := hr hk'
        have wb := wbd (Q := Q) (k := k) (P := k) hn (by omega) (by omega)
        refine ⟨fun z => absurd z (nI_ge hk' (by omega)), fun _ => ?_⟩
        refine lp2_I (n + 1) (fun j y D'' => y = nI j ∧ frI 18 19 D D'' ∧ ∀ X, X < M + 1 → D''.1 18 X = nI (wst (n + 1) (mayS Q) (wsq (n + 1) (mayS Q) k) k j X)) (by omega) (fun j hj y D'' hjj rec2 hr2 => ?_) ⟨rfl, r1, fun X hX => r2 X hX⟩
        obtain ⟨rfl, q1, q2⟩ := hjj
        have A3 := AH_f hA (frI_w q1 (by omega) (by omega))
        rw [A3.1]
        refine JN_i (∀ X, X < M + 1 → D''.1 18 X = nI (wsq (n + 1) (mayS Q) (k + 1) X)) (fun hq => ?_) (fun K hK => ?_)
        · rintro v27 rfl
          rw [nI_1]
          exact hr _ _ ⟨rfl, q1, hq⟩
        · by_cases c : j = n + 1
          · subst c
            exact ⟨fun _ => hK fun X hX => q2 X hX, fun z => absurd (Int32.le_refl _) z⟩
          · have hj' : j < n + 1 := by omega
            have hr2 := hr2 hj'
            refine ⟨fun z => absurd z (nI_ge hj' (by omega)), fun _ => ⟨nI_in (by omega) (by omega), ?_⟩⟩
            rw [nI_clamp (by omega), q2 k (by omega), wst_lo (fun _ _ => may_ex) (Nat.le_refl _)]
            refine ⟨fun z => hK fun X hX => ?_, fun z => ?_⟩
            · have w0 := (leI' (a := wsq (n + 1) (mayS Q) k k) (b := 0) (by omega) (by omega)).mp z
              have z0 : ∀ j, wst (n + 1) (mayS Q) (wsq (n + 1) (mayS Q) k) k j X = wsq (n + 1) (mayS Q) k X := by
                intro j
                unfold wst
                rw [sumN_0 fun s _ => ?_, Nat.add_zero]
                split <;> omega
              rw [q2 X hX, z0]
              show _ = nI (wst (n + 1) (mayS Q) (wsq (n + 1) (mayS Q) k) k (n + 1) X)
              rw [z0]
            · rw [x_may hn hj' (by omega) (A3.2.1 j (by omega)) A3.2.2]
              by_cases m : mayS Q j k = true
              · rw [m]
                have hl : (k ||| 2 ^ j) < 2 ^ (n + 1) := or_lt (by omega) hj'
                refine ⟨fun z => absurd z (by decide), fun _ => ?_⟩
                rintro v42 rfl
                rw [n1, shl' (by omega), nI_or]
                refine ⟨nI_in (by omega) (by omega), nI_in (by omega) (by omega), nI_in (by omega) (by omega), ?_⟩
                rintro D44 rfl v39 rfl
                rw [nI_add]
                refine hr2 _ _ ⟨rfl, frI_s q1 (by omega), fun X hX => ?_⟩
                rw [nI_clamp (by omega), sI_1, wst_s]
                by_cases x : X = (k ||| 2 ^ j)
                · subst x
                  rw [if_pos ⟨rfl, rfl⟩, q2 _ hX, nI_add, if_pos (by rw [m]; simp)]
                · rw [if_neg (fun z => x z.2), q2 X hX, if_neg (by simp [x])]; rfl
              · have m' : mayS Q j k = false := by simpa using m
                rw [m']
                refine ⟨fun _ => ?_, fun z => absurd rfl z⟩
                rintro v39 rfl
                rw [nI_1]
                refine hr2 _ _ ⟨rfl, q1, fun X hX => ?_⟩
                rw [q2 X hX, wst_s, if_neg (by rw [m']; simp)]; rfl
    · rw [sI_1]
      by_cases x : X = 0
      · subst x; rw [if_pos ⟨rfl, rfl⟩]; rfl
      · rw [if_neg (by intro z; exact x z.2), p2 X hX]
        show nI 0 = nI (if X = 0 then 1 else 0)
        rw [if_neg x]
  · have hk' : k < M + 1 := by omega
    have hr := hr hk'
    refine ⟨fun z => absurd z (nI_nlt (by omega) (by omega)), fun _ => ⟨nI_in (by omega) (by omega), ?_⟩⟩
    rintro D46 rfl v48 rfl
    rw [nI_1, nI_clamp (by omega)]
    refine hr _ _ ⟨rfl, frI_s p1 (by omega), fun X hX => ?_⟩
    rw [sI_1]
    by_cases x : X = k
    · rw [if_pos ⟨rfl, x⟩]; rfl
    · rw [if_neg (fun z => x z.2)]; exact p2 X (by omega)
