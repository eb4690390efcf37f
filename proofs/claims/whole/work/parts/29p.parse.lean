/-! TEXTS: what is read, told once; the one's reader of tests -/
/-- a byte as the readers see it: 200 where there is none that counts -/
def chr (b : Nat → Nat) (L i : Nat) : Nat := if i < L ∧ b i < 128 then b i else 200
def dig (ch : Nat → Nat) (p : Nat) : Bool := decide (48 ≤ ch p ∧ ch p ≤ 57)
/-- the number that goes on at p, of k figures at most -/
def nmF (ch : Nat → Nat) : Nat → Nat → Nat → Nat × Nat
  | 0, p, v => (p, v)
  | k + 1, p, v => if dig ch p = true then nmF ch k (p + 1) (10 * v + (ch p - 48)) else (p, v)
/-- read: whether, where it ends, the code so far -/
abbrev Rd : Type := Bool × Nat × List Nat
def rFig (ch : Nat → Nat) (s p : Nat) (acc : List Nat) : Rd := if ch p = 61 then (if dig ch (p + 1) = true then (true, p + 2, acc ++ [16 * (ch (p + 1) - 48) + s]) else (false, p + 1, acc)) else (false, p, acc)
def rPrc (ch : Nat → Nat) (p : Nat) (acc : List Nat) : Rd := if ch p = 61 ∨ ch p = 62 ∨ ch p = 60 then (if dig ch (p + 1) = true then (true, (nmF ch 3 (p + 1) 0).1, acc ++ [16 * (nmF ch 3 (p + 1) 0).2 + (if ch p = 61 then 7 else if ch p = 62 then 8 else 6)]) else (false, p + 1, acc)) else (false, p, acc)
def rLp (ch : Nat → Nat) (one : Nat → List Nat → Rd) (sep op : Nat) : Nat → Nat → List Nat → Rd
  | 0, p, acc => (true, p, acc)
  | k + 1, p, acc => if ch p = sep then (if (one (p + 1) acc).1 = true then rLp ch one sep op k (one (p + 1) acc).2.1 ((one (p + 1) acc).2.2 ++ [op]) else one (p + 1) acc) else (true, p, acc)
def rE (ch : Nat → Nat) : Nat → Nat → Nat → Nat → List Nat → Rd
  | 0, _, _, p, acc => (false, p, acc)
  | n + 1, 0, d, p, acc =>
    if d < 4 ∧ ch p = 33 then (if (rE ch n 0 (d + 1) (p + 1) acc).1 = true then (true, (rE ch n 0 (d + 1) (p + 1) acc).2.1, (rE ch n 0 (d + 1) (p + 1) acc).2.2 ++ [0]) else rE ch n 0 (d + 1) (p + 1) acc)
    else if d < 4 ∧ ch p = 40 then (if (rE ch n 2 (d + 1) (p + 1) acc).1 = true then (if ch (rE ch n 2 (d + 1) (p + 1) acc).2.1 = 41 then (true, (rE ch n 2 (d + 1) (p + 1) acc).2.1 + 1, (rE ch n 2 (d + 1) (p + 1) acc).2.2) else (false, (rE ch n 2 (d + 1) (p + 1) acc).2.1, acc)) else rE ch n 2 (d + 1) (p + 1) acc)
    else if ch p = 112 then rPrc ch (p + 1) acc
    else if ch p = 109 then rFig ch 3 (p + 1) acc
    else if ch p = 116 then rFig ch 4 (p + 1) acc
    else if ch p = 110 then rFig ch 5 (p + 1) acc
    else (false, p, acc)
  | n + 1, 1, d, p, acc => if (rE ch n 0 d p acc).1 = true then rLp ch (rE ch n 0 d) 38 1 120 (rE ch n 0 d p acc).2.1 (rE ch n 0 d p acc).2.2 else rE ch n 0 d p acc
  | n + 1, _ + 2, d, p, acc => if (rE ch n 1 d p acc).1 = true then rLp ch (rE ch n 1 d) 124 2 120 (rE ch n 1 d p acc).2.1 (rE ch n 1 d p acc).2.2 else rE ch n 1 d p acc
theorem chr_lt {b : Nat → Nat} {L p K : Nat} (hK : K < 128) (h : chr b L p = K) : p < L ∧ b p = K := by
  unfold chr at h
  split at h
  · next c => exact ⟨c.1, h⟩
  · omega
theorem chr_eq {b : Nat → Nat} {L p K : Nat} (hK : K < 128) (h1 : p < L) (h : b p = K) : chr b L p = K := by
  unfold chr; rw [if_pos ⟨h1, by omega⟩]; exact h
theorem dig_lt {b : Nat → Nat} {L p : Nat} (h : dig (chr b L) p = true) : p < L ∧ 48 ≤ b p ∧ b p ≤ 57 ∧ chr b L p = b p := by
  unfold dig at h
  have h := of_decide_eq_true h
  have e := chr_lt (b := b) (L := L) (p := p) (K := chr b L p) (by omega) rfl
  rw [e.2]
  exact ⟨e.1, h.1, h.2, rfl⟩
theorem dig_f {b : Nat → Nat} {L p : Nat} (h : dig (chr b L) p = false) : L ≤ p ∨ b p < 48 ∨ 57 < b p := by
  by_cases c : L ≤ p
  · exact Or.inl c
  · right
    by_cases c2 : b p < 128
    · have e : chr b L p = b p := by unfold chr; rw [if_pos ⟨by omega, c2⟩]
      unfold dig at h
      rw [e] at h
      have := of_decide_eq_false h
      omega
    · right; omega
/-- the text that a Text at t reads -/
def XT (D : Dy) (t : Nat) (b : Nat → Nat) (L : Nat) : Prop := 65 ≤ t ∧ L ≤ 120 ∧ D.1 t 1 = nI L ∧ ∀ i, i < L → D.1 12 i = nI (b i) ∧ b i < 256
/-- all but where it reads and its code is as it was -/
def frE (t : Nat) (D D' : Dy) : Prop := D'.2 = D.2 ∧ ∀ b x, ¬ (b = t ∧ (x = 2 ∨ x = 12)) → b ≠ t + 8 → D'.1 b x = D.1 b x
theorem frE_r {t : Nat} {D : Dy} : frE t D D := ⟨rfl, fun _ _ _ _ => rfl⟩
theorem frE_t {t : Nat} {D D' D'' : Dy} (h : frE t D D') (h' : frE t D' D'') : frE t D D'' := ⟨h'.1.trans h.1, fun b x h1 h2 => (h'.2 b x h1 h2).trans (h.2 b x h1 h2)⟩
theorem frE_s {t : Nat} {D D' : Dy} {a k : Nat} {v : Int32} (h : frE t D D') (ha : (a = t ∧ (k = 2 ∨ k = 12)) ∨ a = t + 8) : frE t D (sI D' a k v) := ⟨h.1, fun b x h1 h2 => by rw [sI_1, if_neg (by omega)]; exact h.2 b x h1 h2⟩
theorem XT_e {D D' : Dy} {t L : Nat} {b : Nat → Nat} (h : XT D t b L) (f : frE t D D') : XT D' t b L := by
  obtain ⟨h1, h2, h3, h4⟩ := h
  exact ⟨h1, h2, by rw [f.2 _ _ (by omega) (by omega)]; exact h3, fun i hi => by rw [f.2 _ _ (by omega) (by omega)]; exact h4 i hi⟩
/-- the code so far -/
def XC (D : Dy) (t : Nat) (acc : List Nat) : Prop := D.1 t 12 = nI acc.length ∧ ∀ i, i < acc.length → D.1 (t + 8) i = nI (acc.getD i 0)
theorem XC_p {D : Dy} {t p : Nat} {acc : List Nat} (h : XC D t acc) : XC (sI D t 2 (nI p)) t acc := ⟨by rw [sI_1, if_neg (by omega)]; exact h.1, fun i hi => by rw [sI_1, if_neg (by omega)]; exact h.2 i hi⟩
theorem x_take {D : Dy} {t L p K : Nat} {b : Nat → Nat} (hT : XT D t b L) (hp : D.1 t 2 = nI p) (hpL : p ≤ L) (hK : K < 128) {post : Int32 → Dy → Prop} (h1 : chr b L p = K → p < L → post 1 (sI D t 2 (nI (p + 1)))) (h0 : chr b L p ≠ K → post 0 D) : fX9_take t (nI K) D post := by
  obtain ⟨t1, t2, t3, t4⟩ := hT
  unfold fX9_take
  rw [t3, hp]
  by_cases c : p < L
  · obtain ⟨b1, b2⟩ := t4 p c
    refine ⟨fun z => absurd z (nI_ge c (by omega)), fun _ => ⟨nI_in (by omega) (by omega), ?_⟩⟩
    rw [nI_clamp (by omega), b1]
    refine ⟨fun z => ?_, fun z => ?_⟩
    · have z1 : b p = K := (nI_eq (by omega) (by omega)).mp z
      rintro D3 rfl
      rw [nI_1]
      exact h1 (chr_eq hK c z1) c
    · exact h0 fun y => z (by rw [(chr_lt hK y).2])
  · refine ⟨fun _ => h0 fun y => c (chr_lt hK y).1, fun z => absurd (nI_le (by omega) (by omega)) z⟩
theorem x_emit {D : Dy} {t s : Nat} {x : Int32} {acc : List Nat} (hC : XC D t acc) (hl : acc.length < 120) {post : Dy → Prop} (h : post (sI (sI D (t + 8) acc.length ((x <<< ((4 : Int32) &&& 31)) ||| nI s)) t 12 (nI (acc.length + 1)))) : fX9_emit t (nI s) x D post := by
  unfold fX9_emit
  rw [hC.1]
  refine ⟨fun z => absurd z (nI_ge (b := 120) hl (by omega)), fun _ => ⟨nI_in hl (by omega), ?_⟩⟩
  rintro D2 rfl D4 rfl
  rw [nI_clamp (by omega)]
  have : (sI D (t + 8) acc.length ((x <<< ((4 : Int32) &&& 31)) ||| nI s)).1 t 12 = nI acc.length := by rw [sI_1, if_neg (by omega)]; exact hC.1
  rw [this, nI_1]
  exact h
theorem shl4 {x s : Nat} (hs : s < 16) : (nI x <<< ((4 : Int32) &&& 31)) ||| nI s = nI (16 * x + s) := by
  have e : nI x <<< ((4 : Int32) &&& 31) = nI (2 ^ 4 * x) := by
    refine b_ext fun i hi => ?_
    rw [show ((4 : Int32) &&& 31) = (nI 4 &&& 31) from rfl, b_shl 4 (by omega) _ hi, bt_nI _ hi, Nat.testBit_two_pow_mul]
    by_cases c : 4 ≤ i
    · rw [bt_nI _ (by omega)]
    · simp [c]
  rw [e, fa_or_sum (a := s) (k := 4) x (by omega)]
theorem XC_emit {D : Dy} {t c : Nat} {acc : List Nat} (hC : XC D t acc) : XC (sI (sI D (t + 8) acc.length (nI c)) t 12 (nI (acc.length + 1))) t (acc ++ [c]) := by
  refine ⟨by rw [sI_1, if_pos ⟨rfl, rfl⟩, List.length_append]; rfl, fun i hi => ?_⟩
  rw [List.length_append] at hi
  have hi : i < acc.length + 1 := hi
  rw [sI_1, if_neg (by omega), sI_1]
  by_cases e : i = acc.length
  · rw [if_pos ⟨rfl, e⟩, e, List.getD_eq_getElem?_getD, List.getElem?_append_right (Nat.le_refl _), Nat.sub_self]; rfl
  · rw [if_neg (fun z => e z.2), List.getD_eq_getElem?_getD, List.getElem?_append_left (by omega), ← List.getD_eq_getElem?_getD]
    exact hC.2 i (by omega)
theorem nmF_le {ch : Nat → Nat} : ∀ k p v, p ≤ (nmF ch k p v).1
  | 0, _, _ => Nat.le_refl _
  | k + 1, p, v => by
    unfold nmF
    split
    · exact Nat.le_trans (Nat.le_succ _) (nmF_le k _ _)
    · exact Nat.le_refl _
theorem nmF_L {b : Nat → Nat} {L : Nat} : ∀ k p v, p ≤ L → (nmF (chr b L) k p v).1 ≤ L
  | 0, _, _, h => h
  | k + 1, p, v, h => by
    unfold nmF
    split
    · next c => exact nmF_L k _ _ (dig_lt c).1
    · exact h
theorem nmF_v {ch : Nat → Nat} : ∀ k p v, (nmF ch k p v).2 < 10 ^ k * (v + 1)
  | 0, _, v => by show v < 1 * (v + 1); omega
  | k + 1, p, v => by
    unfold nmF
    split
    · next c =>
      have h := nmF_v k (p + 1) (10 * v + (ch p - 48)) (ch := ch)
      have d := of_decide_eq_true c
      refine Nat.lt_of_lt_of_le h ?_
      rw [Nat.pow_succ, Nat.mul_assoc]
      exact Nat.mul_le_mul_left _ (by omega)
    · have : 1 ≤ 10 ^ (k + 1) := Nat.one_le_pow _ _ (by omega)
      exact Nat.lt_of_lt_of_le (Nat.lt_succ_self v) (Nat.le_mul_of_pos_left _ (by omega))
theorem x_number {D : Dy} {t L p : Nat} {b : Nat → Nat} (hT : XT D t b L) (hp : D.1 t 2 = nI p) (hpL : p ≤ L) {post : Int32 → Dy → Prop} (h1 : dig (chr b L) p = true → post (nI (nmF (chr b L) 3 p 0).2) (sI D t 2 (nI (nmF (chr b L) 3 p 0).1))) (h0 : dig (chr b L) p = false → post (-nI 1) D) : fX9_readNumber t D post := by
  obtain ⟨t1, t2, t3, t4⟩ := hT
  unfold fX9_readNumber
  have self : sI D t 2 (nI p) = D := by
    unfold sI
    refine Prod.ext (funext fun c => funext fun x => ?_) rfl
    dsimp only
    split
    · next c => rw [c.1, c.2, hp]
    · rfl
  have v3 := nmF_v 3 p 0 (ch := chr b L)
  refine lp3_I 3 (fun k x y D' => y = nI k ∧ ∃ q, p ≤ q ∧ q ≤ L ∧ D' = sI D t 2 (nI q) ∧ ((k = 0 ∧ x = -nI 1 ∧ q = p) ∨ (dig (chr b L) p = true ∧ ∃ v, x = nI v ∧ v < 10 ^ k ∧ nmF (chr b L) (3 - k) q v = nmF (chr b L) 3 p 0))) (by omega) (fun k hk x y D' hpp rec hr => ?_) ⟨rfl, p, Nat.le_refl _, hpL, self.symm, Or.inl ⟨rfl, rfl, rfl⟩⟩
  obtain ⟨rfl, q, q1, q2, rfl, q3⟩ := hpp
  have e1 : (sI D t 2 (nI q)).1 t 1 = nI L := by rw [sI_1, if_neg (by omega)]; exact t3
  have e2 : (sI D t 2 (nI q)).1 t 2 = nI q := by rw [sI_1, if_pos ⟨rfl, rfl⟩]
  have stop : (k = 3 ∨ dig (chr b L) q = false) → post x (sI D t 2 (nI q)) := by
    intro hs
    rcases q3 with ⟨k0, rfl, rfl⟩ | ⟨d, v, rfl, vb, nm⟩
    · rcases hs with hs | hs
      · omega
      · rw [self]; exact h0 hs
    · have : nmF (chr b L) (3 - k) q v = (q, v) := by
        rcases hs with hs | hs
        · rw [hs]; rfl
        · cases (3 - k) with
          | zero => rfl
          | succ m => unfold nmF; rw [hs]; rfl
      have h1 := h1 d
      rw [← nm, this] at h1
      exact h1
  by_cases e : k = 3
  · subst e
    exact ⟨fun _ => stop (Or.inl rfl), fun z => absurd (Int32.le_refl _) z⟩
  · have hk' : k < 3 := by omega
    have hr := hr hk'
    refine ⟨fun z => absurd z (nI_ge (b := 3) hk' (by omega)), fun _ => ?_⟩
    rw [e1, e2]
    by_cases c : q < L
    · obtain ⟨b1, b2⟩ := t4 q c
      have e3 : (sI D t 2 (nI q)).1 12 q = nI (b q) := by rw [sI_1, if_neg (by omega)]; exact b1
      refine ⟨fun z => absurd z (nI_ge c (by omega)), fun _ => ⟨nI_in (by omega) (by omega), ?_⟩⟩
      rw [nI_clamp (by omega), e3]
      rintro v8 rfl
      rw [n48]
      by_cases dd : dig (chr b L) q = true
      · obtain ⟨d1, d2, d3, d4⟩ := dig_lt dd
        rw [sub' d2]
        refine ⟨fun z => absurd z (nI_pos (by omega)), fun _ => ⟨fun _ => ?_, fun z => absurd (nI_le (a := b q - 48) (b := 9) (by omega) (by omega)) z⟩⟩
        have next : ∀ v, v < 10 ^ k → (dig (chr b L) p = true ∧ nmF (chr b L) (3 - k) q v = nmF (chr b L) 3 p 0) → ∀ v14 : Int32, v14 = nI (10 * v + (b q - 48)) → ∀ D16 : Dy, D16 = sI (sI D t 2 (nI q)) t 2 (nI q + 1) → ∀ v18 : Int32, v18 = nI k + 1 → rec v14 v18 D16 := by
          rintro v hv ⟨hd, hnm⟩ v14 rfl D16 rfl v18 rfl
          rw [nI_1, nI_1]
          have ss : sI (sI D t 2 (nI q)) t 2 (nI (q + 1)) = sI D t 2 (nI (q + 1)) := by
            unfold sI
            refine Prod.ext (funext fun c => funext fun x => ?_) rfl
            dsimp only
            split <;> rfl
          rw [ss]
          refine hr _ _ _ ⟨rfl, q + 1, by omega, c, rfl, Or.inr ⟨hd, _, rfl, ?_, ?_⟩⟩
          · rw [Nat.pow_succ]; omega
          · rw [← hnm, show 3 - k = (3 - (k + 1)) + 1 by omega]
            show _ = if dig (chr b L) q = true then nmF (chr b L) (3 - (k + 1)) (q + 1) (10 * v + (chr b L q - 48)) else (q, v)
            rw [if_pos dd, d4]
        simp only [JN]
        rcases q3 with ⟨k0, rfl, rfl⟩ | ⟨d, v, rfl, vb, nm⟩
        · subst k0
          refine ⟨fun z => absurd z (by decide), fun _ v15 e15 => next 0 (by omega) ⟨dd, rfl⟩ v15 ?_⟩
          rw [e15, n0, nI_add]
          try rfl
        · have vb3 : 10 ^ k ≤ 100 := by
            have : k = 0 ∨ k = 1 ∨ k = 2 := by omega
            rcases this with rfl | rfl | rfl <;> decide
          refine ⟨fun _ v15 e15 => next v vb ⟨d, nm⟩ v15 ?_, fun z => absurd (by rw [n0]; exact nI_le (a := 0) (b := v) (by omega) (by omega)) z⟩
          rw [e15, n10, nI_mul, nI_add]
      · have dd' : dig (chr b L) q = false := by simpa using dd
        have st := stop (Or.inr dd')
        by_cases lt : 48 ≤ b q
        · rw [sub' lt]
          have : 57 < b q := by rcases dig_f dd' with z | z | z <;> omega
          exact ⟨fun _ => st, fun _ => ⟨fun z => absurd z (nI_ge (a := 9) (b := b q - 48) (by omega) (by omega)), fun _ => st⟩⟩
        · have neg : nI (b q) - nI 48 < 0 := by
            rw [show nI (b q) - nI 48 = -nI (48 - b q) by rw [← sub' (by omega : b q ≤ 48), Int32.neg_sub]]
            have := nglt' (b := 48 - b q) (by omega) (by omega)
            exact this.mpr trivial
          exact ⟨fun _ => st, fun z => absurd neg z⟩
    · refine ⟨fun _ => stop (Or.inr ?_), fun z => absurd (nI_le (by omega) (by omega)) z⟩
      cases h : dig (chr b L) q
      · rfl
      · exact absurd (dig_lt h).1 c
