section
/-! ODDS: what is seen, both ways -/
def setN (f : Nat → Bool) : Nat → Nat
  | 0 => 0
  | n + 1 => if f n = true then setN f n ||| 2 ^ n else setN f n
theorem setN_s {f : Nat → Bool} {n : Nat} : setN f (n + 1) = if f n = true then setN f n ||| 2 ^ n else setN f n := rfl
theorem setN_lt {f : Nat → Bool} : ∀ n, setN f n < 2 ^ n
  | 0 => (by decide : 0 < 2 ^ 0)
  | n + 1 => by
    have ih := setN_lt (f := f) n
    rw [setN_s]
    split
    · exact orb_lt ih
    · exact Nat.lt_trans ih (Nat.pow_lt_pow_right (by omega) (by omega))
theorem setN_bit {f : Nat → Bool} : ∀ n x, x < n → (setN f n).testBit x = f x
  | 0, x, h => absurd h (Nat.not_lt_zero _)
  | n + 1, x, h => by
    have ih := setN_bit (f := f) n
    have lt := setN_lt (f := f) n
    rw [setN_s]
    by_cases c : f n = true
    · rw [if_pos c, or_bit lt h]
      by_cases e : x = n
      · rw [if_pos e, e, c]
      · rw [if_neg e]; exact ih x (by omega)
    · rw [if_neg c]
      by_cases e : x = n
      · rw [e, Nat.testBit_lt_two_pow lt]; simpa using c
      · exact ih x (by omega)
theorem setN_u {f : Nat → Bool} {m n : Nat} (hm : m < 2 ^ n) (h : ∀ x, x < n → m.testBit x = f x) : m = setN f n := by
  refine Nat.eq_of_testBit_eq fun i => ?_
  by_cases c : i < n
  · rw [h i c, setN_bit n i c]
  · rw [Nat.testBit_lt_two_pow (Nat.lt_of_lt_of_le hm (Nat.pow_le_pow_right (by omega) (by omega))), Nat.testBit_lt_two_pow (Nat.lt_of_lt_of_le (setN_lt n) (Nat.pow_le_pow_right (by omega) (by omega)))]
/-- o is looked at ahead of t -/
def bef (Mk : Nat → Nat) (o t : Nat) : Prop := pc (Mk t) < pc (Mk o) ∨ (pc (Mk o) = pc (Mk t) ∧ o < t)
theorem bef_dec {Mk : Nat → Nat} {o t : Nat} : bef Mk o t ∨ ¬ bef Mk o t := Classical.em _
noncomputable def b1 (p : Prop) : Nat := @ite _ p (Classical.propDecidable p) 1 0
theorem b1_t {p : Prop} (h : p) : b1 p = 1 := if_pos h
theorem b1_f {p : Prop} (h : ¬ p) : b1 p = 0 := if_neg h
theorem b1_le {p : Prop} : b1 p ≤ 1 := by
  by_cases h : p
  · rw [b1_t h]; exact Nat.le_refl _
  · rw [b1_f h]; omega
theorem b1_c {p q : Prop} (h : p ↔ q) : b1 p = b1 q := by rw [propext h]
/-- how many of the set stand ahead of t -/
noncomputable def rk (Mk : Nat → Nat) (S n t : Nat) : Nat := sumN (fun o => b1 (S.testBit o = true ∧ bef Mk o t)) n
noncomputable def seB (Mk : Nat → Nat) (S n l t : Nat) : Bool := S.testBit t && decide (rk Mk S n t < l)
theorem seB_t {Mk : Nat → Nat} {S n l t : Nat} : seB Mk S n l t = true ↔ S.testBit t = true ∧ rk Mk S n t < l := by
  unfold seB; rw [Bool.and_eq_true]; exact and_congr_right fun _ => decide_eq_true_iff
theorem m_seen {D : Dy} {n S l : Nat} {Mk Pr Ne : Nat → Nat} (hG : MG D n Mk Pr Ne) (hl : D.1 33 30 = nI l) (l9 : l ≤ 9) (hS : S < 2 ^ n) {post : Int32 → Prop} (h : post (nI (setN (seB Mk S n l) n))) : fX12_seenOf (nI S) D post := by
  obtain ⟨n6, g0, g⟩ := hG
  have pw := pw6 n6
  unfold fX12_seenOf
  rw [g0, hl]
  refine lp2_I n (fun k v1 v2 => v2 = nI k ∧ v1 = nI (setN (seB Mk S n l) k)) (by omega) (fun k hk v1 v2 hv rec hr => ?_) ⟨rfl, rfl⟩
  obtain ⟨rfl, rfl⟩ := hv
  by_cases e : k = n
  · subst e
    exact ⟨fun _ => h, fun z => absurd (Int32.le_refl _) z⟩
  · have hk' : k < n := by omega
    obtain ⟨⟨mk1, mk2⟩, -, -⟩ := g k hk'
    refine ⟨fun z => absurd z (nI_ge hk' (by omega)), fun _ => ?_⟩
    refine lp2_I n (fun j v6 v7 => v7 = nI j ∧ v6 = nI (sumN (fun o => b1 (S.testBit o = true ∧ bef Mk o k)) j)) (by omega) (fun j hj v6 v7 hv rec2 hr2 => ?_) ⟨rfl, rfl⟩
    obtain ⟨rfl, rfl⟩ := hv
    have sl : sumN (fun o => b1 (S.testBit o = true ∧ bef Mk o k)) j ≤ 1 * j := sumN_b (fun o => b1_le) j
    by_cases e2 : j = n
    · subst e2
      refine ⟨fun _ => ?_, fun z => absurd (Int32.le_refl _) z⟩
      rw [has' (by omega) (by omega)]
      have er : sumN (fun o => b1 (S.testBit o = true ∧ bef Mk o k)) j = rk Mk S j k := rfl
      rw [er] at sl ⊢
      refine JN_1 (fun v => v = nI (setN (seB Mk S j l) (k + 1))) (fun v hv => ?_) (fun K hK => ⟨fun z => hK _ ?_, fun z => ⟨fun y => hK _ ?_, fun y => ?_⟩⟩)
      · subst hv
        rintro v19 rfl
        rw [nI_1]
        exact hr hk' _ _ ⟨rfl, rfl⟩
      · have z : S.testBit k = false := by rw [n0, bB_0] at z; exact z
        rw [setN_s, if_neg (fun w => by have := (seB_t.mp w).1; rw [z] at this; cases this)]
      · have := (leI' (by omega) (by omega)).mp y
        rw [setN_s, if_neg (fun w => by have := (seB_t.mp w).2; omega)]
      · have z : S.testBit k = true := by rw [n0, bB_0] at z; simpa using z
        have lt : rk Mk S j k < l := Nat.lt_of_not_le fun w => y (nI_le w (by omega))
        rintro v23 rfl
        refine hK _ ?_
        rw [setN_s, if_pos (seB_t.mpr ⟨z, lt⟩), n1, shl' (by omega), nI_or]
    · have hj' : j < n := by omega
      obtain ⟨⟨mj1, mj2⟩, -, -⟩ := g j hj'
      have pk := @pc_8 (Mk k)
      have pj := @pc_8 (Mk j)
      refine ⟨fun z => absurd z (nI_ge hj' (by omega)), fun _ => ?_⟩
      rw [has' (by omega) (by omega)]
      refine JN_1 (fun v => v = nI (b1 (S.testBit j = true ∧ bef Mk j k))) (fun v hv => ?_) (fun K hK => ?_)
      · subst hv
        rw [nI_add, nI_1]
        rintro v33 rfl v35 rfl
        exact hr2 hj' _ _ ⟨rfl, rfl⟩
      · refine JN_i (¬ (S.testBit j = true ∧ bef Mk j k)) (fun q => hK _ (by rw [b1_f q]; rfl)) (fun K37 hK37 => ⟨fun z => hK37 ?_, fun z => ⟨nI_in (by omega) (by omega), ?_⟩⟩)
        · have z : S.testBit j = false := by rw [n0, bB_0] at z; exact z
          rintro ⟨w, -⟩; rw [z] at w; cases w
        · have z : S.testBit j = true := by rw [n0, bB_0] at z; simpa using z
          have vk : vp_in (nI k) 6 := nI_in (by omega) (by omega)
          have vj : vp_in (nI j) 6 := nI_in (by omega) (by omega)
          rw [nI_clamp (by omega), nI_clamp (by omega), mj1, mk1]
          rw [ones' mj2]
          refine ⟨vk, ?_⟩
          rw [ones' mk2]
          refine JN_i (bef Mk j k) (fun q => hK _ (by rw [b1_t ⟨z, q⟩]; rfl)) (fun K50 hK50 => ⟨fun y => hK50 (Or.inl ((ltI' (by omega) (by omega)).mp y)), fun y => ⟨vj, ?_⟩⟩)
          rw [ones' mj2]
          refine ⟨vk, ?_⟩
          rw [ones' mk2]
          have y : ¬ pc (Mk k) < pc (Mk j) := fun w => y (nI_lt w (by omega))
          refine ⟨fun y2 => hK37 ?_, fun y2 => ⟨fun y3 => hK37 ?_, fun y3 => hK50 (Or.inr ⟨(nI_eq (by omega) (by omega)).mp y2, Nat.lt_of_not_le fun w => y3 (nI_le w (by omega))⟩)⟩⟩
          · have y2 : ¬ pc (Mk j) = pc (Mk k) := fun w => y2 (by rw [w])
            rintro ⟨-, w | ⟨w, -⟩⟩
            · exact y w
            · exact y2 w
          · have y3 := (leI' (by omega) (by omega)).mp y3
            rintro ⟨-, w | ⟨-, w⟩⟩
            · exact y w
            · omega
/-! the one looks them up one by one -/
theorem sumN_up {f g : Nat → Nat} {c n : Nat} (hc : c < n) (h1 : g c = f c + 1) (h2 : ∀ x, x < n → x ≠ c → g x = f x) : sumN g n = sumN f n + 1 := by
  induction n with
  | zero => exact absurd hc (Nat.not_lt_zero _)
  | succ n ih =>
    rw [sumN_s, sumN_s]
    by_cases e : c = n
    · rw [← e, h1, sumN_c (f := g) (g := f) (fun k hk => h2 k (by omega) (by omega))]; omega
    · rw [ih (by omega) (fun x hx hne => h2 x (by omega) hne), h2 n (by omega) (fun z => e z.symm)]; omega
theorem bef_tot {Mk : Nat → Nat} {a b : Nat} (h : a ≠ b) : bef Mk a b ∨ bef Mk b a := by
  unfold bef; omega
theorem bef_as {Mk : Nat → Nat} {a b : Nat} (h : bef Mk a b) : ¬ bef Mk b a := by
  unfold bef at h ⊢; omega
theorem x_mostM {D : Dy} {n m : Nat} {Mk Pr Ne : Nat → Nat} (hG : XG D n Mk Pr Ne) (hm : m < 2 ^ n) (h0 : m ≠ 0) {post : Int32 → Prop} (h : ∀ r, r < n → m.testBit r = true → (∀ x, x < n → m.testBit x = true → x = r ∨ bef Mk r x) → post (nI r)) : fX1_mostMarkedOf (nI m) D post := by
  obtain ⟨n6, g0, g⟩ := hG
  have pw := pw6 n6
  unfold fX1_mostMarkedOf
  rw [g0]
  refine lp3_I n (fun k v1 v2 v3 => v3 = nI k ∧ ((v1 = 7 ∧ v2 = -nI 1 ∧ ∀ x, x < k → m.testBit x = false) ∨ (∃ r, v1 = nI r ∧ v2 = nI (pc (Mk r)) ∧ r < k ∧ m.testBit r = true ∧ ∀ x, x < k → m.testBit x = true → x = r ∨ bef Mk r x))) (by omega) (fun k hk v1 v2 v3 hv rec hr => ?_) ⟨rfl, Or.inl ⟨rfl, rfl, fun x hx => absurd hx (Nat.not_lt_zero _)⟩⟩
  obtain ⟨rfl, st⟩ := hv
  by_cases e : k = n
  · subst e
    refine ⟨fun _ => ?_, fun z => absurd (Int32.le_refl _) z⟩
    rcases st with ⟨-, -, z⟩ | ⟨r, rfl, -, r1, r2, r3⟩
    · exact absurd ((bits_0 hm).mpr z) h0
    · exact h r r1 r2 r3
  · have hk' : k < n := by omega
    obtain ⟨⟨mk1, mk2⟩, -, -⟩ := g k hk'
    have pk := @pc_8 (Mk k)
    refine ⟨fun z => absurd z (nI_ge hk' (by omega)), fun _ => ?_⟩
    rw [isIn' (by omega) (by omega)]
    refine JN_2 (fun v1 v2 => (v1 = 7 ∧ v2 = -nI 1 ∧ ∀ x, x < k + 1 → m.testBit x = false) ∨ (∃ r, v1 = nI r ∧ v2 = nI (pc (Mk r)) ∧ r < k + 1 ∧ m.testBit r = true ∧ ∀ x, x < k + 1 → m.testBit x = true → x = r ∨ bef Mk r x)) (fun v12 v13 hv => ?_) (fun K hK => ⟨fun z => hK _ _ ?_, fun z => ⟨nI_in (by omega) (by omega), ?_⟩⟩)
    · rintro v16 rfl
      rw [nI_1]
      exact hr hk' _ _ _ ⟨rfl, hv⟩
    · have z : m.testBit k = false := by rw [n0, bB_0] at z; exact z
      rcases st with ⟨a, b, c⟩ | ⟨r, a, b, r1, r2, r3⟩
      · refine Or.inl ⟨a, b, fun x hx => ?_⟩
        by_cases e : x = k
        · rw [e]; exact z
        · exact c x (by omega)
      · refine Or.inr ⟨r, a, b, by omega, r2, fun x hx hb => ?_⟩
        by_cases e : x = k
        · rw [e, z] at hb; cases hb
        · exact r3 x (by omega) hb
    · have z : m.testBit k = true := by rw [n0, bB_0] at z; simpa using z
      rw [nI_clamp (by omega), mk1, bitC' mk2]
      rintro v19 rfl
      have new : ((∃ r, v1 = nI r ∧ v2 = nI (pc (Mk r)) ∧ r < k ∧ m.testBit r = true ∧ ∀ x, x < k → m.testBit x = true → x = r ∨ bef Mk r x) → ¬ nI (pc (Mk k)) ≤ v2) → K (nI k) (nI (pc (Mk k))) := fun hn => by
        refine hK _ _ (Or.inr ⟨k, rfl, rfl, by omega, z, fun x hx hb => ?_⟩)
        by_cases e : x = k
        · exact Or.inl e
        · right
          rcases st with ⟨-, -, c⟩ | ⟨r, a, b, r1, r2, r3⟩
          · rw [c x (by omega)] at hb; cases hb
          · have q := hn ⟨r, a, b, r1, r2, r3⟩
            rw [b] at q
            have pr := @pc_8 (Mk r)
            have q : pc (Mk r) < pc (Mk k) := Nat.lt_of_not_le fun w => q (nI_le w (by omega))
            have b1 : bef Mk k r := Or.inl q
            rcases r3 x (by omega) hb with w | w
            · rw [w]; exact b1
            · unfold bef at *; omega
      refine ⟨fun y => ?_, fun y => ⟨nI_in (by omega) (by omega), ?_⟩⟩
      · rcases st with ⟨a, b, c⟩ | ⟨r, a, b, r1, r2, r3⟩
        · rw [b, ngle2' (by omega) (by omega) (by omega)] at y; exact y.elim
        · refine hK _ _ (Or.inr ⟨r, a, b, by omega, r2, fun x hx hb => ?_⟩)
          by_cases e : x = k
          · right
            rw [b] at y
            have pr := @pc_8 (Mk r)
            have := (leI' (by omega) (by omega)).mp y
            rw [e]; unfold bef; omega
          · exact r3 x (by omega) hb
      · rintro v22 rfl
        exact new fun _ => y
theorem x_seen {D : Dy} {t n S l : Nat} {Mk Pr Ne : Nat → Nat} (hG : XG D n Mk Pr Ne) (hl : ∃ l', D.1 t 8 = nI l' ∧ 1 ≤ l' ∧ l' ≤ 9 ∧ min l' 6 = min l 6) (hS : S < 2 ^ n) {post : Int32 → Prop} (h : post (nI (setN (seB Mk S n l) n))) : fX2_seenOf t (nI S) D post := by
  obtain ⟨l', e8, l1, l9, lm⟩ := hl
  have n6 := hG.1
  have pw := pw6 n6
  have fin : ∀ s i, s < 2 ^ n → (∀ x, x < n → s.testBit x = true → S.testBit x = true) → sumN (fun x => b1 (s.testBit x = true)) n = i → (∀ a b, a < n → b < n → s.testBit a = true → S.testBit b = true → s.testBit b = false → bef Mk a b) → (i = l' ∨ (s = S ∧ i ≤ l')) → post (nI s &&& nI S) := by
    intro s i hs hsub hcnt hdn hend
    have es : s &&& S = s := by
      refine Nat.eq_of_testBit_eq fun x => ?_
      rw [Nat.testBit_and]
      by_cases c : x < n
      · cases q : s.testBit x
        · rfl
        · rw [hsub x c q]; rfl
      · rw [Nat.testBit_lt_two_pow (Nat.lt_of_lt_of_le hs (Nat.pow_le_pow_right (by omega) (by omega)))]; rfl
    rw [nI_and, es]
    have rlt : ∀ t, t < n → S.testBit t = true → s.testBit t = true → rk Mk S n t + 1 ≤ i := fun t ht hb hst => by
      rw [← hcnt]
      have := sumN_up (f := fun o => b1 (s.testBit o = true ∧ o ≠ t)) (g := fun x => b1 (s.testBit x = true)) (n := n) ht (by rw [b1_t hst, b1_f (fun z => z.2 rfl)]) (fun x hx hne => b1_c ⟨fun z => ⟨z, hne⟩, fun z => z.1⟩)
      rw [this]
      refine Nat.succ_le_succ (sumN_le fun o ho => ?_)
      by_cases c : S.testBit o = true ∧ bef Mk o t
      · rw [b1_t c, b1_t]; exact Nat.le_refl _
        refine ⟨?_, fun z => ?_⟩
        · refine Classical.byContradiction fun q => ?_
          exact bef_as c.2 (hdn t o ht ho hst c.1 (by simpa using q))
        · rw [z] at c; exact bef_as c.2 c.2
      · rw [b1_f c]; exact Nat.zero_le _
    have rge : ∀ t, t < n → S.testBit t = true → s.testBit t = false → i ≤ rk Mk S n t := fun t ht hb hst => by
      rw [← hcnt]
      refine sumN_le fun o ho => ?_
      by_cases c : s.testBit o = true
      · rw [b1_t c, b1_t]; exact Nat.le_refl _
        exact ⟨hsub o ho c, hdn o t ho ht c hb hst⟩
      · rw [b1_f c]; exact Nat.zero_le _
    have r6 : ∀ t, t < n → S.testBit t = true → rk Mk S n t < 6 := fun t ht hb => by
      have hlt : rk Mk S n t + 1 ≤ n := by
        have := sumN_up (f := fun o => b1 (S.testBit o = true ∧ bef Mk o t)) (g := fun x => if x = t then 1 else b1 (S.testBit x = true ∧ bef Mk x t)) (n := n) ht (by rw [if_pos rfl, b1_f (fun z => bef_as z.2 z.2)]) (fun x hx hne => if_neg hne)
        have e : rk Mk S n t = sumN (fun o => b1 (S.testBit o = true ∧ bef Mk o t)) n := rfl
        rw [e, ← this]
        refine sumN_le1 fun k hk => ?_
        split
        · exact Nat.le_refl _
        · exact b1_le
      omega
    have : s = setN (seB Mk S n l) n := by
      refine setN_u hs fun x hx => ?_
      cases q : s.testBit x with
      | true =>
        have hb := hsub x hx q
        have := rlt x hx hb q
        have r6 := r6 x hx hb
        refine (seB_t.mpr ⟨hb, ?_⟩).symm
        rcases hend with rfl | ⟨_, _⟩
        · omega
        · omega
      | false =>
        cases q2 : seB Mk S n l x with
        | false => rfl
        | true =>
          obtain ⟨hb, hr⟩ := seB_t.mp q2
          have := rge x hx hb q
          have r6 := r6 x hx hb
          rcases hend with rfl | ⟨rfl, _⟩
          · omega
          · rw [hb] at q; cases q
    rw [this]
    exact h
  unfold fX2_seenOf
  rw [e8]
  refine lp2_I l' (fun i v1 v2 => v2 = nI i ∧ ∃ s, v1 = nI s ∧ s < 2 ^ n ∧ (∀ x, x < n → s.testBit x = true → S.testBit x = true) ∧ sumN (fun x => b1 (s.testBit x = true)) n = i ∧ ∀ a b, a < n → b < n → s.testBit a = true → S.testBit b = true → s.testBit b = false → bef Mk a b) (by omega) (fun i hi v1 v2 hv rec hr => ?_) ⟨rfl, 0, rfl, Nat.two_pow_pos n, fun x _ z => (by rw [Nat.zero_testBit] at z; cases z), sumN_0 fun k _ => b1_f (by rw [Nat.zero_testBit]; decide), fun a b _ _ z => (by rw [Nat.zero_testBit] at z; cases z)⟩
  obtain ⟨rfl, s, rfl, s1, s2, s3, s4⟩ := hv
  refine JN_i (i = l' ∨ (s = S ∧ i ≤ l')) (fun q => fin s i s1 s2 s3 s4 q) (fun K hK => ⟨fun z => hK (Or.inl ?_), fun z => ⟨fun z2 => hK (Or.inr ⟨(nI_eq (by omega) (by omega)).mp z2, hi⟩), fun z2 => ?_⟩⟩)
  · have := (leI' (by omega) (by omega)).mp z; omega
  · have il : i < l' := Nat.lt_of_not_le fun w => z (nI_le w (by omega))
    have sne : s ≠ S := fun w => z2 (by rw [w])
    have em : (-1 : Int32) = -nI 1 := rfl
    rw [em, nI_andN]
    have ab : ∀ x, (aNot S s).testBit x = (S.testBit x && !s.testBit x) := fun x => aNot_bit
    have alt : aNot S s < 2 ^ n := Nat.lt_of_le_of_lt aNot_le hS
    have an0 : aNot S s ≠ 0 := fun w => sne (by
      refine Nat.eq_of_testBit_eq fun x => ?_
      have q := ab x
      rw [w, Nat.zero_testBit] at q
      by_cases c : x < n
      · cases q1 : s.testBit x with
        | true => rw [s2 x c q1]
        | false =>
          cases q2 : S.testBit x with
          | false => rfl
          | true => rw [q1, q2] at q; cases q
      · rw [Nat.testBit_lt_two_pow (Nat.lt_of_lt_of_le s1 (Nat.pow_le_pow_right (by omega) (by omega))), Nat.testBit_lt_two_pow (Nat.lt_of_lt_of_le hS (Nat.pow_le_pow_right (by omega) (by omega)))])
    refine x_mostM hG alt an0 fun r r1 r2 r3 => ?_
    rw [ab, Bool.and_eq_true] at r2
    have rS := r2.1
    have rs : s.testBit r = false := by simpa using r2.2
    rw [n1, shl' (by omega), nI_or, nI_add]
    rintro v14 rfl v16 rfl
    have ob : ∀ x, (s ||| 2 ^ r).testBit x = (s.testBit x || decide (r = x)) := fun x => by rw [Nat.testBit_or, Nat.testBit_two_pow]
    refine hr il _ _ ⟨rfl, s ||| 2 ^ r, rfl, Nat.or_lt_two_pow s1 (Nat.pow_lt_pow_right (by omega) r1), fun x hx hb => ?_, ?_, fun a b ha hb h1 h2 h3 => ?_⟩
    · rw [ob, Bool.or_eq_true] at hb
      rcases hb with hb | hb
      · exact s2 x hx hb
      · rw [← of_decide_eq_true hb]; exact rS
    · rw [← s3]
      refine sumN_up r1 ?_ (fun x hx hne => b1_c ?_)
      · rw [b1_t (by rw [ob]; simp), b1_f (by rw [rs]; decide)]
      · rw [ob, decide_eq_false (fun z => hne z.symm), Bool.or_false]
    · rw [ob, Bool.or_eq_false_iff] at h3
      have rb : r ≠ b := of_decide_eq_false h3.2
      rw [ob, Bool.or_eq_true] at h1
      have hrb : bef Mk r b := by
        have := r3 b hb (by rw [ab, h2, h3.1]; rfl)
        rcases this with w | w
        · exact absurd w.symm rb
        · exact w
      rcases h1 with h1 | h1
      · exact s4 a b ha hb h1 h2 h3.1
      · rw [← of_decide_eq_true h1]; exact hrb
end
