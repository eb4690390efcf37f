section
/-! ODDS: the one makes ready -/
/-- the weights, as the one holds them ready -/
def PW (D : Dy) (t n : Nat) (W : Nat → Nat → Nat) : Prop := ∀ k, k < 3 → ∀ o, (o < n ∨ o = 7) → D.1 (t + 10) (8 * k + o) = nI (W k o)
theorem PW_c {D D' : Dy} {t n : Nat} {W : Nat → Nat → Nat} (h : PW D t n W) (e : ∀ y, D'.1 (t + 10) y = D.1 (t + 10) y) : PW D' t n W := fun k hk o ho => by rw [e]; exact h k hk o ho
theorem wix {k o : Nat} : nI k * (8 : Int32) + nI o = nI (8 * k + o) := by
  rw [show (8 : Int32) = nI 8 from rfl, nI_mul, nI_add, Nat.mul_comm]
theorem xg_w {D : Dy} {n : Nat} {Mk Pr Ne : Nat → Nat} (h : XG D n Mk Pr Ne) : ∀ i, i < n → D.1 2 i = nI (Mk i) ∧ Mk i < 256 ∧ D.1 3 i = nI (Pr i) ∧ Pr i < 100 := fun i hi => ⟨(h.2.2 i hi).1.1, (h.2.2 i hi).1.2, (h.2.2 i hi).2.1.1, (h.2.2 i hi).2.1.2⟩
theorem mg_w {D : Dy} {n : Nat} {Mk Pr Ne : Nat → Nat} (h : MG D n Mk Pr Ne) : ∀ i, i < n → D.1 34 i = nI (Mk i) ∧ Mk i < 256 ∧ D.1 35 i = nI (Pr i) ∧ Pr i < 100 := fun i hi => ⟨(h.2.2 i hi).1.1, (h.2.2 i hi).1.2, (h.2.2 i hi).2.1.1, (h.2.2 i hi).2.1.2⟩
theorem XM_c {D D' : Dy} {t : Nat} {M : Mdt} (h : XM D t M) (e : ∀ a y, (a = t ∧ (y = 6 ∨ y = 7 ∨ y = 8)) ∨ (t + 1 ≤ a ∧ a ≤ t + 4) → D'.1 a y = D.1 a y) : XM D' t M := by
  obtain ⟨h1, h2, h3, h4, ⟨l, h5, h6⟩, h7⟩ := h
  exact ⟨fun i hi => by rw [e _ _ (by omega)]; exact h1 i hi, fun i hi => by rw [e _ _ (by omega)]; exact h2 i hi, by rw [e _ _ (by omega)]; exact h3, by rw [e _ _ (by omega)]; exact h4, ⟨l, by rw [e _ _ (by omega)]; exact h5, h6⟩, fun k hk => by rw [e _ _ (by omega), e _ _ (by omega)]; exact h7 k hk⟩
def frPw (t : Nat) (D D' : Dy) : Prop := D'.2 = D.2 ∧ ∀ b y, b ≠ t + 10 → D'.1 b y = D.1 b y
theorem frPw_s {t k : Nat} {D D' : Dy} {v : Int32} (h : frPw t D D') : frPw t D (sI D' (t + 10) k v) := ⟨h.1, fun b y h1 => by rw [sI_1, if_neg (fun z => h1 z.1)]; exact h.2 b y h1⟩
theorem x_prep {D : Dy} {t kd n : Nat} {M : Mdt} {Mk Pr Ne : Nat → Nat} (hG : XG D n Mk Pr Ne) (ht : 65 ≤ t) (hM : okM M) (hX : XM D t M) {post : Dy → Prop} (h : ∀ D', frPw t D D' → PW D' t n (wt M Mk Pr) → post D') : fX4_prepare t kd D post := by
  have n6 := hG.1
  have e24 : ∀ k o, k < 3 → o < 8 → vp_in (nI k * (8 : Int32) + nI o) 24 := fun k o hk ho => by rw [wix]; exact nI_in (by omega) (by omega)
  unfold fX4_prepare
  refine lp2_I 3 (fun k v D' => v = nI k ∧ frPw t D D' ∧ ∀ k', k' < k → ∀ o, (o < n ∨ o = 7) → D'.1 (t + 10) (8 * k' + o) = nI (wt M Mk Pr k' o)) (by omega) (fun k hk v D' hv rec hr => ?_) ⟨rfl, ⟨rfl, fun _ _ _ => rfl⟩, fun k hk => absurd hk (Nat.not_lt_zero _)⟩
  obtain ⟨rfl, f1, g1⟩ := hv
  by_cases e : k = 3
  · subst e
    exact ⟨fun _ => h D' f1 g1, fun z => absurd (Int32.le_refl _) z⟩
  · have hk' : k < 3 := by omega
    refine ⟨fun z => absurd z (nI_ge (b := 3) hk' (by omega)), fun _ => ?_⟩
    refine lp2_I n (fun j v D2 => v = nI j ∧ frPw t D D2 ∧ (∀ k', k' < k → ∀ o, (o < n ∨ o = 7) → D2.1 (t + 10) (8 * k' + o) = nI (wt M Mk Pr k' o)) ∧ ∀ o, o < j → D2.1 (t + 10) (8 * k + o) = nI (wt M Mk Pr k o)) (by omega) (fun j hj v D2 hv rec2 hr2 => ?_) ⟨rfl, f1, g1, fun o ho => absurd ho (Nat.not_lt_zero _)⟩
    obtain ⟨rfl, f2, g2, g3⟩ := hv
    have G2 : XG D2 n Mk Pr Ne := XG_c hG fun a y h => f2.2 _ _ (by omega)
    have X2 : XM D2 t M := XM_c hX fun a y h => f2.2 _ _ (by omega)
    rw [G2.2.1]
    by_cases e2 : j = n
    · subst e2
      refine ⟨fun _ => ?_, fun z => absurd (Int32.le_refl _) z⟩
      refine xv_weight (o := 7) n6 hM X2 (xg_w G2) hk' (Or.inr rfl) ⟨e24 k 7 hk' (by omega), ?_⟩
      rw [show nI k * (8 : Int32) + 7 = nI (8 * k + 7) from wix, nI_clamp (by omega), nI_1]
      rintro D16 rfl v18 rfl
      refine hr hk' _ _ ⟨rfl, frPw_s f2, fun k' hk2 o ho => ?_⟩
      rw [sI_1]
      by_cases e3 : k' = k ∧ o = 7
      · rw [if_pos ⟨rfl, by omega⟩, e3.1, e3.2]
      · rw [if_neg (by omega)]
        by_cases e4 : k' = k
        · subst e4; exact g3 o (by omega)
        · exact g2 k' (by omega) o ho
    · have hj' : j < n := by omega
      refine ⟨fun z => absurd z (nI_ge hj' (by omega)), fun _ => ?_⟩
      refine xv_weight (o := j) n6 hM X2 (xg_w G2) hk' (Or.inl hj') ⟨e24 k j hk' (by omega), ?_⟩
      rw [wix, nI_clamp (by omega), nI_1]
      rintro D25 rfl v27 rfl
      refine hr2 hj' _ _ ⟨rfl, frPw_s f2, fun k' hk2 o ho => ?_, fun o ho => ?_⟩
      · rw [sI_1, if_neg (by omega)]; exact g2 k' hk2 o ho
      · rw [sI_1]
        by_cases e3 : o = j
        · rw [if_pos ⟨rfl, by omega⟩, e3]
        · rw [if_neg (by omega)]; exact g3 o (by omega)
theorem xv_6 {kd : Nat} {P : Nat → Prop} (h : P kd) : (kd = 0 → P 0) ∧ (kd = 1 → P 1) ∧ (kd = 2 → P 2) ∧ (kd = 3 → P 3) ∧ (kd = 4 → P 4) ∧ (kd = 5 → P 5) := ⟨fun e => e ▸ h, fun e => e ▸ h, fun e => e ▸ h, fun e => e ▸ h, fun e => e ▸ h, fun e => e ▸ h⟩
theorem x_weighed {D : Dy} {t n kd k o : Nat} {W : Nat → Nat → Nat} (hW : PW D t n W) (hn : n ≤ 6) (hk : k < 3) (ho : o < n ∨ o = 7) {post : Int32 → Prop} (h : post (nI (W k o))) : v_weighed t kd (nI o) (nI k) D post := by
  unfold v_weighed
  refine xv_6 (P := fun kd => fX4_weighed t kd (nI o) (nI k) D post) ?_
  unfold fX4_weighed
  rw [wix, nI_clamp (by omega), hW k hk o ho]
  exact ⟨nI_in (by omega) (by omega), h⟩
/-- the sum of the weights of those in a set -/
def sW (W : Nat → Nat → Nat) (S k n : Nat) : Nat := sumN (fun o => if S.testBit o = true then W k o else 0) n
theorem sW_le {W : Nat → Nat → Nat} {S k n : Nat} (hw : ∀ k o, W k o ≤ 50) : sW W S k n ≤ 50 * n := by
  unfold sW
  induction n with
  | zero => exact Nat.le_refl _
  | succ n ih =>
    rw [sumN_s]
    have := hw k n
    split <;> omega
theorem x_sumW {D : Dy} {t n kd k S : Nat} {W : Nat → Nat → Nat} {Mk Pr Ne : Nat → Nat} (hG : XG D n Mk Pr Ne) (hW : PW D t n W) (hw : ∀ k o, W k o ≤ 50) (hk : k < 3) (hS : S < 2 ^ n) {post : Int32 → Prop} (h : post (nI (sW W S k n))) : v_sumWeights t kd (nI S) (nI k) D post := by
  have n6 := hG.1
  have pw := pw6 n6
  unfold v_sumWeights
  refine xv_6 (P := fun kd => fX4_sumWeights t kd (nI S) (nI k) D post) ?_
  unfold fX4_sumWeights
  rw [hG.2.1]
  refine lp2_I n (fun j v1 v2 => v2 = nI j ∧ v1 = nI (sW W S k j)) (by omega) (fun j hj v1 v2 hv rec hr => ?_) ⟨rfl, rfl⟩
  obtain ⟨rfl, rfl⟩ := hv
  by_cases e : j = n
  · subst e
    exact ⟨fun _ => h, fun z => absurd (Int32.le_refl _) z⟩
  · have hj' : j < n := by omega
    have es : sW W S k (j + 1) = sW W S k j + (if S.testBit j = true then W k j else 0) := rfl
    refine ⟨fun z => absurd z (nI_ge hj' (by omega)), fun _ => ?_⟩
    rw [isIn' (by omega) (by omega)]
    refine JN_1 (fun v => v = nI (sW W S k (j + 1))) (fun v hv => ?_) (fun K hK => ⟨fun z => hK _ ?_, fun z => ?_⟩)
    · subst hv
      rintro v14 rfl
      rw [nI_1]
      exact hr hj' _ _ ⟨rfl, rfl⟩
    · have z : S.testBit j = false := by rw [n0, bB_0] at z; exact z
      rw [es, if_neg (by rw [z]; simp), Nat.add_zero]
    · have z : S.testBit j = true := by rw [n0, bB_0] at z; simpa using z
      refine x_weighed hW n6 hk (Or.inl hj') ?_
      rintro v22 rfl
      refine hK _ ?_
      rw [es, if_pos z, nI_add]
/-! what a share leaves -/
def SH (D : Dy) (t : Nat) (A B : Nat → Nat) : Prop := ∀ o, o < 8 → D.2 (t + 11) o = lN (A o) ∧ D.2 (t + 12) o = lN (B o)
def frS (t kd : Nat) (D D' : Dy) : Prop := (∀ b y, ¬ (kd = 2 ∧ b = t + 13) → ¬ (kd = 2 ∧ b = t + 14) → D'.1 b y = D.1 b y) ∧ ∀ b y, b ≠ t + 11 → b ≠ t + 12 → D'.2 b y = D.2 b y
theorem frS_r {t kd : Nat} {D : Dy} : frS t kd D D := ⟨fun _ _ _ _ => rfl, fun _ _ _ _ => rfl⟩
theorem frS_t {t kd : Nat} {D D' D'' : Dy} (h : frS t kd D D') (h' : frS t kd D' D'') : frS t kd D D'' := ⟨fun b y h1 h2 => (h'.1 b y h1 h2).trans (h.1 b y h1 h2), fun b y h1 h2 => (h'.2 b y h1 h2).trans (h.2 b y h1 h2)⟩
theorem frS_l {t kd a k : Nat} {D D' : Dy} {v : Int64} (h : frS t kd D D') (ha : a = t + 11 ∨ a = t + 12) : frS t kd D (sL D' a k v) := ⟨h.1, fun b y h1 h2 => by rw [sL_2, if_neg (by omega)]; exact h.2 b y h1 h2⟩
theorem frS_i {t a k : Nat} {D D' : Dy} {v : Int32} (h : frS t 2 D D') (ha : a = t + 13 ∨ a = t + 14) : frS t 2 D (sI D' a k v) := ⟨fun b y h1 h2 => by rw [sI_1, if_neg (by omega)]; exact h.1 b y h1 h2, h.2⟩
theorem XG_s {D D' : Dy} {t kd n : Nat} {Mk Pr Ne : Nat → Nat} (h : XG D n Mk Pr Ne) (f : frS t kd D D') (ht : 65 ≤ t) : XG D' n Mk Pr Ne := XG_c h fun a y ha => f.1 _ _ (by omega) (by omega)
theorem PW_s {D D' : Dy} {t kd n : Nat} {W : Nat → Nat → Nat} (h : PW D t n W) (f : frS t kd D D') : PW D' t n W := PW_c h fun y => f.1 _ _ (by omega) (by omega)
theorem SH_s {D : Dy} {t o a b : Nat} {A B : Nat → Nat} (h : SH D t A B) : SH (sL (sL D (t + 11) o (lN a)) (t + 12) o (lN b)) t (upN A o a) (upN B o b) := fun i hi => by
  obtain ⟨h1, h2⟩ := h i hi
  unfold upN
  rw [sL_2, if_neg (by omega), sL_2, sL_2, sL_2]
  by_cases c : i = o
  · rw [if_pos ⟨rfl, c⟩, if_pos c, if_pos ⟨rfl, c⟩, if_pos c]; exact ⟨rfl, rfl⟩
  · rw [if_neg (fun z => c z.2), if_neg c, if_neg (fun z => c z.2), if_neg c, if_neg (by omega)]; exact ⟨h1, h2⟩
theorem SH_c {D : Dy} {t : Nat} {A B A' B' : Nat → Nat} (h : SH D t A B) (e : ∀ o, o < 8 → A o = A' o ∧ B o = B' o) : SH D t A' B' := fun o ho => by
  rw [← (e o ho).1, ← (e o ho).2]; exact h o ho
theorem x_clrS {D : Dy} {t kd : Nat} {post : Dy → Prop} (h : ∀ D', frS t kd D D' → D'.1 = D.1 → SH D' t (fun _ => 0) (fun _ => 1) → post D') : v_clearShares t kd D post := by
  unfold v_clearShares
  refine xv_6 (P := fun kd => fX4_clearShares t kd D post) ?_
  unfold fX4_clearShares
  refine lp2_I 8 (fun k v D' => v = nI k ∧ frS t kd D D' ∧ D'.1 = D.1 ∧ ∀ o, o < k → D'.2 (t + 11) o = lN 0 ∧ D'.2 (t + 12) o = lN 1) (by omega) (fun k hk v D' hv rec hr => ?_) ⟨rfl, frS_r, rfl, fun o ho => absurd ho (Nat.not_lt_zero _)⟩
  obtain ⟨rfl, f1, d1, g1⟩ := hv
  by_cases e : k = 8
  · subst e
    exact ⟨fun _ => h D' f1 d1 g1, fun z => absurd (Int32.le_refl _) z⟩
  · have hk' : k < 8 := by omega
    refine ⟨fun z => absurd z (nI_ge (b := 8) hk' (by omega)), fun _ => ⟨nI_in hk' (by omega), ?_⟩⟩
    rw [nI_clamp (by omega), nI_1]
    rintro D6 rfl
    refine ⟨nI_in hk' (by omega), ?_⟩
    rintro D8 rfl v10 rfl
    refine hr hk' _ _ ⟨rfl, frS_l (frS_l f1 (Or.inl rfl)) (Or.inr rfl), d1, fun o ho => ?_⟩
    rw [sL_2, if_neg (by omega), sL_2, sL_2, sL_2]
    by_cases c : o = k
    · rw [if_pos ⟨rfl, c⟩, if_pos ⟨rfl, c⟩]; exact ⟨rfl, rfl⟩
    · rw [if_neg (fun z => c z.2), if_neg (fun z => c z.2), if_neg (by omega)]; exact g1 o (by omega)
/-- the rule of sums -/
def odP (W : Nat → Nat → Nat) (n S k o : Nat) : Nat × Nat := if o = 7 ∨ S.testBit o = true then (W k o, sW W S k n + W k 7) else (0, 1)
theorem lt_bit {S n o : Nat} (hS : S < 2 ^ n) (h : S.testBit o = true) : o < n := by
  refine Nat.lt_of_not_le fun z => ?_
  rw [Nat.testBit_lt_two_pow (Nat.lt_of_lt_of_le hS (Nat.pow_le_pow_right (by omega) z))] at h
  cases h
theorem x_plain {D : Dy} {t n kd k S : Nat} {W : Nat → Nat → Nat} {Mk Pr Ne : Nat → Nat} (hG : XG D n Mk Pr Ne) (ht : 65 ≤ t) (hW : PW D t n W) (hw : ∀ k o, W k o ≤ 50) (hk : k < 3) (hS : S < 2 ^ n) {post : Dy → Prop} (h : ∀ D', frS t kd D D' → SH D' t (fun o => (odP W n S k o).1) (fun o => (odP W n S k o).2) → post D') : fX7_share t kd (nI S) (nI k) D post := by
  have n6 := hG.1
  have pw := pw6 n6
  unfold fX7_share
  refine x_clrS fun D1 f1 d1 s1 => ?_
  have G1 := XG_s hG f1 ht
  have W1 := PW_s hW f1
  have w7 := hw k 7
  have sl := sW_le (W := W) (S := S) (k := k) (n := n) hw
  refine x_weighed (o := 7) W1 n6 hk (Or.inr rfl) (x_sumW G1 W1 hw hk hS ?_)
  rintro v17 rfl
  rw [nI_add]
  refine lp2_I n (fun j v D' => v = nI j ∧ frS t kd D D' ∧ SH D' t (fun o => if o < j ∧ S.testBit o = true then W k o else 0) (fun o => if o < j ∧ S.testBit o = true then sW W S k n + W k 7 else 1)) (by omega) (fun j hj v D' hv rec hr => ?_) ⟨rfl, f1, SH_c s1 fun o ho => by rw [if_neg (by omega), if_neg (by omega)]; exact ⟨rfl, rfl⟩⟩
  obtain ⟨rfl, f2, s2⟩ := hv
  have G2 := XG_s hG f2 ht
  have W2 := PW_s hW f2
  rw [G2.2.1]
  by_cases e : j = n
  · subst e
    refine ⟨fun _ => ⟨nI_in (c := 7) (by omega) (by omega), ?_⟩, fun z => absurd (Int32.le_refl _) z⟩
    rw [nI_l (by omega), nI_l (by omega)]
    rintro D24 rfl
    refine ⟨nI_in (c := 7) (by omega) (by omega), ?_⟩
    rintro D26 rfl
    refine h _ (frS_l (frS_l f2 (Or.inl rfl)) (Or.inr rfl)) ?_
    refine SH_c (SH_s (o := 7) s2) fun o ho => ?_
    unfold upN odP
    try dsimp only
    by_cases c : o = 7
    · simp [c]
    · rw [if_neg c, if_neg c]
      by_cases c2 : S.testBit o = true
      · simp [c, c2, lt_bit hS c2]
      · simp [c, c2]
  · have hj' : j < n := by omega
    refine ⟨fun z => absurd z (nI_ge hj' (by omega)), fun _ => ?_⟩
    rw [isIn' (by omega) (by omega)]
    refine JN_1 (fun D3 => frS t kd D D3 ∧ SH D3 t (fun o => if o < j + 1 ∧ S.testBit o = true then W k o else 0) (fun o => if o < j + 1 ∧ S.testBit o = true then sW W S k n + W k 7 else 1)) (fun D3 hv => ?_) (fun K hK => ⟨fun z => hK _ ⟨f2, ?_⟩, fun z => ?_⟩)
    · rintro v14 rfl
      rw [nI_1]
      exact hr hj' _ _ ⟨rfl, hv⟩
    · have z : S.testBit j = false := by rw [n0, bB_0] at z; exact z
      refine SH_c s2 fun o ho => ?_
      try dsimp only
      by_cases c : o = j
      · rw [c]; simp [z]
      · have : (o < j ∧ S.testBit o = true) = (o < j + 1 ∧ S.testBit o = true) := propext ⟨fun q => ⟨by omega, q.2⟩, fun q => ⟨by omega, q.2⟩⟩
        simp only [this, eq_self, and_self]
    · have z : S.testBit j = true := by rw [n0, bB_0] at z; simpa using z
      have wj := hw k j
      refine x_weighed W2 n6 hk (Or.inl hj') ⟨nI_in (by omega) (by omega), ?_⟩
      rw [nI_clamp (by omega), nI_l (by omega), nI_l (by omega)]
      rintro D44 rfl
      refine ⟨nI_in (by omega) (by omega), ?_⟩
      rintro D46 rfl
      refine hK _ ⟨frS_l (frS_l f2 (Or.inl rfl)) (Or.inr rfl), SH_c (SH_s (o := j) s2) fun o ho => ?_⟩
      unfold upN
      try dsimp only
      by_cases c : o = j
      · rw [c]; simp [z]
      · have : (o < j ∧ S.testBit o = true) = (o < j + 1 ∧ S.testBit o = true) := propext ⟨fun q => ⟨by omega, q.2⟩, fun q => ⟨by omega, q.2⟩⟩
        rw [if_neg c, if_neg c]; simp only [this, eq_self, and_self]
end
