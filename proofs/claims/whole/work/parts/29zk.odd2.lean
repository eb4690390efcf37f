section
/-! ODDS: the one's shares of kinds 0, 5, 3, 2 -/
def od0 (S o : Nat) : Nat × Nat := if S.testBit o = true then (1, pc S) else (0, 1)
theorem x_share0 {D : Dy} {t n S : Nat} {k : Int32} {Mk Pr Ne : Nat → Nat} (hG : XG D n Mk Pr Ne) (ht : 65 ≤ t) (hS : S < 2 ^ n) {post : Dy → Prop} (h : ∀ D', frS t 0 D D' → SH D' t (fun o => (od0 S o).1) (fun o => (od0 S o).2) → post D') : fX4_share t (nI S) k D post := by
  have n6 := hG.1
  have pw := pw6 n6
  have p8 := @pc_8 S
  unfold fX4_share
  refine x_clrS fun D1 f1 d1 s1 => ?_
  refine lp2_I n (fun j v D' => v = nI j ∧ frS t 0 D D' ∧ SH D' t (fun o => if o < j ∧ S.testBit o = true then 1 else 0) (fun o => if o < j ∧ S.testBit o = true then pc S else 1)) (by omega) (fun j hj v D' hv rec hr => ?_) ⟨rfl, f1, SH_c s1 fun o ho => by rw [if_neg (by omega), if_neg (by omega)]; exact ⟨rfl, rfl⟩⟩
  obtain ⟨rfl, f2, s2⟩ := hv
  have G2 := XG_s hG f2 ht
  rw [G2.2.1]
  by_cases e : j = n
  · subst e
    refine ⟨fun _ => h _ f2 (SH_c s2 fun o ho => ?_), fun z => absurd (Int32.le_refl _) z⟩
    unfold od0
    try dsimp only
    by_cases c2 : S.testBit o = true
    · simp [c2, lt_bit hS c2]
    · simp [c2]
  · have hj' : j < n := by omega
    refine ⟨fun z => absurd z (nI_ge hj' (by omega)), fun _ => ?_⟩
    rw [isIn' (by omega) (by omega)]
    refine JN_1 (fun D3 => frS t 0 D D3 ∧ SH D3 t (fun o => if o < j + 1 ∧ S.testBit o = true then 1 else 0) (fun o => if o < j + 1 ∧ S.testBit o = true then pc S else 1)) (fun D3 hv => ?_) (fun K hK => ⟨fun z => hK _ ⟨f2, ?_⟩, fun z => ?_⟩)
    · rintro v14 rfl
      rw [nI_1]
      exact hr hj' _ _ ⟨rfl, hv⟩
    · have z : S.testBit j = false := by rw [n0, bB_0] at z; exact z
      refine SH_c s2 fun o ho => ?_
      try dsimp only
      by_cases c : o = j
      · rw [c]; simp [z]
      · have : (o < j ∧ S.testBit o = true) = (o < j + 1 ∧ S.testBit o = true) := propext ⟨fun q => ⟨by omega, q.2⟩, fun q => ⟨by omega, q.2⟩⟩
        simp only [this, eq_self, and_self]
    · have z : S.testBit j = true := by rw [n0, bB_0] at z; simpa using z
      refine ⟨nI_in (by omega) (by omega), ?_⟩
      rw [nI_clamp (by omega), bitC' (by omega)]
      rintro D44 rfl v25 rfl
      rw [nI_l (by omega)]
      refine ⟨nI_in (by omega) (by omega), ?_⟩
      rintro D46 rfl
      refine hK _ ⟨frS_l (frS_l f2 (Or.inl rfl)) (Or.inr rfl), SH_c (SH_s (o := j) (a := 1) s2) fun o ho => ?_⟩
      unfold upN
      try dsimp only
      by_cases c : o = j
      · rw [c]; simp [z]
      · have : (o < j ∧ S.testBit o = true) = (o < j + 1 ∧ S.testBit o = true) := propext ⟨fun q => ⟨by omega, q.2⟩, fun q => ⟨by omega, q.2⟩⟩
        rw [if_neg c, if_neg c]; simp only [this, eq_self, and_self]
def od5 (Mk Pr Ne : Nat → Nat) (cs : List (List Nat)) (n S o : Nat) : Nat × Nat := (if o = pkd Mk Pr Ne cs n S then 1 else 0, 1)
theorem SH_a {D : Dy} {t o a : Nat} {A B : Nat → Nat} (h : SH D t A B) : SH (sL D (t + 11) o (lN a)) t (upN A o a) B := fun i hi => by
  obtain ⟨h1, h2⟩ := h i hi
  unfold upN
  rw [sL_2, sL_2, if_neg (fun (z : t + 12 = t + 11 ∧ i = o) => by omega)]
  by_cases c : i = o
  · rw [if_pos ⟨rfl, c⟩, if_pos c]; exact ⟨rfl, h2⟩
  · rw [if_neg (fun z => c z.2), if_neg c]; exact ⟨h1, h2⟩
/-- what picks hold, as the one has run them -/
def XB (D : Dy) (t n : Nat) (cs : List (List Nat)) (Mk Pr Ne : Nat → Nat) : Prop := D.1 t 15 = nI cs.length ∧ cs.length ≤ 10 ∧ ∀ j, j < cs.length → ∀ x, x < n → bt (D.1 (t + 6) j) x = hN Mk Pr Ne (cs.getD j []) x
theorem x_share5 {D : Dy} {t n S : Nat} {k : Int32} {cs : List (List Nat)} {Mk Pr Ne : Nat → Nat} (hG : XG D n Mk Pr Ne) (hB : XB D t n cs Mk Pr Ne) (hS : S < 2 ^ n) {post : Dy → Prop} (h : ∀ D', frS t 5 D D' → SH D' t (fun o => (od5 Mk Pr Ne cs n S o).1) (fun o => (od5 Mk Pr Ne cs n S o).2) → post D') : fX8_share t (nI S) k D post := by
  have n6 := hG.1
  have lt := pkd_lt (Mk := Mk) (Pr := Pr) (Ne := Ne) (cs := cs) (n := n) (S := S)
  unfold fX8_share
  refine x_clrS fun D1 f1 d1 s1 => ?_
  refine x_pick (XG_c hG fun a y _ => by rw [d1]) (by rw [d1]; exact hB.1) hB.2.1 (fun j hj x hx => by rw [d1]; exact hB.2.2 j hj x hx) hS ⟨nI_in (by omega) (by omega), ?_⟩
  rw [nI_clamp (by omega)]
  rintro D12 rfl
  refine h _ (frS_l f1 (Or.inl rfl)) (SH_c (SH_a (a := 1) s1) fun o ho => ?_)
  unfold upN od5
  try dsimp only
  exact ⟨rfl, rfl⟩
/-! kinds 3 -/
def sW7 (W : Nat → Nat → Nat) (S n k : Nat) : Nat := sW W S k n + W k 7
def od3 (W : Nat → Nat → Nat) (sh : Nat → Nat) (n S k o : Nat) : Nat × Nat :=
  if sh 0 + sh 1 + sh 2 = 0 then odP W n S k o
  else if o = 7 ∨ S.testBit o = true then (sh 0 * sW7 W S n 1 * sW7 W S n 2 * W 0 o + sh 1 * sW7 W S n 0 * sW7 W S n 2 * W 1 o + sh 2 * sW7 W S n 0 * sW7 W S n 1 * W 2 o, (sh 0 + sh 1 + sh 2) * sW7 W S n 0 * sW7 W S n 1 * sW7 W S n 2)
  else (0, 1)
theorem eq0L {a : Nat} (h : a < 2 ^ 31) : lg_cmp (lN a) 0 = 0 ↔ a = 0 := by
  rw [lg_cmp_eq, show (0 : Int64) = lN 0 from rfl, lN_eq h (by omega)]
theorem x_share3 {D : Dy} {t n k S : Nat} {M : Mdt} {Mk Pr Ne : Nat → Nat} (hG : XG D n Mk Pr Ne) (ht : 65 ≤ t) (hM : okM M) (hX : XM D t M) (hW : PW D t n (wt M Mk Pr)) (hk : k < 3) (hS : S < 2 ^ n) {post : Dy → Prop} (h : ∀ D', frS t 3 D D' → SH D' t (fun o => (od3 (wt M Mk Pr) (md_s M) n S k o).1) (fun o => (od3 (wt M Mk Pr) (md_s M) n S k o).2) → post D') : fX3_share t (nI S) (nI k) D post := by
  have n6 := hG.1
  have pw := pw6 n6
  have hw : ∀ k o, wt M Mk Pr k o ≤ 50 := fun k o => wt_50
  generalize wt M Mk Pr = W at hW hw h
  obtain ⟨-, -, -, -, -, hs⟩ := hX
  have r0 := (hs 0 (by omega)).1
  have r1 := (hs 1 (by omega)).1
  have r2 := (hs 2 (by omega)).1
  have b0 := (hM.2.2.2.2.2 0 (by omega)).1
  have b1 := (hM.2.2.2.2.2 1 (by omega)).1
  have b2 := (hM.2.2.2.2.2 2 (by omega)).1
  generalize md_s M = sh at r0 r1 r2 b0 b1 b2 h
  have z0 : (0 : Int32).toNatClampNeg = 0 := rfl
  have z1 : (1 : Int32).toNatClampNeg = 1 := rfl
  have z2 : (2 : Int32).toNatClampNeg = 2 := rfl
  have v0 : vp_in (0 : Int32) 3 := nI_in (c := 0) (by omega) (by omega)
  have v1 : vp_in (1 : Int32) 3 := nI_in (c := 1) (by omega) (by omega)
  have v2 : vp_in (2 : Int32) 3 := nI_in (c := 2) (by omega) (by omega)
  unfold fX3_share
  rw [z0, z1, z2, r0, r1, r2, nI_add, nI_add, nI_l (by omega)]
  refine ⟨v0, v1, v2, ?_⟩
  rintro w1 rfl
  refine ⟨fun c => ?_, fun c => ?_⟩
  · have c : ¬ sh 0 + sh 1 + sh 2 = 0 := fun y => c ((eq0L (by omega)).mpr y)
    refine x_clrS fun D1 f1 d1 s1 => ?_
    have G1 := XG_s hG f1 ht
    have W1 := PW_s hW f1
    have l0 := sW_le (W := W) (S := S) (k := 0) (n := n) hw
    have l1 := sW_le (W := W) (S := S) (k := 1) (n := n) hw
    have l2 := sW_le (W := W) (S := S) (k := 2) (n := n) hw
    have u0 := hw 0 7
    have u1 := hw 1 7
    have u2 := hw 2 7
    refine x_sumW (k := 0) G1 W1 hw (by omega) hS (x_weighed (k := 0) (o := 7) W1 n6 (by omega) (Or.inr rfl) ?_)
    rw [nI_add, nI_l (by omega)]
    rintro w20 rfl
    refine x_sumW (k := 1) G1 W1 hw (by omega) hS (x_weighed (k := 1) (o := 7) W1 n6 (by omega) (Or.inr rfl) ?_)
    rw [nI_add, nI_l (by omega)]
    rintro w32 rfl
    refine x_sumW (k := 2) G1 W1 hw (by omega) hS (x_weighed (k := 2) (o := 7) W1 n6 (by omega) (Or.inr rfl) ?_)
    rw [nI_add, nI_l (by omega)]
    rintro w44 rfl
    rw [show D1.1 (t + 3) 0 = nI (sh 0) by rw [d1]; exact r0, show D1.1 (t + 3) 1 = nI (sh 1) by rw [d1]; exact r1, show D1.1 (t + 3) 2 = nI (sh 2) by rw [d1]; exact r2, nI_l (by omega), nI_l (by omega), nI_l (by omega), lN_mul, lN_mul, lN_mul, lN_mul, lN_mul, lN_mul]
    refine ⟨v0, ?_⟩
    rintro w46 rfl
    refine ⟨v1, ?_⟩
    rintro w48 rfl
    refine ⟨v2, ?_⟩
    rintro w50 rfl
    rw [lN_mul, lN_mul, lN_mul]
    have hA : ∀ A B : Nat → Nat, (A = fun o => if o = 7 ∨ S.testBit o = true then sh 0 * sW7 W S n 1 * sW7 W S n 2 * W 0 o + sh 1 * sW7 W S n 0 * sW7 W S n 2 * W 1 o + sh 2 * sW7 W S n 0 * sW7 W S n 1 * W 2 o else 0) → (B = fun o => if o = 7 ∨ S.testBit o = true then (sh 0 + sh 1 + sh 2) * sW7 W S n 0 * sW7 W S n 1 * sW7 W S n 2 else 1) → ∀ o, A o = (od3 W sh n S k o).1 ∧ B o = (od3 W sh n S k o).2 := by
      rintro A B rfl rfl o
      unfold od3
      rw [if_neg c]
      by_cases c2 : o = 7 ∨ S.testBit o = true
      · simp only [if_pos c2]; exact ⟨trivial, trivial⟩
      · simp only [if_neg c2]; exact ⟨trivial, trivial⟩
    have hA := hA _ _ rfl rfl
    refine lp2_I 8 (fun j v D' => v = nI j ∧ frS t 3 D D' ∧ SH D' t (fun o => if o < j then (od3 W sh n S k o).1 else 0) (fun o => if o < j then (od3 W sh n S k o).2 else 1)) (by omega) (fun j hj v D' hv rec hr => ?_) ⟨rfl, f1, SH_c s1 fun o ho => by rw [if_neg (by omega), if_neg (by omega)]; exact ⟨rfl, rfl⟩⟩
    obtain ⟨rfl, f2, s2⟩ := hv
    have G2 := XG_s hG f2 ht
    have W2 := PW_s hW f2
    by_cases e : j = 8
    · subst e
      refine ⟨fun _ => h _ f2 (SH_c s2 fun o ho => ?_), fun z => absurd (Int32.le_refl _) z⟩
      try dsimp only
      rw [if_pos ho, if_pos ho]; exact ⟨rfl, rfl⟩
    · have hj' : j < 8 := by omega
      refine ⟨fun z => absurd z (nI_ge (b := 8) hj' (by omega)), fun _ => ?_⟩
      refine JN_1 (fun D3 => frS t 3 D D3 ∧ SH D3 t (fun o => if o < j + 1 then (od3 W sh n S k o).1 else 0) (fun o => if o < j + 1 then (od3 W sh n S k o).2 else 1)) (fun D3 hv => ?_) (fun K hK => ?_)
      · rintro v14 rfl
        rw [nI_1]
        exact hr hj' _ _ ⟨rfl, hv⟩
      · obtain ⟨a1, a2⟩ := hA j
        refine JN_i (j = 7 ∨ S.testBit j = true) (fun q => ?_) (fun K62 hK62 => ⟨fun z => hK62 (Or.inl ((nI_eq (b := 7) (by omega) (by omega)).mp z)), fun z => ?_⟩)
        · have ho : j < n ∨ j = 7 := by
            rcases q with q | q
            · exact Or.inr q
            · exact Or.inl (lt_bit hS q)
          have t0 := hw 0 j
          have t1 := hw 1 j
          have t2 := hw 2 j
          refine x_weighed (k := 0) W2 n6 (by omega) ho (x_weighed (k := 1) W2 n6 (by omega) ho (x_weighed (k := 2) W2 n6 (by omega) ho ⟨nI_in hj' (by omega), ?_⟩))
          rw [nI_clamp (by omega), nI_l (by omega), nI_l (by omega), nI_l (by omega), lN_mul, lN_mul, lN_mul, lN_add, lN_add]
          rintro D79 rfl
          refine ⟨nI_in hj' (by omega), ?_⟩
          rintro D81 rfl
          refine hK _ ⟨frS_l (frS_l f2 (Or.inl rfl)) (Or.inr rfl), SH_c (SH_s (o := j) s2) fun o ho => ?_⟩
          unfold upN
          try dsimp only
          by_cases c3 : o = j
          · rw [if_pos c3, if_pos c3, c3, if_pos (by omega), if_pos (by omega), ← a1, ← a2, if_pos q, if_pos q]; exact ⟨rfl, rfl⟩
          · have : (o < j) = (o < j + 1) := propext ⟨fun q => by omega, fun q => by omega⟩
            rw [if_neg c3, if_neg c3]; simp only [this, eq_self, and_self]
        · have n7 : ¬ j = 7 := fun y => z (by rw [y]; rfl)
          rw [isIn' (by omega) (by omega)]
          refine ⟨fun z => hK _ ⟨f2, ?_⟩, fun z => hK62 (Or.inr (by rw [n0, bB_0] at z; simpa using z))⟩
          have z : S.testBit j = false := by rw [n0, bB_0] at z; exact z
          have q : ¬ (j = 7 ∨ S.testBit j = true) := by
            rintro (y | y)
            · exact n7 y
            · rw [z] at y; cases y
          rw [if_neg q] at a1 a2
          refine SH_c s2 fun o ho => ?_
          try dsimp only
          by_cases c3 : o = j
          · rw [c3, if_neg (show ¬ j < j by omega), if_neg (show ¬ j < j by omega), if_pos (show j < j + 1 by omega), if_pos (show j < j + 1 by omega), ← a1, ← a2]; exact ⟨rfl, rfl⟩
          · have : (o < j) = (o < j + 1) := propext ⟨fun q => by omega, fun q => by omega⟩
            simp only [this, eq_self, and_self]
  · have c : sh 0 + sh 1 + sh 2 = 0 := (eq0L (by omega)).mp c
    refine x_plain hG ht hW hw hk hS fun D1 f1 s1 => h _ f1 (SH_c s1 fun o ho => ?_)
    unfold od3
    try dsimp only
    rw [if_pos c]; exact ⟨rfl, rfl⟩
/-! kinds 2 -/
def mxW (f : Nat → Nat) : Nat → Nat
  | 0 => 0
  | n + 1 => max (mxW f n) (f n)
def nsW (W : Nat → Nat → Nat) (Ne : Nat → Nat) (S k e o : Nat) : Nat := if S.testBit o = true ∧ Ne o = e then W k o else 0
def grN (W : Nat → Nat → Nat) (Ne : Nat → Nat) (S k e n : Nat) : Nat := mxW (nsW W Ne S k e) n
def ofN (W : Nat → Nat → Nat) (Ne : Nat → Nat) (S k e n : Nat) : Nat := sumN (nsW W Ne S k e) n
def alN (W : Nat → Nat → Nat) (Ne : Nat → Nat) (S k n : Nat) : Nat := W k 7 + sumN (fun e => grN W Ne S k e n) 4
def od2 (W : Nat → Nat → Nat) (Ne : Nat → Nat) (n S k o : Nat) : Nat × Nat :=
  if o = 7 then (W k 7, alN W Ne S k n)
  else if S.testBit o = true then (grN W Ne S k (Ne o) n * W k o, alN W Ne S k n * ofN W Ne S k (Ne o) n)
  else (0, 1)
theorem mxW_le {f : Nat → Nat} {m : Nat} (h : ∀ o, f o ≤ m) : ∀ n, mxW f n ≤ m
  | 0 => Nat.zero_le _
  | n + 1 => by
    have := mxW_le h n
    have := h n
    show max _ _ ≤ m
    omega
theorem sumN_b {f : Nat → Nat} {m : Nat} (h : ∀ o, f o ≤ m) : ∀ n, sumN f n ≤ m * n
  | 0 => Nat.le_refl _
  | n + 1 => by
    have := sumN_b h n
    have := h n
    rw [sumN_s, Nat.mul_succ]
    omega
theorem nsW_le {W : Nat → Nat → Nat} {Ne : Nat → Nat} {S k e o : Nat} (hw : ∀ k o, W k o ≤ 50) : nsW W Ne S k e o ≤ 50 := by
  unfold nsW
  split
  · exact hw k o
  · omega
theorem x_nests {D : Dy} {t n k S : Nat} {W : Nat → Nat → Nat} {Mk Pr Ne : Nat → Nat} (hG : XG D n Mk Pr Ne) (ht : 65 ≤ t) (hW : PW D t n W) (hw : ∀ k o, W k o ≤ 50) (hk : k < 3) (hS : S < 2 ^ n) {post : Dy → Prop} (h : ∀ D', frS t 2 D D' → D'.2 = D.2 → (∀ e, e < 4 → D'.1 (t + 13) e = nI (grN W Ne S k e n) ∧ D'.1 (t + 14) e = nI (ofN W Ne S k e n)) → post D') : fX5_gatherNests t (nI S) (nI k) D post := by
  have n6 := hG.1
  have pw := pw6 n6
  unfold fX5_gatherNests
  refine lp2_I 4 (fun k v D' => v = nI k ∧ frS t 2 D D' ∧ D'.2 = D.2 ∧ ∀ e, e < k → D'.1 (t + 13) e = nI 0 ∧ D'.1 (t + 14) e = nI 0) (by omega) (fun j hj v D' hv rec hr => ?_) ⟨rfl, frS_r, rfl, fun o ho => absurd ho (Nat.not_lt_zero _)⟩
  obtain ⟨rfl, f1, d1, g1⟩ := hv
  by_cases e : j = 4
  · subst e
    refine ⟨fun _ => ?_, fun z => absurd (Int32.le_refl _) z⟩
    refine lp2_I n (fun j v D' => v = nI j ∧ frS t 2 D D' ∧ D'.2 = D.2 ∧ ∀ e, e < 4 → D'.1 (t + 13) e = nI (grN W Ne S k e j) ∧ D'.1 (t + 14) e = nI (ofN W Ne S k e j)) (by omega) (fun j hj v D2 hv rec2 hr2 => ?_) ⟨rfl, f1, d1, g1⟩
    obtain ⟨rfl, f2, d2, g2⟩ := hv
    have G2 := XG_s hG f2 ht
    have W2 := PW_s hW f2
    rw [G2.2.1]
    by_cases e2 : j = n
    · subst e2
      exact ⟨fun _ => h D2 f2 d2 g2, fun z => absurd (Int32.le_refl _) z⟩
    · have hj' : j < n := by omega
      have eg : ∀ e, grN W Ne S k e (j + 1) = max (grN W Ne S k e j) (nsW W Ne S k e j) := fun e => rfl
      have eo : ∀ e, ofN W Ne S k e (j + 1) = ofN W Ne S k e j + nsW W Ne S k e j := fun e => rfl
      refine ⟨fun z => absurd z (nI_ge hj' (by omega)), fun _ => ?_⟩
      rw [isIn' (by omega) (by omega)]
      refine JN_1 (fun D3 => frS t 2 D D3 ∧ D3.2 = D.2 ∧ ∀ e, e < 4 → D3.1 (t + 13) e = nI (grN W Ne S k e (j + 1)) ∧ D3.1 (t + 14) e = nI (ofN W Ne S k e (j + 1))) (fun D3 hv => ?_) (fun K hK => ⟨fun z => hK _ ⟨f2, d2, fun e he => ?_⟩, fun z => ?_⟩)
      · rintro v14 rfl
        rw [nI_1]
        exact hr2 hj' _ _ ⟨rfl, hv⟩
      · have z : S.testBit j = false := by rw [n0, bB_0] at z; exact z
        have : nsW W Ne S k e j = 0 := by unfold nsW; rw [if_neg (by rw [z]; simp)]
        rw [eg, eo, this, Nat.max_zero, Nat.add_zero]; exact g2 e he
      · have z : S.testBit j = true := by rw [n0, bB_0] at z; simpa using z
        obtain ⟨-, -, ⟨q1, q2⟩⟩ := G2.2.2 j hj'
        have wj := hw k j
        obtain ⟨a1, a2⟩ := g2 (Ne j) q2
        have ml := mxW_le (f := nsW W Ne S k (Ne j)) (m := 50) (fun o => nsW_le hw) j
        have ml : grN W Ne S k (Ne j) j ≤ 50 := ml
        refine ⟨nI_in (by omega) (by omega), ?_⟩
        rw [nI_clamp (by omega), q1]
        rintro v22 rfl
        have vq : vp_in (nI (Ne j)) 4 := nI_in q2 (by omega)
        refine ⟨vq, x_weighed W2 n6 hk (Or.inl hj') ?_⟩
        rw [nI_clamp (by omega), a1]
        rintro v29 rfl v31 rfl
        rw [max_if (by omega) (by omega)]
        refine ⟨vq, ?_⟩
        rintro D33 rfl
        have f3 : frS t 2 D2 (sI D2 (t + 13) (Ne j) (nI (max (grN W Ne S k (Ne j) j) (W k j)))) := frS_i frS_r (Or.inl rfl)
        refine ⟨vq, x_weighed (PW_s W2 f3) n6 hk (Or.inl hj') ⟨vq, ?_⟩⟩
        have e14 : ∀ v, (sI D2 (t + 13) (Ne j) v).1 (t + 14) (Ne j) = nI (ofN W Ne S k (Ne j) j) := fun v => by rw [sI_1, if_neg (by omega)]; exact a2
        rw [e14, nI_add]
        rintro D40 rfl
        refine hK _ ⟨frS_i (frS_i f2 (Or.inl rfl)) (Or.inr rfl), d2, fun e he => ?_⟩
        try dsimp only
        rw [eg, eo, sI_1, if_neg (by omega), sI_1, sI_1]
        obtain ⟨b1, b2⟩ := g2 e he
        by_cases c : e = Ne j
        · have : nsW W Ne S k e j = W k j := by unfold nsW; rw [if_pos ⟨z, c.symm⟩]
          rw [if_pos ⟨rfl, c⟩, if_pos ⟨rfl, c⟩, this, c]; exact ⟨rfl, rfl⟩
        · have : nsW W Ne S k e j = 0 := by unfold nsW; rw [if_neg (fun y => c y.2.symm)]
          rw [if_neg (fun y => c y.2), if_neg (fun y => c y.2), sI_1, if_neg (by omega), this, Nat.max_zero, Nat.add_zero]; exact ⟨b1, b2⟩
  · have hj' : j < 4 := by omega
    refine ⟨fun z => absurd z (nI_ge (b := 4) hj' (by omega)), fun _ => ⟨nI_in hj' (by omega), ?_⟩⟩
    rw [nI_clamp (by omega), nI_1]
    rintro D6 rfl
    refine ⟨nI_in hj' (by omega), ?_⟩
    rintro D8 rfl v10 rfl
    refine hr hj' _ _ ⟨rfl, frS_i (frS_i f1 (Or.inl rfl)) (Or.inr rfl), d1, fun o ho => ?_⟩
    rw [sI_1, if_neg (by omega), sI_1, sI_1]
    by_cases c : o = j
    · rw [if_pos ⟨rfl, c⟩, if_pos ⟨rfl, c⟩]; exact ⟨rfl, rfl⟩
    · rw [if_neg (fun z => c z.2), if_neg (fun z => c z.2), sI_1, if_neg (by omega)]; exact g1 o (by omega)
theorem x_share2 {D : Dy} {t n k S : Nat} {W : Nat → Nat → Nat} {Mk Pr Ne : Nat → Nat} (hG : XG D n Mk Pr Ne) (ht : 65 ≤ t) (hW : PW D t n W) (hw : ∀ k o, W k o ≤ 50) (hk : k < 3) (hS : S < 2 ^ n) {post : Dy → Prop} (h : ∀ D', frS t 2 D D' → SH D' t (fun o => (od2 W Ne n S k o).1) (fun o => (od2 W Ne n S k o).2) → post D') : fX5_share t (nI S) (nI k) D post := by
  have n6 := hG.1
  have pw := pw6 n6
  have gl : ∀ e, grN W Ne S k e n ≤ 50 := fun e => mxW_le (fun o => nsW_le hw) n
  have ol : ∀ e, ofN W Ne S k e n ≤ 50 * n := fun e => sumN_b (fun o => nsW_le hw) n
  have al : ∀ j, sumN (fun e => grN W Ne S k e n) j ≤ 50 * j := sumN_b gl
  have w7 := hw k 7
  have a4 := al 4
  unfold fX5_share
  refine x_clrS fun D1 f1 d1 s1 => x_nests (XG_s hG f1 ht) ht (PW_s hW f1) hw hk hS fun D12 f2 d2 g2 => ?_
  have f12 := frS_t f1 f2
  have G12 := XG_s hG f12 ht
  have W12 := PW_s hW f12
  have s12 : SH D12 t (fun _ => 0) (fun _ => 1) := fun o ho => by rw [d2]; exact s1 o ho
  refine x_weighed (o := 7) W12 n6 hk (Or.inr rfl) ?_
  refine lp2_I 4 (fun j v1 v2 => v2 = nI j ∧ v1 = nI (W k 7 + sumN (fun e => grN W Ne S k e n) j)) (by omega) (fun j hj v1 v2 hv rec hr => ?_) ⟨rfl, rfl⟩
  obtain ⟨rfl, rfl⟩ := hv
  by_cases e : j = 4
  · subst e
    refine ⟨fun _ => ?_, fun z => absurd (Int32.le_refl _) z⟩
    have ea : W k 7 + sumN (fun e => grN W Ne S k e n) 4 = alN W Ne S k n := rfl
    rw [ea]
    have la : alN W Ne S k n ≤ 250 := by rw [← ea]; omega
    refine lp2_I n (fun j v D' => v = nI j ∧ frS t 2 D D' ∧ (D'.1 = D12.1) ∧ SH D' t (fun o => if o < j ∧ S.testBit o = true then grN W Ne S k (Ne o) n * W k o else 0) (fun o => if o < j ∧ S.testBit o = true then alN W Ne S k n * ofN W Ne S k (Ne o) n else 1)) (by omega) (fun j hj v D' hv rec hr => ?_) ⟨rfl, f12, rfl, SH_c s12 fun o ho => by rw [if_neg (by omega), if_neg (by omega)]; exact ⟨rfl, rfl⟩⟩
    obtain ⟨rfl, f3, d3, s3⟩ := hv
    have G3 := XG_s hG f3 ht
    have W3 := PW_s hW f3
    rw [G3.2.1]
    by_cases e : j = n
    · subst e
      refine ⟨fun _ => ⟨nI_in (c := 7) (by omega) (by omega), ?_⟩, fun z => absurd (Int32.le_refl _) z⟩
      rw [nI_l (by omega), nI_l (by omega)]
      rintro D24 rfl
      refine ⟨nI_in (c := 7) (by omega) (by omega), ?_⟩
      rintro D26 rfl
      refine h _ (frS_l (frS_l f3 (Or.inl rfl)) (Or.inr rfl)) ?_
      refine SH_c (SH_s (o := 7) s3) fun o ho => ?_
      unfold upN od2
      try dsimp only
      by_cases c : o = 7
      · rw [if_pos c, if_pos c, if_pos c]; exact ⟨rfl, rfl⟩
      · rw [if_neg c, if_neg c, if_neg c]
        by_cases c2 : S.testBit o = true
        · simp [c2, lt_bit hS c2]
        · simp [c2]
    · have hj' : j < n := by omega
      refine ⟨fun z => absurd z (nI_ge hj' (by omega)), fun _ => ?_⟩
      rw [isIn' (by omega) (by omega)]
      refine JN_1 (fun D3 => frS t 2 D D3 ∧ (D3.1 = D12.1) ∧ SH D3 t (fun o => if o < j + 1 ∧ S.testBit o = true then grN W Ne S k (Ne o) n * W k o else 0) (fun o => if o < j + 1 ∧ S.testBit o = true then alN W Ne S k n * ofN W Ne S k (Ne o) n else 1)) (fun D3 hv => ?_) (fun K hK => ⟨fun z => hK _ ⟨f3, d3, ?_⟩, fun z => ?_⟩)
      · rintro v14 rfl
        rw [nI_1]
        exact hr hj' _ _ ⟨rfl, hv⟩
      · have z : S.testBit j = false := by rw [n0, bB_0] at z; exact z
        refine SH_c s3 fun o ho => ?_
        try dsimp only
        by_cases c : o = j
        · rw [c]; simp [z]
        · have : (o < j ∧ S.testBit o = true) = (o < j + 1 ∧ S.testBit o = true) := propext ⟨fun q => ⟨by omega, q.2⟩, fun q => ⟨by omega, q.2⟩⟩
          simp only [this, eq_self, and_self]
      · have z : S.testBit j = true := by rw [n0, bB_0] at z; simpa using z
        have wj := hw k j
        obtain ⟨-, -, ⟨q1, q2⟩⟩ := G3.2.2 j hj'
        obtain ⟨a1, a2⟩ := g2 (Ne j) q2
        have gj := gl (Ne j)
        have oj := ol (Ne j)
        have m1 : grN W Ne S k (Ne j) n * W k j ≤ 50 * 50 := Nat.mul_le_mul gj wj
        have m2 : alN W Ne S k n * ofN W Ne S k (Ne j) n ≤ 250 * 300 := Nat.mul_le_mul la (by omega)
        have vq : vp_in (nI (Ne j)) 4 := nI_in q2 (by omega)
        refine ⟨nI_in (by omega) (by omega), ?_⟩
        rw [nI_clamp (by omega), q1]
        rintro v43 rfl
        refine ⟨vq, x_weighed W3 n6 hk (Or.inl hj') ⟨nI_in (by omega) (by omega), ?_⟩⟩
        rw [nI_clamp (by omega), d3, a1, nI_mul, nI_l (by omega)]
        rintro D50 rfl
        refine ⟨vq, nI_in (by omega) (by omega), ?_⟩
        have e14 : (sL D' (t + 11) j (lN (grN W Ne S k (Ne j) n * W k j))).1 (t + 14) (Ne j) = nI (ofN W Ne S k (Ne j) n) := by rw [sL_1, d3]; exact a2
        rw [e14, nI_mul, nI_l (by omega)]
        rintro D52 rfl
        refine hK _ ⟨frS_l (frS_l f3 (Or.inl rfl)) (Or.inr rfl), d3, SH_c (SH_s (o := j) s3) fun o ho => ?_⟩
        unfold upN
        try dsimp only
        by_cases c : o = j
        · rw [c]; simp [z]
        · have : (o < j ∧ S.testBit o = true) = (o < j + 1 ∧ S.testBit o = true) := propext ⟨fun q => ⟨by omega, q.2⟩, fun q => ⟨by omega, q.2⟩⟩
          rw [if_neg c, if_neg c]; simp only [this, eq_self, and_self]
  · have hj' : j < 4 := by omega
    refine ⟨fun z => absurd z (nI_ge (b := 4) hj' (by omega)), fun _ => ⟨nI_in hj' (by omega), ?_⟩⟩
    rw [nI_clamp (by omega), (g2 j hj').1, nI_add, nI_1]
    rintro v54 rfl v56 rfl
    exact hr hj' _ _ ⟨rfl, by rw [Nat.add_assoc]; rfl⟩
end
