section
/-! ODDS: the one and the other, any kind -/
/-- a model of the one, as it was told -/
def XQ (D : Dy) (t n : Nat) (R : RS) (Mk Pr Ne : Nat → Nat) : Prop := XG D n Mk Pr Ne ∧ 65 ≤ t ∧ okM R.1 ∧ XM D t R.1 ∧ XC D t R.2.flatten ∧ XE D t R.2 ∧ R.2.flatten.length ≤ 120 ∧ R.2.length ≤ 10 ∧ okH R
/-- made ready -/
def XP (D : Dy) (t kd n : Nat) (R : RS) (Mk Pr Ne : Nat → Nat) : Prop := XQ D t n R Mk Pr Ne ∧ PW D t n (wt R.1 Mk Pr) ∧ (kd = 5 → XB D t n R.2 Mk Pr Ne)
/-- all but what it writes as it reckons -/
def frT (t kd : Nat) (D D' : Dy) : Prop := (∀ b y, b ≠ t + 6 → b ≠ t + 7 → b ≠ t + 10 → ¬ (kd = 2 ∧ b = t + 13) → ¬ (kd = 2 ∧ b = t + 14) → D'.1 b y = D.1 b y) ∧ ∀ b y, b ≠ t + 11 → b ≠ t + 12 → D'.2 b y = D.2 b y
theorem frT_r {t kd : Nat} {D : Dy} : frT t kd D D := ⟨fun _ _ _ _ _ _ _ => rfl, fun _ _ _ _ => rfl⟩
theorem frT_t {t kd : Nat} {D D' D'' : Dy} (h : frT t kd D D') (h' : frT t kd D' D'') : frT t kd D D'' := ⟨fun b y h1 h2 h3 h4 h5 => (h'.1 b y h1 h2 h3 h4 h5).trans (h.1 b y h1 h2 h3 h4 h5), fun b y h1 h2 => (h'.2 b y h1 h2).trans (h.2 b y h1 h2)⟩
theorem frS_T {t kd : Nat} {D D' : Dy} (h : frS t kd D D') : frT t kd D D' := ⟨fun b y _ _ _ h4 h5 => h.1 b y h4 h5, h.2⟩
theorem XQ_c {D D' : Dy} {t n : Nat} {R : RS} {Mk Pr Ne : Nat → Nat} (h : XQ D t n R Mk Pr Ne) (e : ∀ a y, a ≤ 4 ∨ (t ≤ a ∧ a ≤ t + 5) ∨ a = t + 8 → D'.1 a y = D.1 a y) : XQ D' t n R Mk Pr Ne := by
  obtain ⟨h1, h2, h3, h4, h5, h6, h7, h8, h9⟩ := h
  exact ⟨XG_c h1 fun a y ha => e _ _ (by omega), h2, h3, XM_c h4 fun a y ha => e _ _ (by omega), ⟨by rw [e _ _ (by omega)]; exact h5.1, fun i hi => by rw [e _ _ (by omega)]; exact h5.2 i hi⟩, ⟨by rw [e _ _ (by omega)]; exact h6.1, fun j hj => by rw [e _ _ (by omega)]; exact h6.2 j hj⟩, h7, h8, h9⟩
theorem XQ_f {D D' : Dy} {t kd n : Nat} {R : RS} {Mk Pr Ne : Nat → Nat} (h : XQ D t n R Mk Pr Ne) (f : frT t kd D D') : XQ D' t n R Mk Pr Ne := by
  have := h.2.1
  exact XQ_c h fun a y ha => f.1 _ _ (by omega) (by omega) (by omega) (by omega) (by omega)
theorem XP_s {D D' : Dy} {t kd n : Nat} {R : RS} {Mk Pr Ne : Nat → Nat} (h : XP D t kd n R Mk Pr Ne) (f : frS t kd D D') : XP D' t kd n R Mk Pr Ne := by
  refine ⟨XQ_f h.1 (frS_T f), PW_s h.2.1 f, fun e => ?_⟩
  obtain ⟨b1, b2, b3⟩ := h.2.2 e
  exact ⟨by rw [f.1 _ _ (by omega) (by omega)]; exact b1, b2, fun j hj x hx => by rw [f.1 _ _ (by omega) (by omega)]; exact b3 j hj x hx⟩
theorem x_ready {D : Dy} {t kd n : Nat} {R : RS} {Mk Pr Ne : Nat → Nat} (h : XQ D t n R Mk Pr Ne) {post : Dy → Prop} (hp : ∀ D', frT t kd D D' → XP D' t kd n R Mk Pr Ne → post D') : v_prepare t kd D post := by
  obtain ⟨h1, h2, h3, h4, h5, h6, h7, h8, h9⟩ := id h
  have pr : ∀ kd', kd' = kd → kd ≠ 5 → fX4_prepare t kd' D post := fun kd' _ ne => x_prep h1 h2 h3 h4 fun D1 f1 w1 => by
    have fT : frT t kd D D1 := ⟨fun b y _ _ z _ _ => f1.2 b y z, fun b y _ _ => by rw [f1.1]⟩
    exact hp D1 fT ⟨XQ_f h fT, w1, fun e => absurd e ne⟩
  unfold v_prepare
  refine ⟨fun e => pr 0 e.symm (by omega), fun e => pr 1 e.symm (by omega), fun e => pr 2 e.symm (by omega), fun e => pr 3 e.symm (by omega), fun e => pr 4 e.symm (by omega), fun e => ?_⟩
  unfold fX8_prepare
  refine x_prep h1 h2 h3 h4 fun D1 f1 w1 => ?_
  have fT : frT t kd D D1 := ⟨fun b y _ _ z _ _ => f1.2 b y z, fun b y _ _ => by rw [f1.1]⟩
  obtain ⟨g1, -, -, -, g5, g6, -⟩ := XQ_f h fT
  refine x_runPicks g1 h2 g5 g6 h7 h8 h9 fun D2 f2 b2 => ?_
  have fT2 : frT t kd D D2 := frT_t fT ⟨fun b y z1 z2 _ _ _ => f2.2 b y z1 z2, fun b y _ _ => by rw [f2.1]⟩
  have q2 := XQ_f h fT2
  exact hp D2 fT2 ⟨q2, PW_c w1 fun y => f2.2 _ _ (by omega) (by omega), fun _ => ⟨q2.2.2.2.2.2.1.1, h8, b2⟩⟩
/-- what is seen of a set -/
noncomputable def seN (Mk : Nat → Nat) (n S l : Nat) : Nat := setN (seB Mk S n l) n
/-- the odds of an option, above and below -/
noncomputable def od (kd : Nat) (R : RS) (Mk Pr Ne : Nat → Nat) (n S k o : Nat) : Nat × Nat :=
  if kd = 1 then odP (wt R.1 Mk Pr) n S k o
  else if kd = 2 then od2 (wt R.1 Mk Pr) Ne n S k o
  else if kd = 3 then od3 (wt R.1 Mk Pr) (md_s R.1) n S k o
  else if kd = 4 then odP (wt R.1 Mk Pr) n (seN Mk n S (md_l R.1)) k o
  else if kd = 5 then od5 Mk Pr Ne R.2 n S o
  else od0 S o
/-- as the other has them -/
noncomputable def odM (kd : Nat) (R : RS) (Mk Pr Ne : Nat → Nat) (n S k o : Nat) : Nat × Nat :=
  if o = 7 ∨ S.testBit o = true then (if kd = 0 ∧ o = 7 then (0, pc S) else od kd R Mk Pr Ne n S k o) else (0, 1)
theorem x_share {D : Dy} {t kd n k S : Nat} {R : RS} {Mk Pr Ne : Nat → Nat} (h : XP D t kd n R Mk Pr Ne) (hk : k < 3) (hS : S < 2 ^ n) {post : Dy → Prop} (hp : ∀ D', frS t kd D D' → SH D' t (fun o => (od kd R Mk Pr Ne n S k o).1) (fun o => (od kd R Mk Pr Ne n S k o).2) → post D') : v_share t kd (nI S) (nI k) D post := by
  obtain ⟨⟨h1, h2, h3, h4, h5, h6, h7, h8, h9⟩, w1, b1⟩ := h
  have hw : ∀ k o, wt R.1 Mk Pr k o ≤ 50 := fun k o => wt_50
  unfold v_share
  refine ⟨fun e => ?_, fun e => ?_, fun e => ?_, fun e => ?_, fun e => ?_, fun e => ?_⟩
  · subst e
    exact x_share0 h1 h2 hS hp
  · subst e
    exact x_plain h1 h2 w1 hw hk hS hp
  · subst e
    exact x_share2 h1 h2 w1 hw hk hS hp
  · subst e
    exact x_share3 h1 h2 h3 h4 w1 hk hS hp
  · subst e
    unfold fX2_share
    exact x_seen h1 h4.2.2.2.2.1 hS (x_plain h1 h2 w1 hw hk (setN_lt n) hp)
  · subst e
    exact x_share5 h1 (b1 rfl) hS hp
/-- a model of the other, once it has listened -/
def MOq (D : Dy) (m kd n : Nat) (R : RS) (Mk Pr Ne : Nat → Nat) : Prop := MR D n R.1 Mk Pr Ne ∧ D.1 43 m = nI kd ∧ D.1 33 31 = nI R.2.length ∧ R.2.length ≤ 10 ∧ ∀ j, j < R.2.length → ∀ x, x < n → D.1 51 (6 * j + x) = bB (hN Mk Pr Ne (R.2.getD j []) x)
theorem MOq_c {D D' : Dy} {m kd n : Nat} {R : RS} {Mk Pr Ne : Nat → Nat} (h : MOq D m kd n R Mk Pr Ne) (e : D'.1 = D.1) : MOq D' m kd n R Mk Pr Ne := by
  obtain ⟨h1, h2, h3, h4, h5⟩ := h
  exact ⟨MR_c h1 e, by rw [e]; exact h2, by rw [e]; exact h3, h4, fun j hj x hx => by rw [e]; exact h5 j hj x hx⟩
theorem m_find {D : Dy} {m kd n k o S : Nat} {R : RS} {Mk Pr Ne : Nat → Nat} (h : MOq D m kd n R Mk Pr Ne) (hm : m < 10) (hkd : kd < 6) (hk : k < 3) (ho : o < n ∨ o = 7) (hS : S < 2 ^ n) {post : Dy → Prop} (hp : post (pO D (odM kd R Mk Pr Ne n S k o).1 (odM kd R Mk Pr Ne n S k o).2)) : fX12_findOdds (nI m) (nI o) (nI S) (nI k) D post := by
  obtain ⟨h1, h2, h3, h4, h5⟩ := h
  have n6 := h1.2.2.1
  have pw := pw6 n6
  have p8 := @pc_8 S
  unfold fX12_findOdds
  refine JN_i (o = 7 ∨ S.testBit o = true) (fun q => ⟨nI_in (by omega) (by omega), ?_⟩) (fun K hK => ⟨fun z => hK (Or.inl ((nI_eq (b := 7) (by omega) (by omega)).mp z)), fun z => ?_⟩)
  · unfold odM at hp
    rw [if_pos q] at hp
    rw [nI_clamp (by omega), h2]
    have eq : ∀ j, j < 6 → (nI kd = nI j ↔ kd = j) := fun j hj => nI_eq (by omega) (by omega)
    have o7 : (nI o = 7 ↔ o = 7) := nI_eq (b := 7) (by omega) (by omega)
    refine ⟨fun z => ?_, fun z1 => ⟨fun z => ?_, fun z2 => ⟨fun z => ?_, fun z3 => ⟨fun z => ?_, fun z4 => ⟨fun z => ?_, fun z5 => ?_⟩⟩⟩⟩⟩
    · have z := (eq 1 (by omega)).mp z
      subst z
      rw [if_neg (by omega)] at hp
      exact m_plain h1 hk ho hS hp
    · have z := (eq 2 (by omega)).mp z
      subst z
      rw [if_neg (by omega)] at hp
      exact m_nested h1 hk q hS hp
    · have z := (eq 3 (by omega)).mp z
      subst z
      rw [if_neg (by omega)] at hp
      exact m_mixed h1 hk q hS hp
    · have z := (eq 4 (by omega)).mp z
      subst z
      rw [if_neg (by omega)] at hp
      have l9 := h1.1.2.2.2.2.1.2
      exact m_seen h1.2.2 h1.2.1.2.2.2.2.1 l9 hS (m_plain h1 hk ho (setN_lt n) hp)
    · have z := (eq 5 (by omega)).mp z
      subst z
      rw [if_neg (by omega)] at hp
      have hp : post (pO D (od5 Mk Pr Ne R.2 n S o).1 (od5 Mk Pr Ne R.2 n S o).2) := hp
      have lt := pkd_lt (Mk := Mk) (Pr := Pr) (Ne := Ne) (cs := R.2) (n := n) (S := S)
      refine m_pick h1.2.2 h3 h4 h5 hS ⟨fun y => ?_, fun y => ?_⟩
      · have y : ¬ pkd Mk Pr Ne R.2 n S = o := fun w => y (by rw [w])
        unfold od5 at hp
        rw [if_neg (fun w => y w.symm)] at hp
        exact m_put (a := 0) (b := 1) hp
      · have y : pkd Mk Pr Ne R.2 n S = o := (nI_eq (by omega) (by omega)).mp y
        unfold od5 at hp
        rw [if_pos y.symm] at hp
        exact m_put (a := 1) (b := 1) hp
    · have e0 : kd = 0 := by
        have := fun j (hj : j < 6) (z : ¬ nI kd = nI j) (e : kd = j) => z (by rw [e])
        have q1 : ¬ kd = 1 := this 1 (by omega) z1
        have q2 : ¬ kd = 2 := this 2 (by omega) z2
        have q3 : ¬ kd = 3 := this 3 (by omega) z3
        have q4 : ¬ kd = 4 := this 4 (by omega) z4
        have q5 : ¬ kd = 5 := this 5 (by omega) z5
        omega
      subst e0
      refine JN_1 (fun w => w = lN (if o = 7 then 0 else 1)) (fun w hv => ?_) (fun K hK => ⟨fun z => hK _ ?_, fun z => hK _ ?_⟩)
      · subst hv
        rw [ones' (by omega), nI_l (by omega)]
        refine m_put ?_
        by_cases c : o = 7
        · rw [if_pos ⟨rfl, c⟩] at hp
          rw [if_pos c]; exact hp
        · rw [if_neg (fun w => c w.2)] at hp
          have hb : S.testBit o = true := by
            rcases q with q | q
            · exact absurd q c
            · exact q
          have hp : post (pO D (od0 S o).1 (od0 S o).2) := hp
          unfold od0 at hp
          rw [if_pos hb] at hp
          rw [if_neg c]; exact hp
      · rw [if_neg (fun w => z (o7.mpr w))]; rfl
      · rw [if_pos (o7.mp z)]; rfl
  · have n7 : ¬ o = 7 := fun y => z (by rw [y]; rfl)
    rw [has' (by omega) (by omega)]
    refine ⟨fun z => hK (Or.inr (by rw [n0, bB_0] at z; simpa using z)), fun z => ?_⟩
    have z : S.testBit o = false := by rw [n0, bB_0] at z; exact z
    unfold odM at hp
    rw [if_neg (by rintro (y | y); exact n7 y; rw [z] at y; cases y)] at hp
    exact m_put (a := 0) (b := 1) hp
/-! how great odds are -/
def gOK (n : Nat) (Ne : Nat → Nat) : Prop := ∀ i, i < n → Ne i < 4
def okO (r : Nat × Nat) : Prop := r.1 ≤ r.2 ∧ 1 ≤ r.2 ∧ r.2 ≤ 1157625000
theorem ex_bit {S n : Nat} (hS : S < 2 ^ n) (h0 : S ≠ 0) : ∃ x, x < n ∧ S.testBit x = true := by
  refine Classical.byContradiction fun z => h0 ((bits_0 hS).mpr fun x hx => ?_)
  cases q : S.testBit x with
  | false => rfl
  | true => exact absurd ⟨x, hx, q⟩ z
theorem sW_1 {M : Mdt} {Mk Pr : Nat → Nat} {S n k : Nat} (hn : n ≤ 6) (hS : S < 2 ^ n) (h0 : S ≠ 0) : 1 ≤ sW (wt M Mk Pr) S k n := by
  obtain ⟨x, hx, hb⟩ := ex_bit hS h0
  have := sumN_mem (f := fun o => if S.testBit o = true then wt M Mk Pr k o else 0) hx
  rw [if_pos hb] at this
  have w1 := wt_1 (M := M) (Mk := Mk) (Pr := Pr) (k := k) (o := x) (by omega)
  exact Nat.le_trans w1 this
theorem odP_b {M : Mdt} {Mk Pr : Nat → Nat} {S n k o : Nat} (hn : n ≤ 6) (hS : S < 2 ^ n) (h0 : S ≠ 0) : okO (odP (wt M Mk Pr) n S k o) := by
  have s1 := sW_1 (M := M) (Mk := Mk) (Pr := Pr) (k := k) hn hS h0
  have sl := sW_le (W := wt M Mk Pr) (S := S) (k := k) (n := n) (fun k o => wt_50)
  have w7 : wt M Mk Pr k 7 ≤ 50 := wt_50
  unfold odP
  by_cases c : o = 7 ∨ S.testBit o = true
  · rw [if_pos c]
    refine ⟨?_, by show 1 ≤ _ + _; omega, by show _ + _ ≤ _; omega⟩
    show wt M Mk Pr k o ≤ sW (wt M Mk Pr) S k n + wt M Mk Pr k 7
    rcases c with c | c
    · rw [c]; omega
    · have := sumN_mem (f := fun o => if S.testBit o = true then wt M Mk Pr k o else 0) (lt_bit hS c)
      rw [if_pos c] at this
      have : wt M Mk Pr k o ≤ sW (wt M Mk Pr) S k n := this
      omega
  · rw [if_neg c]; exact ⟨by decide, by decide, by decide⟩
theorem mxW_mem {f : Nat → Nat} {o : Nat} : ∀ n, o < n → f o ≤ mxW f n
  | 0, h => absurd h (Nat.not_lt_zero _)
  | n + 1, h => by
    show f o ≤ max (mxW f n) (f n)
    by_cases e : o = n
    · rw [e]; omega
    · have := mxW_mem (f := f) (o := o) n (by omega); omega
theorem od2_b {M : Mdt} {Mk Pr Ne : Nat → Nat} {S n k o : Nat} (hg : gOK n Ne) (hn : n ≤ 6) (hS : S < 2 ^ n) (h0 : S ≠ 0) : okO (od2 (wt M Mk Pr) Ne n S k o) := by
  have hw : ∀ k o, wt M Mk Pr k o ≤ 50 := fun k o => wt_50
  have w7 := hw k 7
  have gl : ∀ e, grN (wt M Mk Pr) Ne S k e n ≤ 50 := fun e => mxW_le (fun o => nsW_le hw) n
  have ol : ∀ e, ofN (wt M Mk Pr) Ne S k e n ≤ 50 * n := fun e => sumN_b (fun o => nsW_le hw) n
  have a4 : sumN (fun e => grN (wt M Mk Pr) Ne S k e n) 4 ≤ 50 * 4 := sumN_b gl 4
  have al : alN (wt M Mk Pr) Ne S k n = wt M Mk Pr k 7 + sumN (fun e => grN (wt M Mk Pr) Ne S k e n) 4 := rfl
  have mem : ∀ x, S.testBit x = true → x < n ∧ 1 ≤ wt M Mk Pr k x ∧ wt M Mk Pr k x ≤ grN (wt M Mk Pr) Ne S k (Ne x) n ∧ wt M Mk Pr k x ≤ ofN (wt M Mk Pr) Ne S k (Ne x) n ∧ grN (wt M Mk Pr) Ne S k (Ne x) n ≤ alN (wt M Mk Pr) Ne S k n := fun x hb => by
    have hx := lt_bit hS hb
    have e : nsW (wt M Mk Pr) Ne S k (Ne x) x = wt M Mk Pr k x := by unfold nsW; rw [if_pos ⟨hb, rfl⟩]
    have m1 := mxW_mem (f := nsW (wt M Mk Pr) Ne S k (Ne x)) n hx
    have m2 := sumN_mem (f := nsW (wt M Mk Pr) Ne S k (Ne x)) hx
    have m3 := sumN_mem (f := fun e => grN (wt M Mk Pr) Ne S k e n) (hg x hx)
    rw [e] at m1 m2
    exact ⟨hx, wt_1 (by omega), m1, m2, by rw [al]; exact Nat.le_trans m3 (Nat.le_add_left _ _)⟩
  obtain ⟨x, hx, hb⟩ := ex_bit hS h0
  obtain ⟨-, x1, x2, x3, x4⟩ := mem x hb
  unfold od2
  by_cases c : o = 7
  · rw [if_pos c]; exact ⟨by show _ ≤ alN _ _ _ _ _; omega, by show 1 ≤ alN _ _ _ _ _; omega, by show alN _ _ _ _ _ ≤ _; omega⟩
  · rw [if_neg c]
    by_cases c2 : S.testBit o = true
    · rw [if_pos c2]
      obtain ⟨-, y1, y2, y3, y4⟩ := mem o c2
      have o1 := ol (Ne o)
      refine ⟨Nat.mul_le_mul y4 y3, ?_, ?_⟩
      · have := Nat.mul_le_mul (show 1 ≤ alN (wt M Mk Pr) Ne S k n by omega) (show 1 ≤ ofN (wt M Mk Pr) Ne S k (Ne o) n by omega)
        exact this
      · have := Nat.mul_le_mul (show alN (wt M Mk Pr) Ne S k n ≤ 250 by omega) (show ofN (wt M Mk Pr) Ne S k (Ne o) n ≤ 300 by omega)
        exact Nat.le_trans this (by decide)
    · rw [if_neg c2]; exact ⟨by decide, by decide, by decide⟩
theorem od3_b {M : Mdt} {Mk Pr : Nat → Nat} {S n k o : Nat} (hM : okM M) (hn : n ≤ 6) (hS : S < 2 ^ n) (h0 : S ≠ 0) : okO (od3 (wt M Mk Pr) (md_s M) n S k o) := by
  have b0 := (hM.2.2.2.2.2 0 (by omega)).1
  have b1 := (hM.2.2.2.2.2 1 (by omega)).1
  have b2 := (hM.2.2.2.2.2 2 (by omega)).1
  unfold od3
  by_cases c : md_s M 0 + md_s M 1 + md_s M 2 = 0
  · rw [if_pos c]; exact odP_b hn hS h0
  · rw [if_neg c]
    by_cases c2 : o = 7 ∨ S.testBit o = true
    · rw [if_pos c2]
      have T : ∀ j, wt M Mk Pr j o ≤ sW7 (wt M Mk Pr) S n j ∧ 1 ≤ sW7 (wt M Mk Pr) S n j ∧ sW7 (wt M Mk Pr) S n j ≤ 350 := fun j => by
        have q := odP_b (M := M) (Mk := Mk) (Pr := Pr) (k := j) (o := o) hn hS h0
        have sl := sW_le (W := wt M Mk Pr) (S := S) (k := j) (n := n) (fun k o => wt_50)
        have w7 : wt M Mk Pr j 7 ≤ 50 := wt_50
        unfold odP at q
        rw [if_pos c2] at q
        exact ⟨q.1, q.2.1, by show _ + _ ≤ _; omega⟩
      obtain ⟨p0, q0, r0⟩ := T 0
      obtain ⟨p1, q1, r1⟩ := T 1
      obtain ⟨p2, q2, r2⟩ := T 2
      generalize sW7 (wt M Mk Pr) S n 0 = s0 at *
      generalize sW7 (wt M Mk Pr) S n 1 = s1 at *
      generalize sW7 (wt M Mk Pr) S n 2 = s2 at *
      generalize wt M Mk Pr 0 o = w0 at *
      generalize wt M Mk Pr 1 o = w1 at *
      generalize wt M Mk Pr 2 o = w2 at *
      generalize md_s M 0 = h0' at *
      generalize md_s M 1 = h1' at *
      generalize md_s M 2 = h2' at *
      refine ⟨?_, ?_, ?_⟩
      · show h0' * s1 * s2 * w0 + h1' * s0 * s2 * w1 + h2' * s0 * s1 * w2 ≤ (h0' + h1' + h2') * s0 * s1 * s2
        have e : (h0' + h1' + h2') * s0 * s1 * s2 = h0' * s1 * s2 * s0 + h1' * s0 * s2 * s1 + h2' * s0 * s1 * s2 := by
          simp only [Nat.add_mul]; ac_rfl
        rw [e]
        exact Nat.add_le_add (Nat.add_le_add (Nat.mul_le_mul_left _ p0) (Nat.mul_le_mul_left _ p1)) (Nat.mul_le_mul_left _ p2)
      · exact Nat.mul_le_mul (Nat.mul_le_mul (Nat.mul_le_mul (show 1 ≤ h0' + h1' + h2' by omega) q0) q1) q2
      · exact Nat.le_trans (Nat.mul_le_mul (Nat.mul_le_mul (Nat.mul_le_mul (show h0' + h1' + h2' ≤ 27 by omega) r0) r1) r2) (by decide)
    · rw [if_neg c2]; exact ⟨by decide, by decide, by decide⟩
theorem top_bit {Mk : Nat → Nat} {S n : Nat} (hS : S < 2 ^ n) (h0 : S ≠ 0) : ∃ r, r < n ∧ S.testBit r = true ∧ ∀ x, x < n → S.testBit x = true → x = r ∨ bef Mk r x := by
  have H : ∀ k, (∀ x, x < k → S.testBit x = false) ∨ ∃ r, r < k ∧ S.testBit r = true ∧ ∀ x, x < k → S.testBit x = true → x = r ∨ bef Mk r x := by
    intro k
    induction k with
    | zero => exact Or.inl fun x hx => absurd hx (Nat.not_lt_zero _)
    | succ k ih =>
      cases q : S.testBit k with
      | false =>
        rcases ih with ih | ⟨r, r1, r2, r3⟩
        · refine Or.inl fun x hx => ?_
          by_cases e : x = k
          · rw [e]; exact q
          · exact ih x (by omega)
        · refine Or.inr ⟨r, by omega, r2, fun x hx hb => ?_⟩
          by_cases e : x = k
          · rw [e, q] at hb; cases hb
          · exact r3 x (by omega) hb
      | true =>
        rcases ih with ih | ⟨r, r1, r2, r3⟩
        · refine Or.inr ⟨k, by omega, q, fun x hx hb => ?_⟩
          by_cases e : x = k
          · exact Or.inl e
          · rw [ih x (by omega)] at hb; cases hb
        · by_cases c : bef Mk r k
          · refine Or.inr ⟨r, by omega, r2, fun x hx hb => ?_⟩
            by_cases e : x = k
            · rw [e]; exact Or.inr c
            · exact r3 x (by omega) hb
          · have c2 : bef Mk k r := by
              rcases bef_tot (Mk := Mk) (show r ≠ k by omega) with w | w
              · exact absurd w c
              · exact w
            refine Or.inr ⟨k, by omega, q, fun x hx hb => ?_⟩
            by_cases e : x = k
            · exact Or.inl e
            · right
              rcases r3 x (by omega) hb with w | w
              · rw [w]; exact c2
              · unfold bef at *; omega
  rcases H n with h | h
  · exact absurd ((bits_0 hS).mpr h) h0
  · exact h
theorem seN_sub {Mk : Nat → Nat} {S n l x : Nat} (h : (seN Mk n S l).testBit x = true) : S.testBit x = true := by
  have := lt_bit (setN_lt n) h
  unfold seN at h
  rw [setN_bit n x this] at h
  exact (seB_t.mp h).1
theorem seN_0 {Mk : Nat → Nat} {S n l : Nat} (hl : 1 ≤ l) (hS : S < 2 ^ n) (h0 : S ≠ 0) : seN Mk n S l ≠ 0 := by
  obtain ⟨r, r1, r2, r3⟩ := top_bit (Mk := Mk) hS h0
  have z : rk Mk S n r = 0 := sumN_0 fun o ho => b1_f fun ⟨w1, w2⟩ => by
    rcases r3 o ho w1 with w | w
    · rw [w] at w2; exact bef_as w2 w2
    · exact bef_as w w2
  intro e
  have b : (seN Mk n S l).testBit r = true := by
    unfold seN
    rw [setN_bit n r r1]
    exact seB_t.mpr ⟨r2, by omega⟩
  rw [e, Nat.zero_testBit] at b
  cases b
theorem od_b {kd n k o S : Nat} {R : RS} {Mk Pr Ne : Nat → Nat} (hM : okM R.1) (hg : gOK n Ne) (hn : n ≤ 6) (hS : S < 2 ^ n) (h0 : S ≠ 0) : okO (od kd R Mk Pr Ne n S k o) := by
  have pw := pw6 hn
  unfold od
  split
  · exact odP_b hn hS h0
  · split
    · exact od2_b hg hn hS h0
    · split
      · exact od3_b hM hn hS h0
      · split
        · exact odP_b hn (setN_lt n) (seN_0 hM.2.2.2.2.1.1 hS h0)
        · split
          · unfold od5
            refine ⟨?_, Nat.le_refl _, by show 1 ≤ 1157625000; decide⟩
            show (if _ then 1 else 0) ≤ 1
            split <;> omega
          · unfold od0
            split
            · have p1 : 1 ≤ pc S := (pc_low (j := S) (by omega) h0).2 ▸ Nat.succ_le_succ (Nat.zero_le _)
              exact ⟨p1, p1, by have := @pc_8 S; show pc S ≤ _; omega⟩
            · exact ⟨by decide, by decide, by decide⟩
theorem od_out {kd n k o S : Nat} {R : RS} {Mk Pr Ne : Nat → Nat} (h : ¬ (o = 7 ∨ S.testBit o = true)) : od kd R Mk Pr Ne n S k o = (0, 1) := by
  have h7 : ¬ o = 7 := fun z => h (Or.inl z)
  have hb : ¬ S.testBit o = true := fun z => h (Or.inr z)
  unfold od
  split
  · unfold odP; rw [if_neg h]
  · split
    · unfold od2; rw [if_neg h7, if_neg hb]
    · split
      · unfold od3
        split
        · unfold odP; rw [if_neg h]
        · rfl
      · split
        · unfold odP; rw [if_neg (by rintro (z | z); exact h7 z; exact hb (seN_sub z))]
        · split
          · unfold od5
            rw [if_neg]
            intro z
            rcases pkd_lt (Mk := Mk) (Pr := Pr) (Ne := Ne) (cs := R.2) (n := n) (S := S) with w | w
            · exact h7 (z.trans w)
            · rw [← z] at w; exact hb w.2
          · unfold od0; rw [if_neg hb]
end
