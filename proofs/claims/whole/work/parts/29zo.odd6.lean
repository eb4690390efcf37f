section
/-! SCORES, MISSES: both ways -/
def btF (A B : Nat → Nat) (o : Nat) : Nat → Bool
  | 0 => false
  | k + 1 => btF A B o k || decide (A o * B k < A k * B o)
theorem btF_s {A B : Nat → Nat} {o k : Nat} : btF A B o (k + 1) = (btF A B o k || decide (A o * B k < A k * B o)) := rfl
theorem btF_up {A B : Nat → Nat} {o : Nat} {j : Nat} (h : btF A B o j = true) : ∀ d, btF A B o (j + d) = true
  | 0 => h
  | d + 1 => by
    rw [← Nat.add_assoc, btF_s, btF_up h d]; rfl
/-- thousandths of the odds; is an option beaten -/
noncomputable def thN (kd : Nat) (R : RS) (Mk Pr Ne : Nat → Nat) (n S k o : Nat) : Nat := 1000 * (od kd R Mk Pr Ne n S k o).1 / (od kd R Mk Pr Ne n S k o).2
noncomputable def btN (kd : Nat) (R : RS) (Mk Pr Ne : Nat → Nat) (n S k o : Nat) : Bool := btF (fun o => (od kd R Mk Pr Ne n S k o).1) (fun o => (od kd R Mk Pr Ne n S k o).2) o 8
theorem th_le {r : Nat × Nat} (h : okO r) : 1000 * r.1 / r.2 ≤ 1000 := by
  have := Nat.div_le_div_right (c := r.2) (Nat.mul_le_mul_left 1000 h.1)
  rw [Nat.mul_div_cancel _ h.2.1] at this
  exact this
theorem odM_x {kd n k S o : Nat} {R : RS} {Mk Pr Ne : Nat → Nat} (hn : n ≤ 6) (hS : S < 2 ^ n) (h0 : S ≠ 0) : odM kd R Mk Pr Ne n S k o = od kd R Mk Pr Ne n S k o ∨ (∃ p, 1 ≤ p ∧ p ≤ 8 ∧ odM kd R Mk Pr Ne n S k o = (0, p) ∧ od kd R Mk Pr Ne n S k o = (0, 1)) := by
  have pw := pw6 hn
  unfold odM
  by_cases q : o = 7 ∨ S.testBit o = true
  · rw [if_pos q]
    by_cases c : kd = 0 ∧ o = 7
    · rw [if_pos c]
      right
      obtain ⟨c1, c2⟩ := c
      subst c1
      subst c2
      refine ⟨pc S, (pc_low (j := S) (by omega) h0).2 ▸ Nat.succ_le_succ (Nat.zero_le _), pc_8, rfl, ?_⟩
      show od0 S 7 = (0, 1)
      unfold od0
      rw [if_neg (fun z => by have := lt_bit hS z; omega)]
    · rw [if_neg c]; exact Or.inl rfl
  · rw [if_neg q]; exact Or.inl (od_out q).symm
theorem odM_b {kd n k S o : Nat} {R : RS} {Mk Pr Ne : Nat → Nat} (hM : okM R.1) (hg : gOK n Ne) (hn : n ≤ 6) (hS : S < 2 ^ n) (h0 : S ≠ 0) : okO (odM kd R Mk Pr Ne n S k o) := by
  rcases odM_x (kd := kd) (k := k) (o := o) (R := R) (Mk := Mk) (Pr := Pr) (Ne := Ne) hn hS h0 with e | ⟨p, p1, p2, e, -⟩
  · rw [e]; exact od_b hM hg hn hS h0
  · rw [e]; exact ⟨Nat.zero_le _, p1, by show p ≤ _; omega⟩
theorem odM_th {kd n k S o : Nat} {R : RS} {Mk Pr Ne : Nat → Nat} (hn : n ≤ 6) (hS : S < 2 ^ n) (h0 : S ≠ 0) : 1000 * (odM kd R Mk Pr Ne n S k o).1 / (odM kd R Mk Pr Ne n S k o).2 = thN kd R Mk Pr Ne n S k o := by
  unfold thN
  rcases odM_x (kd := kd) (k := k) (o := o) (R := R) (Mk := Mk) (Pr := Pr) (Ne := Ne) hn hS h0 with e | ⟨p, p1, p2, e, e2⟩
  · rw [e]
  · rw [e, e2]
    show 0 / p = 0 / 1
    rw [Nat.zero_div, Nat.zero_div]
theorem odM_bt {kd n k S o v : Nat} {R : RS} {Mk Pr Ne : Nat → Nat} (hn : n ≤ 6) (hS : S < 2 ^ n) (h0 : S ≠ 0) : (odM kd R Mk Pr Ne n S k o).1 * (odM kd R Mk Pr Ne n S k v).2 < (odM kd R Mk Pr Ne n S k v).1 * (odM kd R Mk Pr Ne n S k o).2 ↔ (od kd R Mk Pr Ne n S k o).1 * (od kd R Mk Pr Ne n S k v).2 < (od kd R Mk Pr Ne n S k v).1 * (od kd R Mk Pr Ne n S k o).2 := by
  rcases odM_x (kd := kd) (k := k) (o := o) (R := R) (Mk := Mk) (Pr := Pr) (Ne := Ne) hn hS h0 with e | ⟨p, p1, p2, e, e2⟩
  · rcases odM_x (kd := kd) (k := k) (o := v) (R := R) (Mk := Mk) (Pr := Pr) (Ne := Ne) hn hS h0 with f | ⟨p, p1, p2, f, f2⟩
    · rw [e, f]
    · rw [e, f, f2]
      simp
  · rcases odM_x (kd := kd) (k := k) (o := v) (R := R) (Mk := Mk) (Pr := Pr) (Ne := Ne) hn hS h0 with f | ⟨p', p1', p2', f, f2⟩
    · rw [e, e2, f]
      dsimp only
      rw [Nat.zero_mul, Nat.mul_one]
      constructor
      · intro h; exact Nat.pos_of_ne_zero fun w => by rw [w, Nat.zero_mul] at h; omega
      · intro h; exact Nat.mul_pos h p1
    · rw [e, e2, f, f2]
      simp
theorem x_thous {D : Dy} {t kd o : Nat} {A B : Nat → Nat} (h : SH D t A B) (ho : o < 8) (ok : okO (A o, B o)) {post : Int32 → Prop} (hp : post (nI (1000 * A o / B o))) : v_thousandths t kd (nI o) D post := by
  obtain ⟨h1, h2⟩ := h o ho
  obtain ⟨k1, k2, k3⟩ := ok
  have k1 : A o ≤ B o := k1
  have k2 : 1 ≤ B o := k2
  have k3 : B o ≤ 1157625000 := k3
  unfold v_thousandths
  refine xv_6 (P := fun kd => fX4_thousandths t kd (nI o) D post) ?_
  unfold fX4_thousandths
  have vo : vp_in (nI o) 8 := nI_in ho (by omega)
  rw [nI_clamp (by omega), h1, h2]
  refine ⟨vo, fun _ => ⟨vo, vo, fun z => ?_, ?_⟩, fun z => absurd ?_ z⟩
  · have := (pk_lEQ (a := B o) (b := 0) (by omega) (by omega)).mp z; omega
  · rw [show (1000 : Int64) = lN 1000 from rfl, lN_mul, pk_lDiv (by omega) (by omega) (by omega), lN_i]; exact hp
  · exact (lg_cmp_gt _ _).mpr ((pk_lLT (a := 0) (b := B o) (by omega) (by omega)).mpr (by omega))
theorem le_L {a b c d : Nat} (ha : a ≤ 1157625000) (hb : b ≤ 1157625000) (hc : c ≤ 1157625000) (hd : d ≤ 1157625000) : lg_cmp (lN a * lN b) (lN c * lN d) ≤ 0 ↔ a * b ≤ c * d := by
  have q1 := Nat.mul_le_mul ha hb
  have q2 := Nat.mul_le_mul hc hd
  rw [lg_cmp_le, lN_mul, lN_mul, pk_lLE (by omega) (by omega)]
theorem x_beaten {D : Dy} {t kd o : Nat} {A B : Nat → Nat} (h : SH D t A B) (ho : o < 8) (ok : ∀ v, v < 8 → okO (A v, B v)) {post : Int32 → Prop} (hp : post (bB (btF A B o 8))) : v_isBeaten t kd (nI o) D post := by
  obtain ⟨h1, h2⟩ := h o ho
  obtain ⟨k1, k2, k3⟩ := ok o ho
  have k1 : A o ≤ B o := k1
  have k3 : B o ≤ 1157625000 := k3
  unfold v_isBeaten
  refine xv_6 (P := fun kd => fX4_isBeaten t kd (nI o) D post) ?_
  unfold fX4_isBeaten
  have vo : vp_in (nI o) 8 := nI_in ho (by omega)
  refine lp1_I 8 (fun k v => v = nI k ∧ btF A B o k = false) (by omega) (fun k hk v hv rec hr => ?_) ⟨rfl, rfl⟩
  obtain ⟨rfl, e⟩ := hv
  by_cases c : k = 8
  · subst c
    rw [e] at hp
    exact ⟨fun _ => hp, fun z => absurd (Int32.le_refl _) z⟩
  · have hk' : k < 8 := by omega
    obtain ⟨g1, g2⟩ := h k hk'
    obtain ⟨l1, l2, l3⟩ := ok k hk'
    have l1 : A k ≤ B k := l1
    have l3 : B k ≤ 1157625000 := l3
    have vk : vp_in (nI k) 8 := nI_in hk' (by omega)
    refine ⟨fun z => absurd z (nI_ge (b := 8) hk' (by omega)), fun _ => ⟨vk, vo, vo, vk, ?_⟩⟩
    rw [nI_clamp (by omega), nI_clamp (by omega), g1, g2, h1, h2, le_L (by omega) (by omega) (by omega) (by omega)]
    refine ⟨fun z => ?_, fun z => ?_⟩
    · rw [nI_1]
      rintro v6 rfl
      exact hr hk' _ ⟨rfl, by rw [btF_s, e, decide_eq_false (by omega)]; rfl⟩
    · have : btF A B o (k + 1) = true := by rw [btF_s, decide_eq_true (by omega), Bool.or_true]
      have := btF_up this (7 - k)
      rw [show k + 1 + (7 - k) = 8 by omega] at this
      rw [this] at hp
      exact hp
/-- the choices, as the one and the other hold them -/
def XChs (D : Dy) (n c : Nat) (W S O U K : Nat → Nat) : Prop := c ≤ 80 ∧ D.1 7 4 = nI c ∧ ∀ i, i < c → (D.1 8 i = nI (W i) ∧ W i < 16) ∧ (D.1 9 i = nI (S i) ∧ S i < 2 ^ n ∧ S i ≠ 0) ∧ (D.1 10 i = nI (O i) ∧ (O i < n ∨ O i = 7)) ∧ (D.1 11 i = nI (U i) ∧ U i < 3) ∧ (D.1 5 (W i) = nI (K (W i)) ∧ K (W i) < 3)
def MChs (D : Dy) (n c : Nat) (W S O U K : Nat → Nat) : Prop := c ≤ 80 ∧ D.1 33 2 = nI c ∧ ∀ i, i < c → (D.1 38 i = nI (W i) ∧ W i < 16) ∧ (D.1 39 i = nI (S i) ∧ S i < 2 ^ n ∧ S i ≠ 0) ∧ ((D.1 40 i = if O i = 7 then -nI 1 else nI (O i)) ∧ (O i < n ∨ O i = 7)) ∧ (D.1 41 i = nI (U i) ∧ U i < 3) ∧ (D.1 37 (W i) = nI (K (W i)) ∧ K (W i) < 3)
theorem XChs_c {D D' : Dy} {n c : Nat} {W S O U K : Nat → Nat} (h : XChs D n c W S O U K) (e : ∀ a y, a ≤ 11 → D'.1 a y = D.1 a y) : XChs D' n c W S O U K := by
  obtain ⟨h1, h2, h3⟩ := h
  refine ⟨h1, by rw [e _ _ (by omega)]; exact h2, fun i hi => ?_⟩
  rw [e _ _ (by omega), e _ _ (by omega), e _ _ (by omega), e _ _ (by omega), e _ _ (by omega)]; exact h3 i hi
theorem MChs_c {D D' : Dy} {n c : Nat} {W S O U K : Nat → Nat} (h : MChs D n c W S O U K) (e : ∀ a y, (a = 33 ∧ y = 2) ∨ (37 ≤ a ∧ a ≤ 41) → D'.1 a y = D.1 a y) : MChs D' n c W S O U K := by
  obtain ⟨h1, h2, h3⟩ := h
  refine ⟨h1, by rw [e _ _ (by omega)]; exact h2, fun i hi => ?_⟩
  rw [e _ _ (by omega), e _ _ (by omega), e _ _ (by omega), e _ _ (by omega), e _ _ (by omega)]; exact h3 i hi
noncomputable def scN (kd : Nat) (R : RS) (Mk Pr Ne : Nat → Nat) (n : Nat) (W S O U K : Nat → Nat) (a c : Nat) : Nat := sumN (fun i => if U i = a then thN kd R Mk Pr Ne n (S i) (K (W i)) (O i) else 0) c
noncomputable def msN (kd : Nat) (R : RS) (Mk Pr Ne : Nat → Nat) (n : Nat) (W S O U K : Nat → Nat) (a c : Nat) : Nat := sumN (fun i => if U i = a then (if btN kd R Mk Pr Ne n (S i) (K (W i)) (O i) = true then 1 else 0) else 0) c
theorem x_score {D : Dy} {t kd n c a : Nat} {R : RS} {Mk Pr Ne W S O U K : Nat → Nat} (h : XQ D t n R Mk Pr Ne) (hg : gOK n Ne) (hC : XChs D n c W S O U K) (ha : a < 3) {post : Int32 → Dy → Prop} (hp : ∀ D', frT t kd D D' → post (nI (scN kd R Mk Pr Ne n W S O U K a c)) D') : fX11_scoreOf t kd (nI a) D post := by
  have n6 := h.1.1
  have ht := h.2.1
  have hM := h.2.2.1
  have c80 := hC.1
  unfold fX11_scoreOf
  refine x_ready h fun D1 f1 P1 => ?_
  refine lp3_I c (fun i v7 v8 D' => v8 = nI i ∧ v7 = nI (scN kd R Mk Pr Ne n W S O U K a i) ∧ frT t kd D D' ∧ XP D' t kd n R Mk Pr Ne) (by omega) (fun i hi v7 v8 D' hv rec hr => ?_) ⟨rfl, rfl, f1, P1⟩
  obtain ⟨rfl, rfl, f2, P2⟩ := hv
  have C2 := XChs_c hC fun a y hy => f2.1 a y (by omega) (by omega) (by omega) (by omega) (by omega)
  rw [C2.2.1]
  by_cases e : i = c
  · subst e
    exact ⟨fun _ => hp D' f2, fun z => absurd (Int32.le_refl _) z⟩
  · have hi' : i < c := by omega
    obtain ⟨⟨w1, w2⟩, ⟨s1, s2, s3⟩, ⟨o1, o2⟩, ⟨u1, u2⟩, ⟨k1, k2⟩⟩ := C2.2.2 i hi'
    have es : scN kd R Mk Pr Ne n W S O U K a (i + 1) = scN kd R Mk Pr Ne n W S O U K a i + (if U i = a then thN kd R Mk Pr Ne n (S i) (K (W i)) (O i) else 0) := rfl
    have v80 : vp_in (nI i) 80 := nI_in (by omega) (by omega)
    refine ⟨fun z => absurd z (nI_ge hi' (by omega)), fun _ => ⟨v80, ?_⟩⟩
    rw [nI_clamp (by omega), u1, w1, nI_clamp (n := W i) (by omega), s1, k1]
    refine JN_2 (fun v D' => v = nI (scN kd R Mk Pr Ne n W S O U K a (i + 1)) ∧ frT t kd D D' ∧ XP D' t kd n R Mk Pr Ne) (fun v D3 hv => ?_) (fun K1 hK => ⟨fun z => hK _ _ ⟨?_, f2, P2⟩, fun z => ⟨v80, v80, nI_in w2 (by omega), ?_⟩⟩)
    · obtain ⟨rfl, f3, P3⟩ := hv
      rw [nI_1]
      rintro v17 rfl
      exact hr hi' _ _ _ ⟨rfl, rfl, f3, P3⟩
    · rw [es, if_neg (fun w => z (by rw [w])), Nat.add_zero]
    · have z : U i = a := (nI_eq (by omega) (by omega)).mp z
      refine x_share P2 k2 s2 fun D3 f3 s3' => ⟨v80, ?_⟩
      have o3 : D3.1 10 i = nI (O i) := by rw [f3.1 _ _ (by omega) (by omega)]; exact o1
      rw [o3]
      refine x_thous s3' (by omega) (od_b hM hg n6 s2 s3) ?_
      rw [nI_add]
      rintro v31 rfl
      exact hK _ _ ⟨by rw [es, if_pos z]; rfl, frT_t f2 (frS_T f3), XP_s P2 f3⟩
theorem x_misses {D : Dy} {t kd n c a : Nat} {R : RS} {Mk Pr Ne W S O U K : Nat → Nat} (h : XQ D t n R Mk Pr Ne) (hg : gOK n Ne) (hC : XChs D n c W S O U K) (ha : a < 3) {post : Int32 → Dy → Prop} (hp : ∀ D', frT t kd D D' → post (nI (msN kd R Mk Pr Ne n W S O U K a c)) D') : fX11_missesOf t kd (nI a) D post := by
  have n6 := h.1.1
  have ht := h.2.1
  have hM := h.2.2.1
  have c80 := hC.1
  unfold fX11_missesOf
  refine x_ready h fun D1 f1 P1 => ?_
  refine lp3_I c (fun i v7 v8 D' => v8 = nI i ∧ v7 = nI (msN kd R Mk Pr Ne n W S O U K a i) ∧ frT t kd D D' ∧ XP D' t kd n R Mk Pr Ne) (by omega) (fun i hi v7 v8 D' hv rec hr => ?_) ⟨rfl, rfl, f1, P1⟩
  obtain ⟨rfl, rfl, f2, P2⟩ := hv
  have C2 := XChs_c hC fun a y hy => f2.1 a y (by omega) (by omega) (by omega) (by omega) (by omega)
  rw [C2.2.1]
  by_cases e : i = c
  · subst e
    exact ⟨fun _ => hp D' f2, fun z => absurd (Int32.le_refl _) z⟩
  · have hi' : i < c := by omega
    obtain ⟨⟨w1, w2⟩, ⟨s1, s2, s3⟩, ⟨o1, o2⟩, ⟨u1, u2⟩, ⟨k1, k2⟩⟩ := C2.2.2 i hi'
    have es : msN kd R Mk Pr Ne n W S O U K a (i + 1) = msN kd R Mk Pr Ne n W S O U K a i + (if U i = a then (if btN kd R Mk Pr Ne n (S i) (K (W i)) (O i) = true then 1 else 0) else 0) := rfl
    have v80 : vp_in (nI i) 80 := nI_in (by omega) (by omega)
    refine ⟨fun z => absurd z (nI_ge hi' (by omega)), fun _ => ⟨v80, ?_⟩⟩
    rw [nI_clamp (by omega), u1, w1, nI_clamp (n := W i) (by omega), s1, k1]
    refine JN_2 (fun v D' => v = nI (msN kd R Mk Pr Ne n W S O U K a (i + 1)) ∧ frT t kd D D' ∧ XP D' t kd n R Mk Pr Ne) (fun v D3 hv => ?_) (fun K1 hK => ⟨fun z => hK _ _ ⟨?_, f2, P2⟩, fun z => ⟨v80, v80, nI_in w2 (by omega), ?_⟩⟩)
    · obtain ⟨rfl, f3, P3⟩ := hv
      rw [nI_1]
      rintro v17 rfl
      exact hr hi' _ _ _ ⟨rfl, rfl, f3, P3⟩
    · rw [es, if_neg (fun w => z (by rw [w])), Nat.add_zero]
    · have z : U i = a := (nI_eq (by omega) (by omega)).mp z
      refine x_share P2 k2 s2 fun D3 f3 s3' => ⟨v80, ?_⟩
      have o3 : D3.1 10 i = nI (O i) := by rw [f3.1 _ _ (by omega) (by omega)]; exact o1
      rw [o3]
      refine x_beaten s3' (by omega) (fun v _ => od_b hM hg n6 s2 s3) ?_
      have eb : btF (fun o => (od kd R Mk Pr Ne n (S i) (K (W i)) o).1) (fun o => (od kd R Mk Pr Ne n (S i) (K (W i)) o).2) (O i) 8 = btN kd R Mk Pr Ne n (S i) (K (W i)) (O i) := rfl
      rw [eb]
      refine JN_1 (fun v => v = nI (if btN kd R Mk Pr Ne n (S i) (K (W i)) (O i) = true then 1 else 0)) (fun v hv => ?_) (fun K2 hK2 => ⟨fun y => hK2 _ ?_, fun y => hK2 _ ?_⟩)
      · subst hv
        rw [nI_add]
        rintro v34 rfl
        exact hK _ _ ⟨by rw [es, if_pos z], frT_t f2 (frS_T f3), XP_s P2 f3⟩
      · have y : btN kd R Mk Pr Ne n (S i) (K (W i)) (O i) = false := by rw [n0, bB_0] at y; exact y
        rw [if_neg (by rw [y]; decide)]; rfl
      · have y : btN kd R Mk Pr Ne n (S i) (K (W i)) (O i) = true := by rw [n0, bB_0] at y; simpa using y
        rw [if_pos y]; rfl
/-- the other writes its odds alone -/
def frQo (D D' : Dy) : Prop := D'.1 = D.1 ∧ ∀ b y, ¬ (b = 33 ∧ (y = 39 ∨ y = 40)) → D'.2 b y = D.2 b y
theorem frQo_r {D : Dy} : frQo D D := ⟨rfl, fun _ _ _ => rfl⟩
theorem frQo_p {D D' : Dy} {a b : Nat} (h : frQo D D') : frQo D (pO D' a b) := ⟨h.1, fun x y z => (pO_o z).trans (h.2 x y z)⟩
theorem m_score {D : Dy} {m kd n c a : Nat} {R : RS} {Mk Pr Ne W S O U K : Nat → Nat} (h : MOq D m kd n R Mk Pr Ne) (hm : m < 10) (hkd : kd < 6) (hg : gOK n Ne) (hC : MChs D n c W S O U K) (ha : a < 3) {post : Int32 → Dy → Prop} (hp : ∀ D', frQo D D' → post (nI (scN kd R Mk Pr Ne n W S O U K a c)) D') : fX12_scoreOf (nI m) (nI a) D post := by
  have n6 := h.1.2.2.1
  have hM := h.1.1
  have c80 := hC.1
  unfold fX12_scoreOf
  refine lp3_I c (fun i w v D' => v = nI i ∧ w = lN (scN kd R Mk Pr Ne n W S O U K a i) ∧ frQo D D') (by omega) (fun i hi w v D' hv rec hr => ?_) ⟨rfl, rfl, frQo_r⟩
  obtain ⟨rfl, rfl, f2⟩ := hv
  rw [f2.1, hC.2.1]
  by_cases e : i = c
  · subst e
    refine ⟨fun _ => ?_, fun z => absurd (Int32.le_refl _) z⟩
    rw [lN_i]
    exact hp D' f2
  · have hi' : i < c := by omega
    obtain ⟨⟨w1, w2⟩, ⟨s1, s2, s3⟩, ⟨o1, o2⟩, ⟨u1, u2⟩, ⟨k1, k2⟩⟩ := hC.2.2 i hi'
    have es : scN kd R Mk Pr Ne n W S O U K a (i + 1) = scN kd R Mk Pr Ne n W S O U K a i + (if U i = a then thN kd R Mk Pr Ne n (S i) (K (W i)) (O i) else 0) := rfl
    have v80 : vp_in (nI i) 80 := nI_in (by omega) (by omega)
    refine ⟨fun z => absurd z (nI_ge hi' (by omega)), fun _ => ⟨v80, ?_⟩⟩
    rw [nI_clamp (by omega), u1, w1, nI_clamp (n := W i) (by omega), s1, k1, o1]
    refine JN_2 (fun w D' => w = lN (scN kd R Mk Pr Ne n W S O U K a (i + 1)) ∧ frQo D D') (fun v D3 hv => ?_) (fun K1 hK => ⟨fun z => ⟨v80, ?_⟩, fun z => hK _ _ ⟨?_, f2⟩⟩)
    · obtain ⟨rfl, f3⟩ := hv
      rw [nI_1]
      rintro v17 rfl
      exact hr hi' _ _ _ ⟨rfl, rfl, f3⟩
    · have z : U i = a := (nI_eq (by omega) (by omega)).mp z
      refine JN_1 (fun v => v = nI (O i)) (fun v hv => ?_) (fun K2 hK2 => ⟨fun y => ⟨v80, hK2 _ ?_⟩, fun y => hK2 _ ?_⟩)
      · subst hv
        refine ⟨v80, v80, nI_in w2 (by omega), ?_⟩
        refine m_find (MOq_c h f2.1) hm hkd k2 o2 s2 ?_
        have ob := odM_b (kd := kd) (k := K (W i)) (o := O i) (R := R) (Mk := Mk) (Pr := Pr) hM hg n6 s2 s3
        have ot := odM_th (kd := kd) (k := K (W i)) (o := O i) (R := R) (Mk := Mk) (Pr := Pr) (Ne := Ne) n6 s2 s3
        obtain ⟨b1, b2, b3⟩ := ob
        rw [pO_a, pO_b]
        refine ⟨fun y => ?_, ?_⟩
        · have := (pk_lEQ (a := (odM kd R Mk Pr Ne n (S i) (K (W i)) (O i)).2) (b := 0) (by omega) (by omega)).mp y; omega
        · rw [show (1000 : Int64) = lN 1000 from rfl, lN_mul, pk_lDiv (by omega) (by omega) (by omega), lN_add, ot]
          rintro w23 rfl
          exact hK _ _ ⟨by rw [es, if_pos z], frQo_p f2⟩
      · by_cases c7 : O i = 7
        · rw [if_pos c7] at y; exact absurd y nI1n.2
        · rw [if_neg c7]
      · by_cases c7 : O i = 7
        · rw [c7]; rfl
        · rw [if_neg c7] at y; exact absurd (nI0le (by omega)) y
    · rw [es, if_neg (fun w => z (by rw [w])), Nat.add_zero]
theorem m_misses {D : Dy} {m kd n c a : Nat} {R : RS} {Mk Pr Ne W S O U K : Nat → Nat} (h : MOq D m kd n R Mk Pr Ne) (hm : m < 10) (hkd : kd < 6) (hg : gOK n Ne) (hC : MChs D n c W S O U K) (ha : a < 3) {post : Int32 → Dy → Prop} (hp : ∀ D', frQo D D' → post (nI (msN kd R Mk Pr Ne n W S O U K a c)) D') : fX12_missesOf (nI m) (nI a) D post := by
  have n6 := h.1.2.2.1
  have hM := h.1.1
  have c80 := hC.1
  unfold fX12_missesOf
  refine lp3_I c (fun i w v D' => v = nI i ∧ w = nI (msN kd R Mk Pr Ne n W S O U K a i) ∧ frQo D D') (by omega) (fun i hi w v D' hv rec hr => ?_) ⟨rfl, rfl, frQo_r⟩
  obtain ⟨rfl, rfl, f2⟩ := hv
  rw [f2.1, hC.2.1]
  by_cases e : i = c
  · subst e
    exact ⟨fun _ => hp D' f2, fun z => absurd (Int32.le_refl _) z⟩
  · have hi' : i < c := by omega
    obtain ⟨⟨w1, w2⟩, ⟨s1, s2, s3⟩, ⟨o1, o2⟩, ⟨u1, u2⟩, ⟨k1, k2⟩⟩ := hC.2.2 i hi'
    have pw := pw6 n6
    have es : msN kd R Mk Pr Ne n W S O U K a (i + 1) = msN kd R Mk Pr Ne n W S O U K a i + (if U i = a then (if btN kd R Mk Pr Ne n (S i) (K (W i)) (O i) = true then 1 else 0) else 0) := rfl
    have v80 : vp_in (nI i) 80 := nI_in (by omega) (by omega)
    refine ⟨fun z => absurd z (nI_ge hi' (by omega)), fun _ => ⟨v80, ?_⟩⟩
    rw [nI_clamp (by omega), u1, w1, nI_clamp (n := W i) (by omega), s1, k1, o1]
    refine JN_2 (fun w D' => w = nI (msN kd R Mk Pr Ne n W S O U K a (i + 1)) ∧ frQo D D') (fun v D3 hv => ?_) (fun K1 hK => ⟨fun z => ⟨v80, ?_⟩, fun z => hK _ _ ⟨?_, f2⟩⟩)
    · obtain ⟨rfl, f3⟩ := hv
      rw [nI_1]
      rintro v17 rfl
      exact hr hi' _ _ _ ⟨rfl, rfl, f3⟩
    · have z : U i = a := (nI_eq (by omega) (by omega)).mp z
      refine JN_1 (fun v => v = nI (O i)) (fun v hv => ?_) (fun K2 hK2 => ⟨fun y => ⟨v80, hK2 _ ?_⟩, fun y => hK2 _ ?_⟩)
      · subst hv
        refine ⟨v80, v80, nI_in w2 (by omega), ?_⟩
        refine m_find (MOq_c h f2.1) hm hkd k2 o2 s2 ?_
        have ob : ∀ v, okO (odM kd R Mk Pr Ne n (S i) (K (W i)) v) := fun v => odM_b hM hg n6 s2 s3
        have obt : ∀ v, (odM kd R Mk Pr Ne n (S i) (K (W i)) (O i)).1 * (odM kd R Mk Pr Ne n (S i) (K (W i)) v).2 < (odM kd R Mk Pr Ne n (S i) (K (W i)) v).1 * (odM kd R Mk Pr Ne n (S i) (K (W i)) (O i)).2 ↔ _ := fun v => odM_bt (kd := kd) (k := K (W i)) (o := O i) (v := v) (R := R) (Mk := Mk) (Pr := Pr) (Ne := Ne) n6 s2 s3
        have f3 := frQo_p (a := (odM kd R Mk Pr Ne n (S i) (K (W i)) (O i)).1) (b := (odM kd R Mk Pr Ne n (S i) (K (W i)) (O i)).2) f2
        rw [pO_a, pO_b]
        rintro w23 rfl w25 rfl
        generalize pO D' (odM kd R Mk Pr Ne n (S i) (K (W i)) (O i)).1 (odM kd R Mk Pr Ne n (S i) (K (W i)) (O i)).2 = D22 at f3
        refine lp3_I 8 (fun j v27 v28 D29 => v28 = nI j ∧ v27 = bB (btF (fun o => (od kd R Mk Pr Ne n (S i) (K (W i)) o).1) (fun o => (od kd R Mk Pr Ne n (S i) (K (W i)) o).2) (O i) j) ∧ frQo D D29) (by omega) (fun j hj v27 v28 D29 hv rec2 hr2 => ?_) ⟨rfl, rfl, f3⟩
        obtain ⟨rfl, rfl, f4⟩ := hv
        have bs := btF_s (A := fun o => (od kd R Mk Pr Ne n (S i) (K (W i)) o).1) (B := fun o => (od kd R Mk Pr Ne n (S i) (K (W i)) o).2) (o := O i) (k := j)
        generalize hF : btF (fun o => (od kd R Mk Pr Ne n (S i) (K (W i)) o).1) (fun o => (od kd R Mk Pr Ne n (S i) (K (W i)) o).2) (O i) j = F at bs
        by_cases e8 : j = 8
        · subst e8
          have eb : btN kd R Mk Pr Ne n (S i) (K (W i)) (O i) = F := hF
          refine ⟨fun _ => ?_, fun z => absurd (nI_lt (a := 7) (b := 8) (by omega) (by omega)) z⟩
          refine JN_1 (fun v => v = nI (if F = true then 1 else 0)) (fun v hv => ?_) (fun K3 hK3 => ⟨fun y => hK3 _ ?_, fun y => hK3 _ ?_⟩)
          · subst hv
            rw [nI_add]
            rintro v36 rfl
            exact hK _ _ ⟨by rw [es, if_pos z, eb], f4⟩
          · have y : F = false := by rw [n0, bB_0] at y; exact y
            rw [if_neg (by rw [y]; decide)]; rfl
          · have y : F = true := by rw [n0, bB_0] at y; simpa using y
            rw [if_pos y]; rfl
        · have hj' : j < 8 := by omega
          refine ⟨fun z => ?_, fun _ => ?_⟩
          · have := (ltI' (a := 7) (by omega) (by omega)).mp z; omega
          · refine JN_2 (fun v D' => v = bB (btF (fun o => (od kd R Mk Pr Ne n (S i) (K (W i)) o).1) (fun o => (od kd R Mk Pr Ne n (S i) (K (W i)) o).2) (O i) (j + 1)) ∧ frQo D D') (fun v D5 hv => ?_) (fun K41 hK41 => ?_)
            · obtain ⟨rfl, f5⟩ := hv
              rw [nI_1]
              rintro v43 rfl
              exact hr2 hj' _ _ _ ⟨rfl, rfl, f5⟩
            · rw [bs] at hK41
              have e38 : D29.1 38 i = nI (W i) := by rw [f4.1]; exact w1
              have e39 : D29.1 39 i = nI (S i) := by rw [f4.1]; exact s1
              have e37 : D29.1 37 (W i) = nI (K (W i)) := by rw [f4.1]; exact k1
              rw [e38, e39, nI_clamp (n := W i) (by omega), e37]
              refine JN_i (j = 7 ∨ (S i).testBit j = true) (fun q => ⟨v80, v80, nI_in w2 (by omega), ?_⟩) (fun K45 hK45 => ⟨fun y => hK45 (Or.inl ((nI_eq (b := 7) (by omega) (by omega)).mp y)), fun y => ⟨v80, ?_⟩⟩)
              · have hjn : j < n ∨ j = 7 := by
                  rcases q with q | q
                  · exact Or.inr q
                  · exact Or.inl (lt_bit s2 q)
                refine m_find (MOq_c h f4.1) hm hkd k2 hjn s2 ?_
                have f5 := frQo_p (a := (odM kd R Mk Pr Ne n (S i) (K (W i)) j).1) (b := (odM kd R Mk Pr Ne n (S i) (K (W i)) j).2) f4
                rw [pO_a, pO_b]
                obtain ⟨p1, p2, p3⟩ := ob (O i)
                obtain ⟨q1, q2, q3⟩ := ob j
                rw [le_L (by omega) (by omega) (by omega) (by omega)]
                refine JN_1 (fun v => v = bB (F || decide ((od kd R Mk Pr Ne n (S i) (K (W i)) (O i)).1 * (od kd R Mk Pr Ne n (S i) (K (W i)) j).2 < (od kd R Mk Pr Ne n (S i) (K (W i)) j).1 * (od kd R Mk Pr Ne n (S i) (K (W i)) (O i)).2))) (fun v hv => hK41 _ _ ⟨hv, f5⟩) (fun K54 hK54 => ?_)
                refine JN_i (F = true ∨ (od kd R Mk Pr Ne n (S i) (K (W i)) (O i)).1 * (od kd R Mk Pr Ne n (S i) (K (W i)) j).2 < (od kd R Mk Pr Ne n (S i) (K (W i)) j).1 * (od kd R Mk Pr Ne n (S i) (K (W i)) (O i)).2) (fun q => hK54 _ ?_) (fun K56 hK56 => ⟨fun y => hK56 (Or.inl (by rw [n0, bB_0] at y; simpa using y)), fun y => ⟨fun y2 => hK54 _ ?_, fun y2 => hK56 (Or.inr ((obt j).mp (by omega)))⟩⟩)
                · rcases q with q | q
                  · rw [q]; rfl
                  · rw [decide_eq_true q, Bool.or_true]; rfl
                · have y : F = false := by rw [n0, bB_0] at y; exact y
                  rw [y, decide_eq_false (fun w => by have := (obt j).mpr w; omega)]; rfl
              · have n7 : ¬ j = 7 := fun w => y (by rw [w]; rfl)
                rw [has' (by omega) (by omega)]
                refine ⟨fun y2 => hK45 (Or.inr (by rw [n0, bB_0] at y2; simpa using y2)), fun y2 => hK41 _ _ ⟨?_, f4⟩⟩
                have y2 : (S i).testBit j = false := by rw [n0, bB_0] at y2; exact y2
                have oo : od kd R Mk Pr Ne n (S i) (K (W i)) j = (0, 1) := od_out (by rintro (w | w); exact n7 w; rw [y2] at w; cases w)
                rw [oo, decide_eq_false (by simp), Bool.or_false]
      · by_cases c7 : O i = 7
        · rw [if_pos c7] at y; exact absurd y nI1n.2
        · rw [if_neg c7]
      · by_cases c7 : O i = 7
        · rw [c7]; rfl
        · rw [if_neg c7] at y; exact absurd (nI0le (by omega)) y
    · rw [es, if_neg (fun w => z (by rw [w])), Nat.add_zero]
end
