section
/-! MODELS: weight, odds -/
theorem s_option {a : Int32} {D : Dy} {n : Nat} (h : D.1 1 3 = nI n) (hn : n ≤ 6) {post : Int32 → Prop} (h1 : iN a n ∨ a = 7 → post 1) (h0 : ¬ (iN a n ∨ a = 7) → post 0) : fX11_isOption a D post := by
  unfold fX11_isOption
  refine JN_i (iN a n ∨ a = 7) h1 (fun K hK => ⟨fun z => hK (Or.inr z), fun z => s_has ?_⟩)
  rw [h]
  by_cases q : iN a n
  · rw [bI_t ((in_iff (by omega)).mpr q)]; exact ⟨fun w => absurd w (by decide), fun _ => hK (Or.inl q)⟩
  · rw [bI_f (fun w => q ((in_iff (by omega)).mp w))]; exact ⟨fun _ => h0 (by rintro (w | w); exact q w; exact z w), fun w => absurd rfl w⟩
theorem opt_N {a : Int32} {n : Nat} (h : iN a n ∨ a = 7) : ∃ o, a = nI o ∧ (o < n ∨ o = 7) := by
  rcases h with ⟨o, ho, rfl⟩ | h
  · exact ⟨o, rfl, Or.inl ho⟩
  · exact ⟨7, h, Or.inr rfl⟩
theorem opt_I {a : Int32} {n : Nat} {D : Dy} (h : D.1 33 0 = nI n) (hn : n ≤ 6) (q : iN a n ∨ a = 7) {K : Prop} {post : Int32 → Prop} (hK : K) (hp : post 1) : (a = (7 : Int32) → K) ∧ (¬ a = (7 : Int32) → fX12_isThing a D post) := by
  refine ⟨fun _ => hK, fun z => ?_⟩
  rcases q with ⟨j, hj, rfl⟩ | q
  · rw [isTh_t h (by omega) hj]; exact hp
  · exact absurd q z
theorem p_weight {mdl : Nat → Option (Nat × Nat)} {T n k c m : Nat} {Mk Pr Ne W S O U K : Nat → Nat} {D : Dy} {a1 a2 a3 : Int32} (h : AB mdl T D n k c m Mk Pr Ne W S O U K) : fX11_weight mdl a1 a2 a3 D (fun v => fX12_weight a1 a2 a3 D (fun v' D2 => v = v' ∧ frA mdl m D D2)) := by
  have hB := h.2.2.2.2.2.1
  obtain ⟨m1, m2, m3, -⟩ := hB
  have n6 := h.1.1
  have g0 := h.2.1.2.1
  have no : ¬ (iN a1 m ∧ (iN a2 n ∨ a2 = 7) ∧ iN a3 3) → fX12_weight a1 a2 a3 D (fun v' D2 => (-1 : Int32) = v' ∧ frA mdl m D D2) := by
    intro z
    unfold fX12_weight
    by_cases q : iN a1 m
    · obtain ⟨i, hi, rfl⟩ := q
      rw [isMo_t m3 (by omega) hi]
      refine ⟨fun w => absurd w (by decide), fun _ => ?_⟩
      refine JN_i (iN a2 n ∨ a2 = 7) (fun q2 => ?_) (fun K hK => ⟨fun w => hK (Or.inr w), fun w => ?_⟩)
      · have e2 : fX12_in a3 0 2 = fX12_in a3 (nI 0) (nI 2) := rfl
        rw [e2, ix_f (m := 2) (fun y => z ⟨⟨i, hi, rfl⟩, q2, y⟩) (by omega)]
        exact ⟨fun w => absurd rfl w, fun _ => ⟨rfl, frA_r⟩⟩
      · by_cases q2 : iN a2 n
        · obtain ⟨j, hj, rfl⟩ := q2
          rw [isTh_t g0 (by omega) hj]
          exact ⟨fun w => absurd w (by decide), fun _ => hK (Or.inl ⟨j, hj, rfl⟩)⟩
        · rw [isTh_f g0 (by omega) q2]
          exact ⟨fun _ => ⟨rfl, frA_r⟩, fun w => absurd rfl w⟩
    · rw [isMo_f m3 (by omega) q]
      exact ⟨fun _ => ⟨rfl, frA_r⟩, fun w => absurd rfl w⟩
  unfold fX11_weight
  refine x_modelAt m1 m2 (fun i hi e => ?_) (fun q => ⟨fun _ => no fun w => q w.1, fun t kd z => (by cases z)⟩)
  subst e
  obtain ⟨t, kd, R, e, i10, k6, k4, hX, hear⟩ := AB_m h hi
  rw [e]
  refine ⟨fun z => (by cases z), fun t' kd' z => ?_⟩
  injection z with z
  injection z with z1 z2
  subst z1
  subst z2
  refine s_option h.1.2.1 n6 (fun q => ⟨fun w => absurd w (by decide), fun _ => ?_⟩) (fun q => ⟨fun _ => no fun w => q w.2.1, fun w => absurd rfl w⟩)
  by_cases q3 : iN a3 3
  · obtain ⟨j, hj, rfl⟩ := q3
    have e3 : fX11_within (nI j) (3 : Int32) = fX11_within (nI j) (nI 3) := rfl
    rw [e3, wi_t hj (by omega)]
    refine ⟨fun _ => ?_, fun w => absurd w (by decide)⟩
    have q' := q
    obtain ⟨o, rfl, ho⟩ := opt_N q
    refine xv_weight n6 hX.2.2.1 hX.2.2.2.1 (xg_w h.1) hj ho ?_
    show fX12_weight (nI i) (nI o) (nI j) D _
    unfold fX12_weight
    rw [isMo_t m3 (by omega) hi]
    refine ⟨fun w => absurd w (by decide), fun _ => JN_p ?_ (fun K hK => opt_I g0 n6 q' hK ⟨fun w => absurd w (by decide), fun _ => hK⟩)⟩
    have e2 : fX12_in (nI j) 0 2 = fX12_in (nI j) (nI 0) (nI 2) := rfl
    rw [e2, ix_t (m := 2) (by omega) (by omega)]
    refine ⟨fun _ => hear D h frA_r _ fun D2 f2 q2 => ⟨fun w => absurd w (by decide), fun _ => m_w q2.1 hj ho ⟨rfl, frQ_A f2⟩⟩, fun w => absurd w (by decide)⟩
  · have e3 : fX11_within a3 (3 : Int32) = fX11_within a3 (nI 3) := rfl
    rw [e3, wi_f q3 (by omega)]
    exact ⟨fun w => absurd rfl w, fun _ => no fun w => q3 w.2.2⟩
/-! the greatest that divides both -/
theorem mod2 {b r : Nat} (hr : 0 < r) (h : r ≤ b) : 2 * (b % r) < b := by
  have h1 := Nat.div_add_mod b r
  have h2 := Nat.mod_lt b hr
  have h3 : 1 ≤ b / r := (Nat.le_div_iff_mul_le hr).mpr (by omega)
  have h4 := Nat.mul_le_mul_left r h3
  omega
theorem lN_0 : (0 : Int64) = lN 0 := rfl
theorem m_div {post : Int64 → Prop} : ∀ j a b, b < 2 ^ j → a < 2 ^ 62 → b < 2 ^ 62 → post (lN (Nat.gcd b a)) → ∀ N, 2 * j + 1 ≤ N → LP2 (fun (rec3 : Int64 → Int64 → Prop) (w1 : Int64) (w2 : Int64) => (((lg_cmp w2 (0 : Int64)) = 0 → post w1) ∧ (¬ (lg_cmp w2 (0 : Int64)) = 0 → (¬ w2 = 0 ∧ (∀ w6 : Int64, w6 = (w1 - w1 / w2 * w2) → (rec3 w2 w6)))))) N (lN a) (lN b) := by
  intro j
  induction j with
  | zero =>
    intro a b hb ha hb2 hp N hN
    obtain ⟨N, rfl⟩ : ∃ N', N = N' + 1 := ⟨N - 1, by omega⟩
    have b0 : b = 0 := by omega
    subst b0
    rw [Nat.gcd_zero_left] at hp
    exact ⟨fun _ => hp, fun z => absurd ((lg_cmp_eq _ _).mpr rfl) z⟩
  | succ j ih =>
    intro a b hb ha hb2 hp N hN
    obtain ⟨N, rfl⟩ : ∃ N', N = N' + 1 + 1 := ⟨N - 2, by omega⟩
    have z0 : ∀ x, x < 2 ^ 62 → (lg_cmp (lN x) 0 = 0 ↔ x = 0) := fun x hx => by
      rw [lg_cmp_eq, lN_0, pk_lEQ (by omega) (by omega)]
    have n0' : ∀ x, x < 2 ^ 62 → x ≠ 0 → ¬ lN x = 0 := fun x hx h0 z => h0 ((pk_lEQ (b := 0) (by omega) (by omega)).mp z)
    refine ⟨fun z => ?_, fun z => ?_⟩
    · have b0 := (z0 b hb2).mp z
      subst b0
      rw [Nat.gcd_zero_left] at hp
      exact hp
    · have b0 : b ≠ 0 := fun y => z ((z0 b hb2).mpr y)
      refine ⟨n0' b hb2 b0, ?_⟩
      rw [pk_lRem (by omega) (by omega) (by omega)]
      rintro w6 rfl
      rw [Nat.gcd_rec] at hp
      have rl := Nat.mod_lt a (show 0 < b by omega)
      generalize a % b = r at hp rl
      refine ⟨fun z2 => ?_, fun z2 => ?_⟩
      · have r0 := (z0 r (by omega)).mp z2
        subst r0
        rw [Nat.gcd_zero_left] at hp
        exact hp
      · have r0 : r ≠ 0 := fun y => z2 ((z0 r (by omega)).mpr y)
        refine ⟨n0' r (by omega) r0, ?_⟩
        rw [pk_lRem (by omega) (by omega) (by omega)]
        rintro w6 rfl
        rw [Nat.gcd_rec] at hp
        have m2 := mod2 (b := b) (r := r) (by omega) (by omega)
        have p2 : 2 ^ (j + 1) = 2 * 2 ^ j := by rw [Nat.pow_succ, Nat.mul_comm]
        exact ih r (b % r) (by omega) (by omega) (by omega) hp N (by omega)
theorem lp3_u {A B C : Type} {b : (A → B → C → Prop) → A → B → C → Prop} {N : Nat} {x : A} {y : B} {z : C} : LP3 b (N + 1) x y z = b (LP3 b N) x y z := rfl
theorem x_gcd {post : Int64 → Prop} : ∀ j a b s, b < 2 ^ j → a < 2 ^ 62 → b < 2 ^ 62 → 1 ≤ Nat.gcd b a → post (lN (Nat.gcd b a)) → s + 2 * j + 1 ≤ 100 → ∀ N, 2 * j + 1 ≤ N → LP3 (fun (rec4 : Int64 → Int64 → Int32 → Prop) (w1 : Int64) (w2 : Int64) (v3 : Int32) => (JN (((¬ (lg_cmp w1 (0 : Int64)) = 0 → post w1) ∧ ((lg_cmp w1 (0 : Int64)) = 0 → post (1 : Int64)))) (fun K6 : Prop => (((100 : Int32) ≤ v3 → K6) ∧ (¬ (100 : Int32) ≤ v3 → (((lg_cmp w2 (0 : Int64)) = 0 → K6) ∧ (¬ (lg_cmp w2 (0 : Int64)) = 0 → (¬ w2 = 0 ∧ (∀ w11 : Int64, w11 = (w1 - w1 / w2 * w2) → (∀ v13 : Int32, v13 = v3 + 1 → (rec4 w2 w11 v13))))))))))) N (lN a) (lN b) (nI s) := by
  have z0 : ∀ x, x < 2 ^ 62 → (lg_cmp (lN x) 0 = 0 ↔ x = 0) := fun x hx => by
    rw [lg_cmp_eq, lN_0, pk_lEQ (by omega) (by omega)]
  have n0' : ∀ x, x < 2 ^ 62 → x ≠ 0 → ¬ lN x = 0 := fun x hx h0 z => h0 ((pk_lEQ (b := 0) (by omega) (by omega)).mp z)
  have out : ∀ a, a < 2 ^ 62 → 1 ≤ a → post (lN a) → (¬ (lg_cmp (lN a) (0 : Int64)) = 0 → post (lN a)) ∧ ((lg_cmp (lN a) (0 : Int64)) = 0 → post (1 : Int64)) := fun a ha h1 hp => ⟨fun _ => hp, fun z => by have := (z0 a ha).mp z; omega⟩
  intro j
  induction j with
  | zero =>
    intro a b s hb ha hb2 hg hp hs N hN
    obtain ⟨N, rfl⟩ : ∃ N', N = N' + 1 := ⟨N - 1, by omega⟩
    have b0 : b = 0 := by omega
    subst b0
    rw [Nat.gcd_zero_left] at hp hg
    rw [lp3_u]
    exact JN_p (out a ha hg hp) (fun K hK => ⟨fun _ => hK, fun _ => ⟨fun _ => hK, fun z => absurd ((lg_cmp_eq _ _).mpr rfl) z⟩⟩)
  | succ j ih =>
    intro a b s hb ha hb2 hg hp hs N hN
    obtain ⟨N, rfl⟩ : ∃ N', N = N' + 1 + 1 := ⟨N - 2, by omega⟩
    rw [lp3_u]
    refine JN_i (b = 0) (fun b0 => ?_) (fun K hK => ⟨fun z => ?_, fun _ => ⟨fun z => hK ((z0 b hb2).mp z), fun z => ?_⟩⟩)
    · subst b0
      rw [Nat.gcd_zero_left] at hp hg
      exact out a ha hg hp
    · have := (leI' (a := 100) (b := s) (by omega) (by omega)).mp z; omega
    · have b0 : b ≠ 0 := fun y => z ((z0 b hb2).mpr y)
      refine ⟨n0' b hb2 b0, ?_⟩
      rw [pk_lRem (by omega) (by omega) (by omega)]
      rintro w6 rfl v13 rfl
      rw [nI_1]
      rw [Nat.gcd_rec] at hp hg
      have rl := Nat.mod_lt a (show 0 < b by omega)
      generalize a % b = r at hp hg rl
      rw [lp3_u]
      refine JN_i (r = 0) (fun r0 => ?_) (fun K hK => ⟨fun z => ?_, fun _ => ⟨fun z => hK ((z0 r (by omega)).mp z), fun z2 => ?_⟩⟩)
      · subst r0
        rw [Nat.gcd_zero_left] at hp hg
        exact out b hb2 hg hp
      · have := (leI' (a := 100) (b := s + 1) (by omega) (by omega)).mp z; omega
      · have r0 : r ≠ 0 := fun y => z2 ((z0 r (by omega)).mpr y)
        refine ⟨n0' r (by omega) r0, ?_⟩
        rw [pk_lRem (by omega) (by omega) (by omega)]
        rintro w6 rfl v13 rfl
        rw [nI_1]
        rw [Nat.gcd_rec] at hp hg
        have m2 := mod2 (b := b) (r := r) (by omega) (by omega)
        have p2 : 2 ^ (j + 1) = 2 * 2 ^ j := by rw [Nat.pow_succ, Nat.mul_comm]
        exact ih r (b % r) (s + 1 + 1) (by omega) (by omega) (by omega) hg hp (by omega) N (by omega)
/-- lowest terms -/
def low1 (r : Nat × Nat) : Nat := r.1 / Nat.gcd r.2 r.1
def low2 (r : Nat × Nat) : Nat := r.2 / Nat.gcd r.2 r.1
theorem odM_low {kd n k S o : Nat} {R : RS} {Mk Pr Ne : Nat → Nat} (hn : n ≤ 6) (hS : S < 2 ^ n) (h0 : S ≠ 0) : low1 (odM kd R Mk Pr Ne n S k o) = low1 (od kd R Mk Pr Ne n S k o) ∧ low2 (odM kd R Mk Pr Ne n S k o) = low2 (od kd R Mk Pr Ne n S k o) := by
  rcases odM_x (kd := kd) (k := k) (o := o) (R := R) (Mk := Mk) (Pr := Pr) (Ne := Ne) hn hS h0 with e | ⟨p, p1, p2, e, e2⟩
  · rw [e]; exact ⟨rfl, rfl⟩
  · rw [e, e2]
    unfold low1 low2
    refine ⟨by rw [Nat.zero_div, Nat.zero_div], ?_⟩
    show p / Nat.gcd p 0 = 1 / Nat.gcd 1 0
    rw [Nat.gcd_zero_right, Nat.gcd_zero_right, Nat.div_self p1]
theorem gcd_ok {r : Nat × Nat} (h : okO r) : 1 ≤ Nat.gcd r.2 r.1 ∧ Nat.gcd r.2 r.1 ≤ 1157625000 := by
  have h1 : 0 < Nat.gcd r.2 r.1 := Nat.gcd_pos_of_pos_left _ h.2.1
  have h2 : Nat.gcd r.2 r.1 ≤ r.2 := Nat.le_of_dvd h.2.1 (Nat.gcd_dvd_left _ _)
  exact ⟨h1, Nat.le_trans h2 h.2.2⟩
theorem p_odds {mdl : Nat → Option (Nat × Nat)} {T n k c m : Nat} {Mk Pr Ne W S O U K : Nat → Nat} {D : Dy} {a1 a2 a3 a4 a5 : Int32} (h : AB mdl T D n k c m Mk Pr Ne W S O U K) : fX11_odds mdl a1 a2 a3 a4 a5 D (fun v D1 => fX12_odds a1 a2 a3 a4 a5 D1 (fun v' D2 => v = v' ∧ frA mdl m D D2)) := by
  have hB := h.2.2.2.2.2.1
  obtain ⟨m1, m2, m3, -⟩ := hB
  have n6 := h.1.1
  have pw := pw6 n6
  have g0 := h.2.1.2.1
  have no : ¬ (iN a1 m ∧ (iN a2 n ∨ a2 = 7) ∧ (iN a3 (2 ^ n) ∧ a3 ≠ 0) ∧ iN a4 3 ∧ iN a5 2) → fX12_odds a1 a2 a3 a4 a5 D (fun v' D2 => (-9223372036854775808 : Int64) = v' ∧ frA mdl m D D2) := by
    intro z
    unfold fX12_odds
    by_cases q : iN a1 m
    · obtain ⟨i, hi, rfl⟩ := q
      rw [isMo_t m3 (by omega) hi]
      refine ⟨fun w => absurd w (by decide), fun _ => ?_⟩
      refine JN_i (iN a2 n ∨ a2 = 7) (fun q2 => ?_) (fun K hK => ⟨fun w => hK (Or.inr w), fun w => ?_⟩)
      · refine s_isSet n6 g0 (fun q3 => ⟨fun w => absurd w (by decide), fun _ => ⟨fun _ => ⟨rfl, frA_r⟩, fun w => ?_⟩⟩) (fun _ => ⟨fun _ => ⟨rfl, frA_r⟩, fun w => absurd rfl w⟩)
        have e4 : fX12_in a4 0 2 = fX12_in a4 (nI 0) (nI 2) := rfl
        have e5 : fX12_in a5 0 1 = fX12_in a5 (nI 0) (nI 1) := rfl
        rw [e4]
        by_cases q4 : iN a4 3
        · obtain ⟨j, hj, rfl⟩ := id q4
          rw [ix_t (m := 2) (by omega) (by omega)]
          refine ⟨fun w => absurd w (by decide), fun _ => ?_⟩
          rw [e5, ix_f (m := 1) (fun y => z ⟨⟨i, hi, rfl⟩, q2, ⟨q3, w⟩, q4, y⟩) (by omega)]
          exact ⟨fun _ => ⟨rfl, frA_r⟩, fun w => absurd rfl w⟩
        · rw [ix_f (m := 2) q4 (by omega)]
          exact ⟨fun _ => ⟨rfl, frA_r⟩, fun w => absurd rfl w⟩
      · by_cases q2 : iN a2 n
        · obtain ⟨j, hj, rfl⟩ := q2
          rw [isTh_t g0 (by omega) hj]
          exact ⟨fun w => absurd w (by decide), fun _ => hK (Or.inl ⟨j, hj, rfl⟩)⟩
        · rw [isTh_f g0 (by omega) q2]
          exact ⟨fun _ => ⟨rfl, frA_r⟩, fun w => absurd rfl w⟩
    · rw [isMo_f m3 (by omega) q]
      exact ⟨fun _ => ⟨rfl, frA_r⟩, fun w => absurd rfl w⟩
  unfold fX11_odds
  refine x_modelAt m1 m2 (fun i hi e => ?_) (fun q => ⟨fun _ => no fun w => q w.1, fun t kd z => (by cases z)⟩)
  subst e
  obtain ⟨t, kd, R, e, i10, k6, k4, hX, hear⟩ := AB_m h hi
  rw [e]
  refine ⟨fun z => (by cases z), fun t' kd' z => ?_⟩
  injection z with z
  injection z with z1 z2
  subst z1
  subst z2
  refine s_option h.1.2.1 n6 (fun q => ⟨fun w => absurd w (by decide), fun _ => ?_⟩) (fun q => ⟨fun _ => no fun w => q w.2.1, fun w => absurd rfl w⟩)
  have e4 : fX11_within a4 (3 : Int32) = fX11_within a4 (nI 3) := rfl
  rw [e4]
  by_cases q4 : iN a4 3
  · obtain ⟨j, hj, rfl⟩ := q4
    rw [wi_t hj (by omega)]
    refine ⟨fun w => absurd w (by decide), fun _ => ?_⟩
    have e5 : fX11_within a5 (2 : Int32) = fX11_within a5 (nI 2) := rfl
    rw [e5]
    by_cases q5 : iN a5 2
    · obtain ⟨pt, hpt, rfl⟩ := q5
      rw [wi_t hpt (by omega)]
      refine ⟨fun _ => ?_, fun w => absurd w (by decide)⟩
      refine s_hasSome n6 h.1.2.1 (fun q3 q3' => ⟨fun _ => ?_, fun w => absurd w (by decide)⟩) (fun q3 => ⟨fun w => absurd rfl w, fun _ => no fun w => q3 w.2.2.1⟩)
      have q' := q
      obtain ⟨o, rfl, ho⟩ := opt_N q
      obtain ⟨s, hs, rfl⟩ := id q3
      have s0 : s ≠ 0 := fun y => q3' (by rw [y]; rfl)
      have vo : vp_in (nI o) 8 := nI_in (by omega) (by omega)
      have ob := od_b (kd := kd) (k := j) (o := o) (Mk := Mk) (Pr := Pr) hX.2.2.1 h.2.2.1 n6 hs s0
      have oM := odM_b (kd := kd) (k := j) (o := o) (Mk := Mk) (Pr := Pr) hX.2.2.1 h.2.2.1 n6 hs s0
      have lw := odM_low (kd := kd) (k := j) (o := o) (R := R) (Mk := Mk) (Pr := Pr) (Ne := Ne) n6 hs s0
      refine x_ready hX fun D1 f1 P1 => x_share P1 hj hs fun D2 f2 s2 => ⟨vo, vo, ?_⟩
      have fT := frT_t f1 (frS_T f2)
      have fA := frT_A hi e fT
      have A1 := AB_A h fA
      obtain ⟨c1, c2⟩ := s2 o (by omega)
      have c1 : D2.2 (t + 11) o = lN (od kd R Mk Pr Ne n s j o).1 := c1
      have c2 : D2.2 (t + 12) o = lN (od kd R Mk Pr Ne n s j o).2 := c2
      rw [nI_clamp (by omega), c1, c2]
      obtain ⟨g1, g2⟩ := gcd_ok ob
      obtain ⟨g3, g4⟩ := gcd_ok oM
      obtain ⟨o1, o2, o3⟩ := id ob
      obtain ⟨o4, o5, o6⟩ := id oM
      -- the other
      have fin : ∀ v : Int64, v = lN (if pt = 0 then low1 (od kd R Mk Pr Ne n s j o) else low2 (od kd R Mk Pr Ne n s j o)) → fX12_odds (nI i) (nI o) (nI s) (nI j) (nI pt) D2 (fun v' D3 => v = v' ∧ frA mdl m D D3) := by
        intro v hv
        unfold fX12_odds
        rw [isMo_t A1.2.2.2.2.2.1.2.2.1 (by omega) hi]
        refine ⟨fun w => absurd w (by decide), fun _ => JN_p ?_ (fun K hK => opt_I A1.2.1.2.1 n6 q' hK ⟨fun w => absurd w (by decide), fun _ => hK⟩)⟩
        refine s_isSet n6 A1.2.1.2.1 (fun _ => ⟨fun w => absurd w (by decide), fun _ => ⟨fun w => absurd w q3', fun _ => ?_⟩⟩) (fun w => absurd q3 w)
        have i4 : fX12_in (nI j) 0 2 = fX12_in (nI j) (nI 0) (nI 2) := rfl
        have i5 : fX12_in (nI pt) 0 1 = fX12_in (nI pt) (nI 0) (nI 1) := rfl
        rw [i4, ix_t (m := 2) (by omega) (by omega)]
        refine ⟨fun w => absurd w (by decide), fun _ => ?_⟩
        rw [i5, ix_t (m := 1) (by omega) (by omega)]
        refine ⟨fun w => absurd w (by decide), fun _ => hear D2 A1 fA _ fun D3 f3 q3 => ⟨fun _ => m_find q3 i10 k6 hj ho hs ?_, fun w => absurd w (by decide)⟩⟩
        rw [pO_a, pO_b]
        have fA3 : frA mdl m D (pO D3 (odM kd R Mk Pr Ne n s j o).1 (odM kd R Mk Pr Ne n s j o).2) := frA_t (frA_t fA (frQ_A f3)) (frQo_A (frQo_p frQo_r))
        unfold fX12_divisor
        refine m_div 31 _ _ (by omega) (by omega) (by omega) ?_ FU (by unfold FU; omega)
        have ng : ¬ lN (Nat.gcd (odM kd R Mk Pr Ne n s j o).2 (odM kd R Mk Pr Ne n s j o).1) = 0 := fun w => by have := (pk_lEQ (b := 0) (by omega) (by omega)).mp w; omega
        refine ⟨fun w => ⟨ng, ?_, fA3⟩, fun w => ⟨ng, ?_, fA3⟩⟩
        · have p0 : ¬ pt = 0 := fun y => w (by rw [y]; rfl)
          rw [hv, if_neg p0, ← lw.2, pk_lDiv (by omega) (by omega) (by omega)]; rfl
        · have p0 : pt = 0 := (nI_eq (b := 0) (by omega) (by omega)).mp w
          rw [hv, if_pos p0, ← lw.1, pk_lDiv (by omega) (by omega) (by omega)]; rfl
      unfold fX11_greatestCommon
      have ng : ¬ lN (Nat.gcd (od kd R Mk Pr Ne n s j o).2 (od kd R Mk Pr Ne n s j o).1) = 0 := fun w => by have := (pk_lEQ (b := 0) (by omega) (by omega)).mp w; omega
      refine x_gcd 31 _ _ 0 (by omega) (by omega) (by omega) g1 ⟨fun w => ⟨vo, ng, fin _ ?_⟩, fun w => ⟨vo, ng, fin _ ?_⟩⟩ (by omega) FU (by unfold FU; omega)
      · have p0 : ¬ pt = 0 := fun y => w (by rw [y]; rfl)
        rw [if_neg p0, pk_lDiv (by omega) (by omega) (by omega)]; rfl
      · have p0 : pt = 0 := (nI_eq (b := 0) (by omega) (by omega)).mp w
        rw [if_pos p0, pk_lDiv (by omega) (by omega) (by omega)]; rfl
    · rw [wi_f q5 (by omega)]
      exact ⟨fun w => absurd rfl w, fun _ => no fun w => q5 w.2.2.2.2⟩
  · rw [wi_f q4 (by omega)]
    exact ⟨fun _ => no fun w => q4 w.2.2.2.1, fun w => absurd rfl w⟩
end
