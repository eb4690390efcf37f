/-! ORDERS, the one's way: what is gathered -/
theorem lp1_I {A : Type} {b : (A → Prop) → A → Prop} (n : Nat) (P : Nat → A → Prop) (hn : n < 1000000) (h : ∀ k, k ≤ n → ∀ x, P k x → ∀ rec : A → Prop, (k < n → ∀ x', P (k + 1) x' → rec x') → b rec x) {x : A} (h0 : P 0 x) : LP1 b FU x := by
  have H : ∀ N k x, k ≤ n → n - k < N → P k x → LP1 b N x := by
    intro N
    induction N with
    | zero => intro k x hk h0; omega
    | succ N ih => intro k x hk h0 hp; exact h k hk x hp _ fun hlt x' hx => ih (k + 1) x' hlt (by omega) hx
  exact H FU 0 x (Nat.zero_le _) (FU_big (by omega)) h0
theorem lp2_I {A B : Type} {b : (A → B → Prop) → A → B → Prop} (n : Nat) (P : Nat → A → B → Prop) (hn : n < 1000000) (h : ∀ k, k ≤ n → ∀ x y, P k x y → ∀ rec : A → B → Prop, (k < n → ∀ x' y', P (k + 1) x' y' → rec x' y') → b rec x y) {x : A} {y : B} (h0 : P 0 x y) : LP2 b FU x y := by
  have H : ∀ N k x y, k ≤ n → n - k < N → P k x y → LP2 b N x y := by
    intro N
    induction N with
    | zero => intro k x y hk h0; omega
    | succ N ih => intro k x y hk h0 hp; exact h k hk x y hp _ fun hlt x' y' hx => ih (k + 1) x' y' hlt (by omega) hx
  exact H FU 0 x y (Nat.zero_le _) (FU_big (by omega)) h0
theorem lp3_I {A B C : Type} {b : (A → B → C → Prop) → A → B → C → Prop} (n : Nat) (P : Nat → A → B → C → Prop) (hn : n < 1000000) (h : ∀ k, k ≤ n → ∀ x y z, P k x y z → ∀ rec : A → B → C → Prop, (k < n → ∀ x' y' z', P (k + 1) x' y' z' → rec x' y' z') → b rec x y z) {x : A} {y : B} {z : C} (h0 : P 0 x y z) : LP3 b FU x y z := by
  have H : ∀ N k x y z, k ≤ n → n - k < N → P k x y z → LP3 b N x y z := by
    intro N
    induction N with
    | zero => intro k x y z hk h0; omega
    | succ N ih => intro k x y z hk h0 hp; exact h k hk x y z hp _ fun hlt x' y' z' hx => ih (k + 1) x' y' z' hlt (by omega) hx
  exact H FU 0 x y z (Nat.zero_le _) (FU_big (by omega)) h0
theorem lp4_I {A B C E : Type} {b : (A → B → C → E → Prop) → A → B → C → E → Prop} (n : Nat) (P : Nat → A → B → C → E → Prop) (hn : n < 1000000) (h : ∀ k, k ≤ n → ∀ x y z w, P k x y z w → ∀ rec : A → B → C → E → Prop, (k < n → ∀ x' y' z' w', P (k + 1) x' y' z' w' → rec x' y' z' w') → b rec x y z w) {x : A} {y : B} {z : C} {w : E} (h0 : P 0 x y z w) : LP4 b FU x y z w := by
  have H : ∀ N k x y z w, k ≤ n → n - k < N → P k x y z w → LP4 b N x y z w := by
    intro N
    induction N with
    | zero => intro k x y z w hk h0; omega
    | succ N ih => intro k x y z w hk h0 hp; exact h k hk x y z w hp _ fun hlt x' y' z' w' hx => ih (k + 1) x' y' z' w' hlt (by omega) hx
  exact H FU 0 x y z w (Nat.zero_le _) (FU_big (by omega)) h0
/-- all but the orders' own rows is as it was -/
def frO (D D' : Dy) : Prop := D'.2 = D.2 ∧ ∀ b x, b < 14 ∨ 20 < b → D'.1 b x = D.1 b x
theorem frO_r {D : Dy} : frO D D := ⟨rfl, fun _ _ _ => rfl⟩
theorem frO_t {D D' D'' : Dy} (h : frO D D') (h' : frO D' D'') : frO D D'' := ⟨h'.1.trans h.1, fun b x hb => (h'.2 b x hb).trans (h.2 b x hb)⟩
theorem frO_s {D D' : Dy} {a k : Nat} {v : Int32} (h : frO D D') (ha : 14 ≤ a ∧ a ≤ 20) : frO D (sI D' a k v) := ⟨h.1, fun b x hb => by rw [sI_1, if_neg (by omega)]; exact h.2 b x hb⟩
/-- the ones that must stand ahead of s -/
def ahd (s : Nat) : List (Nat × Nat) → Nat
  | [] => 0
  | q :: Q => (if q.2.testBit s = true then 2 ^ q.1 else 0) ||| ahd s Q
theorem ahd_app {s : Nat} {q : Nat × Nat} : ∀ Q, ahd s (Q ++ [q]) = ahd s Q ||| (if q.2.testBit s = true then 2 ^ q.1 else 0)
  | [] => by show _ ||| 0 = 0 ||| _; rw [Nat.or_zero, Nat.zero_or]
  | a :: Q => by show _ ||| ahd s (Q ++ [q]) = (_ ||| ahd s Q) ||| _; rw [ahd_app Q, Nat.or_assoc]
theorem ahd_ok {s P : Nat} : ∀ Q, (aNot (ahd s Q) P = 0) = (okS Q s P = true)
  | [] => by simp [ahd, okS, aNot]
  | q :: Q => by
    have ih := ahd_ok (s := s) (P := P) Q
    rw [aNot_0] at ih ⊢
    show (P &&& ((if q.2.testBit s = true then 2 ^ q.1 else 0) ||| ahd s Q) = ((if q.2.testBit s = true then 2 ^ q.1 else 0) ||| ahd s Q)) = ((q :: Q).all _ = true)
    rw [List.all_cons, Bool.and_eq_true]
    have ih' : (P &&& ahd s Q = ahd s Q) = (Q.all (fun q => !(q.2.testBit s) || P.testBit q.1) = true) := ih
    rw [← ih']
    have sub : ∀ a b : Nat, (P &&& (a ||| b) = (a ||| b)) ↔ (P &&& a = a ∧ P &&& b = b) := by
      intro a b
      constructor
      · intro h
        have h' := fun i => congrArg (fun x => x.testBit i) h
        refine ⟨Nat.eq_of_testBit_eq fun i => ?_, Nat.eq_of_testBit_eq fun i => ?_⟩
        · have := h' i
          simp only [Nat.testBit_and, Nat.testBit_or] at this ⊢
          cases x : P.testBit i <;> cases y : a.testBit i <;> simp_all
        · have := h' i
          simp only [Nat.testBit_and, Nat.testBit_or] at this ⊢
          cases x : P.testBit i <;> cases y : b.testBit i <;> simp_all
      · rintro ⟨h1, h2⟩
        rw [Nat.and_or_distrib_left, h1, h2]
    rw [sub]
    refine propext (and_congr ?_ Iff.rfl)
    by_cases c : q.2.testBit s = true
    · rw [if_pos c, c]
      simp only [Bool.not_true, Bool.false_or]
      constructor
      · intro h
        have := congrArg (fun x => x.testBit q.1) h
        simp only [Nat.testBit_and, Nat.testBit_two_pow] at this
        simpa using this
      · intro h
        refine Nat.eq_of_testBit_eq fun i => ?_
        rw [Nat.testBit_and, Nat.testBit_two_pow]
        by_cases e : q.1 = i
        · subst e; rw [h]; rfl
        · simp [e]
    · rw [if_neg c]
      have c' : q.2.testBit s = false := by simpa using c
      simp [c']
def QOK (N : Nat) (Q : List (Nat × Nat)) : Prop := ∀ q ∈ Q, q.1 < N ∧ q.2 < 2 ^ N ∧ q.2.testBit q.1 = false
theorem ahd_lt {s N : Nat} : ∀ Q, QOK N Q → ahd s Q < 2 ^ N
  | [], _ => Nat.two_pow_pos N
  | q :: Q, h => by
    have h1 := h q List.mem_cons_self
    refine Nat.or_lt_two_pow ?_ (ahd_lt Q fun p hp => h p (List.mem_cons_of_mem _ hp))
    split
    · exact Nat.pow_lt_pow_right (by decide) h1.1
    · exact Nat.two_pow_pos N
/-- what is gathered -/
def GO (D : Dy) (n : Nat) (Q : List (Nat × Nat)) : Prop := D.1 14 0 = nI (n + 1) ∧ D.1 14 4 = nI Q.length ∧ (∀ i, i < Q.length → D.1 16 i = nI (Q.getD i (0, 0)).1 ∧ D.1 17 i = nI (Q.getD i (0, 0)).2) ∧ (∀ s, s < 7 → D.1 15 s = nI (ahd s Q)) ∧ QOK (n + 1) Q ∧ Q.length ≤ 80
theorem x_clear {D : Dy} {n : Nat} (hn : n ≤ 6) {post : Dy → Prop} (h : ∀ D', frO D D' → GO D' n [] → post D') : fX6_clear (nI n) D post := by
  unfold fX6_clear
  rintro D1 rfl D2 rfl
  refine lp2_I 7 (fun k x D' => x = nI k ∧ frO D D' ∧ D'.1 14 0 = nI (n + 1) ∧ D'.1 14 4 = nI 0 ∧ ∀ s, s < k → D'.1 15 s = nI 0) (by omega) (fun k hk x D' hp rec hr => ?_) ⟨rfl, frO_s (frO_s frO_r (by omega)) (by omega), ?_, ?_, fun s hs => by omega⟩
  · obtain ⟨rfl, p1, p2, p3, p4⟩ := hp
    by_cases e : k = 7
    · subst e
      refine ⟨fun _ => h D' p1 ⟨p2, p3, fun i hi => absurd hi (by simp), fun s hs => p4 s hs, fun q hq => absurd hq (by simp), by simp⟩, fun z => absurd (Int32.le_refl _) z⟩
    · have hk' : k < 7 := by omega
      refine ⟨fun z => absurd z (nI_ge (b := 7) hk' (by omega)), fun _ => ⟨nI_in hk' (by omega), ?_⟩⟩
      rintro D10 rfl v12 rfl
      rw [nI_1, nI_clamp (by omega)]
      refine hr hk' _ _ ⟨rfl, frO_s p1 (by omega), ?_, ?_, fun s hs => ?_⟩
      · rw [sI_1, if_neg (by omega)]; exact p2
      · rw [sI_1, if_neg (by omega)]; exact p3
      · rw [sI_1]
        by_cases q : s = k
        · rw [if_pos ⟨rfl, q⟩]; rfl
        · rw [if_neg (by omega)]; exact p4 s (by omega)
  · simp [sI, nI_1]
  · simp [sI]; rfl
/-- the slot of an option -/
def slo (n o : Nat) : Nat := if o = 7 then n else o
def rq (n s o : Nat) : Nat × Nat := (slo n o, aNot (s ||| 2 ^ n) (2 ^ slo n o))
theorem slo_le {n o : Nat} (h : o = 7 ∨ o < n) : slo n o < n + 1 := by
  unfold slo; split <;> omega
theorem rq_ok {n s o : Nat} (hs : s < 2 ^ n) (h : o = 7 ∨ o < n) : (rq n s o).1 < n + 1 ∧ (rq n s o).2 < 2 ^ (n + 1) ∧ (rq n s o).2.testBit (rq n s o).1 = false := by
  refine ⟨slo_le h, ?_, ?_⟩
  · refine Nat.lt_of_le_of_lt aNot_le (Nat.or_lt_two_pow ?_ (Nat.pow_lt_pow_right (by decide) (by omega)))
    exact Nat.lt_of_lt_of_le hs (Nat.pow_le_pow_right (by decide) (by omega))
  · show (aNot _ _).testBit (slo n o) = false
    rw [aNot_bit, Nat.testBit_two_pow_self]; simp
theorem JN_1 {τ : Type} {J : τ → Prop} {b : (τ → Prop) → Prop} (P : τ → Prop) (hJ : ∀ x, P x → J x) (hb : ∀ K : τ → Prop, (∀ x, P x → K x) → b K) : JN J b := hb J hJ
theorem x_require {D : Dy} {n s o : Nat} {Q : List (Nat × Nat)} (hn : n ≤ 6) (hs : s < 2 ^ n) (ho : o = 7 ∨ o < n) (h : GO D n Q) (hQ : Q.length < 80) {post : Dy → Prop} (hp : ∀ D', frO D D' → GO D' n (Q ++ [rq n s o]) → post D') : fX6_require (nI s) (nI o) D post := by
  obtain ⟨g1, g2, g3, g4, g5, g6⟩ := h
  have pw := pw6 hn
  obtain ⟨r1, r2, r3⟩ := rq_ok hs ho
  have pw7 : 2 ^ (n + 1) ≤ 128 := Nat.pow_le_pow_right (n := 2) (by decide) (show n + 1 ≤ 7 by omega)
  have ps : 2 ^ (rq n s o).1 < 2 ^ 31 := Nat.pow_lt_pow_right (by decide) (by omega)
  have e1 : nI s ||| nI 1 <<< ((D.1 14 0 - nI 1) &&& 31) = nI (s ||| 2 ^ n) := by
    rw [g1, sub' (by omega), show n + 1 - 1 = n by omega, shl' (by omega), nI_or]
  unfold fX6_require
  refine JN_1 (fun v1 => v1 = nI (rq n s o).1) (fun v1 hv1 => ?_) (fun K hK => ?_)
  · subst hv1
    unfold fX6_withNothing
    rw [n1, e1]
    rintro v9 rfl
    have e2 : nI (s ||| 2 ^ n) &&& ((nI 1 <<< (nI (rq n s o).1 &&& 31)) ^^^ -nI 1) = nI (rq n s o).2 := by
      rw [shl' (by omega), nI_andN]; rfl
    rw [e2]
    rw [g2]
    refine ⟨fun z => absurd z (nI_ge (a := Q.length) (b := 80) hQ (by omega)), fun _ => ⟨nI_in hQ (by omega), ?_⟩⟩
    rintro D33 rfl
    have f1 : (sI D 16 (nI Q.length).toNatClampNeg (nI (rq n s o).1)).1 14 4 = nI Q.length := by rw [sI_1, if_neg (by omega)]; exact g2
    rw [f1]
    refine ⟨nI_in hQ (by omega), ?_⟩
    rintro D35 rfl
    have f2 : (sI (sI D 16 (nI Q.length).toNatClampNeg (nI (rq n s o).1)) 17 (nI Q.length).toNatClampNeg (nI (rq n s o).2)).1 14 4 = nI Q.length := by rw [sI_1, if_neg (by omega)]; exact f1
    rw [f2, nI_add]
    rintro D37 rfl
    rw [nI_clamp (by omega)]
    obtain ⟨D0, hD0⟩ : ∃ D0, D0 = sI (sI (sI D 16 Q.length (nI (rq n s o).1)) 17 Q.length (nI (rq n s o).2)) 14 4 (nI (Q.length + 1)) := ⟨_, rfl⟩
    rw [← hD0]
    have fr0 : frO D D0 := by rw [hD0]; exact frO_s (frO_s (frO_s frO_r (by omega)) (by omega)) (by omega)
    have c140 : D0.1 14 0 = nI (n + 1) := by rw [hD0]; simp [sI, g1]
    have c144 : D0.1 14 4 = nI (Q.length + 1) := by rw [hD0]; simp [sI]
    have c15 : ∀ s, D0.1 15 s = D.1 15 s := fun s => by rw [hD0]; simp [sI]
    have c16 : ∀ i, D0.1 16 i = if i = Q.length then nI (rq n s o).1 else D.1 16 i := fun i => by rw [hD0]; simp [sI]
    have c17 : ∀ i, D0.1 17 i = if i = Q.length then nI (rq n s o).2 else D.1 17 i := fun i => by rw [hD0]; simp [sI]
    refine lp2_I (n + 1) (fun k x D' => x = nI k ∧ frO D D' ∧ D'.1 14 0 = nI (n + 1) ∧ D'.1 14 4 = nI (Q.length + 1) ∧ (∀ i, D'.1 16 i = D0.1 16 i ∧ D'.1 17 i = D0.1 17 i) ∧ ∀ t, t < 7 → D'.1 15 t = if t < k then nI (ahd t (Q ++ [rq n s o])) else nI (ahd t Q)) (by omega) (fun k hk x D' hpp rec hr => ?_) ⟨rfl, fr0, c140, c144, fun i => ⟨rfl, rfl⟩, fun t ht => by rw [c15, if_neg (by omega)]; exact g4 t ht⟩
    obtain ⟨rfl, p1, p2, p3, p4, p5⟩ := hpp
    rw [p2]
    by_cases e : k = n + 1
    · subst e
      refine ⟨fun _ => hp D' p1 ⟨p2, ?_, ?_, ?_, ?_, ?_⟩, fun z => absurd (Int32.le_refl _) z⟩
      · rw [p3, List.length_append]; rfl
      · intro i hi
        rw [List.length_append] at hi
        rw [(p4 i).1, (p4 i).2, c16, c17, getP_app]
        by_cases q : i = Q.length
        · rw [if_pos q, if_pos q, if_pos q]; exact ⟨rfl, rfl⟩
        · rw [if_neg q, if_neg q, if_neg q]
          have : i < Q.length := by simp at hi; omega
          exact g3 i this
      · intro t ht
        rw [p5 t ht]
        by_cases q : t < n + 1
        · rw [if_pos q]
        · rw [if_neg q, ahd_app]
          have : (rq n s o).2.testBit t = false := Nat.testBit_lt_two_pow (Nat.lt_of_lt_of_le r2 (Nat.pow_le_pow_right (by decide) (by omega)))
          rw [this]; simp
      · intro q hq
        rcases List.mem_append.mp hq with z | z
        · exact g5 q z
        · rw [List.mem_singleton.mp z]; exact ⟨r1, r2, r3⟩
      · rw [List.length_append]; show Q.length + 1 ≤ 80; omega
    · have hk' : k < n + 1 := by omega
      have hr := hr hk'
      refine ⟨fun z => absurd z (nI_ge hk' (by omega)), fun _ => ?_⟩
      rw [isIn' (by omega) (by omega)]
      have a1 : ahd k (Q ++ [rq n s o]) = ahd k Q ||| (if (rq n s o).2.testBit k = true then 2 ^ (rq n s o).1 else 0) := ahd_app Q
      by_cases q : (rq n s o).2.testBit k = true
      · rw [q]
        refine ⟨fun z => absurd z (by decide), fun _ => ⟨nI_in (by omega) (by omega), nI_in (by omega) (by omega), ?_⟩⟩
        rintro D30 rfl v27 rfl
        rw [nI_add]
        refine hr _ _ ⟨rfl, frO_s p1 (by omega), ?_, ?_, fun i => ?_, fun t ht => ?_⟩
        · rw [sI_1, if_neg (by omega)]; exact p2
        · rw [sI_1, if_neg (by omega)]; exact p3
        · rw [sI_1, sI_1, if_neg (by omega), if_neg (by omega)]; exact p4 i
        · rw [nI_clamp (by omega), sI_1]
          by_cases e2 : t = k
          · subst e2
            rw [if_pos ⟨rfl, rfl⟩, if_pos (by omega), p5 t ht, if_neg (by omega), shl' (by omega), nI_or, a1, if_pos q]
          · rw [if_neg (fun z => e2 z.2), p5 t ht]
            by_cases e3 : t < k
            · rw [if_pos e3, if_pos (by omega)]
            · rw [if_neg e3, if_neg (by omega)]
      · have q' : (rq n s o).2.testBit k = false := by simpa using q
        rw [q']
        refine ⟨fun _ => ?_, fun z => absurd rfl z⟩
        rintro v27 rfl
        rw [nI_add]
        refine hr _ _ ⟨rfl, p1, p2, p3, p4, fun t ht => ?_⟩
        rw [p5 t ht]
        by_cases e3 : t < k
        · rw [if_pos e3, if_pos (by omega)]
        · rw [if_neg e3]
          by_cases e2 : t = k
          · subst e2; rw [if_pos (by omega), a1, if_neg q, Nat.or_zero]
          · rw [if_neg (by omega)]
  · by_cases q : o = 7
    · subst q
      refine ⟨fun z => absurd rfl z, fun _ => ?_⟩
      refine hK _ ?_
      rw [g1, n1, sub' (by omega)]; rfl
    · refine ⟨fun _ => ?_, fun z => absurd ((nI_eq (a := o) (b := 7) (by omega) (by omega)).mp z) q⟩
      refine hK _ ?_
      show nI o = nI (slo n o)
      unfold slo; rw [if_neg q]
