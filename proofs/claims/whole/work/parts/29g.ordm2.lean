/-! places, what is taken, what is against -/
def frK (D D' : Dy) : Prop := D'.2 = D.2 ∧ ∀ b x, ¬ (b = 33 ∧ x = 46) → b < 54 ∨ 58 < b → D'.1 b x = D.1 b x
theorem frK_r {D : Dy} : frK D D := ⟨rfl, fun _ _ _ _ => rfl⟩
theorem frK_t {D D' D'' : Dy} (h : frK D D') (h' : frK D' D'') : frK D D'' := ⟨h'.1.trans h.1, fun b x h1 h2 => (h'.2 b x h1 h2).trans (h.2 b x h1 h2)⟩
theorem frK_s {D D' : Dy} {a k : Nat} {v : Int32} (h : frK D D') (ha : (a = 33 ∧ k = 46) ∨ (54 ≤ a ∧ a ≤ 58)) : frK D (sI D' a k v) := ⟨h.1, fun b x h1 h2 => by rw [sI_1, if_neg (by omega)]; exact h.2 b x h1 h2⟩
theorem frK_w {D D' : Dy} {p q : Nat} (h : frI p q D D') (h1 : 54 ≤ p) (h2 : q ≤ 58) : frK D D' := ⟨h.1, fun b x _ hb => h.2 b x (by omega)⟩
/-- the places of all rows -/
def PLs (D : Dy) (n : Nat) : Prop := ∀ v, v < fac (n + 1) → ∀ s, s < n + 1 → D.1 56 (8 * v + cod n s) = nI (pos s (ord (n + 1) 0 v))
theorem m_findPlaces {D : Dy} {n : Nat} (hn : n ≤ 6) (h0 : D.1 33 0 = nI n) (h46 : D.1 33 46 = nI n → PLs D n) {post : Dy → Prop} (hp : ∀ D', frK D D' → D'.1 33 46 = nI n → PLs D' n → (D' = D ∨ (D.1 33 46 ≠ nI n ∧ ∀ w, w < 16 → D'.1 58 w = nI 0)) → post D') : fX12_findPlaces D post := by
  have f7 := fac7 (n := n + 1) (by omega)
  unfold fX12_findPlaces
  rw [h0]
  refine ⟨fun z => ?_, fun z => ?_⟩
  · rintro D2 rfl
    refine lp2_I (fac (n + 1)) (fun v x D' => x = nI v ∧ frK D D' ∧ D'.1 33 46 = nI n ∧ ∀ v', v' < v → ∀ s, s < n + 1 → D'.1 56 (8 * v' + cod n s) = nI (pos s (ord (n + 1) 0 v'))) (by omega) (fun v hv x D' hpp rec hr => ?_) ⟨rfl, frK_s frK_r (by omega), by rw [sI_1, if_pos ⟨rfl, rfl⟩], fun v' hv' => by omega⟩
    obtain ⟨rfl, p1, p2, p3⟩ := hpp
    have e0 : D'.1 33 0 = nI n := by rw [p1.2 _ _ (by omega) (by omega)]; exact h0
    rw [m_orders hn e0]
    by_cases e : v = fac (n + 1)
    · subst e
      refine ⟨fun _ => ?_, fun y => absurd (Int32.le_refl _) y⟩
      refine lp2_I 16 (fun w x D'' => x = nI w ∧ frK D D'' ∧ D''.1 33 46 = nI n ∧ (∀ y, D''.1 56 y = D'.1 56 y) ∧ ∀ w', w' < w → D''.1 58 w' = nI 0) (by omega) (fun w hw x D'' hqq rec2 hr2 => ?_) ⟨rfl, p1, p2, fun _ => rfl, fun _ h => by omega⟩
      obtain ⟨rfl, q1, q2, q3, q4⟩ := hqq
      by_cases c : w = 16
      · subst c
        exact ⟨fun _ => hp D'' q1 q2 (fun v' hv' s hs => by rw [q3]; exact p3 v' hv' s hs) (Or.inr ⟨z, q4⟩), fun y => absurd (Int32.le_refl _) y⟩
      · have hw' : w < 16 := by omega
        refine ⟨fun y => absurd y (nI_ge (b := 16) hw' (by omega)), fun _ => ⟨nI_in hw' (by omega), ?_⟩⟩
        rintro D19 rfl v21 rfl
        rw [nI_1, nI_clamp (by omega)]
        refine hr2 hw' _ _ ⟨rfl, frK_s q1 (by omega), ?_, fun y => ?_, fun w' h' => ?_⟩
        · rw [sI_1, if_neg (by omega)]; exact q2
        · rw [sI_1, if_neg (by omega)]; exact q3 y
        · rw [sI_1]
          by_cases x : w' = w
          · rw [if_pos ⟨rfl, x⟩]; rfl
          · rw [if_neg (fun y => x y.2)]; exact q4 w' (by omega)
    · have hv' : v < fac (n + 1) := by omega
      have hr := hr hv'
      refine ⟨fun y => absurd y (nI_ge hv' (by omega)), fun _ => ?_⟩
      refine m_unrank hn e0 hv' fun D1 u1 u2 => ?_
      refine lp2_I 8 (fun t x D'' => x = nI t ∧ frK D D'' ∧ D''.1 33 46 = nI n ∧ (∀ y, D''.1 54 y = D1.1 54 y) ∧ (∀ y, y < 8 * v → D''.1 56 y = D'.1 56 y) ∧ ∀ t', t' < t → D''.1 56 (8 * v + t') = D1.1 54 t') (by omega) (fun t ht x D'' hqq rec2 hr2 => ?_) ⟨rfl, frK_t p1 (frK_w u1 (by omega) (by omega)), by rw [u1.2 _ _ (by omega)]; exact p2, fun _ => rfl, fun y _ => u1.2 _ _ (by omega), fun _ h => by omega⟩
      obtain ⟨rfl, q1, q2, q3, q4, q5⟩ := hqq
      by_cases c : t = 8
      · subst c
        refine ⟨fun _ => ?_, fun y => absurd (Int32.le_refl _) y⟩
        rintro v34 rfl
        rw [nI_1]
        refine hr _ _ ⟨rfl, q1, q2, fun v' h' s hs => ?_⟩
        have cl := cod_lt hn hs
        by_cases x : v' = v
        · subst x; rw [q5 _ cl]; exact u2 s hs
        · rw [q4 _ (by omega)]; exact p3 v' (by omega) s hs
      · have ht' : t < 8 := by omega
        have hr2 := hr2 ht'
        refine ⟨fun y => absurd y (nI_ge (b := 8) ht' (by omega)), fun _ => ⟨nI_in ht' (by omega), ?_⟩⟩
        rw [n8, nI_mul, nI_add, nI_clamp (by omega), nI_clamp (by omega)]
        refine ⟨nI_in (by omega) (by omega), ?_⟩
        rintro D36 rfl v38 rfl
        rw [nI_1]
        refine hr2 _ _ ⟨rfl, frK_s q1 (by omega), ?_, fun y => ?_, fun y hy => ?_, fun t' h' => ?_⟩
        · rw [sI_1, if_neg (by omega)]; exact q2
        · rw [sI_1, if_neg (by omega)]; exact q3 y
        · rw [sI_1, if_neg (by omega)]; exact q4 y hy
        · rw [sI_1]
          by_cases x : t' = t
          · subst x; rw [if_pos ⟨rfl, rfl⟩, q3]
          · rw [if_neg (by omega)]; exact q5 t' (by omega)
  · have z' : D.1 33 46 = nI n := by
      first | exact z | exact Classical.byContradiction z
    exact hp D frK_r z' (h46 z') (Or.inl rfl)
/-- the best so far: of n and of those of S below k -/
def bst (S n : Nat) (l : List Nat) : Nat → Nat
  | 0 => n
  | k + 1 => if S.testBit k = true ∧ pos k l < pos (bst S n l k) l then k else bst S n l k
theorem bst_is {S n : Nat} {l : List Nat} : ∀ k, k ≤ n → (bst S n l k = n ∨ (bst S n l k < k ∧ S.testBit (bst S n l k) = true)) ∧ pos (bst S n l k) l ≤ pos n l ∧ ∀ s, s < k → S.testBit s = true → pos (bst S n l k) l ≤ pos s l
  | 0, _ => ⟨Or.inl rfl, Nat.le_refl _, fun s h => by omega⟩
  | k + 1, hk => by
    obtain ⟨i1, i2, i3⟩ := bst_is (S := S) (n := n) (l := l) k (by omega)
    unfold bst
    by_cases c : S.testBit k = true ∧ pos k l < pos (bst S n l k) l
    · rw [if_pos c]
      refine ⟨Or.inr ⟨by omega, c.1⟩, by omega, fun s hs hb => ?_⟩
      by_cases e : s = k
      · rw [e]; exact Nat.le_refl _
      · have := i3 s (by omega) hb; omega
    · rw [if_neg c]
      refine ⟨i1.imp id fun z => ⟨by omega, z.2⟩, i2, fun s hs hb => ?_⟩
      by_cases e : s = k
      · subst e
        exact Nat.le_of_not_lt fun z => c ⟨hb, z⟩
      · exact i3 s (by omega) hb
theorem bst_fst {S n : Nat} {l : List Nat} (hS : S < 2 ^ n) (hl : ∀ s, s < n + 1 → s ∈ l) : fst (S ||| 2 ^ n) l = bst S n l n := by
  obtain ⟨h1, h2, h3⟩ := bst_is (S := S) (n := n) (l := l) n (Nat.le_refl _)
  have hb : (S ||| 2 ^ n).testBit (bst S n l n) = true := by
    rw [tb_or]
    rcases h1 with h1 | h1
    · rw [h1]; simp
    · rw [h1.2]; rfl
  refine fst_pos hb l (hl _ (by rcases h1 with h1 | h1 <;> omega)) fun s hs hm => ?_
  rw [tb_or, Bool.or_eq_true] at hs
  rcases hs with hs | hs
  · have : s < n := Nat.lt_of_not_le fun y => by
      rw [Nat.testBit_lt_two_pow (Nat.lt_of_lt_of_le hS (Nat.pow_le_pow_right (by decide) y))] at hs
      cases hs
    exact h3 s this hs
  · have : n = s := by simpa using hs
    rw [← this]; exact h2
theorem pos_le {s : Nat} : ∀ l, pos s l ≤ l.length
  | [] => Nat.le_refl _
  | e :: l => by
    unfold pos
    split
    · omega
    · have := pos_le (s := s) l; simp; omega
theorem ord_len : ∀ r P v, (ord r P v).length = r
  | 0, _, _ => rfl
  | r + 1, P, v => by unfold ord; rw [List.length_cons, ord_len r]
theorem m_taken {D : Dy} {n v S : Nat} (hn : n ≤ 6) (h0 : D.1 33 0 = nI n) (hP : PLs D n) (hv : v < fac (n + 1)) (hS : S < 2 ^ n) {post : Int32 → Prop} : fX12_takenFrom (nI v) (nI S) D post = post (nI (cod n (fst (S ||| 2 ^ n) (ord (n + 1) 0 v)))) := by
  have f7 := fac7 (n := n + 1) (by omega)
  have pw := pw6 hn
  have hl : ∀ s, s < n + 1 → s ∈ ord (n + 1) 0 v := fun s hs => ord_mem (N := n + 1) (by omega) _ _ v (unu0 _) hv s hs (Nat.zero_testBit _)
  rw [bst_fst hS hl]
  have pl : ∀ s, pos s (ord (n + 1) 0 v) ≤ 7 := fun s => by have := pos_le (s := s) (ord (n + 1) 0 v); rw [ord_len] at this; omega
  unfold fX12_takenFrom
  refine lp2_V n (fun k => nI (cod n (bst S n (ord (n + 1) 0 v) k))) nI (fun _ => post _) (by omega) (fun k hk rec hr => ?_) (by show _ = nI (cod n n); unfold cod; rw [if_pos rfl]; rfl) rfl
  by_cases e : k = n
  · subst e; simp (disch := first | omega | assumption) only [JN, false_and, and_false, or_true, true_or, or_false, false_or, forall_eq, true_implies, false_implies, implies_true, and_true, true_and, and_self, not_true_eq_false, not_false_eq_true, if_true, if_false, ne_eq, eq_self, e10, e01, Nat.reduceEqDiff, Nat.reduceLT, Nat.reduceLeDiff, Nat.reduceAdd, Nat.reduceSub, Nat.reduceMul, Nat.lt_irrefl, Nat.le_refl, n0, n1, n2, n3, n4, n5, n6, n7, n8, n9, n10, n11, n12, n13, n14, n15, n16, n20, n30, n48, n50, n60, n80, n99, n100, n120, n255, n256, n1200, n5040, sI_1, sI_2, sL_1, sL_2, sLA_1, sLA_2, vpT, ltT, ltF, leT, leF, neF, ltI', leI', eqI', nI_clamp, nI_add, nI_mul, sub', adm', ngeq', ngeq2', nglt', ngle', ngle2', wi_t, wi_f, ii_t, ii_f, ix_t, ix_f, nI_and, nI_or, nI_andN, shl', isIn', has', bB_0, bB_1, bB_t, bB_f, bP_0, bP_1, bitC', ones', ltL0', geL0', leL0', gtL0', eqL0', h0]
  · have hk' : k < n := by omega
    have hr := hr hk'
    obtain ⟨b1, b2, b3⟩ := bst_is (S := S) (n := n) (l := ord (n + 1) 0 v) k (by omega)
    generalize hb : bst S n (ord (n + 1) 0 v) k = b at *
    have hbn : b < n + 1 := by rcases b1 with b1 | b1 <;> omega
    have cb := cod_lt hn hbn
    have pk := hP v hv k (by omega)
    have ck : cod n k = k := by unfold cod; rw [if_neg (by omega)]
    rw [ck] at pk
    have pb := hP v hv b hbn
    have l1 := pl k
    have l2 := pl b
    rw [← hr, show bst S n (ord (n + 1) 0 v) (k + 1) = if S.testBit k = true ∧ pos k (ord (n + 1) 0 v) < pos b (ord (n + 1) 0 v) then k else b by rw [← hb]; rfl]
    simp (disch := first | omega | assumption) only [JN, false_and, and_false, or_true, true_or, or_false, false_or, forall_eq, true_implies, false_implies, implies_true, and_true, true_and, and_self, not_true_eq_false, not_false_eq_true, if_true, if_false, ne_eq, eq_self, e10, e01, Nat.reduceEqDiff, Nat.reduceLT, Nat.reduceLeDiff, Nat.reduceAdd, Nat.reduceSub, Nat.reduceMul, Nat.lt_irrefl, Nat.le_refl, n0, n1, n2, n3, n4, n5, n6, n7, n8, n9, n10, n11, n12, n13, n14, n15, n16, n20, n30, n48, n50, n60, n80, n99, n100, n120, n255, n256, n1200, n5040, sI_1, sI_2, sL_1, sL_2, sLA_1, sLA_2, vpT, ltT, ltF, leT, leF, neF, ltI', leI', eqI', nI_clamp, nI_add, nI_mul, sub', adm', ngeq', ngeq2', nglt', ngle', ngle2', wi_t, wi_f, ii_t, ii_f, ix_t, ix_f, nI_and, nI_or, nI_andN, shl', isIn', has', bB_0, bB_1, bB_t, bB_f, bP_0, bP_1, bitC', ones', ltL0', geL0', leL0', gtL0', eqL0', h0, pk, pb]
    by_cases q1 : S.testBit k = true
    · by_cases q2 : pos b (ord (n + 1) 0 v) ≤ pos k (ord (n + 1) 0 v)
      · simp only [not_true_eq_false, not_false_eq_true, true_implies, false_implies, implies_true, and_true, true_and, and_self, if_true, if_false, reduceCtorEq, ne_eq, eq_self, Nat.reduceEqDiff, Nat.reduceLT, Nat.reduceLeDiff, q1, q2, show ¬ pos k (ord (n + 1) 0 v) < pos b (ord (n + 1) 0 v) by omega]
      · simp only [not_true_eq_false, not_false_eq_true, true_implies, false_implies, implies_true, and_true, true_and, and_self, if_true, if_false, reduceCtorEq, ne_eq, eq_self, Nat.reduceEqDiff, Nat.reduceLT, Nat.reduceLeDiff, q1, q2, show pos k (ord (n + 1) 0 v) < pos b (ord (n + 1) 0 v) by omega, ck]
    · have q1' : S.testBit k = false := by simpa using q1
      simp only [not_true_eq_false, not_false_eq_true, true_implies, false_implies, implies_true, and_true, true_and, and_self, if_true, if_false, reduceCtorEq, ne_eq, eq_self, Nat.reduceEqDiff, Nat.reduceLT, Nat.reduceLeDiff, q1', false_and]
