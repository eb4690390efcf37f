/-! choice, sheet -/
def AddOK (n k c w : Nat) (L : List (Nat × Nat)) : Prop := w < 16 ∧ (L ≠ [] → w < k) ∧ c + L.length ≤ 80 ∧ ∀ p ∈ L, p.1 < 2 ^ n ∧ p.1 ≠ 0 ∧ (p.2 = 7 ∨ (p.2 < n ∧ p.1.testBit p.2 = true))
theorem addX_0 {D : Dy} {c w : Nat} (h : D.1 7 4 = nI c) : addX D c w [] = D := by
  unfold addX
  refine Prod.ext (funext fun b => funext fun x => ?_) rfl
  dsimp only
  by_cases q : b = 7 ∧ x = 4
  · rw [if_pos q, q.1, q.2, h]; rfl
  · rw [if_neg q, if_neg (by simp; omega)]
theorem addM_0 {D : Dy} {c w : Nat} (h : D.1 33 2 = nI c) : addM D c w [] = D := by
  unfold addM
  refine Prod.ext (funext fun b => funext fun x => ?_) rfl
  dsimp only
  by_cases q : b = 33 ∧ x = 2
  · rw [if_pos q, q.1, q.2, h]; rfl
  · rw [if_neg q, if_neg (by simp), if_neg (by simp; omega)]
theorem vld_u {n : Nat} {a b : Int32} {s o s' o' : Nat} (hn : n ≤ 6) (h : vld n a b s o) (h' : vld n a b s' o') : s = s' ∧ o = o' := by
  obtain ⟨e1, e2, e3, e4⟩ := h
  obtain ⟨f1, f2, f3, f4⟩ := h'
  have pw := pw6 hn
  refine ⟨(nI_eq (by omega) (by omega)).mp (e1.symm.trans f1), ?_⟩
  have ng : ∀ j, j < n → nI j = -nI 1 → False := fun j hj z => by
    rw [ngeq' (by omega) (by omega) (by omega)] at z; exact z
  rcases e4 with ⟨x1, x2⟩ | ⟨x1, x2, x3⟩ <;> rcases f4 with ⟨y1, y2⟩ | ⟨y1, y2, y3⟩
  · rw [x1, y1]
  · exact (ng _ y1 (y2.symm.trans x2)).elim
  · exact (ng _ x1 (x2.symm.trans y2)).elim
  · exact (nI_eq (by omega) (by omega)).mp (x2.symm.trans y2)
theorem vld_ok {n : Nat} {a b : Int32} {s o : Nat} (h : vld n a b s o) : s < 2 ^ n ∧ s ≠ 0 ∧ (o = 7 ∨ (o < n ∧ s.testBit o = true)) := by
  obtain ⟨e1, e2, e3, e4⟩ := h
  refine ⟨e2, e3, e4.imp (fun z => z.1) fun z => ⟨z.1, z.2.2⟩⟩
theorem p_choice {D : Dy} {n k c : Nat} {a1 a2 a3 : Int32} (hn : n ≤ 6) (hk : k ≤ 16) (hc : c ≤ 80) (g1 : D.1 1 3 = nI n) (g2 : D.1 33 0 = nI n) (t1 : D.1 0 3 = nI k) (t2 : D.1 33 1 = nI k) (c1 : D.1 7 4 = nI c) (c2 : D.1 33 2 = nI c) : fX11_choice a1 a2 a3 D (fun v D1 => fX12_choice a1 a2 a3 D1 (fun v' D2 => v = v' ∧ ∃ w L, AddOK n k c w L ∧ D2 = addM (addX D c w L) c w L)) := by
  by_cases q : iN a1 k
  · obtain ⟨w, hw, rfl⟩ := q
    have eX : ∀ {L : List (Nat × Nat)}, (addX D c w L).1 33 2 = nI c := fun {L} => by rw [addX_r (by omega) (by omega)]; exact c2
    have e0 : ∀ {L : List (Nat × Nat)}, (addX D c w L).1 33 0 = nI n := fun {L} => by rw [addX_r (by omega) (by omega)]; exact g2
    have e1 : ∀ {L : List (Nat × Nat)}, (addX D c w L).1 33 1 = nI k := fun {L} => by rw [addX_r (by omega) (by omega)]; exact t2
    unfold fX11_choice
    rw [t1, wi_t hw (by omega)]
    refine ⟨fun _ => ?_, fun z => absurd z (by decide)⟩
    have base : ∀ {X : Dy → Prop}, X (addX D c w []) → X D := fun {X} h => by rw [addX_0 c1] at h; exact h
    refine base (X := fun Y => fX11_tellChoice (nI w) a2 a3 Y _) ?_
    have m0 : ∀ {L : List (Nat × Nat)} {post : Int32 → Dy → Prop}, fX12_choice (nI w) a2 a3 (addM (addX D c w L) c w []) post → fX12_choice (nI w) a2 a3 (addX D c w L) post := fun h => by rw [addM_0 eX] at h; exact h
    refine x_tell hn g1 (fun s o hv hl => m0 ?_) (fun s o hv hl => m0 ?_) (fun hv => m0 ?_) (by simp; exact hc)
    · refine m_tell hn hk hw e0 e1 (fun s' o' hv' hl' => ?_) (fun s' o' hv' hl' => ?_) (fun h => absurd ⟨s, o, hv⟩ h) (by simp; exact hc)
      · obtain ⟨rfl, rfl⟩ := vld_u hn hv hv'
        refine ⟨rfl, w, [(s, o)], ⟨by omega, fun _ => hw, by simp at hl ⊢; omega, fun p hp => ?_⟩, rfl⟩
        rw [List.mem_singleton.mp hp]; exact vld_ok hv
      · simp at hl hl'; omega
    · refine m_tell hn hk hw e0 e1 (fun s' o' hv' hl' => ?_) (fun s' o' hv' hl' => ?_) (fun h => absurd ⟨s, o, hv⟩ h) (by simp; exact hc)
      · simp at hl hl'; omega
      · exact ⟨rfl, w, [], ⟨by omega, fun z => absurd rfl z, by simp; exact hc, fun p hp => by cases hp⟩, rfl⟩
    · refine m_tell hn hk hw e0 e1 (fun s' o' hv' hl' => absurd ⟨s', o', hv'⟩ hv) (fun s' o' hv' hl' => absurd ⟨s', o', hv'⟩ hv) (fun h => ?_) (by simp; exact hc)
      exact ⟨rfl, w, [], ⟨by omega, fun z => absurd rfl z, by simp; exact hc, fun p hp => by cases hp⟩, rfl⟩
  · unfold fX11_choice fX12_choice
    simp (disch := first | omega | assumption) only [JN, false_and, and_false, or_true, true_or, or_false, false_or, forall_eq, true_implies, false_implies, implies_true, and_true, true_and, and_self, not_true_eq_false, not_false_eq_true, if_true, if_false, ne_eq, eq_self, e10, e01, Nat.reduceEqDiff, Nat.reduceLT, Nat.reduceLeDiff, Nat.reduceAdd, Nat.reduceSub, Nat.reduceMul, Nat.lt_irrefl, Nat.le_refl, n0, n1, n2, n3, n4, n5, n6, n7, n8, n9, n10, n11, n12, n13, n14, n15, n16, n20, n30, n48, n50, n60, n80, n99, n100, n120, n255, n256, n1200, n5040, sI_1, sI_2, sL_1, sL_2, sLA_1, sLA_2, vpT, ltT, ltF, leT, leF, neF, ltI', leI', eqI', nI_clamp, nI_add, nI_mul, sub', adm', ngeq', ngeq2', nglt', ngle', ngle2', wi_t, wi_f, ii_t, ii_f, ix_t, ix_f, nI_and, nI_or, nI_andN, shl', isIn', has', bB_0, bB_1, bB_t, bB_f, bP_0, bP_1, bitC', ones', ltL0', geL0', leL0', gtL0', eqL0', t1, isTk_f t2]
    refine ⟨0, [], ⟨by omega, fun z => absurd rfl z, by simp; exact hc, fun p hp => by cases hp⟩, ?_⟩
    rw [addX_0 c1, addM_0 c2]
theorem RC_add {D : Dy} {n k c w : Nat} {L : List (Nat × Nat)} (hn : n ≤ 6) (h : RC D n k c) (ha : AddOK n k c w L) : RC (addM (addX D c w L) c w L) n k (c + L.length) := by
  obtain ⟨h1, h2, h3, h4⟩ := h
  obtain ⟨a1, a2, a3, a4⟩ := ha
  have pw := pw6 hn
  refine ⟨a3, ?_, addM_n, fun i hi => ?_⟩
  · rw [addM_r (by omega) (by omega) (by omega)]; exact addX_n
  · have rX : ∀ b, b = 8 ∨ b = 9 ∨ b = 10 ∨ b = 11 → (addM (addX D c w L) c w L).1 b i = (addX D c w L).1 b i := fun b hb => addM_r (by omega) (by omega) (by omega)
    rw [rX 8 (by omega), rX 9 (by omega), rX 10 (by omega), rX 11 (by omega)]
    by_cases q : i < c
    · have vX : ∀ b, b = 8 ∨ b = 9 ∨ b = 10 ∨ b = 11 → (addX D c w L).1 b i = D.1 b i := fun b hb => by
        unfold addX; dsimp only; rw [if_neg (by omega), if_neg (by omega)]
      have vM : ∀ b, b = 38 ∨ b = 39 ∨ b = 40 ∨ b = 41 → (addM (addX D c w L) c w L).1 b i = D.1 b i := fun b hb => by
        unfold addM; dsimp only; rw [if_neg (by omega), if_neg (by omega), if_neg (by omega)]
        unfold addX; dsimp only; rw [if_neg (by omega), if_neg (by omega)]
      rw [vX 8 (by omega), vX 9 (by omega), vX 10 (by omega), vX 11 (by omega), vM 38 (by omega), vM 39 (by omega), vM 40 (by omega), vM 41 (by omega)]
      exact h4 i q
    · have hne : L ≠ [] := fun z => by rw [z] at hi; simp at hi; omega
      have hw := a2 hne
      have hj : i - c < L.length := by omega
      have eg : L.getD (i - c) (0, 0) = L[i - c] := by rw [List.getD_eq_getElem?_getD, List.getElem?_eq_getElem hj]; rfl
      obtain ⟨p1, p2, p3⟩ := a4 _ (List.getElem_mem hj)
      have vX : ∀ b, b = 8 ∨ b = 9 ∨ b = 10 ∨ b = 11 → (addX D c w L).1 b i = (if b = 8 then nI w else if b = 9 then nI (L[i - c]).1 else if b = 10 then nI (L[i - c]).2 else nI 0) := fun b hb => by
        unfold addX; dsimp only; rw [if_neg (by omega), if_pos (by omega), eg]
      have vM : ∀ b, b = 38 ∨ b = 39 ∨ b = 40 ∨ b = 41 → (addM (addX D c w L) c w L).1 b i = (if b = 38 then nI w else if b = 39 then nI (L[i - c]).1 else if b = 40 then (if (L[i - c]).2 = 7 then -nI 1 else nI (L[i - c]).2) else nI 0) := fun b hb => by
        unfold addM; dsimp only; rw [if_neg (by omega), if_neg (by omega), if_pos (by omega), eg]
      rw [vX 8 (by omega), vX 9 (by omega), vX 10 (by omega), vX 11 (by omega), vM 38 (by omega), vM 39 (by omega), vM 40 (by omega), vM 41 (by omega)]
      simp only [if_true, show ¬ (9 : Nat) = 8 by omega, show ¬ (10 : Nat) = 8 by omega, show ¬ (11 : Nat) = 8 by omega, show ¬ (10 : Nat) = 9 by omega, show ¬ (11 : Nat) = 9 by omega, show ¬ (11 : Nat) = 10 by omega, show ¬ (39 : Nat) = 38 by omega, show ¬ (40 : Nat) = 38 by omega, show ¬ (41 : Nat) = 38 by omega, show ¬ (40 : Nat) = 39 by omega, show ¬ (41 : Nat) = 39 by omega, show ¬ (41 : Nat) = 40 by omega, if_false]
      refine ⟨by simp, ⟨w, hw, rfl⟩, ⟨⟨_, p1, rfl⟩, fun z => p2 ((nI_eq (b := 0) (by omega) (by omega)).mp z)⟩, ⟨0, by omega, rfl⟩, ?_⟩
      rcases p3 with p3 | ⟨p3, p4⟩
      · left; rw [p3]; exact ⟨rfl, rfl⟩
      · right
        refine ⟨_, p3, rfl, ?_, ?_⟩
        · rw [if_neg (by omega)]
        · unfold sBit; rw [nI_clamp (by omega)]; exact p4
/-- what a line of a sheet tells -/
def lnV (n : Nat) (v : Int64) (s o : Nat) : Prop := (¬ v < 0 ∧ ¬ 6400 ≤ v) ∧ vld n (v / 100).toInt32 ((v - v / 100 * 100).toInt32 - 1) s o
theorem div64 {v : Int64} (h : ¬ v < 0) : (v / 100 < 64) ↔ ¬ 6400 ≤ v := by
  have h0 : 0 ≤ v.toInt := by
    have := mt Int64.lt_iff_toInt_lt.mpr h
    rw [show (0 : Int64).toInt = 0 by decide] at this; omega
  have h1 := v.toInt_lt
  have e : (v / 100).toInt = v.toInt / 100 := by
    rw [Int64.toInt_div, show (100 : Int64).toInt = 100 by decide, Int.tdiv_eq_ediv_of_nonneg h0]
    exact Int.bmod_eq_of_le (by omega) (by omega)
  rw [Int64.lt_iff_toInt_lt, Int64.le_iff_toInt_le, e, show (64 : Int64).toInt = 64 by decide, show (6400 : Int64).toInt = 6400 by decide]
  omega
theorem x_line {D : Dy} {n c w : Nat} {L : List (Nat × Nat)} {v : Int64} (hn : n ≤ 6) (h13 : D.1 1 3 = nI n) (hc : c + L.length ≤ 80) {post : Int32 → Dy → Prop} (h1 : ∀ s o, lnV n v s o → c + L.length < 80 → post (nI (c + L.length)) (addX D c w (L ++ [(s, o)]))) (h2 : ∀ r, r < 0 → (¬ ∃ s o, lnV n v s o ∧ c + L.length < 80) → post r (addX D c w L)) : fX11_tellLine (nI w) v (addX D c w L) post := by
  unfold fX11_tellLine
  rintro _ rfl
  rw [lg_cmp_lt, lg_cmp_lt]
  refine ⟨fun c1 => h2 _ (by decide) ?_, fun c1 => ⟨fun c2 => ?_, fun c2 => h2 _ (by decide) ?_⟩⟩
  · rintro ⟨s, o, ⟨⟨z, _⟩, _⟩, _⟩; exact z c1
  · have c3 := (div64 c1).mp c2
    refine x_tell hn h13 (fun s o hv hl => h1 s o ⟨⟨c1, c3⟩, hv⟩ hl) (fun s o hv hl => h2 _ (by decide) ?_) (fun hv => h2 _ (by decide) ?_) hc
    · rintro ⟨_, _, _, z⟩; omega
    · rintro ⟨s, o, ⟨_, z⟩, _⟩; exact hv ⟨s, o, z⟩
  · rintro ⟨s, o, ⟨⟨_, z⟩, _⟩, _⟩; exact c2 ((div64 c1).mpr z)
noncomputable def nxL (n c : Nat) (v : Int64) (L : List (Nat × Nat)) : List (Nat × Nat) := @dite _ (∃ p : Nat × Nat, lnV n v p.1 p.2 ∧ c + L.length < 80) (Classical.propDecidable _) (fun h => L ++ [h.choose]) (fun _ => L)
theorem nxL_t {n c : Nat} {v : Int64} {L : List (Nat × Nat)} (hn : n ≤ 6) {s o : Nat} (h : lnV n v s o) (hc : c + L.length < 80) : nxL n c v L = L ++ [(s, o)] := by
  have hx : ∃ p : Nat × Nat, lnV n v p.1 p.2 ∧ c + L.length < 80 := ⟨(s, o), h, hc⟩
  unfold nxL
  rw [dif_pos hx]
  obtain ⟨e1, e2⟩ := vld_u hn h.2 hx.choose_spec.1.2
  rw [show hx.choose = (s, o) from Prod.ext e1.symm e2.symm]
theorem nxL_f {n c : Nat} {v : Int64} {L : List (Nat × Nat)} (h : ¬ ∃ s o, lnV n v s o ∧ c + L.length < 80) : nxL n c v L = L := by
  unfold nxL
  rw [dif_neg]
  rintro ⟨⟨s, o⟩, z⟩; exact h ⟨s, o, z⟩
noncomputable def shL (n c : Nat) (V : Nat → Int64) : Nat → List (Nat × Nat)
  | 0 => []
  | k + 1 => nxL n c (V k) (shL n c V k)
theorem shL_ok {n k c w : Nat} {V : Nat → Int64} (hn : n ≤ 6) (hw : w < k) (hk : k ≤ 16) (hc : c ≤ 80) : ∀ m, AddOK n k c w (shL n c V m) ∧ (shL n c V m).length ≤ m
  | 0 => ⟨⟨by omega, fun _ => hw, by show c + 0 ≤ 80; omega, fun p hp => by cases hp⟩, Nat.le_refl _⟩
  | m + 1 => by
    obtain ⟨⟨i1, i2, i3, i4⟩, i5⟩ := shL_ok (V := V) hn hw hk hc m
    show AddOK n k c w (nxL n c (V m) (shL n c V m)) ∧ (nxL n c (V m) (shL n c V m)).length ≤ m + 1
    by_cases q : ∃ s o, lnV n (V m) s o ∧ c + (shL n c V m).length < 80
    · obtain ⟨s, o, q1, q2⟩ := q
      rw [nxL_t hn q1 q2]
      refine ⟨⟨i1, fun _ => hw, by simp; omega, fun p hp => ?_⟩, by simp; omega⟩
      rcases List.mem_append.mp hp with z | z
      · exact i4 p z
      · rw [List.mem_singleton.mp z]; exact vld_ok q1.2
    · rw [nxL_f q]; exact ⟨⟨i1, i2, i3, i4⟩, by omega⟩
theorem lt_sub {z k i : Nat} (hz : z ≤ 60) (hk : k < 2 ^ 31) (hi : i < 2 ^ 31) : (nI i < nI z - nI k) = (i + k < z) := by
  by_cases h : k ≤ z
  · rw [sub' h, ltI' hi (by omega)]; exact propext (by omega)
  · rw [show nI z - nI k = -nI (k - z) by rw [← sub' (by omega : z ≤ k), Int32.neg_sub]]
    refine propext ⟨fun q => ?_, fun _ => by omega⟩
    have := Int32.lt_iff_toInt_lt.mp q
    rw [ng_toInt (by omega), nI_toInt hi] at this; omega
theorem sub_le {z k i : Nat} (hz : z ≤ 60) (hk : k < 2 ^ 31) (hi : i < 2 ^ 31) : (nI z - nI k ≤ nI i) = (z ≤ i + k) := by
  have := lt_sub hz hk hi
  refine propext ⟨fun q => ?_, fun q => ?_⟩
  · refine Nat.le_of_not_lt fun y => ?_
    exact absurd q (Int32.not_le.mpr (this.mpr y))
  · refine Int32.not_lt.mp fun y => ?_
    have := this.mp y; omega
