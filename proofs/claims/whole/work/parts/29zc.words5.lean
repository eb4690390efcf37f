/-! CLAUSES: the one's reader of a whole text -/
def frZ (t : Nat) (D D' : Dy) : Prop := D'.2 = D.2 ∧ ∀ b x, ¬ (b = t ∧ (x = 2 ∨ x = 3 ∨ x = 6 ∨ x = 7 ∨ x = 8 ∨ x = 12 ∨ x = 15)) → ¬ (t + 1 ≤ b ∧ b ≤ t + 5) → b ≠ t + 8 → D'.1 b x = D.1 b x
theorem frZ_r {t : Nat} {D : Dy} : frZ t D D := ⟨rfl, fun _ _ _ _ _ => rfl⟩
theorem frZ_y {t : Nat} {D D' D'' : Dy} (h : frZ t D D') (h' : frY t D' D'') : frZ t D D'' := ⟨h'.1.trans h.1, fun b x h1 h2 h3 => (h'.2 b x (by omega) h2 h3).trans (h.2 b x h1 h2 h3)⟩
theorem frZ_3 {t : Nat} {D D' : Dy} {v : Int32} (h : frZ t D D') : frZ t D (sI D' t 3 v) := ⟨h.1, fun b x h1 h2 h3 => by rw [sI_1, if_neg (by omega)]; exact h.2 b x h1 h2 h3⟩
theorem XT_z {D D' : Dy} {t L : Nat} {b : Nat → Nat} (h : XT D t b L) (f : frZ t D D') : XT D' t b L := by
  obtain ⟨h1, h2, h3, h4⟩ := h
  exact ⟨h1, h2, by rw [f.2 _ _ (by omega) (by omega) (by omega)]; exact h3, fun i hi => by rw [f.2 _ _ (by omega) (by omega) (by omega)]; exact h4 i hi⟩
theorem XS_3 {D : Dy} {t : Nat} {R : RS} {v : Int32} (h : XS D t R) : XS (sI D t 3 v) t R := by
  obtain ⟨⟨h1, h2, h3, h4, ⟨l, h5, h6⟩, h7⟩, hc, he⟩ := h
  exact ⟨⟨fun i hi => by rw [sI_1, if_neg (by omega)]; exact h1 i hi, fun i hi => by rw [sI_1, if_neg (by omega)]; exact h2 i hi, by rw [sI_1, if_neg (by omega)]; exact h3, by rw [sI_1, if_neg (by omega)]; exact h4, ⟨l, by rw [sI_1, if_neg (by omega)]; exact h5, h6⟩, fun k hk => by rw [sI_1, if_neg (by omega), sI_1, if_neg (by omega)]; exact h7 k hk⟩, XC_s hc (by omega), XE_s he (by omega)⟩
theorem rCls_s {ch : Nat → Nat} {L k p : Nat} {R : RS} : rCls ch L (k + 1) p R = if (rCl ch p R).1 = true then (if (rCl ch p R).2.1 = L then ((true, (rCl ch p R).2.1, (rCl ch p R).2.2), 10 - k) else if k = 0 then ((false, (rCl ch p R).2.1, R), 0) else if ch (rCl ch p R).2.1 = 59 then rCls ch L k ((rCl ch p R).2.1 + 1) (rCl ch p R).2.2 else ((false, (rCl ch p R).2.1, R), 0)) else ((false, (rCl ch p R).2.1, R), 0) := rfl
theorem x_clauses {D : Dy} {t L : Nat} {b : Nat → Nat} {post : Int32 → Dy → Prop} (hT : XT D t b L) (hp : D.1 t 2 = nI 0) (hS : XS D t (md0, [])) (h3 : D.1 t 3 = nI 0) (h : ∀ D', frZ t D D' → D'.1 t 2 = nI (rTx (chr b L) L).1.2.1 → (rTx (chr b L) L).1.2.1 ≤ L → ((rTx (chr b L) L).1.1 = true → XS D' t (rTx (chr b L) L).1.2.2 ∧ okR (rTx (chr b L) L).1.2.1 10 (rTx (chr b L) L).1.2.2 ∧ D'.1 t 3 = nI (rTx (chr b L) L).2) → post (if (rTx (chr b L) L).1.1 = true then 1 else 0) D') : fX9_readClauses t D post := by
  have L120 := hT.2.1
  unfold fX9_readClauses
  refine lp2_I 9 (fun c v D' => v = nI c ∧ ∃ p R, frZ t D D' ∧ D'.1 t 2 = nI p ∧ p ≤ L ∧ XS D' t R ∧ okR p c R ∧ D'.1 t 3 = nI c ∧ rCls (chr b L) L (10 - c) p R = rTx (chr b L) L) (by omega) (fun c hc v D' hv rec hr => ?_) ⟨rfl, 0, (md0, []), frZ_r, hp, Nat.zero_le _, hS, ⟨⟨fun _ _ => by show 10 ≤ 999; omega, fun _ _ => Nat.zero_le _, Nat.zero_le _, Nat.zero_le _, ⟨by show 1 ≤ 9; omega, Nat.le_refl _⟩, fun _ _ => ⟨Nat.zero_le _, by show 1 ≤ 999; omega⟩⟩, Nat.le_refl _, Nat.le_refl _⟩, h3, rfl⟩
  obtain ⟨rfl, p, R, f1, p1, pL, S1, R1, e3, er⟩ := hv
  obtain ⟨k, ek⟩ : ∃ k, 10 - c = k + 1 := ⟨9 - c, by omega⟩
  rw [ek, rCls_s] at er
  refine ⟨fun z => absurd z (nI_ge (a := c) (b := 10) (by omega) (by omega)), fun _ => ?_⟩
  refine x_clause (XT_z hT f1) p1 pL S1 R1 (by omega) fun D1 f2 p2 l2 g2 => ?_
  have f3 := frZ_y f1 f2
  by_cases c1 : (rCl (chr b L) p R).1 = true
  · rw [if_pos c1] at er ⊢
    obtain ⟨S2, R2⟩ := g2 c1
    refine ⟨fun _ => ?_, fun z => absurd z (by decide)⟩
    have e13 : D1.1 t 3 = nI c := by rw [f2.2 _ _ (by omega) (by omega) (by omega)]; exact e3
    rintro D13 rfl
    rw [e13, nI_1]
    have q2 : (sI D1 t 3 (nI (c + 1))).1 t 2 = nI (rCl (chr b L) p R).2.1 := by rw [sI_1, if_neg (by omega)]; exact p2
    have q1 : (sI D1 t 3 (nI (c + 1))).1 t 1 = nI L := by rw [sI_1, if_neg (by omega)]; exact (XT_z hT f3).2.2.1
    have q3 : (sI D1 t 3 (nI (c + 1))).1 t 3 = nI (c + 1) := by rw [sI_1, if_pos ⟨rfl, rfl⟩]
    have f4 := frZ_3 (v := nI (c + 1)) f3
    have S3 := XS_3 (v := nI (c + 1)) S2
    generalize sI D1 t 3 (nI (c + 1)) = D13 at *
    rw [q2, q1]
    refine ⟨fun z => ?_, fun z => ?_⟩
    · have ne : (rCl (chr b L) p R).2.1 ≠ L := fun y => z (by rw [y])
      rw [if_neg ne] at er
      refine ⟨fun z2 => ?_, fun z2 => ?_⟩
      · have c9 : c = 9 := (nI_eq (b := 9) (by omega) (by omega)).mp z2
        rw [if_pos (by omega)] at er
        rw [← er] at h
        exact h _ f4 q2 l2 (fun z => by cases z)
      · have c9 : c ≠ 9 := fun y => z2 (by rw [y]; rfl)
        rw [if_neg (by omega)] at er
        refine x_take (K := 59) (XT_z hT f4) q2 l2 (by omega) (fun c2 hlt => ⟨fun _ => ?_, fun z => absurd z (by decide)⟩) (fun c2 => ⟨fun z => absurd rfl z, fun _ => ?_⟩)
        · rw [if_pos c2] at er
          rintro v24 rfl
          refine hr (by omega) _ _ ⟨rfl, _, _, frZ_y f4 (frE_Y frE_p), by rw [sI_1, if_pos ⟨rfl, rfl⟩], hlt, XS_p S3, okR_p R2 (Nat.le_succ _), by rw [sI_1, if_neg (by omega)]; exact q3, ?_⟩
          rw [show 10 - (c + 1) = k by omega]
          exact er
        · rw [if_neg c2] at er
          rw [← er] at h
          exact h _ f4 q2 l2 (fun z => by cases z)
    · have eq : (rCl (chr b L) p R).2.1 = L := (nI_eq (by omega) (by omega)).mp z
      rw [if_pos eq] at er
      rw [← er] at h
      exact h _ f4 q2 l2 (fun _ => ⟨S3, ⟨R2.1, R2.2.1, by have := R2.2.2; show (rCl (chr b L) p R).2.2.2.length ≤ 10; omega⟩, by rw [q3]; congr 1; show c + 1 = 10 - k; omega⟩)
  · rw [if_neg c1] at er ⊢
    refine ⟨fun z => absurd rfl z, fun _ => ?_⟩
    rw [← er] at h
    exact h _ f3 p2 l2 (fun z => by cases z)
