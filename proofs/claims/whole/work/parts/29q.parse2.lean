/-! the one's reader of E -/
/-- what a reader leaves: its place, its code if it read on -/
def rdX (c : Nat) (D : Dy) (t p L : Nat) (acc : List Nat) (r : Rd) (post : Int32 → Dy → Prop) : Prop := ∀ D', frE t D D' → D'.1 t 2 = nI r.2.1 → r.2.1 ≤ L → (r.1 = true → XC D' t r.2.2 ∧ p + c ≤ r.2.1 ∧ r.2.2.length + c + p ≤ r.2.1 + acc.length) → post (if r.1 = true then 1 else 0) D'
theorem x_figure {D : Dy} {t L p lo hi : Nat} {b : Nat → Nat} (hT : XT D t b L) (hp : D.1 t 2 = nI p) (hpL : p ≤ L) (hh : hi ≤ 9) (hlo : lo ≤ 9) {post : Int32 → Dy → Prop} (h1 : p < L → 48 + lo ≤ b p → b p ≤ 48 + hi → post (nI (b p - 48)) (sI D t 2 (nI (p + 1)))) (h0 : ¬ (p < L ∧ 48 + lo ≤ b p ∧ b p ≤ 48 + hi) → post (-nI 1) D) : fX9_readFigure t (nI lo) (nI hi) D post := by
  obtain ⟨t1, t2, t3, t4⟩ := hT
  unfold fX9_readFigure
  rw [t3, hp]
  by_cases c : p < L
  · obtain ⟨b1, b2⟩ := t4 p c
    refine ⟨fun _ => ⟨nI_in (by omega) (by omega), ?_⟩, fun z => absurd (nI_lt c (by omega)) z⟩
    rw [nI_clamp (by omega), b1]
    rintro v2 rfl
    rw [n48]
    by_cases lt : 48 ≤ b p
    · rw [sub' lt]
      refine ⟨fun z => h0 fun y => ?_, fun z => ⟨fun z2 => ?_, fun z2 => h0 fun y => ?_⟩⟩
      · have := (ltI' (by omega) (by omega)).mp z
        omega
      · have l2 := (leI' (by omega) (by omega)).mp z2
        have l1 : lo ≤ b p - 48 := Nat.le_of_not_lt fun y => z (nI_lt y (by omega))
        rintro D6 rfl
        rw [nI_1]
        exact h1 c (by omega) (by omega)
      · exact z2 (nI_le (by omega) (by omega))
    · have e : nI (b p) - nI 48 = -nI (48 - b p) := by rw [← sub' (by omega : b p ≤ 48), Int32.neg_sub]
      have lt' : nI (b p) - nI 48 < nI lo := by
        rw [e, Int32.lt_iff_toInt_lt, ng_toInt (by omega)]
        rw [nI_toInt (by omega)]; omega
      exact ⟨fun _ => h0 fun y => by omega, fun z => absurd lt' z⟩
  · refine ⟨fun z => absurd ((ltI' (by omega) (by omega)).mp z) c, fun _ => h0 fun y => c y.1⟩
theorem XT_p {D : Dy} {t L p : Nat} {b : Nat → Nat} (h : XT D t b L) : XT (sI D t 2 (nI p)) t b L := XT_e h (frE_s frE_r (by omega))
theorem x_rFig {D : Dy} {t L p s : Nat} {b : Nat → Nat} {acc : List Nat} (hT : XT D t b L) (hp : D.1 t 2 = nI p) (hpL : p ≤ L) (hC : XC D t acc) (hl : acc.length ≤ p) (hs : s < 16) {post : Int32 → Dy → Prop} (hpost : rdX 1 D t p L acc (rFig (chr b L) s p acc) post) : fX9_readFigureTest t (nI s) D post := by
  have tt := hT.1
  have L120 := hT.2.1
  unfold fX9_readFigureTest
  refine x_take (K := 61) hT hp hpL (by omega) (fun c hlt => ⟨fun _ => ?_, fun z => absurd z (by decide)⟩) (fun c => ⟨fun z => absurd rfl z, fun _ => ?_⟩)
  · have e2 : (sI D t 2 (nI (p + 1))).1 t 2 = nI (p + 1) := by rw [sI_1, if_pos ⟨rfl, rfl⟩]
    refine x_figure (lo := 0) (hi := 9) (XT_p hT) e2 (by omega) (by omega) (by omega) (fun g1 g2 g3 => ?_) (fun g => ?_)
    · have dd : dig (chr b L) (p + 1) = true := by
        unfold dig
        rw [chr_eq (b := b) (L := L) (K := b (p + 1)) (by omega) g1 rfl]
        exact decide_eq_true ⟨by omega, by omega⟩
      have ec : chr b L (p + 1) = b (p + 1) := chr_eq (by omega) g1 rfl
      have er : rFig (chr b L) s p acc = (true, p + 2, acc ++ [16 * (b (p + 1) - 48) + s]) := by
        unfold rFig; rw [if_pos c, if_pos dd, ec]
      rw [er] at hpost
      refine x_emit (acc := acc) (XC_p (XC_p hC)) (by omega) ?_
      rw [shl4 hs]
      refine ⟨fun z => absurd z (nI_pos (by omega)), fun _ => ?_⟩
      refine hpost _ (frE_s (frE_s (frE_s (frE_s frE_r (by omega)) (by omega)) (by omega)) (by omega)) ?_ (by show p + 2 ≤ L; omega) (fun _ => ⟨XC_emit (XC_p (XC_p hC)), by show p + 1 ≤ p + 2; omega, ?_⟩)
      · rw [sI_1, if_neg (by omega), sI_1, if_neg (by omega), sI_1, if_pos ⟨rfl, rfl⟩]
      · show (acc ++ _).length + 1 + p ≤ p + 2 + acc.length
        rw [List.length_append]; show acc.length + 1 + 1 + p ≤ p + 2 + acc.length; omega
    · have dd : dig (chr b L) (p + 1) = false := by
        cases h : dig (chr b L) (p + 1)
        · rfl
        · obtain ⟨d1, d2, d3, d4⟩ := dig_lt h
          exact absurd ⟨d1, by omega, by omega⟩ g
      have er : rFig (chr b L) s p acc = (false, p + 1, acc) := by
        unfold rFig; rw [if_pos c, if_neg (by rw [dd]; simp)]
      rw [er] at hpost
      refine x_emit (acc := acc) (XC_p hC) (by omega) ?_
      refine ⟨fun _ => ?_, fun z => absurd (by decide) z⟩
      refine hpost _ (frE_s (frE_s (frE_s frE_r (by omega)) (by omega)) (by omega)) ?_ (by show p + 1 ≤ L; omega) (fun z => by cases z)
      rw [sI_1, if_neg (by omega), sI_1, if_neg (by omega), sI_1, if_pos ⟨rfl, rfl⟩]
  · have er : rFig (chr b L) s p acc = (false, p, acc) := by unfold rFig; rw [if_neg c]
    rw [er] at hpost
    exact hpost D frE_r hp hpL (fun z => by cases z)
theorem x_rPrc {D : Dy} {t L p : Nat} {b : Nat → Nat} {acc : List Nat} (hT : XT D t b L) (hp : D.1 t 2 = nI p) (hpL : p ≤ L) (hC : XC D t acc) (hl : acc.length ≤ p) {post : Int32 → Dy → Prop} (hpost : rdX 1 D t p L acc (rPrc (chr b L) p acc) post) : fX9_readPriceTest t D post := by
  have tt := hT.1
  have L120 := hT.2.1
  unfold fX9_readPriceTest
  have tail : ∀ s, s < 16 → p < L → ((dig (chr b L) (p + 1) = true → rPrc (chr b L) p acc = (true, (nmF (chr b L) 3 (p + 1) 0).1, acc ++ [16 * (nmF (chr b L) 3 (p + 1) 0).2 + s])) ∧ (dig (chr b L) (p + 1) = false → rPrc (chr b L) p acc = (false, p + 1, acc))) → fX9_readNumber t (sI D t 2 (nI (p + 1))) (fun v11 D16 => fX9_emit t (nI s) v11 D16 (fun D22 => (v11 < 0 → post 0 D22) ∧ (¬ v11 < 0 → post 1 D22))) := by
    rintro s hs hlt ⟨er1, er2⟩
    have e2 : (sI D t 2 (nI (p + 1))).1 t 2 = nI (p + 1) := by rw [sI_1, if_pos ⟨rfl, rfl⟩]
    refine x_number (XT_p hT) e2 (by omega) (fun d => ?_) (fun d => ?_)
    · have er1 := er1 d
      rw [er1] at hpost
      have v3 := nmF_v (ch := chr b L) 3 (p + 1) 0
      have g1 := nmF_L (b := b) (L := L) 3 (p + 1) 0 hlt
      have g2 : p + 2 ≤ (nmF (chr b L) 3 (p + 1) 0).1 := by
        show _ ≤ (if dig (chr b L) (p + 1) = true then nmF (chr b L) 2 (p + 1 + 1) (10 * 0 + (chr b L (p + 1) - 48)) else (p + 1, 0)).1
        rw [if_pos d]; exact nmF_le _ _ _
      refine x_emit (acc := acc) (XC_p (XC_p hC)) (by omega) ?_
      rw [shl4 hs]
      refine ⟨fun z => absurd z (nI_pos (by omega)), fun _ => ?_⟩
      refine hpost _ (frE_s (frE_s (frE_s (frE_s frE_r (by omega)) (by omega)) (by omega)) (by omega)) ?_ g1 (fun _ => ⟨XC_emit (XC_p (XC_p hC)), by show p + 1 ≤ (nmF (chr b L) 3 (p + 1) 0).1; omega, ?_⟩)
      · rw [sI_1, if_neg (by omega), sI_1, if_neg (by omega), sI_1, if_pos ⟨rfl, rfl⟩]
      · show (acc ++ _).length + 1 + p ≤ (nmF (chr b L) 3 (p + 1) 0).1 + acc.length
        rw [List.length_append]; show acc.length + 1 + 1 + p ≤ (nmF (chr b L) 3 (p + 1) 0).1 + acc.length; omega
    · have er2 := er2 d
      rw [er2] at hpost
      refine x_emit (acc := acc) (XC_p hC) (by omega) ?_
      refine ⟨fun _ => ?_, fun z => absurd (by decide) z⟩
      refine hpost _ (frE_s (frE_s (frE_s frE_r (by omega)) (by omega)) (by omega)) ?_ (by show p + 1 ≤ L; omega) (fun z => by cases z)
      rw [sI_1, if_neg (by omega), sI_1, if_neg (by omega), sI_1, if_pos ⟨rfl, rfl⟩]
  refine x_take (K := 61) hT hp hpL (by omega) (fun c hlt => ⟨fun z => absurd z (by decide), fun _ => ?_⟩) (fun c => ⟨fun _ => ?_, fun z => absurd rfl z⟩)
  · refine tail 7 (by omega) hlt ⟨fun d => ?_, fun d => ?_⟩
    · unfold rPrc; rw [if_pos (Or.inl c), if_pos d, if_pos c]
    · unfold rPrc; rw [if_pos (Or.inl c), if_neg (by rw [d]; simp)]
  · refine x_take (K := 62) hT hp hpL (by omega) (fun c2 hlt => ⟨fun z => absurd z (by decide), fun _ => ?_⟩) (fun c2 => ⟨fun _ => ?_, fun z => absurd rfl z⟩)
    · refine tail 8 (by omega) hlt ⟨fun d => ?_, fun d => ?_⟩
      · unfold rPrc; rw [if_pos (Or.inr (Or.inl c2)), if_pos d, if_neg c, if_pos c2]
      · unfold rPrc; rw [if_pos (Or.inr (Or.inl c2)), if_neg (by rw [d]; simp)]
    · refine x_take (K := 60) hT hp hpL (by omega) (fun c3 hlt => ⟨fun _ => ?_, fun z => absurd z (by decide)⟩) (fun c3 => ⟨fun z => absurd rfl z, fun _ => ?_⟩)
      · refine tail 6 (by omega) hlt ⟨fun d => ?_, fun d => ?_⟩
        · unfold rPrc; rw [if_pos (Or.inr (Or.inr c3)), if_pos d, if_neg c, if_neg c2]
        · unfold rPrc; rw [if_pos (Or.inr (Or.inr c3)), if_neg (by rw [d]; simp)]
      · have er : rPrc (chr b L) p acc = (false, p, acc) := by
          unfold rPrc; rw [if_neg]; rintro (z | z | z)
          · exact c z
          · exact c2 z
          · exact c3 z
        rw [er] at hpost
        exact hpost D frE_r hp hpL (fun z => by cases z)
theorem x_rE {t L : Nat} {b : Nat → Nat} : ∀ n w d p acc D post, w ≤ 2 → d ≤ 4 → 3 * (4 - d) + w + 1 ≤ n → XT D t b L → D.1 t 2 = nI p → p ≤ L → XC D t acc → acc.length ≤ p → rdX 2 D t p L acc (rE (chr b L) n w d p acc) post → fX9_rec n w t (nI d) D post := by
  intro n
  induction n with
  | zero => intro w d p acc D post hw hd hn; omega
  | succ n ih =>
    intro w d p acc D post hw hd hn hT hp hpL hC hl hpost
    have tt := hT.1
    have L120 := hT.2.1
    have lp : ∀ w' sep op, w' ≤ 1 → 3 * (4 - d) + w' + 1 ≤ n → sep < 128 → op < 16 → ∀ D0 p0 acc0, XT D0 t b L → D0.1 t 2 = nI p0 → p0 ≤ L → XC D0 t acc0 → acc0.length + 2 ≤ p0 → rdX 0 D0 t p0 L acc0 (rLp (chr b L) (rE (chr b L) n w' d) sep op 120 p0 acc0) post → LP2 (fun (rec10 : Int32 → Dy → Prop) (v8 : Int32) (D9 : Dy) => (((120 : Int32) ≤ v8 → post (1 : Int32) D9) ∧ (¬ (120 : Int32) ≤ v8 → (fX9_take t (nI sep) D9 (fun (v14 : Int32) (D18 : Dy) => ((v14 = 0 → post (1 : Int32) D18) ∧ (¬ v14 = 0 → (fX9_rec n w' t (nI d) D18 (fun (v21 : Int32) (D25 : Dy) => ((¬ v21 = 0 → (fX9_emit t (nI op) (0 : Int32) D25 (fun (D32 : Dy) => (∀ v33 : Int32, v33 = v8 + 1 → (rec10 v33 D32))))) ∧ (v21 = 0 → post (0 : Int32) D25))))))))))) FU (0 : Int32) D0 := by
      intro w' sep op hw' hn' hsep hop D0 p0 acc0 hT0 hp0 hpL0 hC0 hl0 hpost0
      generalize hR : rLp (chr b L) (rE (chr b L) n w' d) sep op 120 p0 acc0 = R at hpost0
      refine lp2_I 120 (fun k x D' => x = nI k ∧ ∃ p' acc', frE t D0 D' ∧ D'.1 t 2 = nI p' ∧ p' ≤ L ∧ XC D' t acc' ∧ p0 ≤ p' ∧ acc'.length + p0 ≤ p' + acc0.length ∧ rLp (chr b L) (rE (chr b L) n w' d) sep op (120 - k) p' acc' = R) (by omega) (fun k hk x D' hpp rec hr => ?_) ⟨rfl, p0, acc0, frE_r, hp0, hpL0, hC0, Nat.le_refl _, by omega, hR⟩
      obtain ⟨rfl, p', acc', q1, q2, q3, q4, q5, q6, q7⟩ := hpp
      by_cases e : k = 120
      · subst e
        refine ⟨fun _ => ?_, fun z => absurd (Int32.le_refl _) z⟩
        rw [← q7] at hpost0
        exact hpost0 D' q1 q2 q3 (fun _ => ⟨q4, q5, by show acc'.length + 0 + p0 ≤ p' + acc0.length; omega⟩)
      · have hk' : k < 120 := by omega
        have hr := hr hk'
        obtain ⟨m, hm⟩ : ∃ m, 120 - k = m + 1 := ⟨119 - k, by omega⟩
        rw [hm] at q7
        have hm' : 120 - (k + 1) = m := by omega
        have un : rLp (chr b L) (rE (chr b L) n w' d) sep op (m + 1) p' acc' = if chr b L p' = sep then (if (rE (chr b L) n w' d (p' + 1) acc').1 = true then rLp (chr b L) (rE (chr b L) n w' d) sep op m (rE (chr b L) n w' d (p' + 1) acc').2.1 ((rE (chr b L) n w' d (p' + 1) acc').2.2 ++ [op]) else rE (chr b L) n w' d (p' + 1) acc') else (true, p', acc') := rfl
        rw [un] at q7
        have hT' := XT_e hT0 q1
        refine ⟨fun z => absurd z (nI_ge (b := 120) hk' (by omega)), fun _ => ?_⟩
        refine x_take hT' q2 q3 hsep (fun c hlt => ⟨fun z => absurd z (by decide), fun _ => ?_⟩) (fun c => ⟨fun _ => ?_, fun z => absurd rfl z⟩)
        · rw [if_pos c] at q7
          have e2 : (sI D' t 2 (nI (p' + 1))).1 t 2 = nI (p' + 1) := by rw [sI_1, if_pos ⟨rfl, rfl⟩]
          refine ih w' d (p' + 1) acc' _ _ (by omega) hd hn' (XT_p hT') e2 (by omega) (XC_p q4) (by omega) fun D2 r1 r2 r3 r4 => ?_
          by_cases y : (rE (chr b L) n w' d (p' + 1) acc').1 = true
          · rw [if_pos y] at q7
            obtain ⟨c1, c2, c3⟩ := r4 y
            rw [if_pos y]
            refine ⟨fun _ => ?_, fun z => absurd z (by decide)⟩
            refine x_emit c1 (by omega) ?_
            rintro v33 rfl
            rw [nI_1]
            refine hr _ _ ⟨rfl, _, _, frE_s (frE_s (frE_t (frE_s q1 (by omega)) r1) (by omega)) (by omega), ?_, r3, ?_, by omega, ?_, by rw [hm']; exact q7⟩
            · rw [sI_1, if_neg (by omega), sI_1, if_neg (by omega)]; exact r2
            · rw [n0, shl4 hop, show 16 * 0 + op = op by omega]; exact XC_emit c1
            · rw [List.length_append]; show (rE (chr b L) n w' d (p' + 1) acc').2.2.length + 1 + p0 ≤ _; omega
          · rw [if_neg y] at q7
            rw [if_neg y]
            refine ⟨fun z => absurd rfl z, fun _ => ?_⟩
            rw [← q7] at hpost0
            have hp0' := hpost0 D2 (frE_t (frE_s q1 (by omega)) r1) r2 r3 (fun z => absurd z y)
            rw [if_neg y] at hp0'
            exact hp0'
        · rw [if_neg c] at q7
          rw [← q7] at hpost0
          exact hpost0 D' q1 q2 q3 (fun _ => ⟨q4, q5, by show acc'.length + 0 + p0 ≤ p' + acc0.length; omega⟩)
    obtain rfl | rfl | rfl : w = 0 ∨ w = 1 ∨ w = 2 := by omega
    · rw [fX9_rec_0]
      have un : rE (chr b L) (n + 1) 0 d p acc = if d < 4 ∧ chr b L p = 33 then (if (rE (chr b L) n 0 (d + 1) (p + 1) acc).1 = true then (true, (rE (chr b L) n 0 (d + 1) (p + 1) acc).2.1, (rE (chr b L) n 0 (d + 1) (p + 1) acc).2.2 ++ [0]) else rE (chr b L) n 0 (d + 1) (p + 1) acc)
        else if d < 4 ∧ chr b L p = 40 then (if (rE (chr b L) n 2 (d + 1) (p + 1) acc).1 = true then (if chr b L (rE (chr b L) n 2 (d + 1) (p + 1) acc).2.1 = 41 then (true, (rE (chr b L) n 2 (d + 1) (p + 1) acc).2.1 + 1, (rE (chr b L) n 2 (d + 1) (p + 1) acc).2.2) else (false, (rE (chr b L) n 2 (d + 1) (p + 1) acc).2.1, acc)) else rE (chr b L) n 2 (d + 1) (p + 1) acc)
        else if chr b L p = 112 then rPrc (chr b L) (p + 1) acc
        else if chr b L p = 109 then rFig (chr b L) 3 (p + 1) acc
        else if chr b L p = 116 then rFig (chr b L) 4 (p + 1) acc
        else if chr b L p = 110 then rFig (chr b L) 5 (p + 1) acc
        else (false, p, acc) := rfl
      rw [un] at hpost
      have e2 : (sI D t 2 (nI (p + 1))).1 t 2 = nI (p + 1) := by rw [sI_1, if_pos ⟨rfl, rfl⟩]
      have up : ∀ {r : Rd}, rdX 2 D t p L acc r post → rdX 1 (sI D t 2 (nI (p + 1))) t (p + 1) L acc r (fun v D' => (v = 0 ∨ v = 1) ∧ post v D') := by
        intro r h D' f1 f2 f3 f4
        refine ⟨?_, h D' (frE_t (frE_s frE_r (by omega)) f1) f2 f3 fun z => ?_⟩
        · split
          · exact Or.inr rfl
          · exact Or.inl rfl
        · obtain ⟨a1, a2, a3⟩ := f4 z
          exact ⟨a1, by omega, by omega⟩
      refine JN_1 (fun v1 => (v1 = 0 ∧ ¬ d < 4) ∨ (v1 = 1 ∧ d < 4)) (fun v1 hv1 => ?_) (fun K2 hK2 => ⟨fun z => hK2 _ (Or.inl ⟨rfl, fun y => absurd z (nI_ge (b := 4) y (by omega))⟩), fun z => hK2 _ (Or.inr ⟨rfl, Nat.lt_of_not_le fun y => z (nI_le (a := 4) y (by omega))⟩)⟩)
      refine JN_1 (fun D4 => D4 = D ∧ ¬ (d < 4 ∧ chr b L p = 33)) (fun D4 hD4 => ?_) (fun K5 hK5 => ?_)
      · obtain ⟨rfl, n33⟩ := hD4
        rw [if_neg n33] at hpost
        refine JN_1 (fun D7 => D7 = D4 ∧ ¬ (d < 4 ∧ chr b L p = 40)) (fun D7 hD7 => ?_) (fun K8 hK8 => ?_)
        · obtain ⟨rfl, n40⟩ := hD7
          rw [if_neg n40] at hpost
          refine x_take (K := 112) hT hp hpL (by omega) (fun c hlt => ⟨fun z => absurd z (by decide), fun _ => ?_⟩) (fun c => ⟨fun _ => ?_, fun z => absurd rfl z⟩)
          · rw [if_pos c] at hpost
            exact x_rPrc (XT_p hT) e2 (by omega) (XC_p hC) (by omega) (up hpost)
          rw [if_neg c] at hpost
          refine x_take (K := 109) hT hp hpL (by omega) (fun c hlt => ⟨fun z => absurd z (by decide), fun _ => ?_⟩) (fun c => ⟨fun _ => ?_, fun z => absurd rfl z⟩)
          · rw [if_pos c] at hpost
            exact x_rFig (s := 3) (XT_p hT) e2 (by omega) (XC_p hC) (by omega) (by omega) (up hpost)
          rw [if_neg c] at hpost
          refine x_take (K := 116) hT hp hpL (by omega) (fun c hlt => ⟨fun z => absurd z (by decide), fun _ => ?_⟩) (fun c => ⟨fun _ => ?_, fun z => absurd rfl z⟩)
          · rw [if_pos c] at hpost
            exact x_rFig (s := 4) (XT_p hT) e2 (by omega) (XC_p hC) (by omega) (by omega) (up hpost)
          rw [if_neg c] at hpost
          refine x_take (K := 110) hT hp hpL (by omega) (fun c hlt => ?_) (fun c => ?_)
          · rw [if_pos c] at hpost
            refine JN_1 (fun D' => post 0 D') (fun D' h => h) (fun K hK => ⟨fun z => absurd z (by decide), fun _ => ?_⟩)
            refine x_rFig (s := 5) (XT_p hT) e2 (by omega) (XC_p hC) (by omega) (by omega) fun D' f1 f2 f3 f4 => ?_
            have h := (up hpost D' f1 f2 f3 f4).2
            by_cases y : (rFig (chr b L) 5 (p + 1) acc).1 = true
            · rw [if_pos y] at h ⊢
              exact ⟨fun z => absurd z (by decide), fun _ => h⟩
            · rw [if_neg y] at h ⊢
              exact ⟨fun _ => hK _ h, fun z => absurd rfl z⟩
          · rw [if_neg c] at hpost
            have h := hpost D7 frE_r hp hpL (fun z => by cases z)
            exact JN_1 (fun D' => post 0 D') (fun D' h => h) (fun K hK => ⟨fun _ => hK _ h, fun z => absurd rfl z⟩)
        · rcases hv1 with ⟨rfl, hd4⟩ | ⟨rfl, hd4⟩
          · exact ⟨fun _ => hK8 _ ⟨rfl, fun z => hd4 z.1⟩, fun z => absurd rfl z⟩
          · refine ⟨fun z => absurd z (by decide), fun _ => ?_⟩
            refine x_take (K := 40) hT hp hpL (by omega) (fun c hlt => ⟨fun z => absurd z (by decide), fun _ => ?_⟩) (fun c => ⟨fun _ => hK8 _ ⟨rfl, fun z => c z.2⟩, fun z => absurd rfl z⟩)
            rw [if_pos ⟨hd4, c⟩] at hpost
            rw [nI_1]
            refine ih 2 (d + 1) (p + 1) acc _ _ (by omega) (by omega) (by omega) (XT_p hT) e2 (by omega) (XC_p hC) (by omega) fun D1 r1 r2 r3 r4 => ?_
            refine JN_1 (fun D' => post 0 D') (fun D' h => h) (fun K hK => ?_)
            by_cases y : (rE (chr b L) n 2 (d + 1) (p + 1) acc).1 = true
            · rw [if_pos y] at hpost ⊢
              obtain ⟨c1, c2, c3⟩ := r4 y
              refine ⟨fun z => absurd z (by decide), fun _ => ?_⟩
              have fr1 := frE_t (frE_s (v := nI (p + 1)) (D' := D4) (a := t) (k := 2) frE_r (by omega)) r1
              refine x_take (K := 41) (XT_e (XT_p hT) r1) r2 r3 (by omega) (fun g hlt2 => ⟨fun z => absurd z (by decide), fun _ => ?_⟩) (fun g => ⟨fun _ => hK _ ?_, fun z => absurd rfl z⟩)
              · rw [if_pos g] at hpost
                refine hpost _ (frE_s fr1 (by omega)) (by rw [sI_1, if_pos ⟨rfl, rfl⟩]) hlt2 (fun _ => ⟨XC_p c1, ?_, ?_⟩)
                · show p + 2 ≤ (rE (chr b L) n 2 (d + 1) (p + 1) acc).2.1 + 1; omega
                · show (rE (chr b L) n 2 (d + 1) (p + 1) acc).2.2.length + 2 + p ≤ (rE (chr b L) n 2 (d + 1) (p + 1) acc).2.1 + 1 + acc.length; omega
              · rw [if_neg g] at hpost
                exact hpost D1 fr1 r2 r3 (fun z => by cases z)
            · rw [if_neg y] at hpost ⊢
              refine ⟨fun _ => hK _ ?_, fun z => absurd rfl z⟩
              have h := hpost D1 (frE_t (frE_s frE_r (by omega)) r1) r2 r3 (fun z => absurd z y)
              rw [if_neg y] at h
              exact h
      · rcases hv1 with ⟨rfl, hd4⟩ | ⟨rfl, hd4⟩
        · exact ⟨fun _ => hK5 _ ⟨rfl, fun z => hd4 z.1⟩, fun z => absurd rfl z⟩
        · refine ⟨fun z => absurd z (by decide), fun _ => ?_⟩
          refine x_take (K := 33) hT hp hpL (by omega) (fun c hlt => ⟨fun z => absurd z (by decide), fun _ => ?_⟩) (fun c => ⟨fun _ => hK5 _ ⟨rfl, fun z => c z.2⟩, fun z => absurd rfl z⟩)
          rw [if_pos ⟨hd4, c⟩] at hpost
          rw [nI_1]
          refine ih 0 (d + 1) (p + 1) acc _ _ (by omega) (by omega) (by omega) (XT_p hT) e2 (by omega) (XC_p hC) (by omega) fun D1 r1 r2 r3 r4 => ?_
          by_cases y : (rE (chr b L) n 0 (d + 1) (p + 1) acc).1 = true
          · rw [if_pos y] at hpost ⊢
            obtain ⟨c1, c2, c3⟩ := r4 y
            refine ⟨fun _ => ?_, fun z => absurd z (by decide)⟩
            refine x_emit (s := 0) c1 (by omega) ?_
            rw [n0, shl4 (s := 0) (by omega)]
            refine hpost _ (frE_s (frE_s (frE_t (frE_s frE_r (by omega)) r1) (by omega)) (by omega)) ?_ r3 (fun _ => ⟨XC_emit c1, ?_, ?_⟩)
            · rw [sI_1, if_neg (by omega), sI_1, if_neg (by omega)]; exact r2
            · show p + 2 ≤ (rE (chr b L) n 0 (d + 1) (p + 1) acc).2.1; omega
            · show ((rE (chr b L) n 0 (d + 1) (p + 1) acc).2.2 ++ [0]).length + 2 + p ≤ (rE (chr b L) n 0 (d + 1) (p + 1) acc).2.1 + acc.length
              rw [List.length_append]; show _ + 1 + 2 + p ≤ _; omega
          · rw [if_neg y] at hpost ⊢
            refine ⟨fun z => absurd rfl z, fun _ => ?_⟩
            have h := hpost D1 (frE_t (frE_s frE_r (by omega)) r1) r2 r3 (fun z => absurd z y)
            rw [if_neg y] at h
            exact h
    · rw [fX9_rec_1]
      have un : rE (chr b L) (n + 1) 1 d p acc = if (rE (chr b L) n 0 d p acc).1 = true then rLp (chr b L) (rE (chr b L) n 0 d) 38 1 120 (rE (chr b L) n 0 d p acc).2.1 (rE (chr b L) n 0 d p acc).2.2 else rE (chr b L) n 0 d p acc := rfl
      rw [un] at hpost
      refine ih 0 d p acc D _ (by omega) hd (by omega) hT hp hpL hC hl fun D1 r1 r2 r3 r4 => ?_
      by_cases y : (rE (chr b L) n 0 d p acc).1 = true
      · rw [if_pos y] at hpost ⊢
        obtain ⟨c1, c2, c3⟩ := r4 y
        refine ⟨fun _ => ?_, fun z => absurd z (by decide)⟩
        refine lp 0 38 1 (by omega) (by omega) (by omega) (by omega) D1 _ _ (XT_e hT r1) r2 r3 c1 (by omega) fun D2 s1 s2 s3 s4 => ?_
        exact hpost D2 (frE_t r1 s1) s2 s3 fun z => ⟨(s4 z).1, by have := (s4 z).2.1; omega, by have := (s4 z).2.2; omega⟩
      · rw [if_neg y] at hpost ⊢
        refine ⟨fun z => absurd rfl z, fun _ => ?_⟩
        have := hpost D1 r1 r2 r3 (fun z => absurd z y)
        rw [if_neg y] at this
        exact this
    · rw [fX9_rec_2]
      have un : rE (chr b L) (n + 1) 2 d p acc = if (rE (chr b L) n 1 d p acc).1 = true then rLp (chr b L) (rE (chr b L) n 1 d) 124 2 120 (rE (chr b L) n 1 d p acc).2.1 (rE (chr b L) n 1 d p acc).2.2 else rE (chr b L) n 1 d p acc := rfl
      rw [un] at hpost
      refine ih 1 d p acc D _ (by omega) hd (by omega) hT hp hpL hC hl fun D1 r1 r2 r3 r4 => ?_
      by_cases y : (rE (chr b L) n 1 d p acc).1 = true
      · rw [if_pos y] at hpost ⊢
        obtain ⟨c1, c2, c3⟩ := r4 y
        refine ⟨fun _ => ?_, fun z => absurd z (by decide)⟩
        refine lp 1 124 2 (by omega) (by omega) (by omega) (by omega) D1 _ _ (XT_e hT r1) r2 r3 c1 (by omega) fun D2 s1 s2 s3 s4 => ?_
        exact hpost D2 (frE_t r1 s1) s2 s3 fun z => ⟨(s4 z).1, by have := (s4 z).2.1; omega, by have := (s4 z).2.2; omega⟩
      · rw [if_neg y] at hpost ⊢
        refine ⟨fun z => absurd rfl z, fun _ => ?_⟩
        have := hpost D1 r1 r2 r3 (fun z => absurd z y)
        rw [if_neg y] at this
        exact this
