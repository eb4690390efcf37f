/-! TEXTS, the other's reader: a test -/
/-- a test's answer for the thing asked, as the other takes it -/
def tvM (D : Dy) (x c : Nat) : Bool :=
  if c % 16 = 3 then decide (((D.1 34 x) >>> (nI (c / 16) &&& 31)) &&& nI 1 = nI 1)
  else if c % 16 = 4 then decide (x = c / 16)
  else if c % 16 = 5 then decide (D.1 36 x = nI (c / 16))
  else if c % 16 = 6 then decide (D.1 35 x < nI (c / 16))
  else if c % 16 = 7 then decide (D.1 35 x = nI (c / 16))
  else decide (nI (c / 16) < D.1 35 x)
theorem tvM_w {D D' : Dy} {x c : Nat} (f : frW D D') : tvM D' x c = tvM D x c := by
  unfold tvM
  rw [f.2 34 x (by omega) (by omega) (by omega), f.2 35 x (by omega) (by omega) (by omega), f.2 36 x (by omega) (by omega) (by omega)]
def rT (ch : Nat → Nat) (p : Nat) (acc : List Nat) : Rd := if ch p = 112 then rPrc ch (p + 1) acc else if ch p = 109 then rFig ch 3 (p + 1) acc else if ch p = 116 then rFig ch 4 (p + 1) acc else if ch p = 110 then rFig ch 5 (p + 1) acc else (false, p, acc)
theorem m_test {D : Dy} {base L p o k x : Nat} {b : Nat → Nat} {W0 : List Nat} {P : List Bool} {acc : List Nat} (hW : ∀ y W', W0 = y :: W' → y ≠ 33) (hT : MT D base b L) (hS : MS D (List.replicate k 33 ++ W0) P o p) (hk : k ≤ o) (hP : P.length < 120) (hpL : p ≤ L) (hx : D.1 33 33 = nI x) (hx6 : x < 6) {post : Int32 → Dy → Prop} (h1 : (rT (chr b L) p acc).1 = true → ∀ c, (rT (chr b L) p acc).2.2 = acc ++ [c] → 3 ≤ c % 16 → ∀ D', frW D D' → MS D' W0 (ntk k (tvM D x c) :: P) (o - k) (rT (chr b L) p acc).2.1 → (rT (chr b L) p acc).2.1 ≤ L → p < (rT (chr b L) p acc).2.1 → post 1 D') (h0 : (rT (chr b L) p acc).1 = false → ∀ D', frW D D' → D'.1 33 21 = nI (rT (chr b L) p acc).2.1 → post 0 D') : fX12_takesTest D post := by
  have L120 := hT.1
  have e21 := hS.2.2.2.1
  unfold fX12_takesTest
  refine m_next1 hT e21 (by omega) fun v1 hv1 => ?_
  have ex : ∀ D', frW D D' → D'.1 33 33 = nI x := fun D' f => by rw [f.2 _ _ (by omega) (by omega) (by omega)]; exact hx
  refine JN_i (chr b L p = 109 ∨ chr b L p = 116 ∨ chr b L p = 110 ∨ chr b L p = 112) (fun hc => ?_) (fun K hK => ?_)
  · have hlt : p < L := (chr_lt (b := b) (L := L) (p := p) (K := chr b L p) (by omega) rfl).1
    rintro D8 rfl
    rw [e21, nI_1]
    have T8 : MT (sI D 33 21 (nI (p + 1))) base b L := MT_w hT (frW_s frW_r (by omega))
    have S8 : MS (sI D 33 21 (nI (p + 1))) (List.replicate k 33 ++ W0) P o (p + 1) := MS_p hS (by omega)
    have f8 : frW D (sI D 33 21 (nI (p + 1))) := frW_s frW_r (by omega)
    have g21 := S8.2.2.2.1
    generalize sI D 33 21 (nI (p + 1)) = D8 at *
    refine m_next1 T8 g21 (by omega) fun v10 hv10 => ?_
    -- what a push ends in
    have fin : ∀ c D' q, frW D D' → MS D' (List.replicate k 33 ++ W0) P o q → (rT (chr b L) p acc).1 = true → (rT (chr b L) p acc).2.2 = acc ++ [c] → (rT (chr b L) p acc).2.1 = q → 3 ≤ c % 16 → q ≤ L → p < q → fX12_push (bB (tvM D x c)) D' (fun D2 => post 1 D2) := by
      intro c D' q f1 s1 r1 r2 r3 r4 r5 r6
      subst r3
      refine m_push hW k D' P o _ _ _ s1 hk hP fun D2 f2 s2 => ?_
      exact h1 r1 c r2 r4 D2 (frW_t f1 f2) s2 r5 r6
    refine ⟨fun z => ?_, fun z => ?_⟩
    · -- a mark, a thing, a nest
      have c112 : chr b L p ≠ 112 := fun y => z ((NB_eq (K := 112) hv1 (by omega)).mpr y)
      have er : ∃ s, (s = 3 ∨ s = 4 ∨ s = 5) ∧ rT (chr b L) p acc = rFig (chr b L) s (p + 1) acc ∧ ((s = 3) ↔ chr b L p = 109) ∧ ((s = 4) ↔ chr b L p = 116) := by
        unfold rT
        rw [if_neg c112]
        rcases hc with y | y | y | y
        · exact ⟨3, by omega, by rw [if_pos y], by omega, by omega⟩
        · exact ⟨4, by omega, by rw [if_neg (by omega), if_pos y], by omega, by omega⟩
        · exact ⟨5, by omega, by rw [if_neg (by omega), if_neg (by omega), if_pos y], by omega, by omega⟩
        · exact absurd y c112
      obtain ⟨s, hs, er, s3, s4⟩ := er
      rw [er] at h1 h0 fin
      refine m_takes (K := 61) T8 g21 (by omega) (by omega) (fun c61 hlt2 => ⟨fun y => absurd y (by decide), fun _ => ?_⟩) (fun c61 => ⟨fun _ => ?_, fun y => absurd rfl y⟩)
      · have T9 : MT (sI D8 33 21 (nI (p + 1 + 1))) base b L := MT_w T8 (frW_s frW_r (by omega))
        have S9 : MS (sI D8 33 21 (nI (p + 1 + 1))) (List.replicate k 33 ++ W0) P o (p + 1 + 1) := MS_p S8 (by omega)
        have f9 : frW D (sI D8 33 21 (nI (p + 1 + 1))) := frW_s f8 (by omega)
        generalize sI D8 33 21 (nI (p + 1 + 1)) = D9 at *
        have g9 := S9.2.2.2.1
        refine m_figure (lo := 0) (hi := 9) T9 g9 (by omega) (by omega) (by omega) (fun d1 d2 d3 => ⟨fun _ => ?_, fun y => absurd y (by decide)⟩) (fun d => ⟨fun y => absurd rfl y, fun _ => ?_⟩)
        · have dd : dig (chr b L) (p + 1 + 1) = true := decide_eq_true ⟨by omega, by omega⟩
          have ef : rFig (chr b L) s (p + 1) acc = (true, p + 1 + 2, acc ++ [16 * (chr b L (p + 1 + 1) - 48) + s]) := by
            unfold rFig; rw [if_pos c61, if_pos dd]
          rw [ef] at fin
          have S10 : MS (sI (sI D9 33 23 (nI (chr b L (p + 1 + 1) - 48))) 33 21 (nI (p + 1 + 1 + 1))) (List.replicate k 33 ++ W0) P o (p + 1 + 2) := MS_p (MS_d S9) (by omega)
          have f10 : frW D (sI (sI D9 33 23 (nI (chr b L (p + 1 + 1) - 48))) 33 21 (nI (p + 1 + 1 + 1))) := frW_s (frW_s f9 (by omega)) (by omega)
          have g23 : (sI (sI D9 33 23 (nI (chr b L (p + 1 + 1) - 48))) 33 21 (nI (p + 1 + 1 + 1))).1 33 23 = nI (chr b L (p + 1 + 1) - 48) := by rw [sI_1, if_neg (by omega), sI_1, if_pos ⟨rfl, rfl⟩]
          generalize sI (sI D9 33 23 (nI (chr b L (p + 1 + 1) - 48))) 33 21 (nI (p + 1 + 1 + 1)) = D10 at *
          generalize hd : chr b L (p + 1 + 1) - 48 = d at *
          have d9 : d ≤ 9 := by omega
          have go : ∀ w : Bool, w = tvM D x (16 * d + s) → fX12_push (bB w) D10 (fun D2 => post 1 D2) := by
            rintro w rfl
            exact fin _ D10 _ f10 S10 rfl rfl rfl (by omega) (by show p + 1 + 2 ≤ L; omega) (by omega)
          have cm : (16 * d + s) % 16 = s ∧ (16 * d + s) / 16 = d := by omega
          have x10 := ex D10 f10
          have tvw : ∀ cc, tvM D x cc = tvM D10 x cc := fun cc => (tvM_w f10).symm
          refine ⟨fun y => ?_, fun y => ?_⟩
          · have n3 : s ≠ 3 := fun q => y ((NB_eq (K := 109) hv1 (by omega)).mpr (s3.mp q))
            refine ⟨fun y2 => ?_, fun y2 => ?_⟩
            · have n4 : s ≠ 4 := fun q => y2 ((NB_eq (K := 116) hv1 (by omega)).mpr (s4.mp q))
              have s5 : s = 5 := by omega
              rw [x10, nI_clamp (by omega), g23]
              refine ⟨nI_in hx6 (by omega), fun y3 => go false ?_, fun y3 => go true ?_⟩
              · rw [tvw]; unfold tvM; rw [cm.1, cm.2, if_neg n3, if_neg n4, if_pos s5]; exact (decide_eq_false y3).symm
              · have y3' : D10.1 36 x = nI d := by first | exact y3 | exact Classical.byContradiction y3
                rw [tvw]; unfold tvM; rw [cm.1, cm.2, if_neg n3, if_neg n4, if_pos s5]; exact (decide_eq_true y3').symm
            · have y2' : v1 = nI 116 := by first | exact y2 | exact Classical.byContradiction y2
              have e4 : s = 4 := s4.mpr ((NB_eq hv1 (by omega)).mp y2')
              rw [x10, g23]
              refine ⟨fun y3 => go false ?_, fun y3 => go true ?_⟩
              · have : x ≠ d := fun q => y3 (by rw [q])
                rw [tvw]; unfold tvM; rw [cm.1, cm.2, if_neg n3, if_pos e4]; exact (decide_eq_false this).symm
              · have y3' : nI x = nI d := by first | exact y3 | exact Classical.byContradiction y3
                have : x = d := (nI_eq (by omega) (by omega)).mp y3'
                rw [tvw]; unfold tvM; rw [cm.1, cm.2, if_neg n3, if_pos e4]; exact (decide_eq_true this).symm
          · have y' : v1 = nI 109 := by first | exact y | exact Classical.byContradiction y
            have e3 : s = 3 := s3.mpr ((NB_eq hv1 (by omega)).mp y')
            rw [x10, nI_clamp (by omega), g23]
            refine ⟨nI_in hx6 (by omega), ?_⟩
            unfold fX12_has
            refine ⟨fun y3 => go false ?_, fun y3 => go true ?_⟩
            · rw [tvw]; unfold tvM; rw [cm.1, cm.2, if_pos e3]; exact (decide_eq_false y3).symm
            · have y3' : ((D10.1 34 x) >>> (nI d &&& 31)) &&& nI 1 = nI 1 := by first | exact y3 | exact Classical.byContradiction y3
              rw [tvw]; unfold tvM; rw [cm.1, cm.2, if_pos e3]; exact (decide_eq_true y3').symm
        · have dd : dig (chr b L) (p + 1 + 1) = false := by
            cases h : dig (chr b L) (p + 1 + 1)
            · rfl
            · have := of_decide_eq_true h; exact absurd ⟨by omega, by omega⟩ d
          have ef : rFig (chr b L) s (p + 1) acc = (false, p + 1 + 1, acc) := by
            unfold rFig; rw [if_pos c61, if_neg (by rw [dd]; simp)]
          rw [ef] at h0
          exact h0 rfl D9 f9 g9
      · have ef : rFig (chr b L) s (p + 1) acc = (false, p + 1, acc) := by unfold rFig; rw [if_neg c61]
        rw [ef] at h0
        exact h0 rfl D8 f8 g21
    · -- a price
      have z' : v1 = nI 112 := by first | exact z | exact Classical.byContradiction z
      have c112 : chr b L p = 112 := (NB_eq hv1 (by omega)).mp z'
      have er : rT (chr b L) p acc = rPrc (chr b L) (p + 1) acc := by unfold rT; rw [if_pos c112]
      rw [er] at h1 h0 fin
      refine NB_in (lo := 60) (hi := 62) hv10 (by omega) (by omega) (fun o1 o2 => ⟨fun _ => ?_, fun y => absurd y (by decide)⟩) (fun on => ⟨fun y => absurd rfl y, fun _ => ?_⟩)
      · have hlt2 : p + 1 < L := (chr_lt (b := b) (L := L) (p := p + 1) (K := chr b L (p + 1)) (by omega) rfl).1
        have oc : chr b L (p + 1) = 61 ∨ chr b L (p + 1) = 62 ∨ chr b L (p + 1) = 60 := by omega
        have ev10 : v10 = nI (chr b L (p + 1)) := by
          rcases hv10 with ⟨_, y⟩ | ⟨y, _⟩
          · exact y
          · omega
        rintro D9 rfl
        rw [g21, nI_1]
        have T9 : MT (sI D8 33 21 (nI (p + 1 + 1))) base b L := MT_w T8 (frW_s frW_r (by omega))
        have S9 : MS (sI D8 33 21 (nI (p + 1 + 1))) (List.replicate k 33 ++ W0) P o (p + 1 + 1) := MS_p S8 (by omega)
        have f9 : frW D (sI D8 33 21 (nI (p + 1 + 1))) := frW_s f8 (by omega)
        generalize sI D8 33 21 (nI (p + 1 + 1)) = D9 at *
        have g9 := S9.2.2.2.1
        refine m_number T9 g9 (by omega) (fun dd D10 fn n1' n2' => ⟨fun _ => ?_, fun y => absurd y (by decide)⟩) (fun dd => ⟨fun y => absurd rfl y, fun _ => ?_⟩)
        · have v3 := nmF_v (ch := chr b L) 3 (p + 1 + 1) 0
          have nl := nmF_L (b := b) (L := L) 3 (p + 1 + 1) 0 (by omega)
          have ng := nmF_le (ch := chr b L) 3 (p + 1 + 1) 0
          have ef : rPrc (chr b L) (p + 1) acc = (true, (nmF (chr b L) 3 (p + 1 + 1) 0).1, acc ++ [16 * (nmF (chr b L) 3 (p + 1 + 1) 0).2 + (if chr b L (p + 1) = 61 then 7 else if chr b L (p + 1) = 62 then 8 else 6)]) := by
            unfold rPrc; rw [if_pos oc, if_pos dd]
          rw [ef] at fin
          have S10 : MS D10 (List.replicate k 33 ++ W0) P o (nmF (chr b L) 3 (p + 1 + 1) 0).1 := MS_n S9 fn n1' (by omega)
          have f10 : frW D D10 := frW_t f9 (frN_w fn)
          generalize (nmF (chr b L) 3 (p + 1 + 1) 0).2 = d at *
          generalize (nmF (chr b L) 3 (p + 1 + 1) 0).1 = q at *
          have x10 := ex D10 f10
          have tvw : ∀ cc, tvM D x cc = tvM D10 x cc := fun cc => (tvM_w f10).symm
          have go : ∀ s, s = (if chr b L (p + 1) = 61 then 7 else if chr b L (p + 1) = 62 then 8 else 6) → ∀ w : Bool, w = tvM D x (16 * d + s) → fX12_push (bB w) D10 (fun D2 => post 1 D2) := by
            rintro s rfl w rfl
            refine fin _ D10 _ f10 S10 rfl rfl rfl ?_ nl (by omega)
            split
            · omega
            · split <;> omega
          rw [x10, nI_clamp (by omega)]
          refine ⟨nI_in hx6 (by omega), ?_⟩
          rintro v84 rfl
          rw [ev10, n2']
          refine ⟨fun y => ?_, fun y => ?_⟩
          · have n60 : chr b L (p + 1) ≠ 60 := fun q => y (by rw [q]; rfl)
            refine ⟨fun y2 => ?_, fun y2 => ?_⟩
            · have n61 : chr b L (p + 1) ≠ 61 := fun q => y2 (by rw [q]; rfl)
              have e62 : chr b L (p + 1) = 62 := by omega
              have go := go 8 (by rw [if_neg n61, if_pos e62])
              have cm : (16 * d + 8) % 16 = 8 ∧ (16 * d + 8) / 16 = d := by omega
              have tv8 : tvM D x (16 * d + 8) = decide (nI d < D10.1 35 x) := by
                rw [tvw]; unfold tvM; rw [cm.1, cm.2]; rfl
              refine ⟨fun y3 => go false ?_, fun y3 => go true ?_⟩
              · rw [tv8]; exact (decide_eq_false (Int32.not_lt.mpr y3)).symm
              · rw [tv8]; exact (decide_eq_true (Int32.not_le.mp y3)).symm
            · have y2' : nI (chr b L (p + 1)) = nI 61 := by first | exact y2 | exact Classical.byContradiction y2
              have e61 : chr b L (p + 1) = 61 := (nI_eq (by omega) (by omega)).mp y2'
              have go := go 7 (by rw [if_pos e61])
              have cm : (16 * d + 7) % 16 = 7 ∧ (16 * d + 7) / 16 = d := by omega
              have tv7 : tvM D x (16 * d + 7) = decide (D10.1 35 x = nI d) := by
                rw [tvw]; unfold tvM; rw [cm.1, cm.2]; rfl
              refine ⟨fun y3 => go false ?_, fun y3 => go true ?_⟩
              · rw [tv7]; exact (decide_eq_false y3).symm
              · have y3' : D10.1 35 x = nI d := by first | exact y3 | exact Classical.byContradiction y3
                rw [tv7]; exact (decide_eq_true y3').symm
          · have y' : nI (chr b L (p + 1)) = nI 60 := by first | exact y | exact Classical.byContradiction y
            have e60 : chr b L (p + 1) = 60 := (nI_eq (by omega) (by omega)).mp y'
            have go := go 6 (by rw [if_neg (by omega), if_neg (by omega)])
            have cm : (16 * d + 6) % 16 = 6 ∧ (16 * d + 6) / 16 = d := by omega
            have tv6 : tvM D x (16 * d + 6) = decide (D10.1 35 x < nI d) := by
              rw [tvw]; unfold tvM; rw [cm.1, cm.2]; rfl
            refine ⟨fun y3 => go false ?_, fun y3 => go true ?_⟩
            · rw [tv6]; exact (decide_eq_false (Int32.not_lt.mpr y3)).symm
            · rw [tv6]; exact (decide_eq_true (Int32.not_le.mp y3)).symm
        · have ef : rPrc (chr b L) (p + 1) acc = (false, p + 1 + 1, acc) := by
            unfold rPrc; rw [if_pos oc, if_neg (by rw [dd]; simp)]
          rw [ef] at h0
          exact h0 rfl D9 f9 g9
      · have ef : rPrc (chr b L) (p + 1) acc = (false, p + 1, acc) := by
          unfold rPrc; rw [if_neg]; omega
        rw [ef] at h0
        exact h0 rfl D8 f8 g21
  · refine ⟨fun z => hK (Or.inl ((NB_eq (K := 109) hv1 (by omega)).mp z)), fun z1 => ⟨fun z => hK (Or.inr (Or.inl ((NB_eq (K := 116) hv1 (by omega)).mp z))), fun z2 => ⟨fun z => hK (Or.inr (Or.inr (Or.inl ((NB_eq (K := 110) hv1 (by omega)).mp z)))), fun z3 => ⟨fun z => hK (Or.inr (Or.inr (Or.inr ((NB_eq (K := 112) hv1 (by omega)).mp z)))), fun z4 => ?_⟩⟩⟩⟩
    have er : rT (chr b L) p acc = (false, p, acc) := by
      unfold rT
      rw [if_neg (fun y => z4 ((NB_eq (K := 112) hv1 (by omega)).mpr y)), if_neg (fun y => z1 ((NB_eq (K := 109) hv1 (by omega)).mpr y)), if_neg (fun y => z2 ((NB_eq (K := 116) hv1 (by omega)).mpr y)), if_neg (fun y => z3 ((NB_eq (K := 110) hv1 (by omega)).mpr y))]
    rw [er] at h0
    exact h0 rfl D frW_r e21
