/-! sheet, its two loops -/
theorem x_sheet {mdl : Nat → Option (Nat × Nat)} {D : Dy} {n c w k t N Z m i : Nat} {V : Nat → Int64} {a2 : Int32} (hn : n ≤ 6) (hw : w < k) (hk : k ≤ 16) (hc : c ≤ 80) (ht : t < 6) (hN : 1 ≤ N) (hN2 : N ≤ 20) (hZ : Z ≤ 60) (h13 : D.1 1 3 = nI n) (h03 : D.1 0 3 = nI k) (h74 : D.1 7 4 = nI c) (h25 : D.1 25 t = nI Z) (hs : D.1 24 t < 0 ∨ D.1 24 t = 3) (hm : m ≤ N) (hm1 : ∀ j, j < m → i + j < Z ∧ V j = D.2 (27 + t) (i + j)) (hm2 : m = N ∨ (a2 < 0 ∧ m = 0) ∨ (¬ a2 < 0 ∧ Z ≤ i + m)) (hi : i < 2 ^ 31) (ha : a2 = nI i ∨ (a2 < 0 ∧ m = 0)) {post : Int32 → Dy → Prop} (h : post (nI (100 * (shL n c V m).length + (N - (shL n c V m).length))) (addX D c w (shL n c V m))) : fX11_sheet mdl (nI t) a2 (nI N) (nI w) D post := by
  have hok := fun j => shL_ok (V := V) hn hw hk hc j
  have hit : vp_in (nI t) 6 := nI_in ht (by omega)
  unfold fX11_sheet
  rw [h03, show (6 : Int32) = nI 6 from rfl, wi_t ht (by omega), wi_t hw (by omega), nI_clamp (by omega)]
  refine ⟨fun z => absurd z (by decide), fun _ => ⟨fun _ => ⟨fun z => absurd z ?_, fun _ => ⟨fun _ => ⟨hit, ?_⟩, fun z => absurd ?_ z⟩⟩, fun z => absurd z (by decide)⟩⟩
  · exact nI_nlt (a := N) (b := 1) (by omega) (by omega)
  · refine JN_p ?_ fun K hK => ⟨fun _ => hK, fun z => ⟨hit, fun _ => hK, fun z2 => hs.elim (fun y => absurd y z) (fun y => absurd y z2)⟩⟩
    refine lp3_P m (fun j => nI (shL n c V j).length) nI (fun j => addX D c w (shL n c V j)) (fun _ => True) (by omega) (fun j hj rec hr _ => ?_) rfl rfl (addX_0 h74).symm trivial
    have e25 : (addX D c w (shL n c V j)).1 25 t = nI Z := by rw [addX_r (by omega) (by omega)]; exact h25
    rw [e25]
    have lj := (hok j).2
    by_cases e : j = m
    · subst e
      refine JN_p ?_ fun K hK => ⟨fun _ => hK, fun c1 => ⟨fun _ => hK, fun c2 => ⟨hit, fun _ => hK, fun c3 => ?_⟩⟩⟩
      · have : (100 : Int32) * nI (shL n c V j).length + (nI N - nI (shL n c V j).length) = nI (100 * (shL n c V j).length + (N - (shL n c V j).length)) := by
          rw [n100, nI_mul, sub' (by omega), nI_add]
        rw [this]; exact h
      · exfalso
        rcases hm2 with z | z | z
        · exact c1 (by rw [z]; exact Int32.le_refl _)
        · exact c2 z.1
        · rcases ha with z2 | z2
          · subst z2
            rw [sub_le hZ hi (by omega)] at c3
            omega
          · exact z.1 z2.1
    · have hj' : j < m := by omega
      have hr := hr hj' trivial
      obtain ⟨v1, v2⟩ := hm1 j hj'
      obtain rfl : a2 = nI i := ha.elim id fun z => by omega
      refine ⟨fun z => absurd z (nI_ge (by omega) (by omega)), fun _ => ⟨fun z => absurd z (nI_pos (by omega)), fun _ => ⟨hit, fun z => ?_, fun _ => ⟨hit, ?_, ?_⟩⟩⟩⟩
      · rw [sub_le hZ hi (by omega)] at z; omega
      · rw [nI_add]; exact nI_in (by omega) (by omega)
      · rw [nI_add, nI_clamp (by omega), show (addX D c w (shL n c V j)).2 (27 + t) (i + j) = V j from v2.symm]
        refine x_line hn h13 (hok j).1.2.2.1 (fun s o hv hl => ⟨fun z => absurd z (nI_pos (by omega)), fun _ v40 e40 => ?_⟩) (fun r hr2 hno => ⟨fun _ => ?_, fun z => absurd hr2 z⟩)
        · subst e40
          intro v37 e37
          subst e37
          have e1 : shL n c V (j + 1) = shL n c V j ++ [(s, o)] := nxL_t hn hv hl
          rw [e1, List.length_append] at hr
          rw [nI_1, nI_1]; exact hr
        · intro v37 e37
          subst e37
          have e1 : shL n c V (j + 1) = shL n c V j := nxL_f hno
          rw [e1] at hr
          rw [nI_1]; exact hr
  · exact nI_le (a := N) (b := 20) (by omega) (by omega)
theorem m_sheet {D : Dy} {n c w k t N Z m i : Nat} {V : Nat → Int64} {a2 : Int32} (hn : n ≤ 6) (hw : w < k) (hk : k ≤ 16) (hc : c ≤ 80) (ht : t < 6) (hN : 1 ≤ N) (hN2 : N ≤ 20) (hZ : Z ≤ 60) (h0 : D.1 33 0 = nI n) (h1 : D.1 33 1 = nI k) (h2 : D.1 33 2 = nI c) (h62 : D.1 62 t = nI Z) (hs : (D.1 61 t < 0 ∧ Z = 0) ∨ D.1 61 t = 3) (hm : m ≤ N) (hm1 : ∀ j, j < m → i + j < Z ∧ V j = D.2 63 (60 * t + (i + j))) (hm2 : m = N ∨ (a2 < 0 ∧ m = 0) ∨ (¬ a2 < 0 ∧ Z ≤ i + m)) (hi : i < 2 ^ 31) (ha : a2 = nI i ∨ (a2 < 0 ∧ m = 0)) {post : Int32 → Dy → Prop} (h : post (nI (100 * (shL n c V m).length + (N - (shL n c V m).length))) (addM D c w (shL n c V m))) : fX12_sheet (nI t) a2 (nI N) (nI w) D post := by
  have hok := fun j => shL_ok (V := V) hn hw hk hc j
  have hit : vp_in (nI t) 6 := nI_in ht (by omega)
  unfold fX12_sheet
  refine s_isTape (fun _ => ⟨fun z => absurd z (by decide), fun _ => ?_⟩) (fun z => absurd ⟨t, ht, rfl⟩ z)
  rw [isTk_t h1 (by omega) hw, nI_clamp (by omega)]
  refine ⟨fun _ => ?_, fun z => absurd z (by decide)⟩
  refine ⟨fun z => absurd z (nI_nlt (a := N) (b := 1) (by omega) (by omega)), fun _ => ⟨fun z => absurd z (nI_nlt (a := 20) (b := N) (by omega) (by omega)), fun _ => ⟨fun _ => ⟨hit, ?_⟩, fun z => absurd z (by decide)⟩⟩⟩
  refine JN_p ?_ fun K hK => ⟨fun _ => hK, fun z => ⟨hit, fun _ => hK, fun z2 => hs.elim (fun y => absurd y.1 z) (fun y => absurd y z2)⟩⟩
  refine lp3_P m (fun j => nI (shL n c V j).length) nI (fun j => addM D c w (shL n c V j)) (fun _ => True) (by omega) (fun j hj rec hr _ => ?_) rfl rfl (addM_0 h2).symm trivial
  have e62 : (addM D c w (shL n c V j)).1 62 t = nI Z := by rw [addM_r (by omega) (by omega) (by omega)]; exact h62
  have e61 : (addM D c w (shL n c V j)).1 61 t = D.1 61 t := by rw [addM_r (by omega) (by omega) (by omega)]
  rw [e62, e61]
  have lj := (hok j).2
  by_cases e : j = m
  · subst e
    refine JN_p ?_ fun K hK => ⟨fun _ => hK, fun c1 => ⟨hit, fun _ => hK, fun c0 => ⟨fun _ => hK, fun c2 => ⟨hit, fun c3 => ?_, fun _ => hK⟩⟩⟩⟩
    · have : (100 : Int32) * nI (shL n c V j).length + nI N - nI (shL n c V j).length = nI (100 * (shL n c V j).length + (N - (shL n c V j).length)) := by
        rw [n100, nI_mul, nI_add, sub' (by omega)]; congr 1; omega
      rw [this]; exact h
    · exfalso
      rcases hm2 with z | z | z
      · exact c1 (by rw [z]; exact Int32.le_refl _)
      · exact c2 z.1
      · rcases ha with z2 | z2
        · subst z2
          rw [lt_sub hZ (by omega) hi] at c3
          omega
        · exact z.1 z2.1
  · have hj' : j < m := by omega
    have hr := hr hj' trivial
    obtain ⟨v1, v2⟩ := hm1 j hj'
    have hs3 : ¬ D.1 61 t < 0 := by
      rcases hs with z | z
      · omega
      · rw [z]; decide
    obtain rfl : a2 = nI i := ha.elim id fun z => by omega
    refine ⟨fun z => absurd z (nI_ge (by omega) (by omega)), fun _ => ⟨hit, fun z => absurd z hs3, fun _ => ⟨fun z => absurd z (nI_pos (by omega)), fun _ => ⟨hit, fun _ => ⟨?_, ?_⟩, fun z => absurd ?_ z⟩⟩⟩⟩
    · rw [n60, nI_mul, nI_add, nI_add]; exact nI_in (by omega) (by omega)
    · rintro w32 rfl
      rw [n60, nI_mul, nI_add, nI_add, nI_clamp (by omega), show (addM D c w (shL n c V j)).2 63 (60 * t + i + j) = V j by rw [Nat.add_assoc]; exact v2.symm]
      rw [lg_cmp_lt, lg_cmp_ge]
      have skip : (¬ ∃ s o, lnV n (V j) s o ∧ c + (shL n c V j).length < 80) → ∀ v38 : Int32, v38 = nI j + 1 → rec (nI (shL n c V j).length) v38 (addM D c w (shL n c V j)) := by
        rintro hno v38 rfl
        have e1 : shL n c V (j + 1) = shL n c V j := nxL_f hno
        rw [e1] at hr
        rw [nI_1]; exact hr
      refine ⟨fun c1 => skip ?_, fun c1 => ⟨fun c2 => skip ?_, fun c2 => ?_⟩⟩
      · rintro ⟨s, o, ⟨⟨z, _⟩, _⟩, _⟩; exact z c1
      · rintro ⟨s, o, ⟨⟨_, z⟩, _⟩, _⟩; exact z c2
      · refine m_tell hn hk hw h0 h1 (fun s o hv hl => ⟨fun z => absurd z (nI_pos (by omega)), fun _ v49 e49 => ?_⟩) (fun s o hv hl => ⟨fun _ => skip ?_, fun z => absurd (by decide) z⟩) (fun hv => ⟨fun _ => skip ?_, fun z => absurd (by decide) z⟩) (hok j).1.2.2.1
        · subst e49
          intro v38 e38
          subst e38
          have e1 : shL n c V (j + 1) = shL n c V j ++ [(s, o)] := nxL_t hn ⟨⟨c1, c2⟩, hv⟩ hl
          rw [e1, List.length_append] at hr
          rw [nI_1, nI_1]; exact hr
        · rintro ⟨_, _, _, z⟩; omega
        · rintro ⟨s, o, ⟨_, z⟩, _⟩; exact hv ⟨s, o, z⟩
    · rw [lt_sub hZ (by omega) hi]; exact v1
theorem p_sheet {mdl : Nat → Option (Nat × Nat)} {D : Dy} {n k c : Nat} {a1 a2 a3 a4 : Int32} (hn : n ≤ 6) (hk : k ≤ 16) (hc : c ≤ 80) (g1 : D.1 1 3 = nI n) (g2 : D.1 33 0 = nI n) (t1 : D.1 0 3 = nI k) (t2 : D.1 33 1 = nI k) (c1 : D.1 7 4 = nI c) (c2 : D.1 33 2 = nI c) (hP : RP D) : fX11_sheet mdl a1 a2 a3 a4 D (fun v D1 => fX12_sheet a1 a2 a3 a4 D1 (fun v' D2 => v = v' ∧ ∃ w L, AddOK n k c w L ∧ D2 = addM (addX D c w L) c w L)) := by
  have same : ∃ w L, AddOK n k c w L ∧ D = addM (addX D c w L) c w L := ⟨0, [], ⟨by omega, fun z => absurd rfl z, by show c + 0 ≤ 80; omega, fun p hp => by cases hp⟩, by rw [addX_0 c1, addM_0 c2]⟩
  by_cases q1 : iN a1 6
  · obtain ⟨t, ht, rfl⟩ := q1
    by_cases q2 : iN a4 k
    · obtain ⟨w, hw, rfl⟩ := q2
      by_cases q3 : ∃ N, 1 ≤ N ∧ N ≤ 20 ∧ a3 = nI N
      · obtain ⟨N, hN, hN2, rfl⟩ := q3
        have hit : vp_in (nI t) 6 := nI_in ht (by omega)
        obtain ⟨⟨y1, y2⟩, y3, Z, y4, y5, y6, y7⟩ := hP t ht
        by_cases q4 : D.1 24 t < 0 ∨ D.1 24 t = 3
        · have hz0 : D.1 24 t < 0 → Z = 0 := by
            intro z
            rcases y3 with y3 | ⟨u, hu, y3⟩
            · exact y6 y3
            · rw [y3] at z; exact absurd z (nI_pos (by omega))
          obtain ⟨i, m, hi, hm, hm1, hm2, ha⟩ : ∃ i m, i < 2 ^ 31 ∧ m ≤ N ∧ (∀ j, j < m → i + j < Z) ∧ (m = N ∨ (a2 < 0 ∧ m = 0) ∨ (¬ a2 < 0 ∧ Z ≤ i + m)) ∧ (a2 = nI i ∨ (a2 < 0 ∧ m = 0)) := by
            by_cases c : a2 < 0
            · exact ⟨0, 0, by omega, by omega, fun j hj => by omega, Or.inr (Or.inl ⟨c, rfl⟩), Or.inr ⟨c, rfl⟩⟩
            · obtain ⟨i, hi, rfl⟩ := nI_of c
              refine ⟨i, min N (Z - i), hi, by omega, fun j hj => by omega, ?_, Or.inl rfl⟩
              by_cases d : N ≤ Z - i
              · exact Or.inl (by omega)
              · exact Or.inr (Or.inr ⟨c, by omega⟩)
          refine x_sheet (V := fun j => D.2 (27 + t) (i + j)) hn hw hk hc ht hN hN2 y4 g1 t1 c1 y5 q4 hm (fun j hj => ⟨hm1 j hj, rfl⟩) hm2 hi ha ?_
          have rX : ∀ {b x}, b < 8 ∨ 11 < b → ¬ (b = 7 ∧ x = 4) → (addX D c w (shL n c (fun j => D.2 (27 + t) (i + j)) m)).1 b x = D.1 b x := fun h1 h2 => addX_r h2 h1
          refine m_sheet (D := addX D c w (shL n c (fun j => D.2 (27 + t) (i + j)) m)) (V := fun j => D.2 (27 + t) (i + j)) hn hw hk hc ht hN hN2 y4 (by rw [rX (by omega) (by omega)]; exact g2) (by rw [rX (by omega) (by omega)]; exact t2) (by rw [rX (by omega) (by omega)]; exact c2) (by rw [rX (by omega) (by omega)]; exact y2.trans y5) ?_ hm (fun j hj => ⟨hm1 j hj, (y7 (i + j) (hm1 j hj)).symm⟩) hm2 hi ha ?_
          · rw [rX (by omega) (by omega), y1]
            exact q4.imp (fun z => ⟨z, hz0 z⟩) id
          · exact ⟨rfl, w, _, (shL_ok hn hw hk hc m).1, rfl⟩
        · have n1 : ¬ D.1 24 t < 0 := fun z => q4 (Or.inl z)
          have n2 : ¬ D.1 24 t = 3 := fun z => q4 (Or.inr z)
          unfold fX11_sheet fX12_sheet
          rw [t1, show (6 : Int32) = nI 6 from rfl, wi_t ht (by omega), wi_t hw (by omega), nI_clamp (by omega)]
          refine ⟨fun z => absurd z (by decide), fun _ => ⟨fun _ => ⟨fun z => absurd z ?_, fun _ => ⟨fun _ => ⟨hit, fun z => absurd z n1, fun _ => ⟨hit, fun z => absurd z n2, fun _ => ?_⟩⟩, fun z => absurd ?_ z⟩⟩, fun z => absurd z (by decide)⟩⟩
          · exact nI_nlt (a := N) (b := 1) (by omega) (by omega)
          · refine s_isTape (fun _ => ⟨fun z => absurd z (by decide), fun _ => ?_⟩) (fun z => absurd ⟨t, ht, rfl⟩ z)
            rw [isTk_t t2 (by omega) hw, y1]
            refine ⟨fun _ => ?_, fun z => absurd z (by decide)⟩
            exact ⟨fun z => absurd z (nI_nlt (a := N) (b := 1) (by omega) (by omega)), fun _ => ⟨fun z => absurd z (nI_nlt (a := 20) (b := N) (by omega) (by omega)), fun _ => ⟨fun _ => ⟨hit, fun z => absurd z n1, fun _ => ⟨hit, fun z => absurd z n2, fun _ => ⟨rfl, same⟩⟩⟩, fun z => absurd z (by decide)⟩⟩⟩
          · exact nI_le (a := N) (b := 20) (by omega) (by omega)
      · have b1 : a3 < 1 ∨ 20 < a3 := by
          refine Classical.byContradiction fun z => q3 ?_
          have z1 : ¬ a3 < 1 := fun y => z (Or.inl y)
          have z2 : ¬ 20 < a3 := fun y => z (Or.inr y)
          have z3 : ¬ a3 < 0 := fun y => z1 (by
            rw [Int32.lt_iff_toInt_lt] at y ⊢
            rw [show (0 : Int32).toInt = 0 by decide] at y
            rw [show (1 : Int32).toInt = 1 by decide]; omega)
          obtain ⟨N, hN, rfl⟩ := nI_of z3
          refine ⟨N, ?_, ?_, rfl⟩
          · refine Nat.lt_of_not_le fun y => z1 (nI_lt (a := N) (b := 1) (by omega) (by omega))
          · refine Nat.le_of_not_lt fun y => z2 (nI_lt (a := 20) (b := N) y hN)
        have b2 : ¬ a3 < 1 → ¬ a3 ≤ 20 := fun z y => by
          rcases b1 with b1 | b1
          · exact z b1
          · exact absurd b1 (Int32.not_lt.mpr y)
        unfold fX11_sheet fX12_sheet
        rw [t1, show (6 : Int32) = nI 6 from rfl, wi_t ht (by omega), wi_t hw (by omega)]
        have mm : fX12_sheet (nI t) a2 a3 (nI w) D (fun v' D2 => (-2 : Int32) = v' ∧ ∃ w L, AddOK n k c w L ∧ D2 = addM (addX D c w L) c w L) := by
          unfold fX12_sheet
          refine s_isTape (fun _ => ⟨fun z => absurd z (by decide), fun _ => ?_⟩) (fun z => absurd ⟨t, ht, rfl⟩ z)
          rw [isTk_t t2 (by omega) hw]
          refine ⟨fun _ => ?_, fun z => absurd z (by decide)⟩
          exact ⟨fun _ => ⟨fun z => absurd rfl z, fun _ => ⟨rfl, same⟩⟩, fun z => ⟨fun _ => ⟨fun z => absurd rfl z, fun _ => ⟨rfl, same⟩⟩, fun z2 => absurd b1 (fun y => y.elim z z2)⟩⟩
        unfold fX12_sheet at mm
        exact ⟨fun z => absurd z (by decide), fun _ => ⟨fun _ => ⟨fun _ => mm, fun z => ⟨fun y => absurd y (b2 z), fun _ => mm⟩⟩, fun z => absurd z (by decide)⟩⟩
    · unfold fX11_sheet fX12_sheet
      rw [t1, show (6 : Int32) = nI 6 from rfl, wi_t ht (by omega), wi_f q2 (by omega)]
      refine ⟨fun z => absurd z (by decide), fun _ => ⟨fun z => absurd rfl z, fun _ => ?_⟩⟩
      refine s_isTape (fun _ => ⟨fun z => absurd z (by decide), fun _ => ?_⟩) (fun z => absurd ⟨t, ht, rfl⟩ z)
      rw [isTk_f t2 (by omega) q2]
      exact ⟨fun z => absurd rfl z, fun _ => ⟨rfl, same⟩⟩
  · unfold fX11_sheet fX12_sheet
    rw [show (6 : Int32) = nI 6 from rfl, wi_f q1 (by omega)]
    refine ⟨fun _ => ?_, fun z => absurd rfl z⟩
    exact s_isTape (fun z => absurd z q1) (fun _ => ⟨fun _ => ⟨rfl, same⟩, fun z => absurd rfl z⟩)
