section
/-! CLAUSES: the other's reader, one clause -/
def mcX (D : Dy) (tv : Nat → Bool) (x : Nat) (r : Rc) (post : Int32 → Dy → Prop) : Prop := ∀ D', frV x D D' → D'.1 33 21 = nI r.2.1 → (r.1 = true → ML D' tv r.2.2 x) → post (if r.1 = true then 1 else 0) D'
theorem mcX_e {D : Dy} {tv : Nat → Bool} {x : Nat} {r r' : Rc} {post : Int32 → Dy → Prop} (e : r = r') (h : mcX D tv x r post) : mcX D tv x r' post := e ▸ h
theorem mcX_0 {D D' : Dy} {tv : Nat → Bool} {x p : Nat} {R : RS} {post : Int32 → Dy → Prop} (h : mcX D tv x (false, p, R) post) (f : frV x D D') (e : D'.1 33 21 = nI p) : post 0 D' := h D' f e (fun z => by cases z)
theorem mcX_1 {D D' : Dy} {tv : Nat → Bool} {x p : Nat} {R : RS} {post : Int32 → Dy → Prop} (h : mcX D tv x (true, p, R) post) (f : frV x D D') (e : D'.1 33 21 = nI p) (m : ML D' tv R x) : post 1 D' := h D' f e (fun _ => m)
theorem mcX_01 {D : Dy} {tv : Nat → Bool} {x : Nat} {r : Rc} {post : Int32 → Dy → Prop} (h : mcX D tv x r post) : mcX D tv x r (fun v D' => (v = 0 ∨ v = 1) ∧ post v D') := fun D' f e m => ⟨by split; exact Or.inr rfl; exact Or.inl rfl, h D' f e m⟩
theorem rCl_y {ch : Nat → Nat} {p i : Nat} {R : RS} (hw : wsel ch p = i) (c1 : lc ch (wds i) p = (wds i).length) : rCl ch p R = rClw ch (p + (wds i).length) R i := by unfold rCl; rw [hw, if_pos c1]
theorem rCl_n {ch : Nat → Nat} {p i : Nat} {R : RS} (hw : wsel ch p = i) (c1 : lc ch (wds i) p < (wds i).length) : rCl ch p R = (false, p + lc ch (wds i) p, R) := by unfold rCl; rw [hw, if_neg (by omega)]
theorem gFp_0 {ch : Nat → Nat} {lo hi p : Nat} {k : Nat → Nat → Rc} {R : RS} (c : ch p ≠ 32) : gFp ch lo hi p k R = (false, p, R) := if_neg c
theorem gFp_1 {ch : Nat → Nat} {lo hi p : Nat} {k : Nat → Nat → Rc} {R : RS} (c : ch p = 32) (g : ¬ (48 + lo ≤ ch (p + 1) ∧ ch (p + 1) ≤ 48 + hi)) : gFp ch lo hi p k R = (false, p + 1, R) := by unfold gFp; rw [if_pos c, if_neg g]
theorem gFp_2 {ch : Nat → Nat} {lo hi p : Nat} {k : Nat → Nat → Rc} {R : RS} (c : ch p = 32) (g : 48 + lo ≤ ch (p + 1) ∧ ch (p + 1) ≤ 48 + hi) : gFp ch lo hi p k R = k (ch (p + 1) - 48) (p + 2) := by unfold gFp; rw [if_pos c, if_pos g]
theorem gNp_0 {ch : Nat → Nat} {p : Nat} {k : Nat → Nat → Rc} {R : RS} (c : ch p ≠ 32) : gNp ch p k R = (false, p, R) := if_neg c
theorem gNp_1 {ch : Nat → Nat} {p : Nat} {k : Nat → Nat → Rc} {R : RS} (c : ch p = 32) (d : dig ch (p + 1) = false) : gNp ch p k R = (false, p + 1, R) := by unfold gNp; rw [if_pos c, if_neg (by rw [d]; decide)]
theorem gNp_2 {ch : Nat → Nat} {p : Nat} {k : Nat → Nat → Rc} {R : RS} (c : ch p = 32) (d : dig ch (p + 1) = true) : gNp ch p k R = k (nmF ch 3 (p + 1) 0).2 (nmF ch 3 (p + 1) 0).1 := by unfold gNp; rw [if_pos c, if_pos d]
theorem rClw_0 {ch : Nat → Nat} {q : Nat} {R : RS} : rClw ch q R 0 = gFp ch 0 5 q (fun f p => gNp ch p (fun v p => (true, p, rsW R f v)) R) R := rfl
theorem rClw_1 {ch : Nat → Nat} {q : Nat} {R : RS} : rClw ch q R 1 = gFp ch 0 7 q (fun f p => gNp ch p (fun v p => (true, p, rsM R f v)) R) R := rfl
theorem rClw_2 {ch : Nat → Nat} {q : Nat} {R : RS} : rClw ch q R 2 = gNp ch q (fun v p => (true, p, rsP R v)) R := rfl
theorem rClw_3 {ch : Nat → Nat} {q : Nat} {R : RS} : rClw ch q R 3 = gNp ch q (fun v p => (true, p, rsZ R v)) R := rfl
theorem rClw_4 {ch : Nat → Nat} {q : Nat} {R : RS} : rClw ch q R 4 = gFp ch 1 9 q (fun v p => (true, p, rsL R v)) R := rfl
theorem rClw_5 {ch : Nat → Nat} {q : Nat} {R : RS} : rClw ch q R 5 = gFp ch 0 2 q (fun k p => gFp ch 0 9 p (fun s p => gNp ch p (fun v p => (true, p, rsK R k s v)) R) R) R := rfl
theorem rClw_6 {ch : Nat → Nat} {q : Nat} {R : RS} : rClw ch q R 6 = rPk ch q R := rfl
theorem m_worth {D : Dy} {base L p x : Nat} {b : Nat → Nat} {tv : Nat → Bool} {R : RS} {post : Int32 → Dy → Prop} (hT : MT D base b L) (hp : D.1 33 21 = nI p) (hpL : p ≤ L) (hM : ML D tv R x) (hw : wsel (chr b L) p = 0) (h : mcX D tv x (rCl (chr b L) p R) post) : fX12_takesWorth D post := by
  have L120 := hT.1
  unfold fX12_takesWorth
  refine m_word (i := 0) (by omega) hT hp hpL (fun c1 c2 D1 f1 p1 l1 => ⟨fun z => absurd z (by decide), fun _ => ?_⟩) (fun c1 c2 D1 f1 p1 l1 => ⟨fun _ => ?_, fun z => absurd rfl z⟩) (fun c1 D1 f1 p1 => ⟨fun _ => ?_, fun z => absurd rfl z⟩)
  · have h := mcX_e rClw_0 (mcX_e (rCl_y hw c1) h)
    refine m_fig (lo := 0) (hi := 5) (MT_n hT f1) p1 l1 (by omega) (by omega) (fun g l2 D2 f2 p2 d2 => ⟨fun _ => ?_, fun z => absurd z (by decide)⟩) (fun g => ⟨fun z => absurd rfl z, fun _ => ?_⟩)
    · have h := mcX_e (gFp_2 c2 g) h
      have f12 := frN_t f1 f2
      rintro v15 rfl
      refine m_tk (K := 32) (MT_n hT f12) p2 l2 (by omega) (fun c3 l3 D3 f3 p3 => ⟨fun z => absurd z (by decide), fun _ => ?_⟩) (fun c3 => ⟨fun _ => ?_, fun z => absurd rfl z⟩)
      · have f13 := frN_t f12 f3
        refine m_number (MT_n hT f13) p3 l3 (fun d D4 f4 p4 d4 => ⟨fun _ => ⟨?_, ?_⟩, fun z => absurd z (by decide)⟩) (fun d => ⟨fun z => absurd rfl z, fun _ => ?_⟩)
        · rw [d2]; exact nI_in (by omega) (by omega)
        · rintro D5 rfl
          have f14 := frN_t f13 f4
          rw [d2, d4, nI_clamp (by omega)]
          exact mcX_1 (mcX_e (gNp_2 c3 d) h) (frV_s (frV_n f14) (by omega)) (by rw [sI_1, if_neg (by omega)]; exact p4) (ML_W (ML_n hM f14))
        · exact mcX_0 (mcX_e (gNp_1 c3 d) h) (frV_n f13) p3
      · exact mcX_0 (mcX_e (gNp_0 c3) h) (frV_n f12) p2
    · exact mcX_0 (mcX_e (gFp_1 c2 g) h) (frV_n f1) p1
  · exact mcX_0 (mcX_e (gFp_0 c2) (mcX_e rClw_0 (mcX_e (rCl_y hw c1) h))) (frV_n f1) p1
  · exact mcX_0 (mcX_e (rCl_n hw c1) h) (frV_n f1) p1
theorem m_mark {D : Dy} {base L p x : Nat} {b : Nat → Nat} {tv : Nat → Bool} {R : RS} {post : Int32 → Dy → Prop} (hT : MT D base b L) (hp : D.1 33 21 = nI p) (hpL : p ≤ L) (hM : ML D tv R x) (hw : wsel (chr b L) p = 1) (h : mcX D tv x (rCl (chr b L) p R) post) : fX12_takesMark D post := by
  have L120 := hT.1
  unfold fX12_takesMark
  refine m_word (i := 1) (by omega) hT hp hpL (fun c1 c2 D1 f1 p1 l1 => ⟨fun z => absurd z (by decide), fun _ => ?_⟩) (fun c1 c2 D1 f1 p1 l1 => ⟨fun _ => ?_, fun z => absurd rfl z⟩) (fun c1 D1 f1 p1 => ⟨fun _ => ?_, fun z => absurd rfl z⟩)
  · have h := mcX_e rClw_1 (mcX_e (rCl_y hw c1) h)
    refine m_fig (lo := 0) (hi := 7) (MT_n hT f1) p1 l1 (by omega) (by omega) (fun g l2 D2 f2 p2 d2 => ⟨fun _ => ?_, fun z => absurd z (by decide)⟩) (fun g => ⟨fun z => absurd rfl z, fun _ => ?_⟩)
    · have h := mcX_e (gFp_2 c2 g) h
      have f12 := frN_t f1 f2
      rintro v15 rfl
      refine m_tk (K := 32) (MT_n hT f12) p2 l2 (by omega) (fun c3 l3 D3 f3 p3 => ⟨fun z => absurd z (by decide), fun _ => ?_⟩) (fun c3 => ⟨fun _ => ?_, fun z => absurd rfl z⟩)
      · have f13 := frN_t f12 f3
        refine m_number (MT_n hT f13) p3 l3 (fun d D4 f4 p4 d4 => ⟨fun _ => ⟨?_, ?_⟩, fun z => absurd z (by decide)⟩) (fun d => ⟨fun z => absurd rfl z, fun _ => ?_⟩)
        · rw [d2]; exact nI_in (by omega) (by omega)
        · rintro D5 rfl
          have f14 := frN_t f13 f4
          rw [d2, d4, nI_clamp (by omega)]
          exact mcX_1 (mcX_e (gNp_2 c3 d) h) (frV_s (frV_n f14) (by omega)) (by rw [sI_1, if_neg (by omega)]; exact p4) (ML_M (ML_n hM f14))
        · exact mcX_0 (mcX_e (gNp_1 c3 d) h) (frV_n f13) p3
      · exact mcX_0 (mcX_e (gNp_0 c3) h) (frV_n f12) p2
    · exact mcX_0 (mcX_e (gFp_1 c2 g) h) (frV_n f1) p1
  · exact mcX_0 (mcX_e (gFp_0 c2) (mcX_e rClw_1 (mcX_e (rCl_y hw c1) h))) (frV_n f1) p1
  · exact mcX_0 (mcX_e (rCl_n hw c1) h) (frV_n f1) p1
theorem m_kind {D : Dy} {base L p x : Nat} {b : Nat → Nat} {tv : Nat → Bool} {R : RS} {post : Int32 → Dy → Prop} (hT : MT D base b L) (hp : D.1 33 21 = nI p) (hpL : p ≤ L) (hM : ML D tv R x) (hw : wsel (chr b L) p = 5) (h : mcX D tv x (rCl (chr b L) p R) post) : fX12_takesKind D post := by
  have L120 := hT.1
  unfold fX12_takesKind
  refine m_word (i := 5) (by omega) hT hp hpL (fun c1 c2 D1 f1 p1 l1 => ⟨fun z => absurd z (by decide), fun _ => ?_⟩) (fun c1 c2 D1 f1 p1 l1 => ⟨fun _ => ?_, fun z => absurd rfl z⟩) (fun c1 D1 f1 p1 => ⟨fun _ => ?_, fun z => absurd rfl z⟩)
  · have h := mcX_e rClw_5 (mcX_e (rCl_y hw c1) h)
    refine m_fig (lo := 0) (hi := 2) (MT_n hT f1) p1 l1 (by omega) (by omega) (fun g l2 D2 f2 p2 d2 => ⟨fun _ => ?_, fun z => absurd z (by decide)⟩) (fun g => ⟨fun z => absurd rfl z, fun _ => ?_⟩)
    · have h := mcX_e (gFp_2 c2 g) h
      have f12 := frN_t f1 f2
      rintro v15 rfl
      refine m_tk (K := 32) (MT_n hT f12) p2 l2 (by omega) (fun c3 l3 D3 f3 p3 => ⟨fun z => absurd z (by decide), fun _ => ?_⟩) (fun c3 => ⟨fun _ => ?_, fun z => absurd rfl z⟩)
      · have f13 := frN_t f12 f3
        refine m_fig (lo := 0) (hi := 9) (MT_n hT f13) p3 l3 (by omega) (by omega) (fun g2 l4 D4 f4 p4 d4 => ⟨fun _ => ?_, fun z => absurd z (by decide)⟩) (fun g2 => ⟨fun z => absurd rfl z, fun _ => ?_⟩)
        · have h := mcX_e (gFp_2 c3 g2) h
          have f14 := frN_t f13 f4
          rintro v31 rfl
          refine m_tk (K := 32) (MT_n hT f14) p4 l4 (by omega) (fun c5 l5 D5 f5 p5 => ⟨fun z => absurd z (by decide), fun _ => ?_⟩) (fun c5 => ⟨fun _ => ?_, fun z => absurd rfl z⟩)
          · have f15 := frN_t f14 f5
            refine m_number (MT_n hT f15) p5 l5 (fun d D6 f6 p6 d6 => ⟨fun _ => ⟨?_, ?_⟩, fun z => absurd z (by decide)⟩) (fun d => ⟨fun z => absurd rfl z, fun _ => ?_⟩)
            · rw [d2]; exact nI_in (by omega) (by omega)
            · rintro D47 rfl
              have f16 := frN_t f15 f6
              have e6 : ∀ a v, (sI D6 49 a v).1 33 23 = D6.1 33 23 := fun a v => by rw [sI_1, if_neg (by omega)]
              rw [d2, d4, nI_clamp (by omega)]
              refine ⟨nI_in (by omega) (by omega), ?_⟩
              rintro D49 rfl
              rw [e6, d6]
              exact mcX_1 (mcX_e (gNp_2 c5 d) h) (frV_s (frV_s (frV_n f16) (by omega)) (by omega)) (by rw [sI_1, if_neg (by omega), sI_1, if_neg (by omega)]; exact p6) (ML_K (ML_n hM f16))
            · exact mcX_0 (mcX_e (gNp_1 c5 d) h) (frV_n f15) p5
          · exact mcX_0 (mcX_e (gNp_0 c5) h) (frV_n f14) p4
        · exact mcX_0 (mcX_e (gFp_1 c3 g2) h) (frV_n f13) p3
      · exact mcX_0 (mcX_e (gFp_0 c3) h) (frV_n f12) p2
    · exact mcX_0 (mcX_e (gFp_1 c2 g) h) (frV_n f1) p1
  · exact mcX_0 (mcX_e (gFp_0 c2) (mcX_e rClw_5 (mcX_e (rCl_y hw c1) h))) (frV_n f1) p1
  · exact mcX_0 (mcX_e (rCl_n hw c1) h) (frV_n f1) p1
theorem rPk_2 {ch : Nat → Nat} {p : Nat} {R : RS} (c : ch p = 32) (y : (rE ch 16 2 0 (p + 1) R.2.flatten).1 = true) : rPk ch p R = (true, (rE ch 16 2 0 (p + 1) R.2.flatten).2.1, R.1, R.2 ++ [(rE ch 16 2 0 (p + 1) R.2.flatten).2.2.drop R.2.flatten.length]) := by unfold rPk; rw [if_pos c, if_pos y]
theorem rPk_1 {ch : Nat → Nat} {p : Nat} {R : RS} (c : ch p = 32) (y : (rE ch 16 2 0 (p + 1) R.2.flatten).1 = false) : rPk ch p R = (false, (rE ch 16 2 0 (p + 1) R.2.flatten).2.1, R) := by unfold rPk; rw [if_pos c, if_neg (by rw [y]; decide)]
theorem rPk_0 {ch : Nat → Nat} {p : Nat} {R : RS} (c : ch p ≠ 32) : rPk ch p R = (false, p, R) := if_neg c
theorem bB_01 {v : Bool} : bB v = 0 ∨ bB v = 1 := by cases v <;> simp [bB] <;> first | exact Or.inl rfl | exact Or.inr rfl
theorem m_p {D : Dy} {base L p x : Nat} {b : Nat → Nat} {tv : Nat → Bool} {R : RS} {post : Int32 → Dy → Prop} (hT : MT D base b L) (hp : D.1 33 21 = nI p) (hpL : p ≤ L) (hx : D.1 33 33 = nI x) (hx6 : x < 6) (htv : tvM D x = tv) (hR : R.2.length ≤ 9) (hM : ML D tv R x) (hc : chr b L p = 112) (h : mcX D tv x (rCl (chr b L) p R) post) : fX12_takesP D post := by
  have L120 := hT.1
  have ew : wsel (chr b L) p = if chr b L (p + 1) = 105 then 6 else 2 := by
    have w : wsel (chr b L) p = if chr b L p = 107 then 5 else if chr b L p = 108 then 4 else if chr b L p = 109 then 1 else if chr b L p = 112 then (if chr b L (p + 1) = 105 then 6 else 2) else if chr b L p = 119 then 0 else 3 := rfl
    rw [w, hc]; rfl
  unfold fX12_takesP
  refine JN_1 (fun v => NB (chr b L (p + 1)) v) (fun v hv => ⟨fun z => ?_, fun z => ?_⟩) (fun K hK => ?_)
  · have hw : wsel (chr b L) p = 2 := by rw [ew, if_neg (fun y => z ((NB_eq hv (K := 105) (by omega)).mpr y))]
    refine m_word (i := 2) (by omega) hT hp hpL (fun c1 c2 D1 f1 p1 l1 => ⟨fun z => absurd z (by decide), fun _ => ?_⟩) (fun c1 c2 D1 f1 p1 l1 => ⟨fun _ => ?_, fun z => absurd rfl z⟩) (fun c1 D1 f1 p1 => ⟨fun _ => ?_, fun z => absurd rfl z⟩)
    · have h := mcX_e rClw_2 (mcX_e (rCl_y hw c1) h)
      refine m_number (MT_n hT f1) p1 l1 (fun d D4 f4 p4 d4 => ⟨fun _ => ?_, fun z => absurd z (by decide)⟩) (fun d => ⟨fun z => absurd rfl z, fun _ => ?_⟩)
      · rintro D5 rfl
        have f14 := frN_t f1 f4
        rw [d4]
        exact mcX_1 (mcX_e (gNp_2 c2 d) h) (frV_s (frV_n f14) (by omega)) (by rw [sI_1, if_neg (by omega)]; exact p4) (ML_P (ML_n hM f14))
      · exact mcX_0 (mcX_e (gNp_1 c2 d) h) (frV_n f1) p1
    · exact mcX_0 (mcX_e (gNp_0 c2) (mcX_e rClw_2 (mcX_e (rCl_y hw c1) h))) (frV_n f1) p1
    · exact mcX_0 (mcX_e (rCl_n hw c1) h) (frV_n f1) p1
  · have hw : wsel (chr b L) p = 6 := by rw [ew, if_pos ((NB_eq hv (K := 105) (by omega)).mp z)]
    refine m_word (i := 6) (by omega) hT hp hpL (fun c1 c2 D1 f1 p1 l1 => ⟨fun z => absurd z (by decide), fun _ => ?_⟩) (fun c1 c2 D1 f1 p1 l1 => ⟨fun _ => ?_, fun z => absurd rfl z⟩) (fun c1 D1 f1 p1 => ⟨fun _ => ?_, fun z => absurd rfl z⟩)
    · have h := mcX_e rClw_6 (mcX_e (rCl_y hw c1) h)
      have hx1 : D1.1 33 33 = nI x := by rw [f1.2 _ _ (by omega)]; exact hx
      have tv1 : tvM D1 x = tv := by rw [← htv]; exact tvM_v (y := x) (frV_n f1)
      refine m_takesE (acc := R.2.flatten) (MT_n hT f1) p1 l1 hx1 hx6 (fun y v sv D4 f4 p4 d4 => ⟨fun _ => ⟨nI_in (c := 0) (by omega) (by omega), ?_⟩, fun z => absurd z (by decide)⟩) (fun y D4 f4 p4 => ⟨fun z => absurd rfl z, fun _ => ?_⟩)
      · rw [tv1] at sv
        have m4 := ML_w (ML_n hM f1) f4
        have e4 : D4.1 33 33 = nI x := by rw [f4.2 _ _ (by omega) (by omega) (by omega)]; exact hx1
        have z0 : (0 : Int32).toNatClampNeg = 0 := rfl
        rw [z0, d4, m4.2.1, e4, show (6 : Int32) = nI 6 from rfl, nI_mul, nI_add, nI_clamp (by omega)]
        refine ⟨nI_in (by omega) (by omega), bB_01, ?_⟩
        rintro D5 rfl D6 rfl
        have e31 : ∀ a v, (sI D4 51 a v).1 33 31 = nI R.2.length := fun a v => by rw [sI_1, if_neg (by omega)]; exact m4.2.1
        rw [e31, nI_1]
        have hv2 : ∀ s, ev tv ((rE (chr b L) 16 2 0 (p + (wds 6).length + 1) R.2.flatten).2.2.drop R.2.flatten.length) s = v :: s := by
          obtain ⟨c, s1, s2⟩ := sv
          rw [s1, List.drop_left]; exact s2
        exact mcX_1 (mcX_e (rPk_2 c2 y) h) (frV_s (frV_s (frV_t (frV_n f1) (frV_w f4)) (by omega)) (by omega)) (by rw [sI_1, if_neg (by omega), sI_1, if_neg (by omega)]; exact p4) (ML_pk m4 hv2)
      · exact mcX_0 (mcX_e (rPk_1 c2 y) h) (frV_t (frV_n f1) (frV_w f4)) p4
    · exact mcX_0 (mcX_e (rPk_0 c2) (mcX_e rClw_6 (mcX_e (rCl_y hw c1) h))) (frV_n f1) p1
    · exact mcX_0 (mcX_e (rCl_n hw c1) h) (frV_n f1) p1
  · obtain ⟨t1, t2, t3, t4, t5⟩ := hT
    rw [t4, hp, t3, nI_1, nI_add, nI_1]
    by_cases c : p + 1 < L
    · obtain ⟨b1, b2⟩ := t5 (p + 1) c
      refine ⟨fun z => absurd z (nI_ge c (by omega)), fun _ => ?_⟩
      rw [nI_clamp (by omega), show base + p + 1 = base + (p + 1) by omega, b1]
      refine ⟨nI_in (by omega) (by omega), hK _ ?_⟩
      unfold chr
      by_cases q : b (p + 1) < 128
      · rw [if_pos ⟨c, q⟩]; exact Or.inl ⟨q, s8_pos q⟩
      · rw [if_neg (fun z => q z.2)]; exact Or.inr ⟨rfl, s8_neg (by omega) b2⟩
    · refine ⟨fun _ => hK _ ?_, fun z => absurd (nI_le (by omega) (by omega)) z⟩
      unfold chr
      rw [if_neg (fun z => c z.1)]
      exact Or.inr ⟨rfl, by decide, by decide⟩
theorem m_clause {D : Dy} {base L p x : Nat} {b : Nat → Nat} {tv : Nat → Bool} {R : RS} {post : Int32 → Dy → Prop} (hT : MT D base b L) (hp : D.1 33 21 = nI p) (hpL : p ≤ L) (hx : D.1 33 33 = nI x) (hx6 : x < 6) (htv : tvM D x = tv) (hR : R.2.length ≤ 9) (hM : ML D tv R x) (h : mcX D tv x (rCl (chr b L) p R) post) : fX12_takesClause D post := by
  have L120 := hT.1
  unfold fX12_takesClause
  refine m_next1 hT hp (by omega) fun v hv => ?_
  have w : wsel (chr b L) p = if chr b L p = 107 then 5 else if chr b L p = 108 then 4 else if chr b L p = 109 then 1 else if chr b L p = 112 then (if chr b L (p + 1) = 105 then 6 else 2) else if chr b L p = 119 then 0 else 3 := rfl
  have nb : ∀ {K : Nat}, K < 128 → (v = nI K ↔ chr b L p = K) := fun hK => NB_eq hv hK
  refine JN_i (chr b L p ≠ 107 ∧ chr b L p ≠ 108 ∧ chr b L p ≠ 109 ∧ chr b L p ≠ 112 ∧ chr b L p ≠ 119) (fun ⟨q1, q2, q3, q4, q5⟩ => ?_) (fun K hK => ⟨fun z => ?_, fun z1 => ⟨fun z => ?_, fun z2 => ⟨fun z => ?_, fun z3 => ⟨fun z => ?_, fun z4 => ⟨fun z => ?_, fun z5 => hK ⟨fun y => z1 ((nb (K := 107) (by omega)).mpr y), fun y => z2 ((nb (K := 108) (by omega)).mpr y), fun y => z3 ((nb (K := 109) (by omega)).mpr y), fun y => z4 ((nb (K := 112) (by omega)).mpr y), fun y => z5 ((nb (K := 119) (by omega)).mpr y)⟩⟩⟩⟩⟩⟩)
  · have hw : wsel (chr b L) p = 3 := by rw [w, if_neg q1, if_neg q2, if_neg q3, if_neg q4, if_neg q5]
    refine m_word (i := 3) (by omega) hT hp hpL (fun c1 c2 D1 f1 p1 l1 => ⟨fun z => absurd z (by decide), fun _ => ?_⟩) (fun c1 c2 D1 f1 p1 l1 => ⟨fun _ => ?_, fun z => absurd rfl z⟩) (fun c1 D1 f1 p1 => ⟨fun _ => ?_, fun z => absurd rfl z⟩)
    · have h := mcX_e rClw_3 (mcX_e (rCl_y hw c1) h)
      refine m_number (MT_n hT f1) p1 l1 (fun d D4 f4 p4 d4 => ⟨fun _ => ?_, fun z => absurd z (by decide)⟩) (fun d => ⟨fun z => absurd rfl z, fun _ => ?_⟩)
      · rintro D5 rfl
        have f14 := frN_t f1 f4
        rw [d4]
        exact mcX_1 (mcX_e (gNp_2 c2 d) h) (frV_s (frV_n f14) (by omega)) (by rw [sI_1, if_neg (by omega)]; exact p4) (ML_Z (ML_n hM f14))
      · exact mcX_0 (mcX_e (gNp_1 c2 d) h) (frV_n f1) p1
    · exact mcX_0 (mcX_e (gNp_0 c2) (mcX_e rClw_3 (mcX_e (rCl_y hw c1) h))) (frV_n f1) p1
    · exact mcX_0 (mcX_e (rCl_n hw c1) h) (frV_n f1) p1
  · have c := (nb (K := 107) (by omega)).mp z
    exact m_kind hT hp hpL hM (by rw [w, c]; rfl) (mcX_01 h)
  · have c := (nb (K := 108) (by omega)).mp z
    have hw : wsel (chr b L) p = 4 := by rw [w, c]; rfl
    refine m_word (i := 4) (by omega) hT hp hpL (fun c1 c2 D1 f1 p1 l1 => ⟨fun z => absurd z (by decide), fun _ => ?_⟩) (fun c1 c2 D1 f1 p1 l1 => ⟨fun _ => ?_, fun z => absurd rfl z⟩) (fun c1 D1 f1 p1 => ⟨fun _ => ?_, fun z => absurd rfl z⟩)
    · have h := mcX_e rClw_4 (mcX_e (rCl_y hw c1) h)
      refine m_fig (lo := 1) (hi := 9) (MT_n hT f1) p1 l1 (by omega) (by omega) (fun g l2 D2 f2 p2 d2 => ⟨fun _ => ?_, fun z => absurd z (by decide)⟩) (fun g => ⟨fun z => absurd rfl z, fun _ => ?_⟩)
      · have f12 := frN_t f1 f2
        rintro D46 rfl
        rw [d2]
        exact mcX_1 (mcX_e (gFp_2 c2 g) h) (frV_s (frV_n f12) (by omega)) (by rw [sI_1, if_neg (by omega)]; exact p2) (ML_L (ML_n hM f12))
      · exact mcX_0 (mcX_e (gFp_1 c2 g) h) (frV_n f1) p1
    · exact mcX_0 (mcX_e (gFp_0 c2) (mcX_e rClw_4 (mcX_e (rCl_y hw c1) h))) (frV_n f1) p1
    · exact mcX_0 (mcX_e (rCl_n hw c1) h) (frV_n f1) p1
  · have c := (nb (K := 109) (by omega)).mp z
    exact m_mark hT hp hpL hM (by rw [w, c]; rfl) (mcX_01 h)
  · have c := (nb (K := 112) (by omega)).mp z
    exact m_p hT hp hpL hx hx6 htv hR hM c (mcX_01 h)
  · have c := (nb (K := 119) (by omega)).mp z
    exact m_worth hT hp hpL hM (by rw [w, c]; rfl) (mcX_01 h)
/-! where a clause ends -/
theorem gFp_L {b : Nat → Nat} {L lo hi p : Nat} {k : Nat → Nat → Rc} {R : RS} (hhi : hi ≤ 9) (hp : p ≤ L) (hk : ∀ f q, q ≤ L → (k f q).2.1 ≤ L) : (gFp (chr b L) lo hi p k R).2.1 ≤ L := by
  unfold gFp
  split
  · next c =>
    have := (chr_lt (b := b) (L := L) (p := p) (K := 32) (by omega) c).1
    split
    · next g =>
      have := (chr_lt (b := b) (L := L) (p := p + 1) (K := chr b L (p + 1)) (by omega) rfl).1
      exact hk _ _ this
    · exact this
  · exact hp
theorem gNp_L {b : Nat → Nat} {L p : Nat} {k : Nat → Nat → Rc} {R : RS} (hp : p ≤ L) (hk : ∀ f q, q ≤ L → (k f q).2.1 ≤ L) : (gNp (chr b L) p k R).2.1 ≤ L := by
  unfold gNp
  split
  · next c =>
    have := (chr_lt (b := b) (L := L) (p := p) (K := 32) (by omega) c).1
    split
    · exact hk _ _ (nmF_L 3 _ _ this)
    · exact this
  · exact hp
theorem rCl_L {b : Nat → Nat} {L p : Nat} {R : RS} (hp : p ≤ L) : (rCl (chr b L) p R).2.1 ≤ L := by
  have w7 := wsel_lt (ch := chr b L) (p := p)
  have hl := lc_L (b := b) (wds (wsel (chr b L) p)) p (wds_128 _ w7) hp
  unfold rCl
  split
  · next c =>
    rw [c] at hl
    generalize p + (wds (wsel (chr b L) p)).length = q at hl
    generalize wsel (chr b L) p = w at w7
    have : w = 0 ∨ w = 1 ∨ w = 2 ∨ w = 3 ∨ w = 4 ∨ w = 5 ∨ w = 6 := by omega
    rcases this with rfl | rfl | rfl | rfl | rfl | rfl | rfl
    · exact gFp_L (by omega) hl fun f q hq => gNp_L hq fun _ _ h => h
    · exact gFp_L (by omega) hl fun f q hq => gNp_L hq fun _ _ h => h
    · exact gNp_L hl fun _ _ h => h
    · exact gNp_L hl fun _ _ h => h
    · exact gFp_L (by omega) hl fun _ _ h => h
    · exact gFp_L (by omega) hl fun f q hq => gFp_L (by omega) hq fun f q hq => gNp_L hq fun _ _ h => h
    · show (rPk (chr b L) q R).2.1 ≤ L
      unfold rPk
      split
      · next c2 =>
        have := (chr_lt (b := b) (L := L) (p := q) (K := 32) (by omega) c2).1
        have := (rE_pos (b := b) 16 2 0 (q + 1) R.2.flatten this).2.1
        split
        · exact this
        · exact this
      · exact hl
  · exact hl
theorem gFp_k {ch : Nat → Nat} {lo hi p n : Nat} {k : Nat → Nat → Rc} {R : RS} (hR : R.2.length ≤ n) (hk : ∀ f q, (k f q).2.2.2.length ≤ n) : (gFp ch lo hi p k R).2.2.2.length ≤ n := by
  unfold gFp
  split
  · split
    · exact hk _ _
    · exact hR
  · exact hR
theorem gNp_k {ch : Nat → Nat} {p n : Nat} {k : Nat → Nat → Rc} {R : RS} (hR : R.2.length ≤ n) (hk : ∀ f q, (k f q).2.2.2.length ≤ n) : (gNp ch p k R).2.2.2.length ≤ n := by
  unfold gNp
  split
  · split
    · exact hk _ _
    · exact hR
  · exact hR
theorem rCl_k {ch : Nat → Nat} {p : Nat} {R : RS} : (rCl ch p R).2.2.2.length ≤ R.2.length + 1 := by
  have w7 := wsel_lt (ch := ch) (p := p)
  have r1 : R.2.length ≤ R.2.length + 1 := Nat.le_succ _
  unfold rCl
  split
  · generalize p + (wds (wsel ch p)).length = q
    generalize wsel ch p = w at w7
    have : w = 0 ∨ w = 1 ∨ w = 2 ∨ w = 3 ∨ w = 4 ∨ w = 5 ∨ w = 6 := by omega
    rcases this with rfl | rfl | rfl | rfl | rfl | rfl | rfl
    · exact gFp_k r1 fun f q => gNp_k r1 fun _ _ => r1
    · exact gFp_k r1 fun f q => gNp_k r1 fun _ _ => r1
    · exact gNp_k r1 fun _ _ => r1
    · exact gNp_k r1 fun _ _ => r1
    · exact gFp_k r1 fun _ _ => r1
    · exact gFp_k r1 fun f q => gFp_k r1 fun f q => gNp_k r1 fun _ _ => r1
    · show (rPk ch q R).2.2.2.length ≤ _
      unfold rPk
      split
      · split
        · show (R.2 ++ [_]).length ≤ _
          rw [List.length_append]; exact Nat.le_refl _
        · exact r1
      · exact r1
  · exact r1
end
