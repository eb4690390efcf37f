section
/-! CLAUSES: the other's reader of a whole text; it listens -/
def frU (x : Nat) (D D' : Dy) : Prop := D'.2 = D.2 ∧ ∀ b y, ¬ (b = 33 ∧ (y = 19 ∨ y = 20 ∨ y = 21 ∨ y = 22 ∨ y = 23 ∨ y = 28 ∨ y = 29 ∨ y = 30 ∨ y = 31 ∨ y = 36 ∨ y = 37 ∨ y = 38)) → ¬ (47 ≤ b ∧ b ≤ 50) → b ≠ 52 → b ≠ 53 → ¬ (b = 51 ∧ y % 6 = x) → D'.1 b y = D.1 b y
theorem frU_r {x : Nat} {D : Dy} : frU x D D := ⟨rfl, fun _ _ _ _ _ _ _ => rfl⟩
theorem frU_v {x : Nat} {D D' D'' : Dy} (h : frU x D D') (h' : frV x D' D'') : frU x D D'' := ⟨h'.1.trans h.1, fun b y h1 h2 h3 h4 h5 => (h'.2 b y (by omega) h2 h3 h4 h5).trans (h.2 b y h1 h2 h3 h4 h5)⟩
theorem frU_s {x : Nat} {D D' : Dy} {a k : Nat} {v : Int32} (h : frU x D D') (ha : (a = 33 ∧ (k = 19 ∨ k = 20 ∨ k = 21 ∨ k = 22 ∨ k = 28 ∨ k = 29 ∨ k = 30 ∨ k = 31)) ∨ (47 ≤ a ∧ a ≤ 50)) : frU x D (sI D' a k v) := ⟨h.1, fun b y h1 h2 h3 h4 h5 => by rw [sI_1, if_neg (by omega)]; exact h.2 b y h1 h2 h3 h4 h5⟩
theorem MT_22 {D : Dy} {base L : Nat} {b : Nat → Nat} {v : Int32} (h : MT D base b L) : MT (sI D 33 22 v) base b L := by
  obtain ⟨t1, t2, t3, t4, t5⟩ := h
  exact ⟨t1, t2, by rw [sI_1, if_neg (by omega)]; exact t3, by rw [sI_1, if_neg (by omega)]; exact t4, fun i hi => by rw [sI_1, if_neg (by omega)]; exact t5 i hi⟩
theorem ML_22 {D : Dy} {tv : Nat → Bool} {R : RS} {x : Nat} {v : Int32} (h : ML D tv R x) : ML (sI D 33 22 v) tv R x := by
  obtain ⟨⟨h1, h2, h3, h4, h5, h6⟩, h7, h8⟩ := h
  have e : ∀ a k, ¬ (a = 33 ∧ k = 22) → (sI D 33 22 v).1 a k = D.1 a k := fun a k z => by rw [sI_1, if_neg z]
  exact ⟨⟨fun i hi => by rw [e _ _ (by omega)]; exact h1 i hi, fun i hi => by rw [e _ _ (by omega)]; exact h2 i hi, by rw [e _ _ (by omega)]; exact h3, by rw [e _ _ (by omega)]; exact h4, by rw [e _ _ (by omega)]; exact h5, fun k hk => by rw [e _ _ (by omega), e _ _ (by omega)]; exact h6 k hk⟩, by rw [e _ _ (by omega)]; exact h7, fun j hj => by rw [e _ _ (by omega)]; exact h8 j hj⟩
theorem m_goes {D : Dy} {w L x : Nat} {b : Nat → Nat} {tv : Nat → Bool} {post : Int32 → Dy → Prop} (hw : w < 11) (hL : L ≤ 120) (h45 : D.1 45 w = nI L) (hb : ∀ i, i < L → D.1 44 (120 * w + i) = s8 (b i) ∧ b i < 256) (hx : D.1 33 33 = nI x) (hx6 : x < 6) (htv : tvM D x = tv) (h : ∀ D', frU x D D' → D'.1 33 21 = nI (rTx (chr b L) L).1.2.1 → (rTx (chr b L) L).1.2.1 ≤ L → ((rTx (chr b L) L).1.1 = true → ML D' tv (rTx (chr b L) L).1.2.2 x ∧ D'.1 33 22 = nI (rTx (chr b L) L).2) → post (if (rTx (chr b L) L).1.1 = true then 1 else 0) D') : fX12_goes (nI w) D post := by
  unfold fX12_goes
  rw [show (120 : Int32) * nI w = nI (120 * w) from nI_mul 120 w, nI_clamp (n := w) (by omega)]
  rintro D1 rfl
  refine ⟨nI_in hw (by omega), ?_⟩
  rintro D3 rfl D5 rfl D7 rfl D9 rfl D11 rfl D13 rfl D15 e15
  have f15 : frU x D D15 := by
    rw [e15]
    exact frU_s (frU_s (frU_s (frU_s (frU_s (frU_s (frU_s (frU_s frU_r (by omega)) (by omega)) (by omega)) (by omega)) (by omega)) (by omega)) (by omega)) (by omega)
  have a19 : D15.1 33 19 = nI (120 * w) := by rw [e15]; simp [sI]
  have a20 : D15.1 33 20 = nI L := by rw [e15]; simp [sI, h45]
  have a21 : D15.1 33 21 = nI 0 := by rw [e15]; simp [sI, nI_0]
  have a22 : D15.1 33 22 = nI 0 := by rw [e15]; simp [sI, nI_0]
  have a28 : D15.1 33 28 = nI 0 := by rw [e15]; simp [sI, nI_0]
  have a29 : D15.1 33 29 = nI 0 := by rw [e15]; simp [sI, nI_0]
  have a30 : D15.1 33 30 = nI 9 := by rw [e15]; simp [sI]; rfl
  have a31 : D15.1 33 31 = nI 0 := by rw [e15]; simp [sI, nI_0]
  clear e15
  refine lp2_I 6 (fun k v D' => v = nI k ∧ (D'.2 = D15.2 ∧ ∀ b, b ≠ 47 → D'.1 b = D15.1 b) ∧ ∀ i, i < k → D'.1 47 i = nI 10) (by omega) (fun k hk v D' hv rec hr => ?_) ⟨rfl, ⟨rfl, fun _ _ => rfl⟩, fun i hi => absurd hi (Nat.not_lt_zero _)⟩
  obtain ⟨rfl, ⟨q1, q2⟩, q3⟩ := hv
  refine ⟨fun z => ?_, fun z => ?_⟩
  · have k6 : 6 ≤ k := (leI' (a := 6) (b := k) (by omega) (by omega)).mp z
    obtain rfl : k = 6 := by omega
    refine lp2_I 8 (fun k v D2 => v = nI k ∧ (D2.2 = D15.2 ∧ ∀ b, b ≠ 47 → b ≠ 48 → D2.1 b = D15.1 b) ∧ (∀ i, i < 6 → D2.1 47 i = nI 10) ∧ ∀ i, i < k → D2.1 48 i = nI 0) (by omega) (fun k hk v D2 hv rec hr => ?_) ⟨rfl, ⟨q1, fun b h1 _ => q2 b h1⟩, q3, fun i hi => absurd hi (Nat.not_lt_zero _)⟩
    obtain ⟨rfl, ⟨u1, u2⟩, u3, u4⟩ := hv
    refine ⟨fun z => ?_, fun z => ?_⟩
    · have k8 : 8 ≤ k := (leI' (a := 8) (b := k) (by omega) (by omega)).mp z
      obtain rfl : k = 8 := by omega
      refine lp2_I 3 (fun k v D3 => v = nI k ∧ (D3.2 = D15.2 ∧ ∀ b, ¬ (47 ≤ b ∧ b ≤ 50) → D3.1 b = D15.1 b) ∧ (∀ i, i < 6 → D3.1 47 i = nI 10) ∧ (∀ i, i < 8 → D3.1 48 i = nI 0) ∧ ∀ i, i < k → D3.1 49 i = nI 0 ∧ D3.1 50 i = nI 1) (by omega) (fun k hk v D3 hv rec hr => ?_) ⟨rfl, ⟨u1, fun b h1 => u2 b (by omega) (by omega)⟩, u3, u4, fun i hi => absurd hi (Nat.not_lt_zero _)⟩
      obtain ⟨rfl, ⟨w1, w2⟩, w3, w4, w5⟩ := hv
      refine ⟨fun z => ?_, fun z => ?_⟩
      · have k3 : 3 ≤ k := (leI' (a := 3) (b := k) (by omega) (by omega)).mp z
        obtain rfl : k = 3 := by omega
        have e33 : D3.1 33 = D15.1 33 := w2 33 (by omega)
        have f3 : frU x D D3 := ⟨w1.trans f15.1, fun b y h1 h2 h3 h4 h5 => by rw [w2 b h2]; exact f15.2 b y h1 h2 h3 h4 h5⟩
        have T3 : MT D3 (120 * w) b L := ⟨hL, by omega, by rw [e33]; exact a19, by rw [e33]; exact a20, fun i hi => by rw [f3.2 _ _ (by omega) (by omega) (by omega) (by omega) (by omega)]; exact hb i hi⟩
        have M3 : ML D3 tv (md0, []) x := ⟨⟨w3, w4, by rw [e33]; exact a28, by rw [e33]; exact a29, by rw [e33]; exact a30, w5⟩, by rw [e33]; exact a31, fun j hj => absurd hj (Nat.not_lt_zero _)⟩
        refine lp1_I 9 (fun c D' => ∃ p R, frU x D D' ∧ MT D' (120 * w) b L ∧ D'.1 33 21 = nI p ∧ p ≤ L ∧ ML D' tv R x ∧ R.2.length ≤ c ∧ D'.1 33 22 = nI c ∧ rCls (chr b L) L (10 - c) p R = rTx (chr b L) L) (by omega) (fun c hc D' hv rec hr => ?_) ⟨0, (md0, []), f3, T3, by rw [e33]; exact a21, Nat.zero_le _, M3, Nat.le_refl _, by rw [e33]; exact a22, rfl⟩
        obtain ⟨p, R, f1, T1, p1, pL, M1, R1, e22, er⟩ := hv
        obtain ⟨k, ek⟩ : ∃ k, 10 - c = k + 1 := ⟨9 - c, by omega⟩
        rw [ek, rCls_s] at er
        have hx1 : D'.1 33 33 = nI x := by rw [f1.2 _ _ (by omega) (by omega) (by omega) (by omega) (by omega)]; exact hx
        have tv1 : tvM D' x = tv := by
          rw [← htv]
          exact tvM_g (f1.2 _ _ (by omega) (by omega) (by omega) (by omega) (by omega)) (f1.2 _ _ (by omega) (by omega) (by omega) (by omega) (by omega)) (f1.2 _ _ (by omega) (by omega) (by omega) (by omega) (by omega))
        refine m_clause T1 p1 pL hx1 hx6 tv1 (by omega) M1 fun D1 f2 p2 g2 => ?_
        have l2 := rCl_L (b := b) (R := R) pL
        have k2 := rCl_k (ch := chr b L) (p := p) (R := R)
        have f4 := frU_v f1 f2
        by_cases c1 : (rCl (chr b L) p R).1 = true
        · rw [if_pos c1] at er ⊢
          have M2 := g2 c1
          refine ⟨fun _ => ?_, fun z => absurd z (by decide)⟩
          have e22' : D1.1 33 22 = nI c := by rw [f2.2 _ _ (by omega) (by omega) (by omega) (by omega) (by omega)]; exact e22
          rintro D42 rfl
          rw [e22', nI_1]
          have q21 : (sI D1 33 22 (nI (c + 1))).1 33 21 = nI (rCl (chr b L) p R).2.1 := by rw [sI_1, if_neg (by omega)]; exact p2
          have T4 := MT_22 (v := nI (c + 1)) (MT_v T1 f2)
          have q20 : (sI D1 33 22 (nI (c + 1))).1 33 20 = nI L := T4.2.2.2.1
          have q22 : (sI D1 33 22 (nI (c + 1))).1 33 22 = nI (c + 1) := by rw [sI_1, if_pos ⟨rfl, rfl⟩]
          have f5 := frU_s (a := 33) (k := 22) (v := nI (c + 1)) f4 (by omega)
          have M4 := ML_22 (v := nI (c + 1)) M2
          generalize sI D1 33 22 (nI (c + 1)) = D42 at *
          rw [q21, q20, q22]
          refine ⟨fun z => ?_, fun z => ?_⟩
          · have ne : (rCl (chr b L) p R).2.1 ≠ L := fun y => z (by rw [y])
            rw [if_neg ne] at er
            refine ⟨fun z2 => ?_, fun z2 => ?_⟩
            · have c9 : c + 1 = 10 := (nI_eq (b := 10) (by omega) (by omega)).mp z2
              rw [if_pos (by omega)] at er
              rw [← er] at h
              exact h _ f5 q21 l2 (fun z => by cases z)
            · have c9 : c + 1 ≠ 10 := fun y => z2 (by rw [y]; rfl)
              rw [if_neg (by omega)] at er
              refine m_tk (K := 59) T4 q21 l2 (by omega) (fun c2 l3 D5 f6 p6 => ⟨fun _ => ?_, fun z => absurd z (by decide)⟩) (fun c2 => ⟨fun z => absurd rfl z, fun _ => ?_⟩)
              · rw [if_pos c2] at er
                refine hr (by omega) _ ⟨_, _, frU_v f5 (frV_n f6), MT_n T4 f6, p6, l3, ML_n M4 f6, by omega, by rw [f6.2 _ _ (by omega)]; exact q22, ?_⟩
                rw [show 10 - (c + 1) = k by omega]
                exact er
              · rw [if_neg c2] at er
                rw [← er] at h
                exact h _ f5 q21 l2 (fun z => by cases z)
          · have eq : (rCl (chr b L) p R).2.1 = L := (nI_eq (by omega) (by omega)).mp z
            rw [if_pos eq] at er
            rw [← er] at h
            exact h _ f5 q21 l2 (fun _ => ⟨M4, by rw [q22]; congr 1; show c + 1 = 10 - k; omega⟩)
        · rw [if_neg c1] at er ⊢
          refine ⟨fun z => absurd rfl z, fun _ => ?_⟩
          rw [← er] at h
          exact h _ f4 p2 l2 (fun z => by cases z)
      · have k3 : k < 3 := Nat.lt_of_not_le fun y => z (nI_le y (by omega))
        rw [nI_clamp (by omega), nI_1]
        refine ⟨nI_in k3 (by omega), ?_⟩
        rintro D4 rfl
        refine ⟨nI_in k3 (by omega), ?_⟩
        rintro D5 rfl v2 rfl
        refine hr (by omega) _ _ ⟨rfl, ⟨w1, fun b hb => by funext y; rw [sI_1, if_neg (by omega), sI_1, if_neg (by omega)]; exact congrFun (w2 b hb) y⟩, fun i hi => by rw [sI_1, if_neg (by omega), sI_1, if_neg (by omega)]; exact w3 i hi, fun i hi => by rw [sI_1, if_neg (by omega), sI_1, if_neg (by omega)]; exact w4 i hi, fun i hi => ?_⟩
        rw [sI_1, if_neg (by omega), sI_1, sI_1]
        by_cases e : i = k
        · rw [if_pos ⟨rfl, e⟩, if_pos ⟨rfl, e⟩]; exact ⟨rfl, rfl⟩
        · rw [if_neg (fun z => e z.2), if_neg (fun z => e z.2), sI_1, if_neg (by omega)]; exact w5 i (by omega)
    · have k8 : k < 8 := Nat.lt_of_not_le fun y => z (nI_le y (by omega))
      rw [nI_clamp (by omega), nI_1]
      refine ⟨nI_in k8 (by omega), ?_⟩
      rintro D4 rfl v2 rfl
      refine hr (by omega) _ _ ⟨rfl, ⟨u1, fun b hb hb2 => by funext y; rw [sI_1, if_neg (by omega)]; exact congrFun (u2 b hb hb2) y⟩, fun i hi => by rw [sI_1, if_neg (by omega)]; exact u3 i hi, fun i hi => ?_⟩
      rw [sI_1]
      by_cases e : i = k
      · rw [if_pos ⟨rfl, e⟩]; rfl
      · rw [if_neg (fun z => e z.2)]; exact u4 i (by omega)
  · have k6 : k < 6 := Nat.lt_of_not_le fun y => z (nI_le y (by omega))
    rw [nI_clamp (by omega), nI_1]
    refine ⟨nI_in k6 (by omega), ?_⟩
    rintro D4 rfl v2 rfl
    refine hr (by omega) _ _ ⟨rfl, ⟨q1, fun b hb => by funext y; rw [sI_1, if_neg (by omega)]; exact congrFun (q2 b hb) y⟩, fun i hi => ?_⟩
    rw [sI_1]
    by_cases e : i = k
    · rw [if_pos ⟨rfl, e⟩]; rfl
    · rw [if_neg (fun z => e z.2)]; exact q3 i (by omega)
/-- all but what it writes as it listens is as it was -/
def frQ (D D' : Dy) : Prop := D'.2 = D.2 ∧ ∀ b y, ¬ (b = 33 ∧ (y = 19 ∨ y = 20 ∨ y = 21 ∨ y = 22 ∨ y = 23 ∨ y = 28 ∨ y = 29 ∨ y = 30 ∨ y = 31 ∨ y = 33 ∨ y = 36 ∨ y = 37 ∨ y = 38)) → ¬ (47 ≤ b ∧ b ≤ 53) → D'.1 b y = D.1 b y
theorem frQ_r {D : Dy} : frQ D D := ⟨rfl, fun _ _ _ _ => rfl⟩
theorem frQ_t {D D' D'' : Dy} (h : frQ D D') (h' : frQ D' D'') : frQ D D'' := ⟨h'.1.trans h.1, fun b y h1 h2 => (h'.2 b y h1 h2).trans (h.2 b y h1 h2)⟩
theorem frU_Q {x : Nat} {D D' : Dy} (h : frU x D D') : frQ D D' := ⟨h.1, fun b y h1 h2 => h.2 b y (by omega) (by omega) (by omega) (by omega) (by omega)⟩
/-- what is told, as the other holds it once it has listened -/
def MLA (D : Dy) (tv : Nat → Nat → Bool) (R : RS) : Prop := MM D R.1 ∧ D.1 33 31 = nI R.2.length ∧ ∀ x, x < 6 → ∀ j, j < R.2.length → ∃ v, D.1 51 (6 * j + x) = bB v ∧ ∀ s, ev (tv x) (R.2.getD j []) s = v :: s
theorem m_listen {D : Dy} {w L : Nat} {b : Nat → Nat} {post : Int32 → Dy → Prop} (hw : w < 10) (hL : L ≤ 120) (h45 : D.1 45 w = nI L) (hb : ∀ i, i < L → D.1 44 (120 * w + i) = s8 (b i) ∧ b i < 256) (ok : (rTx (chr b L) L).1.1 = true) (h : ∀ D', frQ D D' → MLA D' (tvM D) (rTx (chr b L) L).1.2.2 → post 1 D') : fX12_listen (nI w) D post := by
  unfold fX12_listen
  generalize hR : (rTx (chr b L) L).1.2.2 = R at h
  refine lp3_I 6 (fun k v1 v2 D' => v2 = nI k ∧ v1 = 1 ∧ frQ D D' ∧ (0 < k → MM D' R.1 ∧ D'.1 33 31 = nI R.2.length) ∧ ∀ x, x < k → ∀ j, j < R.2.length → ∃ v, D'.1 51 (6 * j + x) = bB v ∧ ∀ s, ev (tvM D x) (R.2.getD j []) s = v :: s) (by omega) (fun k hk v1 v2 D' hv rec hr => ?_) ⟨rfl, rfl, frQ_r, fun z => absurd z (Nat.lt_irrefl _), fun x hx => absurd hx (Nat.not_lt_zero _)⟩
  obtain ⟨rfl, rfl, f1, m1, s1⟩ := hv
  refine ⟨fun z => ?_, fun z => ?_⟩
  · have k6 : 6 ≤ k := (leI' (a := 6) (b := k) (by omega) (by omega)).mp z
    obtain rfl : k = 6 := by omega
    exact ⟨Or.inr rfl, h D' f1 ⟨(m1 (by omega)).1, (m1 (by omega)).2, s1⟩⟩
  · have k6 : k < 6 := Nat.lt_of_not_le fun y => z (nI_le y (by omega))
    rintro D7 rfl
    have e7 : ∀ a y, ¬ (a = 33 ∧ y = 33) → (sI D' 33 33 (nI k)).1 a y = D'.1 a y := fun a y z => by rw [sI_1, if_neg z]
    refine m_goes (x := k) (tv := tvM D k) (b := b) (L := L) (by omega) hL ?_ (fun i hi => ?_) (by rw [sI_1, if_pos ⟨rfl, rfl⟩]) k6 ?_ (fun D2 f2 _ _ g2 => ?_)
    · rw [e7 _ _ (by omega), f1.2 _ _ (by omega) (by omega)]; exact h45
    · rw [e7 _ _ (by omega), f1.2 _ _ (by omega) (by omega)]; exact hb i hi
    · exact tvM_g (by rw [e7 _ _ (by omega), f1.2 _ _ (by omega) (by omega)]) (by rw [e7 _ _ (by omega), f1.2 _ _ (by omega) (by omega)]) (by rw [e7 _ _ (by omega), f1.2 _ _ (by omega) (by omega)])
    · obtain ⟨⟨g3, g4, g5⟩, -⟩ := g2 ok
      rw [hR] at g3 g4 g5
      rw [if_pos ok, nI_1]
      rintro v15 rfl
      refine hr k6 _ _ _ ⟨rfl, rfl, ⟨f2.1.trans f1.1, fun b y h1 h2 => ?_⟩, fun _ => ⟨g3, g4⟩, fun x hx j hj => ?_⟩
      · rw [f2.2 _ _ (by omega) (by omega) (by omega) (by omega) (by omega), e7 _ _ (by omega)]; exact f1.2 b y h1 h2
      · by_cases e : x = k
        · subst e; exact g5 j hj
        · rw [f2.2 _ _ (by omega) (by omega) (by omega) (by omega) (by omega), e7 _ _ (by omega)]; exact s1 x (by omega) j hj
end
