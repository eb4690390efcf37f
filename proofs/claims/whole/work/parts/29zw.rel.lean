section
/-! WHAT STANDS BETWEEN THE TWO: its pieces, and what leaves them -/
theorem RG_e {D D' : Dy} {n : Nat} (h : RG D n) (e : ∀ b y, (b = 1 ∧ y = 3) ∨ (b = 33 ∧ y = 0) ∨ (2 ≤ b ∧ b ≤ 4) ∨ (34 ≤ b ∧ b ≤ 36) → D'.1 b y = D.1 b y) : RG D' n :=
  RG_c h (e _ _ (by omega)) (e _ _ (by omega)) fun b hb => funext fun y => e b y (by omega)
theorem RT_e {D D' : Dy} {k : Nat} (h : RT D k) (e : ∀ b y, (b = 0 ∧ y = 3) ∨ (b = 33 ∧ y = 1) ∨ b = 5 ∨ b = 6 ∨ b = 37 → D'.1 b y = D.1 b y) : RT D' k := by
  obtain ⟨h1, h2, h3, h4, h5⟩ := h
  have e5 : D'.1 5 = D.1 5 := funext fun y => e 5 y (by omega)
  refine ⟨h1, by rw [e _ _ (by omega)]; exact h2, by rw [e _ _ (by omega)]; exact h3, fun i hi => by rw [e 37 _ (by omega), e5]; exact h4 i hi, fun j hj => by rw [e 6 _ (by omega), e5]; exact h5 j hj⟩
theorem RC_e {D D' : Dy} {n k c : Nat} (h : RC D n k c) (e : ∀ b y, (b = 7 ∧ y = 4) ∨ (b = 33 ∧ y = 2) ∨ (8 ≤ b ∧ b ≤ 11) ∨ (38 ≤ b ∧ b ≤ 41) → D'.1 b y = D.1 b y) : RC D' n k c := by
  obtain ⟨h1, h2, h3, h4⟩ := h
  refine ⟨h1, by rw [e _ _ (by omega)]; exact h2, by rw [e _ _ (by omega)]; exact h3, fun i hi => ?_⟩
  rw [e 38 _ (by omega), e 8 _ (by omega), e 39 _ (by omega), e 9 _ (by omega), e 41 _ (by omega), e 11 _ (by omega), e 10 _ (by omega), e 40 _ (by omega)]
  exact h4 i hi
theorem RC_k {D : Dy} {n k k' c : Nat} (h : RC D n k c) (hk : k ≤ k') : RC D n k' c := by
  obtain ⟨h1, h2, h3, h4⟩ := h
  refine ⟨h1, h2, h3, fun i hi => ?_⟩
  obtain ⟨g1, ⟨w, hw, g2⟩, g3⟩ := h4 i hi
  exact ⟨g1, ⟨w, by omega, g2⟩, g3⟩
theorem RA_e {D D' : Dy} {n a : Nat} (h : RA D n a) (e : ∀ b y, (b = 0 ∧ y = 11) ∨ (b = 33 ∧ y = 3) ∨ b = 21 ∨ b = 42 → D'.1 b y = D.1 b y) : RA D' n a := by
  obtain ⟨h1, h2, h3, h4⟩ := h
  refine ⟨h1, by rw [e _ _ (by omega)]; exact h2, by rw [e _ _ (by omega)]; exact h3, fun i hi => ?_⟩
  rw [e 42 _ (by omega), e 21 _ (by omega)]
  exact h4 i hi
theorem RR_e {D D' : Dy} (h : RR D) (e : ∀ b y, (b = 22 ∧ y = 1) ∨ (b = 33 ∧ y = 48) ∨ b = 23 ∨ b = 60 → D'.1 b y = D.1 b y) : RR D' := by
  obtain ⟨r, h1, h2, h3, h4⟩ := h
  refine ⟨r, h1, by rw [e _ _ (by omega)]; exact h2, by rw [e _ _ (by omega)]; exact h3, fun i hi h20 => ?_⟩
  rw [e 23 _ (by omega), e 60 _ (by omega)]
  exact h4 i hi h20
theorem RP_e {D D' : Dy} (h : RP D) (e : ∀ b y, b = 24 ∨ b = 25 ∨ b = 61 ∨ b = 62 → D'.1 b y = D.1 b y) (e2 : ∀ b y, b = 63 ∨ (27 ≤ b ∧ b ≤ 32) → D'.2 b y = D.2 b y) : RP D' := fun i hi => by
  obtain ⟨h1, h2, z, h3, h4, h5, h6⟩ := h i hi
  rw [e 61 _ (by omega), e 24 _ (by omega), e 62 _ (by omega), e 25 _ (by omega)]
  exact ⟨h1, h2, z, h3, h4, h5, fun j hj => by rw [e2 63 _ (by omega), e2 (27 + i) _ (by omega)]; exact h6 j hj⟩
theorem RX_e {D D' : Dy} {z : Nat} (h : RX D z) (e : ∀ b y, (b = 0 ∧ y = 6) ∨ (b = 33 ∧ y = 14) ∨ b = 12 ∨ (b = 44 ∧ 1200 ≤ y) → D'.1 b y = D.1 b y) : RX D' z := by
  obtain ⟨h1, h2, h3, h4⟩ := h
  refine ⟨h1, by rw [e _ _ (by omega)]; exact h2, by rw [e _ _ (by omega)]; exact h3, fun i hi => ?_⟩
  rw [e 12 _ (by omega), e 44 _ (by omega)]
  exact h4 i hi
theorem MB_e {mdl : Nat → Option (Nat × Nat)} {T m : Nat} {D D' : Dy} (h : MB mdl T D m) (e : ∀ b y, (b = 0 ∧ y = 8) ∨ (b = 33 ∧ y = 13) ∨ b = 43 ∨ b = 46 ∨ 65 ≤ b → D'.1 b y = D.1 b y) : MB mdl T D' m :=
  MB_new h (Nat.le_refl _) (by rw [e _ _ (by omega)]; exact h.2.1) (by rw [e _ _ (by omega)]; exact h.2.2.1) (fun i _ => ⟨e _ _ (by omega), e _ _ (by omega)⟩) fun b y hb _ => e _ _ (by omega)
theorem MX_e {mdl : Nat → Option (Nat × Nat)} {T m : Nat} {D D' : Dy} (hB : MB mdl T D m) (h : MX mdl D m) (e : ∀ b y, (b = 44 ∧ y < 1200) ∨ b = 45 ∨ 65 ≤ b → D'.1 b y = D.1 b y) : MX mdl D' m := fun i hi => by
  obtain ⟨t, kd, L, b, R, e', q⟩ := h i hi
  have lt := MB_T hB hi e'
  have m10 := hB.1
  exact ⟨t, kd, L, b, R, e', TX_c q (e _ _ (by omega)) (fun x hx => e _ _ (by omega)) fun a y ha => e _ _ (by omega)⟩
theorem rqL_w {n : Nat} {W S O U W' S' O' U' : Nat → Nat} {who : Nat} : ∀ c, (∀ i, i < c → W' i = W i ∧ (W i = who → S' i = S i ∧ O' i = O i ∧ U' i = U i)) → rqL n W' S' O' U' who c = rqL n W S O U who c
  | 0, _ => rfl
  | c + 1, h => by
    obtain ⟨h1, h2⟩ := h c (by omega)
    have ih := rqL_w (n := n) c fun i hi => h i (by omega)
    unfold rqL
    rw [ih, h1]
    by_cases q : W c = who
    · obtain ⟨q1, q2, q3⟩ := h2 q
      rw [q1, q2, q3]
    · rw [if_neg (fun z => q z.1), if_neg (fun z => q z.1)]
theorem rqL_m {n : Nat} {W S O U : Nat → Nat} {who c : Nat} : ∀ d, (∀ i, c ≤ i → i < c + d → W i ≠ who) → rqL n W S O U who (c + d) = rqL n W S O U who c
  | 0, _ => rfl
  | d + 1, h => by
    show (if W (c + d) = who ∧ U (c + d) = 0 then _ else rqL n W S O U who (c + d)) = _
    rw [if_neg (fun z => h (c + d) (by omega) (by omega) z.1)]
    exact rqL_m d fun i h1 h2 => h i h1 (by omega)
theorem RK_w {D D' : Dy} {n c c' : Nat} (h : RK D n c) (e : ∀ b y, (b = 33 ∧ y = 46) ∨ b = 56 ∨ b = 57 → D'.1 b y = D.1 b y) (e2 : ∀ w, w < 16 → D'.1 58 w = nI 0 ∨ (D'.1 58 w = D.1 58 w ∧ rqD D' n c' w = rqD D n c w)) : RK D' n c' := by
  obtain ⟨h1, h2⟩ := h
  unfold RK
  rw [e 33 46 (by omega)]
  refine ⟨h1, fun z => ⟨PLs_c (h2 z).1 fun x => e _ _ (by omega), fun w hw => ?_⟩⟩
  rcases e2 w hw with q | ⟨q1, q2⟩
  · exact Or.inl q
  · rw [q1]
    refine ((h2 z).2 w hw).imp id fun y => ⟨y.1, fun v hv => ?_⟩
    rw [e 57 _ (by omega), y.2 v hv]
    unfold AG
    rw [q2]
theorem RK_e {D D' : Dy} {n c : Nat} (h : RK D n c) (e : ∀ b y, (b = 33 ∧ y = 46) ∨ (56 ≤ b ∧ b ≤ 58) ∨ (8 ≤ b ∧ b ≤ 11) → D'.1 b y = D.1 b y) : RK D' n c :=
  RK_w h (fun b y hb => e _ _ (by omega)) fun w _ => Or.inr ⟨e _ _ (by omega), rqD_c fun b i hb _ => e _ _ (by omega)⟩
theorem RK_n {D D' : Dy} {n c c' : Nat} (h : RK D n c) (e : D'.1 33 46 = D.1 33 46) (hn : n ≤ 6) : RK D' (n + 1) c' := by
  obtain ⟨h1, -⟩ := h
  unfold RK
  rw [e]
  refine ⟨?_, fun z => ?_⟩
  · rcases h1 with h | ⟨q, hq, h⟩
    · exact Or.inl h
    · exact Or.inr ⟨q, by omega, h⟩
  · exfalso
    rcases h1 with h | ⟨q, hq, h⟩
    · rw [h, ngeq2' (by omega) (by omega) (by omega)] at z; exact z
    · rw [h] at z
      have := (nI_eq (by omega) (by omega)).mp z
      omega
/-! choices that are added -/
theorem add_o {D : Dy} {c w : Nat} {L : List (Nat × Nat)} {b y : Nat} (h1 : ¬ (b = 7 ∧ y = 4)) (h2 : ¬ (b = 33 ∧ y = 2)) (h3 : b < 8 ∨ 11 < b) (h4 : b < 38 ∨ 41 < b) (h5 : b ≠ 58) : (addM (addX D c w L) c w L).1 b y = D.1 b y := by
  rw [addM_r h2 h4 h5, addX_r h1 h3]
theorem add_i {D : Dy} {c w : Nat} {L : List (Nat × Nat)} {b y : Nat} (h : y < c) (hb : (8 ≤ b ∧ b ≤ 11) ∨ (38 ≤ b ∧ b ≤ 41)) : (addM (addX D c w L) c w L).1 b y = D.1 b y := by
  unfold addM addX
  dsimp only
  rw [if_neg (by omega), if_neg (by omega), if_neg (by omega), if_neg (by omega), if_neg (by omega)]
theorem add_x {D : Dy} {c w : Nat} {L : List (Nat × Nat)} {b y : Nat} (h1 : c ≤ y) (h2 : y < c + L.length) (hb : 8 ≤ b ∧ b ≤ 11) : (addM (addX D c w L) c w L).1 b y = if b = 8 then nI w else if b = 9 then nI (L.getD (y - c) (0, 0)).1 else if b = 10 then nI (L.getD (y - c) (0, 0)).2 else nI 0 := by
  unfold addM addX
  dsimp only
  rw [if_neg (by omega), if_neg (by omega), if_neg (by omega), if_neg (by omega), if_pos (by omega)]
theorem add_m {D : Dy} {c w : Nat} {L : List (Nat × Nat)} {b y : Nat} (h1 : c ≤ y) (h2 : y < c + L.length) (hb : 38 ≤ b ∧ b ≤ 41) : (addM (addX D c w L) c w L).1 b y = if b = 38 then nI w else if b = 39 then nI (L.getD (y - c) (0, 0)).1 else if b = 40 then (if (L.getD (y - c) (0, 0)).2 = 7 then -nI 1 else nI (L.getD (y - c) (0, 0)).2) else nI 0 := by
  unfold addM
  dsimp only
  rw [if_neg (by omega), if_neg (by omega), if_pos (by omega)]
theorem add_58 {D : Dy} {c w u : Nat} {L : List (Nat × Nat)} : (addM (addX D c w L) c w L).1 58 u = if u = w ∧ L ≠ [] then nI 0 else D.1 58 u := by
  unfold addM
  dsimp only
  rw [if_neg (by omega)]
  by_cases q : u = w ∧ L ≠ []
  · rw [if_pos ⟨rfl, q⟩, if_pos q]
  · rw [if_neg (fun z => q z.2), if_neg q, if_neg (by omega), addX_r (by omega) (by omega)]
theorem RC_plus {D : Dy} {n k c w : Nat} {L : List (Nat × Nat)} (hn : n ≤ 6) (h : RC D n k c) (hL : AddOK n k c w L) : RC (addM (addX D c w L) c w L) n k (c + L.length) := by
  obtain ⟨h1, h2, h3, h4⟩ := h
  obtain ⟨l1, l2, l3, l4⟩ := hL
  have pw := pw6 hn
  refine ⟨l3, ?_, addM_n, fun i hi => ?_⟩
  · rw [addM_r (by omega) (by omega) (by omega)]; exact addX_n
  · by_cases q : i < c
    · rw [add_i q (by omega), add_i q (by omega), add_i q (by omega), add_i q (by omega), add_i q (by omega), add_i q (by omega), add_i q (by omega), add_i q (by omega)]
      exact h4 i q
    · have q : c ≤ i := by omega
      have hl : i - c < L.length := by omega
      have mem : L.getD (i - c) (0, 0) ∈ L := by
        rw [List.getD_eq_getElem?_getD, List.getElem?_eq_getElem hl]; exact List.getElem_mem hl
      obtain ⟨p1, p2, p3⟩ := l4 _ mem
      have wk := l2 (fun z => by rw [z] at hl; exact absurd hl (Nat.not_lt_zero _))
      rw [add_m q hi (by omega), add_x (b := 8) q hi (by omega), add_m (b := 39) q hi (by omega), add_x (b := 9) q hi (by omega), add_m (b := 41) q hi (by omega), add_x (b := 11) q hi (by omega), add_x (b := 10) q hi (by omega), add_m (b := 40) q hi (by omega)]
      simp only [if_true, if_false, Nat.reduceEqDiff]
      generalize L.getD (i - c) (0, 0) = p at *
      refine ⟨⟨trivial, trivial, trivial⟩, ⟨w, wk, rfl⟩, ⟨⟨p.1, p1, rfl⟩, fun z => p2 ((nI_eq (b := 0) (by omega) (by omega)).mp z)⟩, ⟨0, by omega, rfl⟩, ?_⟩
      rcases p3 with z | ⟨z1, z2⟩
      · left; rw [z]; exact ⟨rfl, rfl⟩
      · right
        refine ⟨p.2, z1, rfl, by rw [if_neg (by omega)], ?_⟩
        unfold sBit
        rw [nI_clamp (by omega)]; exact z2
theorem RK_add {D : Dy} {n c w : Nat} {L : List (Nat × Nat)} (h : RK D n c) (hw : w < 16) : RK (addM (addX D c w L) c w L) n (c + L.length) := by
  refine RK_w h (fun b y hb => add_o (by omega) (by omega) (by omega) (by omega) (by omega)) fun u hu => ?_
  rw [add_58]
  by_cases q : u = w ∧ L ≠ []
  · rw [if_pos q]; exact Or.inl rfl
  · rw [if_neg q]
    refine Or.inr ⟨rfl, ?_⟩
    unfold rqD
    rw [rqL_m (c := c) L.length]
    · refine rqL_c c fun i hi => ⟨?_, ?_, ?_, ?_⟩
      · unfold cW; rw [add_i hi (by omega)]
      · unfold cS; rw [add_i hi (by omega)]
      · unfold cO; rw [add_i hi (by omega)]
      · unfold cU; rw [add_i hi (by omega)]
    · intro i h1 h2 z
      unfold cW at z
      rw [add_x h1 h2 (by omega), if_pos rfl, nI_clamp (by omega)] at z
      exact q ⟨z.symm, fun y => by rw [y] at h2; exact absurd h2 (by simp; omega)⟩
theorem RK_put {D : Dy} {n c i w : Nat} {x : Int32} (h : RK D n c) (hi : D.1 8 i = nI w) (hw : w < 16) : RK (sI (sI (sI D 11 i x) 41 i x) 58 w 0) n c := by
  refine RK_w h (fun b y hb => by rw [sI_1, if_neg (by omega), sI_1, if_neg (by omega), sI_1, if_neg (by omega)]) fun u hu => ?_
  rw [sI_1]
  by_cases q : u = w
  · rw [if_pos ⟨rfl, q⟩]; exact Or.inl rfl
  · rw [if_neg (fun z => q z.2), sI_1, if_neg (by omega), sI_1, if_neg (by omega)]
    refine Or.inr ⟨rfl, rqL_w c fun j _ => ⟨?_, fun z => ⟨?_, ?_, ?_⟩⟩⟩
    · unfold cW; rw [sI_1, if_neg (by omega), sI_1, if_neg (by omega), sI_1, if_neg (by omega)]
    · unfold cS; rw [sI_1, if_neg (by omega), sI_1, if_neg (by omega), sI_1, if_neg (by omega)]
    · unfold cO; rw [sI_1, if_neg (by omega), sI_1, if_neg (by omega), sI_1, if_neg (by omega)]
    · unfold cU
      have : j ≠ i := fun y => by
        unfold cW at z
        rw [y, hi, nI_clamp (by omega)] at z
        exact q z.symm
      rw [sI_1, if_neg (by omega), sI_1, if_neg (by omega), sI_1, if_neg (fun y => this y.2)]
/-! all the pieces -/
def RelN (mdl : Nat → Option (Nat × Nat)) (T : Nat) (D : Dy) (n k c a m z : Nat) : Prop := 65 ≤ T ∧ RG D n ∧ RT D k ∧ RC D n k c ∧ RA D n a ∧ MB mdl T D m ∧ MX mdl D m ∧ RR D ∧ RP D ∧ RX D z ∧ RK D n c
def Rel (mdl : Nat → Option (Nat × Nat)) (T : Nat) (D : Dy) : Prop := ∃ n k c a m z, RelN mdl T D n k c a m z
theorem BO_of {D : Dy} {n k c : Nat} (hg : RG D n) (ht : RT D k) (hc : RC D n k c) : BO D n k c := ⟨hg.1, ht.1, hc.1, hg.2.1, hg.2.2.1, ht.2.1, ht.2.2.1, RC_X hg.1 ht.1 hc, RC_M hg.1 ht.1 hc⟩
theorem AB_of {mdl : Nat → Option (Nat × Nat)} {T n k c a m z : Nat} {D : Dy} (h : RelN mdl T D n k c a m z) : ∃ Mk Pr Ne W S O U K, AB mdl T D n k c m Mk Pr Ne W S O U K := by
  obtain ⟨hT, hg, ht, hc, ha, hB, hX, -⟩ := h
  obtain ⟨n6, g1, g2, Mk, Pr, Ne, g3⟩ := RG_f hg
  obtain ⟨k16, t1, t2, K, t3, t4⟩ := RT_f ht
  obtain ⟨c80, c1, c2, W, S, O, U, c3⟩ := RC_f n6 k16 hc
  refine ⟨Mk, Pr, Ne, W, S, O, U, K, ⟨n6, g1, fun i hi => ?_⟩, ⟨n6, g2, fun i hi => ?_⟩, fun i hi => (g3 i hi).2.2.2.2, ⟨c80, c1, fun i hi => ?_⟩, ⟨c80, c2, fun i hi => ?_⟩, hB, hX, k16, t2, fun i hi => (t3 i hi).2, t4⟩
  · obtain ⟨⟨a1, a2, a3⟩, ⟨b1, b2, b3⟩, ⟨d1, d2, d3⟩⟩ := g3 i hi
    exact ⟨⟨a1, a3⟩, ⟨b1, b3⟩, ⟨d1, d3⟩⟩
  · obtain ⟨⟨a1, a2, a3⟩, ⟨b1, b2, b3⟩, ⟨d1, d2, d3⟩⟩ := g3 i hi
    exact ⟨⟨a2, a3⟩, ⟨b2, b3⟩, ⟨d2, d3⟩⟩
  · obtain ⟨⟨w1, w2, w3⟩, ⟨s1, s2, s3, s4⟩, ⟨u1, u2, u3⟩, o1, o2⟩ := c3 i hi
    obtain ⟨k1, k2, k3⟩ := t3 _ w3
    refine ⟨⟨w1, by omega⟩, ⟨s1, s3, s4⟩, ⟨o1, ?_⟩, ⟨u1, u3⟩, ⟨k1, k3⟩⟩
    rcases o2 with y | y
    · exact Or.inr y.1
    · exact Or.inl y.1
  · obtain ⟨⟨w1, w2, w3⟩, ⟨s1, s2, s3, s4⟩, ⟨u1, u2, u3⟩, o1, o2⟩ := c3 i hi
    obtain ⟨k1, k2, k3⟩ := t3 _ w3
    refine ⟨⟨w2, by omega⟩, ⟨s2, s3, s4⟩, ⟨?_, ?_⟩, ⟨u2, u3⟩, ⟨k2, k3⟩⟩
    · rcases o2 with y | y
      · rw [if_pos y.1]; exact y.2
      · rw [if_neg (by omega)]; exact y.2.1
    · rcases o2 with y | y
      · exact Or.inr y.1
      · exact Or.inl y.1
theorem Rel_A {mdl : Nat → Option (Nat × Nat)} {T n k c a m z : Nat} {D D' : Dy} (h : RelN mdl T D n k c a m z) (f : frA mdl m D D') : Rel mdl T D' := by
  obtain ⟨hT, hg, ht, hc, ha, hB, hX, hR, hP, hZ, hK⟩ := h
  have lo : ∀ b y, b < 65 → ¬ (b = 33 ∧ sc33 y) → ¬ (47 ≤ b ∧ b ≤ 53) → D'.1 b y = D.1 b y := fun b y z1 z2 z3 => frA_low hB f z1 z2 z3
  have lo2 : ∀ b y, b = 63 ∨ (27 ≤ b ∧ b ≤ 32) → D'.2 b y = D.2 b y := fun b y hb => f.2 b y (MB_low hB (by omega)) (by omega)
  exact ⟨n, k, c, a, m, z, hT, RG_e hg fun b y hb => lo b y (by omega) (by unfold sc33; omega) (by omega), RT_e ht fun b y hb => lo b y (by omega) (by unfold sc33; omega) (by omega), RC_e hc fun b y hb => lo b y (by omega) (by unfold sc33; omega) (by omega), RA_e ha fun b y hb => lo b y (by omega) (by unfold sc33; omega) (by omega), MB_A hB f, MX_A hB f hX, RR_e hR fun b y hb => lo b y (by omega) (by unfold sc33; omega) (by omega), RP_e hP (fun b y hb => lo b y (by omega) (by omega) (by omega)) lo2, RX_e hZ fun b y hb => lo b y (by omega) (by unfold sc33; omega) (by omega), RK_e hK fun b y hb => lo b y (by omega) (by unfold sc33; omega) (by omega)⟩
theorem Rel_C {mdl : Nat → Option (Nat × Nat)} {T n k c a m z : Nat} {D D' : Dy} (h : RelN mdl T D n k c a m z) (hK' : RK D' n c) (f : frC D D') : Rel mdl T D' := by
  obtain ⟨hT, hg, ht, hc, ha, hB, hX, hR, hP, hZ, hK⟩ := h
  have lo : ∀ b y, b < 14 ∨ 20 < b → ¬ (b = 33 ∧ y = 46) → b < 54 ∨ 59 < b → D'.1 b y = D.1 b y := f.2
  exact ⟨n, k, c, a, m, z, hT, RG_e hg fun b y hb => lo b y (by omega) (by omega) (by omega), RT_e ht fun b y hb => lo b y (by omega) (by omega) (by omega), RC_e hc fun b y hb => lo b y (by omega) (by omega) (by omega), RA_e ha fun b y hb => lo b y (by omega) (by omega) (by omega), MB_e hB fun b y hb => lo b y (by omega) (by omega) (by omega), MX_e hB hX fun b y hb => lo b y (by omega) (by omega) (by omega), RR_e hR fun b y hb => lo b y (by omega) (by omega) (by omega), RP_e hP (fun b y hb => lo b y (by omega) (by omega) (by omega)) (fun b y _ => by rw [f.1]), RX_e hZ fun b y hb => lo b y (by omega) (by omega) (by omega), hK'⟩
end
