section
/-! ODDS: the other's rules of sums, of nests, of kinds of takers -/
def pO (D : Dy) (a b : Nat) : Dy := sL (sL D 33 39 (lN a)) 33 40 (lN b)
theorem pO_1 {D : Dy} {a b : Nat} : (pO D a b).1 = D.1 := rfl
theorem pO_a {D : Dy} {a b : Nat} : (pO D a b).2 33 39 = lN a := by
  unfold pO; rw [sL_2, if_neg (by omega), sL_2, if_pos ⟨rfl, rfl⟩]
theorem pO_b {D : Dy} {a b : Nat} : (pO D a b).2 33 40 = lN b := by
  unfold pO; rw [sL_2, if_pos ⟨rfl, rfl⟩]
theorem pO_o {D : Dy} {a b x y : Nat} (h : ¬ (x = 33 ∧ (y = 39 ∨ y = 40))) : (pO D a b).2 x y = D.2 x y := by
  unfold pO; rw [sL_2, if_neg (by omega), sL_2, if_neg (by omega)]
theorem pO_pO {D : Dy} {a b c d : Nat} : pO (pO D a b) c d = pO D c d := by
  refine Prod.ext rfl (funext fun x => funext fun y => ?_)
  by_cases h : x = 33 ∧ (y = 39 ∨ y = 40)
  · obtain ⟨rfl, h | h⟩ := h
    · rw [h, pO_a, pO_a]
    · rw [h, pO_b, pO_b]
  · rw [pO_o h, pO_o h, pO_o h]
theorem m_put {D : Dy} {a b : Nat} {post : Dy → Prop} (h : post (pO D a b)) : fX12_putOdds (lN a) (lN b) D post := by
  unfold fX12_putOdds
  rintro D1 rfl D3 rfl
  exact h
/-- what the other holds once it has listened, and its goods -/
def MR (D : Dy) (n : Nat) (M : Mdt) (Mk Pr Ne : Nat → Nat) : Prop := okM M ∧ MM D M ∧ MG D n Mk Pr Ne
theorem MM_c {D D' : Dy} {M : Mdt} (h : MM D M) (e : D'.1 = D.1) : MM D' M := by unfold MM at h ⊢; rw [e]; exact h
theorem MR_c {D D' : Dy} {n : Nat} {M : Mdt} {Mk Pr Ne : Nat → Nat} (h : MR D n M Mk Pr Ne) (e : D'.1 = D.1) : MR D' n M Mk Pr Ne := ⟨h.1, MM_c h.2.1 e, MG_c h.2.2 fun a y _ => by rw [e]⟩
theorem m_w {D : Dy} {n k o : Nat} {M : Mdt} {Mk Pr Ne : Nat → Nat} (hR : MR D n M Mk Pr Ne) (hk : k < 3) (ho : o < n ∨ o = 7) {post : Int32 → Prop} (h : post (nI (wt M Mk Pr k o))) : fX12_weightOf (nI o) (nI k) D post := by
  rw [m_weight hR.2.2.1 hR.1 hR.2.1 (mg_w hR.2.2) hk ho]; exact h
theorem sW_s {W : Nat → Nat → Nat} {S k j : Nat} : sW W S k (j + 1) = sW W S k j + (if S.testBit j = true then W k j else 0) := rfl
theorem m_plain {D : Dy} {n k o S : Nat} {M : Mdt} {Mk Pr Ne : Nat → Nat} (hR : MR D n M Mk Pr Ne) (hk : k < 3) (ho : o < n ∨ o = 7) (hS : S < 2 ^ n) {post : Dy → Prop} (h : post (pO D (odP (wt M Mk Pr) n S k o).1 (odP (wt M Mk Pr) n S k o).2)) : fX12_plain (nI o) (nI S) (nI k) D post := by
  have n6 := hR.2.2.1
  have pw := pw6 n6
  have hw : ∀ k o, wt M Mk Pr k o ≤ 50 := fun k o => wt_50
  have w7 := hw k 7
  have wo := hw k o
  unfold fX12_plain
  refine m_w (o := 7) hR hk (Or.inr rfl) ?_
  rw [nI_l (by omega), hR.2.2.2.1]
  rintro w6 rfl
  refine lp2_I n (fun j w v => v = nI j ∧ w = lN (sW (wt M Mk Pr) S k j + wt M Mk Pr k 7)) (by omega) (fun j hj w v hv rec hr => ?_) ⟨rfl, by show lN (wt M Mk Pr k 7) = lN (0 + wt M Mk Pr k 7); rw [Nat.zero_add]⟩
  obtain ⟨rfl, rfl⟩ := hv
  by_cases e : j = n
  · subst e
    refine ⟨fun _ => ?_, fun z => absurd (Int32.le_refl _) z⟩
    refine JN_i (o = 7 ∨ S.testBit o = true) (fun q => ?_) (fun K hK => ⟨fun z => hK (Or.inl ((nI_eq (b := 7) (by omega) (by omega)).mp z)), fun z => ?_⟩)
    · refine m_w hR hk ho ?_
      rw [nI_l (by omega)]
      refine m_put ?_
      unfold odP at h
      rw [if_pos q] at h
      exact h
    · have n7 : ¬ o = 7 := fun y => z (by rw [y]; rfl)
      rw [has' (by omega) (by omega)]
      refine ⟨fun z => ?_, fun z => hK (Or.inr (by rw [n0, bB_0] at z; simpa using z))⟩
      have z : S.testBit o = false := by rw [n0, bB_0] at z; exact z
      unfold odP at h
      rw [if_neg (by rintro (y | y); exact n7 y; rw [z] at y; cases y)] at h
      exact m_put (a := 0) (b := 1) h
  · have hj' : j < n := by omega
    have wj := hw k j
    refine ⟨fun z => absurd z (nI_ge hj' (by omega)), fun _ => ?_⟩
    rw [has' (by omega) (by omega)]
    refine JN_1 (fun w => w = lN (if S.testBit j = true then wt M Mk Pr k j else 0)) (fun w hv => ?_) (fun K hK => ⟨fun z => hK _ ?_, fun z => ?_⟩)
    · subst hv
      rw [lN_add, nI_1]
      rintro w47 rfl v49 rfl
      exact hr hj' _ _ ⟨rfl, by rw [sW_s]; congr 1; omega⟩
    · have z : S.testBit j = false := by rw [n0, bB_0] at z; exact z
      rw [if_neg (by rw [z]; simp)]; rfl
    · have z : S.testBit j = true := by rw [n0, bB_0] at z; simpa using z
      refine m_w hR hk (Or.inl hj') (hK _ ?_)
      rw [if_pos z, nI_l (by omega)]
theorem m_great {D : Dy} {n k e S : Nat} {M : Mdt} {Mk Pr Ne : Nat → Nat} (hR : MR D n M Mk Pr Ne) (hk : k < 3) (he : e < 4) (hS : S < 2 ^ n) {post : Int32 → Prop} (h : post (nI (grN (wt M Mk Pr) Ne S k e n))) : fX12_greatestOf (nI e) (nI S) (nI k) D post := by
  have n6 := hR.2.2.1
  have pw := pw6 n6
  have hw : ∀ k o, wt M Mk Pr k o ≤ 50 := fun k o => wt_50
  unfold fX12_greatestOf
  rw [hR.2.2.2.1]
  refine lp2_I n (fun j v1 v2 => v2 = nI j ∧ v1 = nI (grN (wt M Mk Pr) Ne S k e j)) (by omega) (fun j hj v1 v2 hv rec hr => ?_) ⟨rfl, rfl⟩
  obtain ⟨rfl, rfl⟩ := hv
  by_cases e1 : j = n
  · subst e1
    exact ⟨fun _ => h, fun z => absurd (Int32.le_refl _) z⟩
  · have hj' : j < n := by omega
    have wj := hw k j
    have gl : grN (wt M Mk Pr) Ne S k e j ≤ 50 := mxW_le (fun o => nsW_le hw) j
    have eg : grN (wt M Mk Pr) Ne S k e (j + 1) = max (grN (wt M Mk Pr) Ne S k e j) (nsW (wt M Mk Pr) Ne S k e j) := rfl
    obtain ⟨-, -, ⟨q1, q2⟩⟩ := hR.2.2.2.2 j hj'
    refine ⟨fun z => absurd z (nI_ge hj' (by omega)), fun _ => ?_⟩
    rw [has' (by omega) (by omega)]
    refine JN_1 (fun v => v = nI (grN (wt M Mk Pr) Ne S k e (j + 1))) (fun v hv => ?_) (fun K hK => ?_)
    · subst hv
      rintro v14 rfl
      rw [nI_1]
      exact hr hj' _ _ ⟨rfl, rfl⟩
    · have no : nsW (wt M Mk Pr) Ne S k e j = 0 → K (nI (grN (wt M Mk Pr) Ne S k e j)) := fun q => hK _ (by rw [eg, q, Nat.max_zero])
      refine ⟨fun z => no ?_, fun z => ⟨nI_in (by omega) (by omega), ?_⟩⟩
      · have z : S.testBit j = false := by rw [n0, bB_0] at z; exact z
        unfold nsW; rw [if_neg (by rw [z]; simp)]
      · have z : S.testBit j = true := by rw [n0, bB_0] at z; simpa using z
        rw [nI_clamp (by omega), q1]
        refine ⟨fun y => no ?_, fun y => m_w hR hk (Or.inl hj') ⟨fun y2 => ?_, fun y2 => m_w hR hk (Or.inl hj') ?_⟩⟩
        · have : ¬ Ne j = e := fun w => y (by rw [w])
          unfold nsW; rw [if_neg (fun w => this w.2)]
        · have c : Ne j = e := (nI_eq (by omega) (by omega)).mp y
          have en : nsW (wt M Mk Pr) Ne S k e j = wt M Mk Pr k j := by unfold nsW; rw [if_pos ⟨z, c⟩]
          have := (leI' (by omega) (by omega)).mp y2
          exact hK _ (by rw [eg, en, Nat.max_eq_left this])
        · have c : Ne j = e := (nI_eq (by omega) (by omega)).mp y
          have en : nsW (wt M Mk Pr) Ne S k e j = wt M Mk Pr k j := by unfold nsW; rw [if_pos ⟨z, c⟩]
          have : ¬ wt M Mk Pr k j ≤ grN (wt M Mk Pr) Ne S k e j := fun w => y2 (nI_le w (by omega))
          exact hK _ (by rw [eg, en, Nat.max_eq_right (by omega)])
theorem m_nested {D : Dy} {n k o S : Nat} {M : Mdt} {Mk Pr Ne : Nat → Nat} (hR : MR D n M Mk Pr Ne) (hk : k < 3) (ho : o = 7 ∨ S.testBit o = true) (hS : S < 2 ^ n) {post : Dy → Prop} (h : post (pO D (od2 (wt M Mk Pr) Ne n S k o).1 (od2 (wt M Mk Pr) Ne n S k o).2)) : fX12_nested (nI o) (nI S) (nI k) D post := by
  have n6 := hR.2.2.1
  have pw := pw6 n6
  have hw : ∀ k o, wt M Mk Pr k o ≤ 50 := fun k o => wt_50
  have w7 := hw k 7
  have ho7 : o < n ∨ o = 7 := by
    rcases ho with q | q
    · exact Or.inr q
    · exact Or.inl (lt_bit hS q)
  have gl : ∀ e, grN (wt M Mk Pr) Ne S k e n ≤ 50 := fun e => mxW_le (fun o => nsW_le hw) n
  unfold fX12_nested
  refine m_w (o := 7) hR hk (Or.inr rfl) ?_
  rw [nI_l (by omega)]
  rintro w6 rfl
  refine lp2_I 4 (fun j w v => v = nI j ∧ w = lN (wt M Mk Pr k 7 + sumN (fun e => grN (wt M Mk Pr) Ne S k e n) j)) (by omega) (fun j hj w v hv rec hr => ?_) ⟨rfl, rfl⟩
  obtain ⟨rfl, rfl⟩ := hv
  by_cases e : j = 4
  · subst e
    have ea : wt M Mk Pr k 7 + sumN (fun e => grN (wt M Mk Pr) Ne S k e n) 4 = alN (wt M Mk Pr) Ne S k n := rfl
    rw [ea]
    refine ⟨fun _ => ⟨fun z => ?_, fun z => ?_⟩, fun z => absurd (Int32.le_refl _) z⟩
    · have n7 : ¬ o = 7 := fun y => z (by rw [y]; rfl)
      have hb : S.testBit o = true := by
        rcases ho with y | y
        · exact absurd y n7
        · exact y
      have hon : o < n := lt_bit hS hb
      obtain ⟨-, -, ⟨o1, o2⟩⟩ := hR.2.2.2.2 o hon
      have go := gl (Ne o)
      have wo := hw k o
      rw [hR.2.2.2.1]
      refine lp2_I n (fun j w v => v = nI j ∧ w = lN (ofN (wt M Mk Pr) Ne S k (Ne o) j)) (by omega) (fun j hj w v hv rec2 hr2 => ?_) ⟨rfl, rfl⟩
      obtain ⟨rfl, rfl⟩ := hv
      by_cases e : j = n
      · subst e
        refine ⟨fun _ => ⟨nI_in (by omega) (by omega), ?_⟩, fun z => absurd (Int32.le_refl _) z⟩
        rw [nI_clamp (by omega), o1]
        refine m_great hR hk o2 hS (m_w hR hk (Or.inl hon) ?_)
        rw [nI_l (by omega), nI_l (by omega), lN_mul, lN_mul]
        refine m_put ?_
        unfold od2 at h
        rw [if_neg n7, if_pos hb] at h
        exact h
      · have hj' : j < n := by omega
        have wj := hw k j
        obtain ⟨-, -, ⟨q1, q2⟩⟩ := hR.2.2.2.2 j hj'
        have eo : ofN (wt M Mk Pr) Ne S k (Ne o) (j + 1) = ofN (wt M Mk Pr) Ne S k (Ne o) j + nsW (wt M Mk Pr) Ne S k (Ne o) j := rfl
        refine ⟨fun z => absurd z (nI_ge hj' (by omega)), fun _ => ?_⟩
        rw [has' (by omega) (by omega)]
        refine JN_1 (fun w => w = lN (nsW (wt M Mk Pr) Ne S k (Ne o) j)) (fun w hv => ?_) (fun K hK => ?_)
        · subst hv
          rw [lN_add, nI_1]
          rintro w43 rfl v45 rfl
          exact hr2 hj' _ _ ⟨rfl, by rw [eo]⟩
        · refine JN_i (nsW (wt M Mk Pr) Ne S k (Ne o) j = 0) (fun q => hK _ (by rw [q]; rfl)) (fun K47 hK47 => ⟨fun z => hK47 ?_, fun z => ⟨nI_in (by omega) (by omega), nI_in (by omega) (by omega), ?_⟩⟩)
          · have z : S.testBit j = false := by rw [n0, bB_0] at z; exact z
            unfold nsW; rw [if_neg (by rw [z]; simp)]
          · have z : S.testBit j = true := by rw [n0, bB_0] at z; simpa using z
            rw [nI_clamp (by omega), nI_clamp (by omega), q1, o1]
            refine ⟨fun y => hK47 ?_, fun y => m_w hR hk (Or.inl hj') (hK _ ?_)⟩
            · have : ¬ Ne j = Ne o := fun w => y (by rw [w])
              unfold nsW; rw [if_neg (fun w => this w.2)]
            · have c : Ne j = Ne o := (nI_eq (by omega) (by omega)).mp y
              rw [nI_l (by omega)]
              unfold nsW; rw [if_pos ⟨z, c⟩]
    · have c7 : o = 7 := (nI_eq (b := 7) (by omega) (by omega)).mp z
      refine m_w (o := 7) hR hk (Or.inr rfl) ?_
      rw [nI_l (by omega)]
      refine m_put ?_
      unfold od2 at h
      rw [if_pos c7] at h
      exact h
  · have hj' : j < 4 := by omega
    have gj := gl j
    refine ⟨fun z => absurd z (nI_ge (b := 4) hj' (by omega)), fun _ => m_great hR hk hj' hS ?_⟩
    rw [nI_l (by omega), lN_add, nI_1]
    rintro w72 rfl v74 rfl
    exact hr hj' _ _ ⟨rfl, by rw [Nat.add_assoc]; rfl⟩
theorem m_mixed {D : Dy} {n k o S : Nat} {M : Mdt} {Mk Pr Ne : Nat → Nat} (hR : MR D n M Mk Pr Ne) (hk : k < 3) (ho : o = 7 ∨ S.testBit o = true) (hS : S < 2 ^ n) {post : Dy → Prop} (h : post (pO D (od3 (wt M Mk Pr) (md_s M) n S k o).1 (od3 (wt M Mk Pr) (md_s M) n S k o).2)) : fX12_mixed (nI o) (nI S) (nI k) D post := by
  have ho7 : o < n ∨ o = 7 := by
    rcases ho with q | q
    · exact Or.inr q
    · exact Or.inl (lt_bit hS q)
  have hs := hR.2.1.2.2.2.2.2
  have bs := hR.1.2.2.2.2.2
  have r0 := (hs 0 (by omega)).1
  have r1 := (hs 1 (by omega)).1
  have r2 := (hs 2 (by omega)).1
  have b0 := (bs 0 (by omega)).1
  have b1 := (bs 1 (by omega)).1
  have b2 := (bs 2 (by omega)).1
  have z0 : (0 : Int32).toNatClampNeg = 0 := rfl
  have z1 : (1 : Int32).toNatClampNeg = 1 := rfl
  have z2 : (2 : Int32).toNatClampNeg = 2 := rfl
  have v0 : vp_in (0 : Int32) 3 := nI_in (c := 0) (by omega) (by omega)
  have v1 : vp_in (1 : Int32) 3 := nI_in (c := 1) (by omega) (by omega)
  have v2 : vp_in (2 : Int32) 3 := nI_in (c := 2) (by omega) (by omega)
  unfold fX12_mixed
  rw [z0, z1, z2, r0, r1, r2, nI_add, nI_add]
  refine ⟨v0, v1, v2, ?_⟩
  rintro v1' rfl
  refine ⟨fun c => ?_, fun c => ?_⟩
  · have c : ¬ md_s M 0 + md_s M 1 + md_s M 2 = 0 := fun y => c (by rw [y]; rfl)
    unfold od3 at h
    rw [if_neg c, if_pos ho] at h
    generalize hall : md_s M 0 + md_s M 1 + md_s M 2 = all at h
    have la : all ≤ 27 := by omega
    rw [nI_l (by omega)]
    have T : ∀ j, (odP (wt M Mk Pr) n S j o).1 = wt M Mk Pr j o ∧ (odP (wt M Mk Pr) n S j o).2 = sW7 (wt M Mk Pr) S n j := fun j => by
      unfold odP; rw [if_pos ho]; exact ⟨rfl, rfl⟩
    have step : ∀ (j A B : Nat) (D7 : Dy) (rec8 : Int64 → Int64 → Int32 → Dy → Prop), j < 3 → D7.1 = D.1 → rec8 (lN (A * sW7 (wt M Mk Pr) S n j + md_s M j * wt M Mk Pr j o * B)) (lN (B * sW7 (wt M Mk Pr) S n j)) (nI (j + 1)) (pO D7 (wt M Mk Pr j o) (sW7 (wt M Mk Pr) S n j)) → fX12_plain (nI o) (nI S) (nI j) D7 (fun (D22 : Dy) => (vp_in (nI j) 3 ∧ (∀ w23 : Int64, w23 = ((lN A * (D22.2 33 40)) + ((((D22.1 49 (nI j).toNatClampNeg)).toInt64 * (D22.2 33 39)) * lN B)) → (∀ w25 : Int64, w25 = (lN B * (D22.2 33 40)) → (∀ v27 : Int32, v27 = nI j + 1 → (rec8 w23 w25 v27 D22)))))) := by
      intro j A B D7 rec8 hj e hrec
      refine m_plain (MR_c hR e) hj ho7 hS ⟨nI_in hj (by omega), ?_⟩
      have ej : (pO D7 (odP (wt M Mk Pr) n S j o).1 (odP (wt M Mk Pr) n S j o).2).1 49 j = nI (md_s M j) := by rw [pO_1, e]; exact (hs j hj).1
      have bj := (bs j hj).1
      rw [nI_clamp (by omega), ej, pO_a, pO_b, (T j).1, (T j).2, nI_l (by omega), lN_mul, lN_mul, lN_mul, lN_add, lN_mul, nI_1]
      rintro w23 rfl w25 rfl v27 rfl
      exact hrec
    generalize hW : wt M Mk Pr = W at h T step
    generalize hsh : md_s M = sh at h step
    refine lp4_I 3 (fun j w4 w5 v D7 => v = nI j ∧ D7.1 = D.1 ∧ (∀ a b, pO D7 a b = pO D a b) ∧ ((j = 0 ∧ w4 = lN 0 ∧ w5 = lN 1) ∨ (j = 1 ∧ w4 = lN (0 * sW7 W S n 0 + sh 0 * W 0 o * 1) ∧ w5 = lN (1 * sW7 W S n 0)) ∨ (j = 2 ∧ w4 = lN ((0 * sW7 W S n 0 + sh 0 * W 0 o * 1) * sW7 W S n 1 + sh 1 * W 1 o * (1 * sW7 W S n 0)) ∧ w5 = lN (1 * sW7 W S n 0 * sW7 W S n 1)) ∨ (j = 3 ∧ w4 = lN (((0 * sW7 W S n 0 + sh 0 * W 0 o * 1) * sW7 W S n 1 + sh 1 * W 1 o * (1 * sW7 W S n 0)) * sW7 W S n 2 + sh 2 * W 2 o * (1 * sW7 W S n 0 * sW7 W S n 1)) ∧ w5 = lN (1 * sW7 W S n 0 * sW7 W S n 1 * sW7 W S n 2)))) (by omega) (fun j hj w4 w5 v D7 hv rec hr => ?_) ⟨rfl, rfl, fun _ _ => rfl, Or.inl ⟨rfl, rfl, rfl⟩⟩
    obtain ⟨rfl, e1, e2, st⟩ := hv
    rcases st with ⟨rfl, rfl, rfl⟩ | ⟨rfl, rfl, rfl⟩ | ⟨rfl, rfl, rfl⟩ | ⟨rfl, rfl, rfl⟩
    · exact ⟨fun z => absurd z (by decide), fun _ => step 0 _ _ _ _ (by omega) e1 (hr (by omega) _ _ _ _ ⟨rfl, e1, fun a b => by rw [pO_pO, e2], Or.inr (Or.inl ⟨rfl, rfl, rfl⟩)⟩)⟩
    · exact ⟨fun z => absurd z (by decide), fun _ => step 1 _ _ _ _ (by omega) e1 (hr (by omega) _ _ _ _ ⟨rfl, e1, fun a b => by rw [pO_pO, e2], Or.inr (Or.inr (Or.inl ⟨rfl, rfl, rfl⟩))⟩)⟩
    · exact ⟨fun z => absurd z (by decide), fun _ => step 2 _ _ _ _ (by omega) e1 (hr (by omega) _ _ _ _ ⟨rfl, e1, fun a b => by rw [pO_pO, e2], Or.inr (Or.inr (Or.inr ⟨rfl, rfl, rfl⟩))⟩)⟩
    · refine ⟨fun _ => ?_, fun z => absurd (Int32.le_refl _) z⟩
      rw [lN_mul]
      refine m_put ?_
      rw [e2]
      have q1 : ((0 * sW7 W S n 0 + sh 0 * W 0 o * 1) * sW7 W S n 1 + sh 1 * W 1 o * (1 * sW7 W S n 0)) * sW7 W S n 2 + sh 2 * W 2 o * (1 * sW7 W S n 0 * sW7 W S n 1) = sh 0 * sW7 W S n 1 * sW7 W S n 2 * W 0 o + sh 1 * sW7 W S n 0 * sW7 W S n 2 * W 1 o + sh 2 * sW7 W S n 0 * sW7 W S n 1 * W 2 o := by
        simp only [Nat.zero_mul, Nat.zero_add, Nat.mul_one, Nat.one_mul, Nat.add_mul]; ac_rfl
      have q2 : 1 * sW7 W S n 0 * sW7 W S n 1 * sW7 W S n 2 * all = all * sW7 W S n 0 * sW7 W S n 1 * sW7 W S n 2 := by
        simp only [Nat.one_mul]; ac_rfl
      rw [q1, q2]
      exact h
  · have c : md_s M 0 + md_s M 1 + md_s M 2 = 0 := (nI_eq (b := 0) (by omega) (by omega)).mp c
    refine m_plain hR hk ho7 hS ?_
    unfold od3 at h
    rw [if_pos c] at h
    exact h
end
