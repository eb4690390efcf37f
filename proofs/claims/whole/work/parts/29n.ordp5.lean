/-! next -/
theorem JN_2 {τ σ : Type} {J : τ → σ → Prop} {b : (τ → σ → Prop) → Prop} (P : τ → σ → Prop) (hJ : ∀ x y, P x y → J x y) (hb : ∀ K : τ → σ → Prop, (∀ x y, P x y → K x y) → b K) : JN J b := hb J hJ
def nx (m : Nat → Nat) : Nat → Int32 × Nat
  | 0 => (-nI 5, 0)
  | a + 1 => if (nx m a).1 = -nI 5 ∨ m a < (nx m a).2 then (nI a, m a) else nx m a
theorem nx_b {m : Nat → Nat} {b : Nat} (h : ∀ a, m a ≤ b) : ∀ a, (nx m a).2 ≤ b
  | 0 => Nat.zero_le _
  | a + 1 => by
    unfold nx
    split
    · exact h a
    · exact nx_b h a
theorem nx_c {m m' : Nat → Nat} : ∀ a, (∀ i, i < a → m i = m' i) → nx m a = nx m' a
  | 0, _ => rfl
  | a + 1, h => by
    unfold nx
    rw [nx_c a fun i hi => h i (by omega), h a (by omega)]
theorem mxN_mem {f : Nat → Nat} {k : Nat} : ∀ n, k < n → f k ≤ mxN f n
  | 0, h => by omega
  | n + 1, h => by
    show f k ≤ max (mxN f n) (f n)
    by_cases e : k = n
    · rw [e]; exact Nat.le_max_right _ _
    · exact Nat.le_trans (mxN_mem n (by omega)) (Nat.le_max_left _ _)
/-- how many of the first m agreeing rows take t from S -/
def cnT (Q : List (Nat × Nat)) (n S t m : Nat) : Nat := sumN (fun v => if agL Q (ord (n + 1) 0 v) = true ∧ cod n (fst (S ||| 2 ^ n) (ord (n + 1) 0 v)) = t then 1 else 0) m
theorem cnT_cod {Q : List (Nat × Nat)} {n S s : Nat} (hn : n ≤ 6) (hQ : QOK (n + 1) Q) (hS : S < 2 ^ n) (hs : s < n + 1) : cnT Q n S (cod n s) (fac (n + 1)) = tkA Q (n + 1) (S ||| 2 ^ n) s := by
  unfold cnT tkA
  by_cases b : (S ||| 2 ^ n).testBit s = true
  · rw [if_pos b]
    unfold tkS
    rw [unu0]
    refine sumN_c fun v hv => ?_
    rw [ok_agQ hn hQ hv]
    have fl := (fst_in hn hv hS).1
    by_cases z : agL Q (ord (n + 1) 0 v) = true ∧ cod n (fst (S ||| 2 ^ n) (ord (n + 1) 0 v)) = cod n s
    · rw [if_pos z, if_pos (by rw [z.1, cod_inj hn fl hs z.2]; simp)]
    · rw [if_neg z, if_neg]
      intro y
      rw [Bool.and_eq_true, beq_iff_eq] at y
      exact z ⟨y.1, by rw [y.2]⟩
  · rw [if_neg b]
    refine sumN_0 fun v hv => ?_
    rw [if_neg]
    rintro ⟨_, z⟩
    have fl := fst_in hn hv hS
    rw [cod_inj hn fl.1 hs z] at fl
    exact b fl.2
theorem cnT_mx {Q : List (Nat × Nat)} {n S : Nat} (hn : n ≤ 6) (hQ : QOK (n + 1) Q) (hS : S < 2 ^ n) : mxN (fun t => cnT Q n S t (fac (n + 1))) 8 = mxN (tkA Q (n + 1) (S ||| 2 ^ n)) (n + 1) := by
  refine Nat.le_antisymm (mxN_le 8 fun t ht => ?_) (mxN_le (n + 1) fun s hs => ?_)
  · by_cases z : ∃ s, s < n + 1 ∧ cod n s = t
    · obtain ⟨s, h1, h2⟩ := z
      rw [← h2, cnT_cod hn hQ hS h1]
      exact mxN_mem (n + 1) h1
    · have : cnT Q n S t (fac (n + 1)) = 0 := sumN_0 fun v hv => if_neg fun y => z ⟨_, (fst_in hn hv hS).1, y.2⟩
      rw [this]; exact Nat.zero_le _
  · rw [← cnT_cod hn hQ hS hs]
    exact mxN_mem (f := fun t => cnT Q n S t (fac (n + 1))) 8 (cod_lt hn hs)
theorem cnT_le {Q : List (Nat × Nat)} {n S t : Nat} (m : Nat) : cnT Q n S t m ≤ m := sumN_le1 fun _ _ => by split <;> omega
theorem BO_59 {D D' : Dy} {n k c : Nat} (h : BO D n k c) (f : frI 59 59 D D') : BO D' n k c := by
  obtain ⟨h1, h2, h3, h4, h5, h6, h7, h8, h9⟩ := h
  have e1 : cW D' = cW D := funext fun i => by unfold cW; rw [f.2 _ _ (by omega)]
  have e2 : cS D' = cS D := funext fun i => by unfold cS; rw [f.2 _ _ (by omega)]
  have e3 : cO D' = cO D := funext fun i => by unfold cO; rw [f.2 _ _ (by omega)]
  have e4 : cU D' = cU D := funext fun i => by unfold cU; rw [f.2 _ _ (by omega)]
  refine ⟨h1, h2, h3, by rw [f.2 _ _ (by omega)]; exact h4, by rw [f.2 _ _ (by omega)]; exact h5, by rw [f.2 _ _ (by omega)]; exact h6, by rw [f.2 _ _ (by omega)]; exact h7, ?_, ?_⟩
  · rw [e1, e2, e3, e4]
    refine ⟨by rw [f.2 _ _ (by omega)]; exact h8.1, fun i hi => ?_⟩
    rw [f.2 8 _ (by omega), f.2 9 _ (by omega), f.2 10 _ (by omega), f.2 11 _ (by omega)]
    exact h8.2 i hi
  · rw [e1, e2, e3, e4]
    refine ⟨by rw [f.2 _ _ (by omega)]; exact h9.1, fun i hi => ?_⟩
    rw [f.2 38 _ (by omega), f.2 39 _ (by omega), f.2 40 _ (by omega), f.2 41 _ (by omega)]
    exact h9.2 i hi
theorem rqD_59 {D D' : Dy} {n c w : Nat} (f : frI 59 59 D D') : rqD D' n c w = rqD D n c w := rqD_c fun b i hb _ => f.2 b i (by omega)
theorem RK_59 {D D' : Dy} {n c : Nat} (h : RK D n c) (f : frI 59 59 D D') : RK D' n c := by
  obtain ⟨h1, h2⟩ := h
  unfold RK
  rw [f.2 33 46 (by omega)]
  refine ⟨h1, fun z => ⟨PLs_c (h2 z).1 fun x => f.2 _ _ (by omega), fun w hw => ?_⟩⟩
  rw [f.2 58 w (by omega)]
  refine ((h2 z).2 w hw).imp id fun y => ⟨y.1, fun v hv => ?_⟩
  rw [f.2 57 _ (by omega), y.2 v hv]
  unfold AG
  rw [rqD_59 f]
theorem frC_59 {D D' : Dy} (f : frI 59 59 D D') : frC D D' := ⟨f.1, fun b x _ _ h => f.2 b x (by omega)⟩
theorem m_next {D : Dy} {n k c a w : Nat} {A : Nat → Nat} (hB : BO D n k c) (hK : RK D n c) (hw : w < k) (ha : a ≤ 10) (h3 : D.1 33 3 = nI a) (hA : ∀ i, i < a → D.1 42 i = nI (A i) ∧ A i < 2 ^ n) {post : Int32 → Dy → Prop} (hp : ∀ D', frC D D' → RK D' n c → post (if sB (rqD D n c w) (n + 1) 0 = 0 then -nI 5 else (nx (fun i => mxN (tkA (rqD D n c w) (n + 1) (A i ||| 2 ^ n)) (n + 1)) a).1) D') : fX12_next (nI w) D post := by
  obtain ⟨hn, hk, hc, g1, g2, t1, t2, hX, hM⟩ := id hB
  have f7 := fac7 (n := n + 1) (by omega)
  have Q1 := (BO_Q (w := w) hB).1
  unfold fX12_next
  rw [isTk_t t2 (by omega) hw]
  refine ⟨fun _ => ?_, fun z => absurd z (by decide)⟩
  refine lp2_I 80 (fun j x D' => x = nI j ∧ frI 59 59 D D' ∧ ∀ i, i < j → D'.1 59 i = nI 0) (by omega) (fun j hj x D1 hpp rec hr => ?_) ⟨rfl, frI_r, fun i hi => by omega⟩
  obtain ⟨rfl, i1, z1⟩ := hpp
  by_cases e : j = 80
  · subst e
    refine ⟨fun _ => ?_, fun z => absurd (Int32.le_refl _) z⟩
    have B1 := BO_59 hB i1
    refine m_findAgreeing B1 (RK_59 hK i1) (by omega) fun D2 k2 K2 e46 pl h57 _ _ => ?_
    have B2 := BO_k B1 k2
    have h57 : ∀ v, v < fac (n + 1) → D2.1 57 (5040 * w + v) = bB (agL (rqD D n c w) (ord (n + 1) 0 v)) := fun v hv => by
      rw [h57 v hv]; unfold AG; rw [rqD_59 i1]
    have z2 : ∀ i, i < 80 → D2.1 59 i = nI 0 := fun i hi => by rw [k2.2 _ _ (by omega) (by omega)]; exact z1 i hi
    have a2 : ∀ i, i < a → D2.1 42 i = nI (A i) := fun i hi => by rw [k2.2 _ _ (by omega) (by omega), i1.2 _ _ (by omega)]; exact (hA i hi).1
    have a3 : D2.1 33 3 = nI a := by rw [k2.2 _ _ (by omega) (by omega), i1.2 _ _ (by omega)]; exact h3
    generalize hQ : rqD D n c w = Q at *
    refine lp3_I (fac (n + 1)) (fun v x y D' => x = nI (sumN (fun v => if agL Q (ord (n + 1) 0 v) = true then 1 else 0) v) ∧ y = nI v ∧ frI 59 59 D2 D' ∧ ∀ i, i < a → ∀ t, t < 8 → D'.1 59 (8 * i + t) = nI (cnT Q n (A i) t v)) (by omega) (fun v hv x y D3 hpp rec2 hr2 => ?_) ⟨rfl, rfl, frI_r, fun i hi t ht => z2 _ (by omega)⟩
    obtain ⟨rfl, rfl, i3, c3⟩ := hpp
    have B3 := BO_59 B2 i3
    have e0 : D3.1 33 0 = nI n := B3.2.2.2.2.1
    have sv : sumN (fun v => if agL Q (ord (n + 1) 0 v) = true then 1 else 0) v ≤ v := sumN_le1 fun _ _ => by split <;> omega
    rw [m_orders hn e0]
    by_cases e : v = fac (n + 1)
    · subst e
      refine ⟨fun _ => ?_, fun z => absurd (Int32.le_refl _) z⟩
      rw [sB_AG hn Q1]
      rw [sB_AG hn Q1] at sv
      have fin := hp D3 (frC_t (frC_59 i1) (frC_t (frC_k k2) (frC_59 i3))) (RK_59 K2 i3)
      have a3' : D3.1 33 3 = nI a := by rw [i3.2 _ _ (by omega)]; exact a3
      let m := fun i => mxN (tkA Q (n + 1) (A i ||| 2 ^ n)) (n + 1)
      have hm : ∀ i, m i = mxN (tkA Q (n + 1) (A i ||| 2 ^ n)) (n + 1) := fun _ => rfl
      have mb5 : ∀ i, m i ≤ 5040 := fun i => mxN_le (n + 1) fun s _ => tkA_5040 hn
      refine lp3_I a (fun i x y z => x = (nx m i).1 ∧ y = nI (nx m i).2 ∧ z = nI i ∧ (sB Q (n + 1) 0 = 0 → i = 0)) (by omega) (fun i hi x y z hpp rec3 hr3 => ?_) ⟨rfl, rfl, rfl, fun _ => rfl⟩
      obtain ⟨rfl, rfl, rfl, hz0⟩ := hpp
      rw [a3']
      by_cases s0 : sB Q (n + 1) 0 = 0
      · rw [if_pos s0] at fin
        have nz : ∀ i, i = 0 → (nx m i).1 = -nI 5 := fun i h => by rw [h]; rfl
        rw [nz i (hz0 s0)]
        refine ⟨fun _ => fin, fun _ => ⟨fun _ => fin, fun z => absurd ?_ z⟩⟩
        rw [s0]; exact Int32.le_refl _
      · rw [if_neg s0] at fin
        by_cases e : i = a
        · subst e
          exact ⟨fun _ => fin, fun z => absurd (Int32.le_refl _) z⟩
        · have hi' : i < a := by omega
          have hr3 := hr3 hi'
          refine ⟨fun z => absurd z (nI_ge hi' (by omega)), fun _ => ⟨fun z => ?_, fun _ => ?_⟩⟩
          · exfalso
            have := (leI' (a := sB Q (n + 1) 0) (b := 0) (by omega) (by omega)).mp z
            omega
          · have hc8 := cnT_mx hn Q1 (hA i hi').2
            have cl := fun t => cnT_le (Q := Q) (n := n) (S := A i) (t := t) (fac (n + 1))
            refine lp2_I 8 (fun t x y => x = nI (mxN (fun t => cnT Q n (A i) t (fac (n + 1))) t) ∧ y = nI t) (by omega) (fun t ht x y hpp rec4 hr4 => ?_) ⟨rfl, rfl⟩
            obtain ⟨rfl, rfl⟩ := hpp
            have ml : mxN (fun t => cnT Q n (A i) t (fac (n + 1))) t ≤ 5040 := mxN_le t fun t _ => Nat.le_trans (cl t) f7
            by_cases e : t = 8
            · subst e
              refine ⟨fun _ => ?_, fun z => absurd (Int32.le_refl _) z⟩
              rw [hc8, ← hm]
              have nb := nx_b mb5 i
              have mi := mb5 i
              have st : nx m (i + 1) = if (nx m i).1 = -nI 5 ∨ m i < (nx m i).2 then (nI i, m i) else nx m i := rfl
              refine JN_2 (fun x y => x = (nx m (i + 1)).1 ∧ y = nI (nx m (i + 1)).2) (fun x y h => ?_) (fun K hK => ?_)
              · obtain ⟨rfl, rfl⟩ := h
                rintro v45 rfl
                rw [nI_1]
                exact hr3 _ _ _ ⟨rfl, rfl, rfl, fun z => absurd z s0⟩
              · refine JN_i ((nx m i).1 = -nI 5 ∨ m i < (nx m i).2) (fun h => ?_) (fun K2 hK2 => ?_)
                · exact hK _ _ (by rw [st, if_pos h]; exact ⟨rfl, rfl⟩)
                · refine ⟨fun z => hK2 (Or.inl z), fun z => ⟨fun z2 => hK2 (Or.inr ((ltI' (by omega) (by omega)).mp z2)), fun z2 => hK _ _ ?_⟩⟩
                  rw [st, if_neg]
                  · exact ⟨rfl, rfl⟩
                  · rintro (y | y)
                    · exact z y
                    · exact z2 (nI_lt y (by omega))
            · have ht' : t < 8 := by omega
              have hr4 := hr4 ht'
              have cc := c3 i hi' t ht'
              have c5 := cl t
              refine ⟨fun z => absurd z (nI_ge (b := 8) ht' (by omega)), fun _ => ?_⟩
              rw [n8, nI_mul, nI_add, nI_clamp (by omega), cc]
              have vk : vp_in (nI (8 * i + t)) 80 := nI_in (by omega) (by omega)
              refine ⟨vk, ?_⟩
              refine JN_1 (fun x => x = nI (mxN (fun t => cnT Q n (A i) t (fac (n + 1))) (t + 1))) (fun x h => ?_) (fun K hK => ?_)
              · subst h
                rintro v54 rfl
                rw [nI_1]
                exact hr4 _ _ ⟨rfl, rfl⟩
              · have st : mxN (fun t => cnT Q n (A i) t (fac (n + 1))) (t + 1) = max (mxN (fun t => cnT Q n (A i) t (fac (n + 1))) t) (cnT Q n (A i) t (fac (n + 1))) := rfl
                rw [st] at hK
                refine ⟨fun z => hK _ ?_, fun z => ⟨vk, hK _ ?_⟩⟩
                · rw [Nat.max_eq_left ((leI' (by omega) (by omega)).mp z)]
                · rw [Nat.max_eq_right]
                  refine Nat.le_of_not_le fun y => z (nI_le y (by omega))
    · have hv' : v < fac (n + 1) := by omega
      have hr2 := hr2 hv'
      have h5 : D3.1 57 (5040 * w + v) = bB (agL Q (ord (n + 1) 0 v)) := by rw [i3.2 _ _ (by omega)]; exact h57 v hv'
      refine ⟨fun z => absurd z (nI_ge hv' (by omega)), fun _ => ?_⟩
      rw [n5040, nI_mul, nI_add, nI_clamp (by omega), h5]
      refine ⟨nI_in (by omega) (by omega), ?_⟩
      refine JN_2 (fun x D' => x = nI (sumN (fun v => if agL Q (ord (n + 1) 0 v) = true then 1 else 0) (v + 1)) ∧ frI 59 59 D2 D' ∧ ∀ i, i < a → ∀ t, t < 8 → D'.1 59 (8 * i + t) = nI (cnT Q n (A i) t (v + 1))) (fun x D' h => ?_) (fun K hK => ?_)
      · obtain ⟨rfl, h2, h3⟩ := h
        rintro v61 rfl
        rw [nI_1]
        exact hr2 _ _ _ ⟨rfl, rfl, h2, h3⟩
      · have cs : ∀ i t, cnT Q n (A i) t (v + 1) = cnT Q n (A i) t v + (if agL Q (ord (n + 1) 0 v) = true ∧ cod n (fst (A i ||| 2 ^ n) (ord (n + 1) 0 v)) = t then 1 else 0) := fun _ _ => rfl
        have PL3 : PLs D3 n := PLs_c pl fun x => i3.2 _ _ (by omega)
        cases hag : agL Q (ord (n + 1) 0 v)
        · refine ⟨fun z => absurd rfl z, fun _ => hK _ _ ⟨?_, i3, fun i hi t ht => ?_⟩⟩
          · rw [sumN_s, if_neg (by rw [hag]; simp)]; rfl
          · rw [cs, if_neg (by rw [hag]; simp)]; exact c3 i hi t ht
        · refine ⟨fun _ => ?_, fun z => absurd z (by decide)⟩
          rintro v64 rfl
          rw [nI_1]
          refine lp2_I a (fun i x D' => x = nI i ∧ frI 59 59 D2 D' ∧ ∀ i', i' < a → ∀ t, t < 8 → D'.1 59 (8 * i' + t) = if i' < i then nI (cnT Q n (A i') t (v + 1)) else nI (cnT Q n (A i') t v)) (by omega) (fun i hi x D4 hpp rec3 hr3 => ?_) ⟨rfl, i3, fun i' hi' t ht => by rw [if_neg (by omega)]; exact c3 i' hi' t ht⟩
          obtain ⟨rfl, i4, c4⟩ := hpp
          have B4 := BO_59 B2 i4
          have PL4 : PLs D4 n := PLs_c pl fun x => i4.2 _ _ (by omega)
          rw [show D4.1 33 3 = nI a by rw [i4.2 _ _ (by omega)]; exact a3]
          by_cases e : i = a
          · subst e
            refine ⟨fun _ => hK _ _ ⟨?_, i4, fun i' hi' t ht => ?_⟩, fun z => absurd (Int32.le_refl _) z⟩
            · rw [sumN_s, if_pos (by rw [hag])]
            · rw [c4 i' hi' t ht, if_pos hi']
          · have hi' : i < a := by omega
            have hr3 := hr3 hi'
            refine ⟨fun z => absurd z (nI_ge hi' (by omega)), fun _ => ⟨nI_in (by omega) (by omega), ?_⟩⟩
            rw [nI_clamp (by omega), show D4.1 42 i = nI (A i) by rw [i4.2 _ _ (by omega)]; exact a2 i hi', m_taken hn B4.2.2.2.2.1 PL4 hv' (hA i hi').2]
            have fl := (fst_in hn hv' (hA i hi').2).1
            have cl := cod_lt hn fl
            rintro v76 rfl
            rw [n8, nI_mul, nI_add, nI_clamp (by omega)]
            have vk : vp_in (nI (8 * i + cod n (fst (A i ||| 2 ^ n) (ord (n + 1) 0 v)))) 80 := nI_in (by omega) (by omega)
            refine ⟨vk, vk, ?_⟩
            rintro D78 rfl v80 rfl
            rw [nI_1]
            refine hr3 _ _ ⟨rfl, frI_s i4 (by omega), fun i' hi'' t ht => ?_⟩
            rw [sI_1]
            by_cases x : i' = i ∧ t = cod n (fst (A i ||| 2 ^ n) (ord (n + 1) 0 v))
            · obtain ⟨rfl, rfl⟩ := x
              rw [if_pos ⟨rfl, rfl⟩, c4 i' hi'' _ ht, if_neg (by omega), if_pos (by omega), nI_1, cs, if_pos ⟨hag, rfl⟩]
            · rw [if_neg (by omega), c4 i' hi'' t ht]
              by_cases e1 : i' < i
              · rw [if_pos e1, if_pos (by omega)]
              · rw [if_neg e1]
                by_cases e2 : i' = i
                · subst e2
                  rw [if_pos (by omega), cs, if_neg (fun y => x ⟨rfl, y.2.symm⟩)]; rfl
                · rw [if_neg (by omega)]
  · have hj' : j < 80 := by omega
    refine ⟨fun z => absurd z (nI_ge (b := 80) hj' (by omega)), fun _ => ⟨nI_in hj' (by omega), ?_⟩⟩
    rintro D82 rfl v84 rfl
    rw [nI_1, nI_clamp (by omega)]
    refine hr hj' _ _ ⟨rfl, frI_s i1 (by omega), fun i hi => ?_⟩
    rw [sI_1]
    by_cases x : i = j
    · rw [if_pos ⟨rfl, x⟩]; rfl
    · rw [if_neg (fun y => x y.2)]; exact z1 i (by omega)
theorem p_next {D : Dy} {n k c a : Nat} {a1 : Int32} (hB : BO D n k c) (hK : RK D n c) (hR : RA D n a) : fX11_next a1 D (fun v D1 => fX12_next a1 D1 (fun v' D2 => v = v' ∧ RK D2 n c ∧ frC D D2)) := by
  obtain ⟨hn, hk, hc, g1, g2, t1, t2, hX, hM⟩ := id hB
  obtain ⟨r1, r2, r3, A, r4⟩ := RA_f hn hR
  by_cases q : iN a1 k
  · obtain ⟨w, hw, rfl⟩ := q
    obtain ⟨Q1, Q2⟩ := BO_Q (w := w) hB
    have s5 := sB_5040 (Q := rqD D n c w) hn
    have fin : ∀ D1, frO D D1 → ∀ R : Int32, R = (if sB (rqD D n c w) (n + 1) 0 = 0 then -nI 5 else (nx (fun i => mxN (tkA (rqD D n c w) (n + 1) (A i ||| 2 ^ n)) (n + 1)) a).1) → fX12_next (nI w) D1 (fun v' D2 => R = v' ∧ RK D2 n c ∧ frC D D2) := by
      intro D1 o1 R hR
      refine m_next (A := A) (BO_o hB o1) (RK_o hK o1) hw r1 (by rw [o1.2 _ _ (by omega)]; exact r3) (fun i hi => ⟨by rw [o1.2 _ _ (by omega)]; exact (r4 i hi).2.1, (r4 i hi).2.2.1⟩) fun D2 f2 K2 => ?_
      rw [rqD_o o1]
      exact ⟨hR, K2, frC_t (frC_o o1) f2⟩
    unfold fX11_next
    rw [t1, wi_t hw (by omega)]
    refine ⟨fun _ => ?_, fun z => absurd z (by decide)⟩
    refine x_gatherOne hn hk hc hw g1 hX fun D1 o1 G1 => ?_
    refine x_count hn (GO_A G1) fun D2 i2 h2 => ?_
    have o2 := frO_t o1 (frO_I i2 (by omega) (by omega))
    have A2 := AH_f (GO_A G1) (frI_w i2 (p' := 18) (q' := 20) (by omega) (by omega))
    refine ⟨fun z => ?_, fun z => ?_⟩
    · have s0 : sB (rqD D n c w) (n + 1) 0 ≠ 0 := fun y => z (by
        show nI (sB (rqD D n c w) (n + 1) 0) = 0
        rw [y]; rfl)
      have fin := fun D1 o1 R hR => fin D1 o1 R (by rw [if_neg s0]; exact hR)
      let m := fun i => mxN (tkA (rqD D n c w) (n + 1) (A i ||| 2 ^ n)) (n + 1)
      have mb5 : ∀ i, m i ≤ 5040 := fun i => mxN_le (n + 1) fun s _ => tkA_5040 hn
      refine lp4_I a (fun i x y z D' => x = (nx m i).1 ∧ y = nI (nx m i).2 ∧ z = nI i ∧ frI 20 20 D2 D') (by omega) (fun i hi x y z D3 hpp rec hr => ?_) ⟨rfl, rfl, rfl, frI_r⟩
      obtain ⟨rfl, rfl, rfl, i3⟩ := hpp
      have o3 := frO_t o2 (frO_I i3 (by omega) (by omega))
      rw [show D3.1 0 11 = nI a by rw [o3.2 _ _ (by omega)]; exact r2]
      by_cases e : i = a
      · subst e
        exact ⟨fun _ => fin D3 o3 _ rfl, fun z => absurd (Int32.le_refl _) z⟩
      · have hi' : i < a := by omega
        have hr := hr hi'
        refine ⟨fun z => absurd z (nI_ge hi' (by omega)), fun _ => ⟨nI_in (by omega) (by omega), ?_⟩⟩
        rw [nI_clamp (by omega), show D3.1 21 i = nI (A i) by rw [o3.2 _ _ (by omega)]; exact (r4 i hi').1]
        refine x_takes hn (r4 i hi').2.2.1 (AH_f A2 (frI_w i3 (by omega) (by omega))) (fun X hX => ?_) fun D4 i4 h20 => ?_
        · rw [i3.2 18 _ (by omega), i3.2 19 _ (by omega)]; exact h2 X hX
        · have A4 : D4.1 14 0 = nI (n + 1) := by rw [i4.2 _ _ (by omega), i3.2 _ _ (by omega)]; exact A2.1
          rw [x_most hn A4 (fun s hs => ⟨h20 s hs, tkA_5040 hn⟩)]
          have nb := nx_b mb5 i
          have mi := mb5 i
          have st : nx m (i + 1) = if (nx m i).1 = -nI 5 ∨ m i < (nx m i).2 then (nI i, m i) else nx m i := rfl
          refine JN_2 (fun x y => x = (nx m (i + 1)).1 ∧ y = nI (nx m (i + 1)).2) (fun x y h => ?_) (fun K hK => ?_)
          · obtain ⟨rfl, rfl⟩ := h
            rintro v45 rfl
            rw [nI_1]
            exact hr _ _ _ _ ⟨rfl, rfl, rfl, frI_t i3 i4⟩
          · refine JN_i ((nx m i).1 = -nI 5 ∨ m i < (nx m i).2) (fun h => ?_) (fun K2 hK2 => ?_)
            · exact hK _ _ (by rw [st, if_pos h]; exact ⟨rfl, rfl⟩)
            · refine ⟨fun z => hK2 (Or.inl z), fun z => ⟨fun z2 => hK _ _ ?_, fun z2 => hK2 (Or.inr ?_)⟩⟩
              · rw [st, if_neg]
                · exact ⟨rfl, rfl⟩
                · rintro (y | y)
                  · exact z y
                  · have : (nx m i).2 ≤ m i := (leI' (by omega) (by omega)).mp z2
                    omega
              · refine Nat.lt_of_not_le fun y => z2 (nI_le (a := (nx m i).2) (b := m i) y (by omega))
    · have s0 : sB (rqD D n c w) (n + 1) 0 = 0 := by
        refine (nI_eq (b := 0) (by omega) (by omega)).mp ?_
        first | exact z | exact Classical.byContradiction z
      exact fin D2 o2 _ (by rw [if_pos s0]; rfl)
  · unfold fX11_next fX12_next
    simp (disch := first | omega | assumption) only [JN, false_and, and_false, or_true, true_or, or_false, false_or, forall_eq, true_implies, false_implies, implies_true, and_true, true_and, and_self, not_true_eq_false, not_false_eq_true, if_true, if_false, ne_eq, eq_self, e10, e01, Nat.reduceEqDiff, Nat.reduceLT, Nat.reduceLeDiff, Nat.reduceAdd, Nat.reduceSub, Nat.reduceMul, Nat.lt_irrefl, Nat.le_refl, n0, n1, n2, n3, n4, n5, n6, n7, n8, n9, n10, n11, n12, n13, n14, n15, n16, n20, n30, n48, n50, n60, n80, n99, n100, n120, n255, n256, n1200, n5040, sI_1, sI_2, sL_1, sL_2, sLA_1, sLA_2, vpT, ltT, ltF, leT, leF, neF, ltI', leI', eqI', nI_clamp, nI_add, nI_mul, sub', adm', ngeq', ngeq2', nglt', ngle', ngle2', wi_t, wi_f, ii_t, ii_f, ix_t, ix_f, nI_and, nI_or, nI_andN, shl', isIn', has', bB_0, bB_1, bB_t, bB_f, bP_0, bP_1, bitC', ones', ltL0', geL0', leL0', gtL0', eqL0', t1, isTk_f t2]
    exact ⟨hK, frC_r⟩
