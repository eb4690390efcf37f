/-! TEXTS, the other's reader: figures, numbers, tests -/
def frN (D D' : Dy) : Prop := D'.2 = D.2 ∧ ∀ b x, ¬ (b = 33 ∧ (x = 21 ∨ x = 23)) → D'.1 b x = D.1 b x
theorem frN_r {D : Dy} : frN D D := ⟨rfl, fun _ _ _ => rfl⟩
theorem frN_t {D D' D'' : Dy} (h : frN D D') (h' : frN D' D'') : frN D D'' := ⟨h'.1.trans h.1, fun b x h1 => (h'.2 b x h1).trans (h.2 b x h1)⟩
theorem frN_s {D D' : Dy} {k : Nat} {v : Int32} (h : frN D D') (ha : k = 21 ∨ k = 23) : frN D (sI D' 33 k v) := ⟨h.1, fun b x h1 => by rw [sI_1, if_neg (by omega)]; exact h.2 b x h1⟩
theorem frN_w {D D' : Dy} (h : frN D D') : frW D D' := ⟨h.1, fun b x h1 _ _ => h.2 b x (by omega)⟩
theorem MS_n {D D' : Dy} {W : List Nat} {P : List Bool} {o p p' : Nat} (h : MS D W P o p) (f : frN D D') (e : D'.1 33 21 = nI p') (hp : p' ≤ 120) : MS D' W P o p' := by
  obtain ⟨h1, h2, h3, h4, h5, h6, h7, h8, h9, h10, h11⟩ := h
  exact ⟨by rw [f.2 _ _ (by omega)]; exact h1, by rw [f.2 _ _ (by omega)]; exact h2, by rw [f.2 _ _ (by omega)]; exact h3, e, fun i hi => by rw [f.2 _ _ (by omega)]; exact h5 i hi, fun i hi => by rw [f.2 _ _ (by omega)]; exact h6 i hi, h7, h8, h9, hp, h11⟩
theorem m_takes {D : Dy} {base L p K : Nat} {b : Nat → Nat} (hT : MT D base b L) (hp : D.1 33 21 = nI p) (hp2 : p ≤ 1000) (hK : K < 128) {post : Int32 → Dy → Prop} (h1 : chr b L p = K → p < L → post 1 (sI D 33 21 (nI (p + 1)))) (h0 : chr b L p ≠ K → post 0 D) : fX12_takes (nI K) D post := by
  unfold fX12_takes
  refine m_next1 hT hp hp2 fun v hv => ⟨fun z => ?_, fun z => ?_⟩
  · rintro D7 rfl
    rw [hp, nI_1]
    have e := (NB_eq hv hK).mp z
    exact h1 e (chr_lt hK e).1
  · exact h0 fun y => z ((NB_eq hv hK).mpr y)
theorem in_neg {v : Int32} {lo hi : Nat} (hlo : lo ≤ 1000) (h : v.toInt < 0) {post : Int32 → Prop} (hp : post 0) : fX12_in v (nI lo) (nI hi) post := by
  unfold fX12_in
  refine JN_i True (fun _ => hp) (fun K hK => ⟨fun _ => hK trivial, fun z => absurd ?_ z⟩)
  rw [Int32.lt_iff_toInt_lt, nI_toInt (by omega)]; omega
theorem in_nat {c lo hi : Nat} (hc : c ≤ 1000) (hlo : lo ≤ 1000) (hhi : hi ≤ 1000) {post : Int32 → Prop} (hy : lo ≤ c → c ≤ hi → post 1) (hn : ¬ (lo ≤ c ∧ c ≤ hi) → post 0) : fX12_in (nI c) (nI lo) (nI hi) post := by
  unfold fX12_in
  refine JN_i (¬ (lo ≤ c ∧ c ≤ hi)) hn (fun K hK => ⟨fun z => hK ?_, fun z => ⟨fun z2 => hK ?_, fun z2 => ?_⟩⟩)
  · have := (ltI' (by omega) (by omega)).mp z; omega
  · have := (ltI' (by omega) (by omega)).mp z2; omega
  · exact hy (Nat.le_of_not_lt fun y => z (nI_lt y (by omega))) (Nat.le_of_not_lt fun y => z2 (nI_lt y (by omega)))
theorem NB_in {c lo hi : Nat} {v : Int32} (h : NB c v) (hlo : lo ≤ 1000) (hhi : hi ≤ 100) {post : Int32 → Prop} (hy : lo ≤ c → c ≤ hi → post 1) (hn : ¬ (lo ≤ c ∧ c ≤ hi) → post 0) : fX12_in v (nI lo) (nI hi) post := by
  rcases h with ⟨g1, rfl⟩ | ⟨rfl, g2, g3⟩
  · exact in_nat (by omega) hlo (by omega) hy hn
  · refine in_neg hlo ?_ (hn (by omega))
    have := Int32.lt_iff_toInt_lt.mp g2
    rwa [show (0 : Int32).toInt = 0 by decide] at this
theorem NB_fig {c lo hi : Nat} {v : Int32} (h : NB c v) (hlo : lo ≤ 9) (hhi : hi ≤ 9) {post : Int32 → Prop} (hy : 48 + lo ≤ c → c ≤ 48 + hi → v - nI 48 = nI (c - 48) → post 1) (hn : ¬ (48 + lo ≤ c ∧ c ≤ 48 + hi) → post 0) : fX12_in (v - nI 48) (nI lo) (nI hi) post := by
  rcases h with ⟨g1, rfl⟩ | ⟨rfl, g2, g3⟩
  · by_cases q : 48 ≤ c
    · have e : nI c - nI 48 = nI (c - 48) := sub' q
      rw [e] at hy ⊢
      exact in_nat (by omega) (by omega) (by omega) (fun h1 h2 => hy (by omega) (by omega) rfl) (fun h1 => hn (by omega))
    · refine in_neg (by omega) ?_ (hn (by omega))
      rw [show nI c - nI 48 = -nI (48 - c) by rw [← sub' (by omega : c ≤ 48), Int32.neg_sub], ng_toInt (by omega)]
      omega
  · refine in_neg (by omega) ?_ (hn (by omega))
    have h2 := Int32.lt_iff_toInt_lt.mp g2
    rw [show (0 : Int32).toInt = 0 by decide] at h2
    have e : (v - nI 48).toInt = v.toInt - 48 := by
      rw [Int32.toInt_sub, nI_toInt (by omega)]
      exact Int.bmod_eq_of_le (by omega) (by omega)
    rw [e]; omega
theorem m_isDigit {D : Dy} {base L p : Nat} {b : Nat → Nat} (hT : MT D base b L) (hp : D.1 33 21 = nI p) (hp2 : p ≤ 1000) {post : Int32 → Prop} (h : post (if dig (chr b L) p = true then 1 else 0)) : fX12_isDigit D post := by
  unfold fX12_isDigit
  refine m_next1 hT hp hp2 fun v hv => ?_
  refine NB_in (lo := 48) (hi := 57) hv (by omega) (by omega) (fun h1 h2 => ⟨Or.inr rfl, ?_⟩) (fun h1 => ⟨Or.inl rfl, ?_⟩)
  · have d : dig (chr b L) p = true := decide_eq_true ⟨h1, h2⟩
    rw [if_pos d] at h; exact h
  · have d : ¬ dig (chr b L) p = true := fun z => h1 (of_decide_eq_true z)
    rw [if_neg d] at h; exact h
theorem m_number {D : Dy} {base L p : Nat} {b : Nat → Nat} (hT : MT D base b L) (hp : D.1 33 21 = nI p) (hp2 : p ≤ L) {post : Int32 → Dy → Prop} (h1 : dig (chr b L) p = true → ∀ D', frN D D' → D'.1 33 21 = nI (nmF (chr b L) 3 p 0).1 → D'.1 33 23 = nI (nmF (chr b L) 3 p 0).2 → post 1 D') (h0 : dig (chr b L) p = false → post 0 D) : fX12_takesNumber D post := by
  have L120 := hT.1
  unfold fX12_takesNumber
  refine m_isDigit hT hp (by omega) ?_
  by_cases d : dig (chr b L) p = true
  · rw [if_pos d]
    refine ⟨fun _ => ?_, fun z => absurd z (by decide)⟩
    rintro D7 rfl
    refine lp2_I 3 (fun k x D' => x = nI k ∧ ∃ q v, frN D D' ∧ D'.1 33 21 = nI q ∧ D'.1 33 23 = nI v ∧ q ≤ L ∧ v < 10 ^ k ∧ nmF (chr b L) (3 - k) q v = nmF (chr b L) 3 p 0) (by omega) (fun k hk x D' hpp rec hr => ?_) ⟨rfl, p, 0, frN_s frN_r (by omega), by rw [sI_1, if_neg (by omega)]; exact hp, by rw [sI_1, if_pos ⟨rfl, rfl⟩]; rfl, hp2, by decide, rfl⟩
    obtain ⟨rfl, q, v, f1, q1, q2, q3, q4, q5⟩ := hpp
    have T' : MT D' base b L := MT_w hT (frN_w f1)
    have stop : (k = 3 ∨ dig (chr b L) q = false) → post 1 D' := by
      intro hs
      have : nmF (chr b L) (3 - k) q v = (q, v) := by
        rcases hs with hs | hs
        · rw [hs]; rfl
        · cases (3 - k) with
          | zero => rfl
          | succ m => unfold nmF; rw [hs]; rfl
      rw [this] at q5
      exact h1 d D' f1 (by rw [← q5]; exact q1) (by rw [← q5]; exact q2)
    by_cases e : k = 3
    · subst e
      exact ⟨fun _ => stop (Or.inl rfl), fun z => absurd (Int32.le_refl _) z⟩
    · have hk' : k < 3 := by omega
      have hr := hr hk'
      refine ⟨fun z => absurd z (nI_ge (b := 3) hk' (by omega)), fun _ => ?_⟩
      refine m_isDigit T' q1 (by omega) ?_
      by_cases dd : dig (chr b L) q = true
      · rw [if_pos dd]
        refine ⟨fun z => absurd z (by decide), fun _ => ?_⟩
        refine m_next1 T' q1 (by omega) fun w hw => ?_
        obtain ⟨d1, d2, d3, d4⟩ := dig_lt dd
        rw [d4] at hw
        have ew : w = nI (b q) := by
          rcases hw with ⟨_, z⟩ | ⟨z, _⟩
          · exact z
          · omega
        subst ew
        rintro D25 rfl D27 rfl v29 rfl
        have e21 : ∀ x, (sI D' 33 23 x).1 33 21 = nI q := fun x => by rw [sI_1, if_neg (by omega)]; exact q1
        rw [e21, nI_1, nI_1]
        refine hr _ _ ⟨rfl, q + 1, 10 * v + (b q - 48), frN_s (frN_s f1 (by omega)) (by omega), by rw [sI_1, if_pos ⟨rfl, rfl⟩], ?_, d1, ?_, ?_⟩
        · rw [sI_1, if_neg (by omega), sI_1, if_pos ⟨rfl, rfl⟩, q2, n10, n48, nI_mul, nI_add, sub' (by omega)]; congr 1; omega
        · rw [Nat.pow_succ]; omega
        · rw [← q5, show 3 - k = (3 - (k + 1)) + 1 by omega]
          show _ = if dig (chr b L) q = true then nmF (chr b L) (3 - (k + 1)) (q + 1) (10 * v + (chr b L q - 48)) else (q, v)
          rw [if_pos dd, d4]
      · rw [if_neg dd]
        exact ⟨fun _ => stop (Or.inr (by simpa using dd)), fun z => absurd rfl z⟩
  · rw [if_neg d]
    exact ⟨fun z => absurd rfl z, fun _ => h0 (by simpa using d)⟩
theorem m_figure {D : Dy} {base L p lo hi : Nat} {b : Nat → Nat} (hT : MT D base b L) (hp : D.1 33 21 = nI p) (hp2 : p ≤ 1000) (hlo : lo ≤ 9) (hhi : hi ≤ 9) {post : Int32 → Dy → Prop} (h1 : 48 + lo ≤ chr b L p → chr b L p ≤ 48 + hi → p < L → post 1 (sI (sI D 33 23 (nI (chr b L p - 48))) 33 21 (nI (p + 1)))) (h0 : ¬ (48 + lo ≤ chr b L p ∧ chr b L p ≤ 48 + hi) → post 0 D) : fX12_takesFigure (nI lo) (nI hi) D post := by
  unfold fX12_takesFigure
  refine m_next1 hT hp hp2 fun v hv => ?_
  rw [n48]
  refine NB_fig hv hlo hhi (fun g1 g2 g3 => ⟨fun _ => ?_, fun z => absurd z (by decide)⟩) (fun g => ⟨fun z => absurd rfl z, fun _ => h0 g⟩)
  refine m_next1 hT hp hp2 fun w hw => ?_
  have ew : w = nI (chr b L p) := by
    rcases hw with ⟨_, z⟩ | ⟨z, _⟩
    · exact z
    · omega
  subst ew
  rintro D17 rfl D19 rfl
  have e21 : ∀ x, (sI D 33 23 x).1 33 21 = nI p := fun x => by rw [sI_1, if_neg (by omega)]; exact hp
  rw [e21, nI_1, sub' (by omega)]
  exact h1 g1 g2 (chr_lt (b := b) (L := L) (p := p) (K := chr b L p) (by omega) rfl).1
