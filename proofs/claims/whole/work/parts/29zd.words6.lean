section
/-! WORDS AND CLAUSES: the other's reader -/
def wCode : Nat → Nat
  | 0 => 24627848
  | 1 => 427595
  | 2 => 17376357
  | 3 => 474565
  | 4 => 409067
  | 5 => 370116
  | _ => 533611
theorem wCode_is : ∀ i, i < 7 → ∀ k, k < (wds i).length → (96 : Int32) + ((nI (wCode i) >>> (((5 : Int32) * nI k) &&& 31)) &&& 31) = nI ((wds i).getD ((wds i).length - 1 - k) 0) := by decide +kernel
theorem wds_g : ∀ i, i < 7 → ∀ k, k < (wds i).length → (wds i).getD k 0 < 128 := by decide
theorem MT_n {D D' : Dy} {base L : Nat} {b : Nat → Nat} (h : MT D base b L) (f : frN D D') : MT D' base b L := MT_w h (frN_w f)
theorem m_tk {D : Dy} {base L p K : Nat} {b : Nat → Nat} (hT : MT D base b L) (hp : D.1 33 21 = nI p) (hp2 : p ≤ L) (hK : K < 128) {post : Int32 → Dy → Prop} (h1 : chr b L p = K → p + 1 ≤ L → ∀ D', frN D D' → D'.1 33 21 = nI (p + 1) → post 1 D') (h0 : chr b L p ≠ K → post 0 D) : fX12_takes (nI K) D post := by
  have L120 := hT.1
  exact m_takes hT hp (by omega) hK (fun c l => h1 c l _ (frN_s frN_r (Or.inl rfl)) (by rw [sI_1, if_pos ⟨rfl, rfl⟩])) h0
theorem m_fig {D : Dy} {base L p lo hi : Nat} {b : Nat → Nat} (hT : MT D base b L) (hp : D.1 33 21 = nI p) (hp2 : p ≤ L) (hlo : lo ≤ 9) (hhi : hi ≤ 9) {post : Int32 → Dy → Prop} (h1 : 48 + lo ≤ chr b L p ∧ chr b L p ≤ 48 + hi → p + 1 ≤ L → ∀ D', frN D D' → D'.1 33 21 = nI (p + 1) → D'.1 33 23 = nI (chr b L p - 48) → post 1 D') (h0 : ¬ (48 + lo ≤ chr b L p ∧ chr b L p ≤ 48 + hi) → post 0 D) : fX12_takesFigure (nI lo) (nI hi) D post := by
  have L120 := hT.1
  exact m_figure hT hp (by omega) hlo hhi (fun g1 g2 g3 => h1 ⟨g1, g2⟩ g3 _ (frN_s (frN_s frN_r (Or.inr rfl)) (Or.inl rfl)) (by rw [sI_1, if_pos ⟨rfl, rfl⟩]) (by rw [sI_1, if_neg (by omega), sI_1, if_pos ⟨rfl, rfl⟩])) h0
theorem m_word {D : Dy} {base L p i : Nat} {b : Nat → Nat} (hi : i < 7) (hT : MT D base b L) (hp : D.1 33 21 = nI p) (hpL : p ≤ L) {post : Int32 → Dy → Prop}
    (h1 : lc (chr b L) (wds i) p = (wds i).length → chr b L (p + (wds i).length) = 32 → ∀ D', frN D D' → D'.1 33 21 = nI (p + (wds i).length + 1) → p + (wds i).length + 1 ≤ L → post 1 D')
    (h2 : lc (chr b L) (wds i) p = (wds i).length → chr b L (p + (wds i).length) ≠ 32 → ∀ D', frN D D' → D'.1 33 21 = nI (p + (wds i).length) → p + (wds i).length ≤ L → post 0 D')
    (h0 : lc (chr b L) (wds i) p < (wds i).length → ∀ D', frN D D' → D'.1 33 21 = nI (p + lc (chr b L) (wds i) p) → post 0 D') : fX12_takesWord (nI (wCode i)) (nI (wds i).length) D post := by
  have L120 := hT.1
  have w5 := wds_5 i
  have w1 : 1 ≤ (wds i).length := by
    have : ∀ i, i < 7 → 1 ≤ (wds i).length := by decide
    exact this i hi
  unfold fX12_takesWord
  rintro v1 rfl
  rw [n1, sub' w1]
  refine lp2_I (wds i).length (fun k x D' => x = (if k = (wds i).length then -nI 1 else nI ((wds i).length - 1 - k)) ∧ frN D D' ∧ D'.1 33 21 = nI (p + k) ∧ p + k ≤ L ∧ ∀ j, j < k → chr b L (p + j) = (wds i).getD j 0) (by omega) (fun k hk x D' hv rec hr => ?_) ⟨by rw [if_neg (by omega)]; rfl, frN_r, hp, hpL, fun j hj => absurd hj (Nat.not_lt_zero _)⟩
  obtain ⟨rfl, f1, p1, l1, al⟩ := hv
  by_cases e : k = (wds i).length
  · rw [if_pos e]
    refine ⟨fun _ => ?_, fun z => absurd nI1n.1 z⟩
    have hl : lc (chr b L) (wds i) p = (wds i).length := by rw [← e]; exact lc_at _ _ k al hk (Or.inl e)
    rw [e] at p1 l1
    refine m_tk (K := 32) (MT_n hT f1) p1 l1 (by omega) (fun c l2 D2 f2 p2 => ⟨Or.inr rfl, h1 hl c D2 (frN_t f1 f2) p2 l2⟩) (fun c => ⟨Or.inl rfl, h2 hl c D' f1 p1 l1⟩)
  · rw [if_neg e]
    have hk' : k < (wds i).length := by omega
    refine ⟨fun z => absurd z (nI0nlt (by omega)), fun _ => ?_⟩
    rw [wCode_is i hi _ (by omega), show (wds i).length - 1 - ((wds i).length - 1 - k) = k by omega]
    refine m_tk (MT_n hT f1) p1 l1 (wds_g i hi k hk') (fun c l2 D2 f2 p2 => ⟨fun _ => ?_, fun z => absurd z (by decide)⟩) (fun c => ⟨fun z => absurd rfl z, fun _ => ?_⟩)
    · rintro v21 rfl
      refine hr hk' _ _ ⟨?_, frN_t f1 f2, p2, l2, fun j hj => ?_⟩
      · by_cases e2 : k + 1 = (wds i).length
        · rw [if_pos e2, show (wds i).length - 1 - k = 0 by omega]; decide
        · rw [if_neg e2, adm' (by omega)]; rfl
      · by_cases c2 : j = k
        · rw [c2]; exact c
        · exact al j (by omega)
    · have hl : lc (chr b L) (wds i) p = k := lc_at _ _ k al hk (Or.inr c)
      exact h0 (by omega) D' f1 (by rw [hl]; exact p1)
/-- all but what the other's reader writes is as it was; of the picks only the asked one's -/
def frV (x : Nat) (D D' : Dy) : Prop := D'.2 = D.2 ∧ ∀ b y, ¬ (b = 33 ∧ (y = 21 ∨ y = 23 ∨ y = 28 ∨ y = 29 ∨ y = 30 ∨ y = 31 ∨ y = 36 ∨ y = 37 ∨ y = 38)) → ¬ (47 ≤ b ∧ b ≤ 50) → b ≠ 52 → b ≠ 53 → ¬ (b = 51 ∧ y % 6 = x) → D'.1 b y = D.1 b y
theorem frV_r {x : Nat} {D : Dy} : frV x D D := ⟨rfl, fun _ _ _ _ _ _ _ => rfl⟩
theorem frV_t {x : Nat} {D D' D'' : Dy} (h : frV x D D') (h' : frV x D' D'') : frV x D D'' := ⟨h'.1.trans h.1, fun b y h1 h2 h3 h4 h5 => (h'.2 b y h1 h2 h3 h4 h5).trans (h.2 b y h1 h2 h3 h4 h5)⟩
theorem frV_w {x : Nat} {D D' : Dy} (h : frW D D') : frV x D D' := ⟨h.1, fun b y h1 _ h3 h4 _ => h.2 b y (by omega) h3 h4⟩
theorem frV_n {x : Nat} {D D' : Dy} (h : frN D D') : frV x D D' := frV_w (frN_w h)
theorem frV_s {x : Nat} {D D' : Dy} {a k : Nat} {v : Int32} (h : frV x D D') (ha : (a = 33 ∧ (k = 28 ∨ k = 29 ∨ k = 30 ∨ k = 31)) ∨ (47 ≤ a ∧ a ≤ 50) ∨ (a = 51 ∧ k % 6 = x)) : frV x D (sI D' a k v) := ⟨h.1, fun b y h1 h2 h3 h4 h5 => by rw [sI_1, if_neg (by omega)]; exact h.2 b y h1 h2 h3 h4 h5⟩
theorem MT_v {D D' : Dy} {base L x : Nat} {b : Nat → Nat} (h : MT D base b L) (f : frV x D D') : MT D' base b L := by
  obtain ⟨t1, t2, t3, t4, t5⟩ := h
  exact ⟨t1, t2, by rw [f.2 _ _ (by omega) (by omega) (by omega) (by omega) (by omega)]; exact t3, by rw [f.2 _ _ (by omega) (by omega) (by omega) (by omega) (by omega)]; exact t4, fun i hi => by rw [f.2 _ _ (by omega) (by omega) (by omega) (by omega) (by omega)]; exact t5 i hi⟩
theorem tvM_g {D D' : Dy} {x : Nat} (h1 : D'.1 34 x = D.1 34 x) (h2 : D'.1 35 x = D.1 35 x) (h3 : D'.1 36 x = D.1 36 x) : tvM D' x = tvM D x := by
  funext c
  unfold tvM
  rw [h1, h2, h3]
theorem tvM_v {D D' : Dy} {x y : Nat} (f : frV y D D') : tvM D' x = tvM D x := tvM_g (f.2 _ _ (by omega) (by omega) (by omega) (by omega) (by omega)) (f.2 _ _ (by omega) (by omega) (by omega) (by omega) (by omega)) (f.2 _ _ (by omega) (by omega) (by omega) (by omega) (by omega))
/-- what is told, as the other holds it: of the picks, what they say of x -/
def ML (D : Dy) (tv : Nat → Bool) (R : RS) (x : Nat) : Prop := MM D R.1 ∧ D.1 33 31 = nI R.2.length ∧ ∀ j, j < R.2.length → ∃ v, D.1 51 (6 * j + x) = bB v ∧ ∀ s, ev tv (R.2.getD j []) s = v :: s
theorem ML_w {D D' : Dy} {tv : Nat → Bool} {R : RS} {x : Nat} (h : ML D tv R x) (f : frW D D') : ML D' tv R x := by
  obtain ⟨⟨h1, h2, h3, h4, h5, h6⟩, h7, h8⟩ := h
  have e : ∀ a k, ¬ (a = 33 ∧ (k = 21 ∨ k = 23 ∨ k = 36 ∨ k = 37 ∨ k = 38)) → a ≠ 52 → a ≠ 53 → D'.1 a k = D.1 a k := f.2
  exact ⟨⟨fun i hi => by rw [e _ _ (by omega) (by omega) (by omega)]; exact h1 i hi, fun i hi => by rw [e _ _ (by omega) (by omega) (by omega)]; exact h2 i hi, by rw [e _ _ (by omega) (by omega) (by omega)]; exact h3, by rw [e _ _ (by omega) (by omega) (by omega)]; exact h4, by rw [e _ _ (by omega) (by omega) (by omega)]; exact h5, fun k hk => by rw [e _ _ (by omega) (by omega) (by omega), e _ _ (by omega) (by omega) (by omega)]; exact h6 k hk⟩, by rw [e _ _ (by omega) (by omega) (by omega)]; exact h7, fun j hj => by rw [e _ _ (by omega) (by omega) (by omega)]; exact h8 j hj⟩
theorem ML_n {D D' : Dy} {tv : Nat → Bool} {R : RS} {x : Nat} (h : ML D tv R x) (f : frN D D') : ML D' tv R x := ML_w h (frN_w f)
theorem ML_W {D : Dy} {tv : Nat → Bool} {R : RS} {x f v : Nat} (h : ML D tv R x) : ML (sI D 47 f (nI v)) tv (rsW R f v) x := by
  obtain ⟨⟨h1, h2, h3, h4, h5, h6⟩, h7, h8⟩ := h
  refine ⟨⟨fun i hi => ?_, fun i hi => by rw [sI_1, if_neg (by omega)]; exact h2 i hi, by rw [sI_1, if_neg (by omega)]; exact h3, by rw [sI_1, if_neg (by omega)]; exact h4, by rw [sI_1, if_neg (by omega)]; exact h5, fun k hk => by rw [sI_1, if_neg (by omega), sI_1, if_neg (by omega)]; exact h6 k hk⟩, by rw [sI_1, if_neg (by omega)]; exact h7, fun j hj => by rw [sI_1, if_neg (by omega)]; exact h8 j hj⟩
  rw [sI_1]
  show _ = nI (upN (md_w R.1) f v i)
  unfold upN
  by_cases c : i = f
  · rw [if_pos ⟨rfl, c⟩, if_pos c]
  · rw [if_neg (fun z => c z.2), if_neg c]; exact h1 i hi
theorem ML_M {D : Dy} {tv : Nat → Bool} {R : RS} {x f v : Nat} (h : ML D tv R x) : ML (sI D 48 f (nI v)) tv (rsM R f v) x := by
  obtain ⟨⟨h1, h2, h3, h4, h5, h6⟩, h7, h8⟩ := h
  refine ⟨⟨fun i hi => by rw [sI_1, if_neg (by omega)]; exact h1 i hi, fun i hi => ?_, by rw [sI_1, if_neg (by omega)]; exact h3, by rw [sI_1, if_neg (by omega)]; exact h4, by rw [sI_1, if_neg (by omega)]; exact h5, fun k hk => by rw [sI_1, if_neg (by omega), sI_1, if_neg (by omega)]; exact h6 k hk⟩, by rw [sI_1, if_neg (by omega)]; exact h7, fun j hj => by rw [sI_1, if_neg (by omega)]; exact h8 j hj⟩
  rw [sI_1]
  show _ = nI (upN (md_m R.1) f v i)
  unfold upN
  by_cases c : i = f
  · rw [if_pos ⟨rfl, c⟩, if_pos c]
  · rw [if_neg (fun z => c z.2), if_neg c]; exact h2 i hi
theorem ML_P {D : Dy} {tv : Nat → Bool} {R : RS} {x v : Nat} (h : ML D tv R x) : ML (sI D 33 28 (nI v)) tv (rsP R v) x := by
  obtain ⟨⟨h1, h2, h3, h4, h5, h6⟩, h7, h8⟩ := h
  exact ⟨⟨fun i hi => by rw [sI_1, if_neg (by omega)]; exact h1 i hi, fun i hi => by rw [sI_1, if_neg (by omega)]; exact h2 i hi, by rw [sI_1, if_pos ⟨rfl, rfl⟩]; rfl, by rw [sI_1, if_neg (by omega)]; exact h4, by rw [sI_1, if_neg (by omega)]; exact h5, fun k hk => by rw [sI_1, if_neg (by omega), sI_1, if_neg (by omega)]; exact h6 k hk⟩, by rw [sI_1, if_neg (by omega)]; exact h7, fun j hj => by rw [sI_1, if_neg (by omega)]; exact h8 j hj⟩
theorem ML_Z {D : Dy} {tv : Nat → Bool} {R : RS} {x v : Nat} (h : ML D tv R x) : ML (sI D 33 29 (nI v)) tv (rsZ R v) x := by
  obtain ⟨⟨h1, h2, h3, h4, h5, h6⟩, h7, h8⟩ := h
  exact ⟨⟨fun i hi => by rw [sI_1, if_neg (by omega)]; exact h1 i hi, fun i hi => by rw [sI_1, if_neg (by omega)]; exact h2 i hi, by rw [sI_1, if_neg (by omega)]; exact h3, by rw [sI_1, if_pos ⟨rfl, rfl⟩]; rfl, by rw [sI_1, if_neg (by omega)]; exact h5, fun k hk => by rw [sI_1, if_neg (by omega), sI_1, if_neg (by omega)]; exact h6 k hk⟩, by rw [sI_1, if_neg (by omega)]; exact h7, fun j hj => by rw [sI_1, if_neg (by omega)]; exact h8 j hj⟩
theorem ML_L {D : Dy} {tv : Nat → Bool} {R : RS} {x v : Nat} (h : ML D tv R x) : ML (sI D 33 30 (nI v)) tv (rsL R v) x := by
  obtain ⟨⟨h1, h2, h3, h4, h5, h6⟩, h7, h8⟩ := h
  exact ⟨⟨fun i hi => by rw [sI_1, if_neg (by omega)]; exact h1 i hi, fun i hi => by rw [sI_1, if_neg (by omega)]; exact h2 i hi, by rw [sI_1, if_neg (by omega)]; exact h3, by rw [sI_1, if_neg (by omega)]; exact h4, by rw [sI_1, if_pos ⟨rfl, rfl⟩]; rfl, fun k hk => by rw [sI_1, if_neg (by omega), sI_1, if_neg (by omega)]; exact h6 k hk⟩, by rw [sI_1, if_neg (by omega)]; exact h7, fun j hj => by rw [sI_1, if_neg (by omega)]; exact h8 j hj⟩
theorem ML_K {D : Dy} {tv : Nat → Bool} {R : RS} {x k s v : Nat} (h : ML D tv R x) : ML (sI (sI D 49 k (nI s)) 50 k (nI v)) tv (rsK R k s v) x := by
  obtain ⟨⟨h1, h2, h3, h4, h5, h6⟩, h7, h8⟩ := h
  have o : ∀ a y, a ≠ 49 → a ≠ 50 → (sI (sI D 49 k (nI s)) 50 k (nI v)).1 a y = D.1 a y := fun a y z1 z2 => by rw [sI_1, if_neg (fun z => z2 z.1), sI_1, if_neg (fun z => z1 z.1)]
  refine ⟨⟨fun i hi => by rw [o _ _ (by omega) (by omega)]; exact h1 i hi, fun i hi => by rw [o _ _ (by omega) (by omega)]; exact h2 i hi, by rw [o _ _ (by omega) (by omega)]; exact h3, by rw [o _ _ (by omega) (by omega)]; exact h4, by rw [o _ _ (by omega) (by omega)]; exact h5, fun j hj => ?_⟩, by rw [o _ _ (by omega) (by omega)]; exact h7, fun j hj => by rw [o _ _ (by omega) (by omega)]; exact h8 j hj⟩
  rw [sI_1, if_neg (by omega), sI_1, sI_1]
  show _ = nI (upN (md_s R.1) k s j) ∧ _ = nI (upN (md_t R.1) k v j)
  unfold upN
  by_cases c : j = k
  · rw [if_pos ⟨rfl, c⟩, if_pos c, if_pos ⟨rfl, c⟩, if_pos c]; exact ⟨rfl, rfl⟩
  · rw [if_neg (fun z => c z.2), if_neg c, if_neg (fun z => c z.2), if_neg c]; exact h6 j hj
theorem getD_snoc {α : Type} {l : List α} {a d : α} {j : Nat} : (l ++ [a]).getD j d = if j = l.length then a else l.getD j d := by
  rw [List.getD_eq_getElem?_getD, List.getD_eq_getElem?_getD]
  by_cases c : j = l.length
  · rw [if_pos c, c, List.getElem?_append_right (Nat.le_refl _), Nat.sub_self]; rfl
  · rw [if_neg c]
    by_cases c2 : j < l.length
    · rw [List.getElem?_append_left c2]
    · rw [List.getElem?_eq_none (by simp; omega), List.getElem?_eq_none (by omega)]
theorem ML_pk {D : Dy} {tv : Nat → Bool} {R : RS} {x : Nat} {c : List Nat} {v : Bool} (h : ML D tv R x) (hv : ∀ s, ev tv c s = v :: s) : ML (sI (sI D 51 (6 * R.2.length + x) (bB v)) 33 31 (nI (R.2.length + 1))) tv (R.1, R.2 ++ [c]) x := by
  obtain ⟨⟨h1, h2, h3, h4, h5, h6⟩, h7, h8⟩ := h
  have o : ∀ a y, a ≠ 51 → ¬ (a = 33 ∧ y = 31) → (sI (sI D 51 (6 * R.2.length + x) (bB v)) 33 31 (nI (R.2.length + 1))).1 a y = D.1 a y := fun a y z1 z2 => by rw [sI_1, if_neg z2, sI_1, if_neg (fun z => z1 z.1)]
  refine ⟨⟨fun i hi => by rw [o _ _ (by omega) (by omega)]; exact h1 i hi, fun i hi => by rw [o _ _ (by omega) (by omega)]; exact h2 i hi, by rw [o _ _ (by omega) (by omega)]; exact h3, by rw [o _ _ (by omega) (by omega)]; exact h4, by rw [o _ _ (by omega) (by omega)]; exact h5, fun j hj => by rw [o _ _ (by omega) (by omega), o _ _ (by omega) (by omega)]; exact h6 j hj⟩, by rw [sI_1, if_pos ⟨rfl, rfl⟩]; simp, fun j hj => ?_⟩
  have hj : j < R.2.length + 1 := by simpa using hj
  show ∃ v', _ ∧ ∀ s, ev tv ((R.2 ++ [c]).getD j []) s = v' :: s
  rw [sI_1, if_neg (by omega), sI_1, getD_snoc]
  by_cases e : j = R.2.length
  · rw [if_pos ⟨rfl, by omega⟩, if_pos e]; exact ⟨v, rfl, hv⟩
  · rw [if_neg (by omega), if_neg e]; exact h8 j (by omega)
end
