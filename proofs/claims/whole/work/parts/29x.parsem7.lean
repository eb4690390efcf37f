/-! E: the other's reader keeps pace with what is told -/
theorem stl_stl : ∀ W P, stl 124 (stl 38 W P).1 (stl 38 W P).2 = stl 124 W P
  | [], P => rfl
  | c :: W, [] => rfl
  | c :: W, [b] => rfl
  | c :: W, b :: a :: P => by
    by_cases c1 : c = 38
    · have e : ∀ sg, stl sg (c :: W) (b :: a :: P) = stl sg W ((a && b) :: P) := fun sg => if_pos c1
      rw [e, e]
      exact stl_stl W ((a && b) :: P)
    · have e : stl 38 (c :: W) (b :: a :: P) = (c :: W, b :: a :: P) := by
        show (if c = 38 then _ else if c = 124 ∧ 38 ≠ 38 then _ else _) = _
        rw [if_neg c1, if_neg (fun z => z.2 rfl)]
      rw [e]
theorem stl_stay {sg : Nat} {W : List Nat} {P : List Bool} (h : ∀ y W', W = y :: W' → y ≠ 38 ∧ (sg = 38 ∨ y ≠ 124)) : stl sg W P = (W, P) := by
  cases W with
  | nil => rfl
  | cons c W =>
    cases P with
    | nil => rfl
    | cons x P =>
      cases P with
      | nil => rfl
      | cons y P =>
        obtain ⟨h1, h2⟩ := h c W rfl
        show (if c = 38 then _ else if c = 124 ∧ sg ≠ 38 then _ else _) = _
        rw [if_neg h1, if_neg (fun z => by rcases h2 with h2 | h2; exact z.2 h2; exact h2 z.1)]
theorem opn_c {c : Nat} {W : List Nat} : opn (c :: W) = opn W + (if c = 38 ∨ c = 124 then 1 else 0) := by
  unfold opn
  rw [List.countP_cons]
  by_cases h : c = 38 ∨ c = 124
  · rw [if_pos h, if_pos (by simpa using h)]
  · rw [if_neg h, if_neg (by simpa using h)]
theorem opn_r {W : List Nat} : ∀ k, opn (List.replicate k 33 ++ W) = opn W
  | 0 => rfl
  | k + 1 => by
    show opn (33 :: (List.replicate k 33 ++ W)) = _
    rw [opn_c, opn_r k]; rfl
theorem Says_1 {tv : Nat → Bool} {acc : List Nat} {r : Rd} {v w : Bool} (h : Says tv acc r v) (h2 : Says tv acc r w) : v = w := by
  obtain ⟨c, e1, e2⟩ := h
  obtain ⟨c', e3, e4⟩ := h2
  have : c = c' := List.append_cancel_left (e1.symm.trans e3)
  subst this
  have := (e2 []).symm.trans (e4 [])
  injection this
def Sm (D0 : Dy) (L : Nat) (tv : Nat → Bool) (post : Int32 → Dy → Prop) (bad : Nat → Prop) (st : List Nat → List Bool → List Nat × List Bool) (one : Nat → List Nat → Rd) (d : Nat) : Prop := ∀ p acc W P, p ≤ L → (∀ y W', W = y :: W' → ¬ bad y) → P.length = opn W → W.length + P.length ≤ p → ((one p acc).1 = true → ∀ v, Says tv acc (one p acc) v → ∀ W' P', st W' P' = (W, v :: P) → P'.length = opn W' + 1 → W'.length + P'.length ≤ (one p acc).2.1 → Gd D0 L post 0 W' P' d (one p acc).2.1) → ((one p acc).1 = false → Fl D0 post (one p acc).2.1) → Gd D0 L post 1 W P d p
theorem Sm_lp1 {D0 : Dy} {base L d sep op : Nat} {b : Nat → Nat} {tv : Nat → Bool} {post : Int32 → Dy → Prop} {bad1 bad2 : Nat → Prop} {st1 : List Nat → List Bool → List Nat × List Bool} {one : Nat → List Nat → Rd} (hT : MT D0 base b L) (h1 : Sm D0 L tv post bad1 st1 one d)
    (hs : (sep = 38 ∧ op = 1) ∨ (sep = 124 ∧ op = 2)) (hst : ∀ W P, stl sep (st1 W P).1 (st1 W P).2 = stl sep W P) (hb : ∀ y, ¬ bad2 y → y ≠ 38 ∧ (sep = 38 ∨ y ≠ 124)) (hsep : ¬ bad1 sep)
    (hpos : ∀ p acc, p ≤ L → (one p acc).2.1 ≤ L ∧ ((one p acc).1 = true → p < (one p acc).2.1)) {W : List Nat} {P : List Bool} {acc0 : List Nat} (hW : ∀ y W', W = y :: W' → ¬ bad2 y) (hP : P.length = opn W) :
    ∀ k q acc v0 W' P', (∃ c0, acc = acc0 ++ c0 ∧ ∀ s, ev tv c0 s = v0 :: s) → q ≤ L → L < k + q → stl sep W' P' = (W, v0 :: P) → P'.length = opn W' + 1 → W'.length + P'.length ≤ q →
      ((rLp (chr b L) one sep op k q acc).1 = true → ∀ v, Says tv acc0 (rLp (chr b L) one sep op k q acc) v → ∀ W' P', stl sep W' P' = (W, v :: P) → P'.length = opn W' + 1 → W'.length + P'.length ≤ (rLp (chr b L) one sep op k q acc).2.1 → Gd D0 L post 0 W' P' d (rLp (chr b L) one sep op k q acc).2.1) →
      ((rLp (chr b L) one sep op k q acc).1 = false → Fl D0 post (rLp (chr b L) one sep op k q acc).2.1) → Gd D0 L post 0 W' P' d q
  | 0, q, acc, v0, W', P', _, hq, hk, _, _, _, _, _ => by omega
  | k + 1, q, acc, v0, W', P', h0, hq, hk, est, el, ez, good, bad => by
    rw [rLp_s] at good bad
    by_cases c : chr b L q = sep
    · rw [if_pos c] at good bad
      have qL := (chr_lt (by rcases hs with ⟨h, _⟩ | ⟨h, _⟩ <;> omega) c).1
      have so := stl_ops (sg := sep) W' P' el
      rw [est] at so
      have so2 : W.length ≤ W'.length := so.2.1
      have so3 : P.length + 1 ≤ P'.length := so.2.2
      refine gd_op hT (by rcases hs with ⟨h, _⟩ | ⟨h, _⟩ <;> omega) c el ez ?_
      rw [est]
      refine h1 (q + 1) acc (sep :: W) (v0 :: P) qL (fun y W2 e => by injection e with e1 e2; rw [← e1]; exact hsep) ?_ (by simp; omega) (fun y1 v sv W2 P2 e1 e2 e3 => ?_) (fun y0 => ?_)
      · rw [opn_c, if_pos (by rcases hs with ⟨h, _⟩ | ⟨h, _⟩ <;> omega), ← hP]; rfl
      · rw [if_pos y1] at good bad
        obtain ⟨c3, s1, s2⟩ := sv
        obtain ⟨c0, s3, s4⟩ := h0
        have hp2 := hpos (q + 1) acc qL
        have hp3 := hp2.2 y1
        refine Sm_lp1 hT h1 hs hst hb hsep hpos hW hP k _ _ (if op = 1 then v0 && v else v0 || v) W2 P2 ⟨c0 ++ c3 ++ [op], by rw [s1, s3]; simp [List.append_assoc], fun s => ?_⟩ hp2.1 (by omega) ?_ e2 e3 good bad
        · rw [ev_app, ev_app, s4, s2]
          show evS tv op (v :: v0 :: s) = _
          rcases hs with ⟨_, rfl⟩ | ⟨_, rfl⟩ <;> rfl
        · rw [← hst, e1]
          have : stl sep (sep :: W) (v :: v0 :: P) = stl sep W ((if op = 1 then v0 && v else v0 || v) :: P) := by
            rcases hs with ⟨rfl, rfl⟩ | ⟨rfl, rfl⟩ <;> rfl
          show stl sep (sep :: W) (v :: v0 :: P) = _
          rw [this]
          exact stl_stay fun y W3 e => hb y (hW y W3 e)
      · rw [if_neg (by rw [y0]; decide)] at bad
        exact bad y0
    · rw [if_neg c] at good bad
      exact good rfl v0 h0 W' P' est el ez
theorem Sm_lp {D0 : Dy} {base L d sep op : Nat} {b : Nat → Nat} {tv : Nat → Bool} {post : Int32 → Dy → Prop} {bad1 bad2 : Nat → Prop} {st1 : List Nat → List Bool → List Nat × List Bool} {one : Nat → List Nat → Rd} (hT : MT D0 base b L) (h1 : Sm D0 L tv post bad1 st1 one d)
    (hs : (sep = 38 ∧ op = 1) ∨ (sep = 124 ∧ op = 2)) (hst : ∀ W P, stl sep (st1 W P).1 (st1 W P).2 = stl sep W P) (hb : ∀ y, ¬ bad2 y → y ≠ 38 ∧ (sep = 38 ∨ y ≠ 124)) (hb2 : ∀ y, bad1 y → bad2 y) (hsep : ¬ bad1 sep)
    (hpos : ∀ p acc, p ≤ L → (one p acc).2.1 ≤ L ∧ ((one p acc).1 = true → p < (one p acc).2.1)) :
    Sm D0 L tv post bad2 (stl sep) (fun p acc => if (one p acc).1 = true then rLp (chr b L) one sep op 120 (one p acc).2.1 (one p acc).2.2 else one p acc) d := by
  intro p acc W P hp hW hP hl good bad
  have L120 := hT.1
  refine h1 p acc W P hp (fun y W' e z => hW y W' e (hb2 y z)) hP hl (fun y1 v sv W' P' e1 e2 e3 => ?_) (fun y0 => ?_)
  · simp only [if_pos y1] at good bad
    have hp2 := hpos p acc hp
    have hp3 := hp2.2 y1
    refine Sm_lp1 hT h1 hs hst hb hsep hpos hW hP 120 _ _ v W' P' sv hp2.1 (by omega) ?_ e2 e3 good bad
    rw [← hst, e1]
    exact stl_stay fun y W3 e => hb y (hW y W3 e)
  · have n : ¬ (one p acc).1 = true := by rw [y0]; decide
    simp only [if_neg n] at bad
    exact bad y0
def bd (w y : Nat) : Prop := y = 33 ∨ (1 ≤ w ∧ y = 38) ∨ (2 ≤ w ∧ y = 124)
def st0 (w : Nat) : List Nat → List Bool → List Nat × List Bool := if w = 0 then fun W P => (W, P) else stl (if w = 1 then 38 else 124)
theorem Sm_E {D0 : Dy} {base L x : Nat} {b : Nat → Nat} {post : Int32 → Dy → Prop} (hT : MT D0 base b L) (hx : D0.1 33 33 = nI x) (hx6 : x < 6) : ∀ n d, d ≤ 4 →
    (3 * (4 - d) + 1 ≤ n → ∀ p acc k W0 P, p ≤ L → (∀ y W', W0 = y :: W' → y ≠ 33) → k ≤ d → P.length = opn W0 → k + W0.length + P.length ≤ p → ((rE (chr b L) n 0 d p acc).1 = true → ∀ v, Says (tvM D0 x) acc (rE (chr b L) n 0 d p acc) v → Gd D0 L post 0 W0 (ntk k v :: P) (d - k) (rE (chr b L) n 0 d p acc).2.1) → ((rE (chr b L) n 0 d p acc).1 = false → Fl D0 post (rE (chr b L) n 0 d p acc).2.1) → Gd D0 L post 1 (List.replicate k 33 ++ W0) P d p) ∧
    (3 * (4 - d) + 2 ≤ n → Sm D0 L (tvM D0 x) post (bd 1) (stl 38) (rE (chr b L) n 1 d) d) ∧
    (3 * (4 - d) + 3 ≤ n → Sm D0 L (tvM D0 x) post (bd 2) (stl 124) (rE (chr b L) n 2 d) d)
  | 0, d, hd => ⟨fun h => by omega, fun h => by omega, fun h => by omega⟩
  | n + 1, d, hd => by
    have L120 := hT.1
    have ih := Sm_E (b := b) (post := post) hT hx hx6 n
    refine ⟨fun hn p acc k W0 P hp hW hk hP hl good bad => ?_, fun hn => ?_, fun hn => ?_⟩
    · rw [rE_0] at good bad
      by_cases c1 : chr b L p = 33
      · by_cases cd : d < 4
        · rw [if_pos ⟨cd, c1⟩] at good bad
          have pL := (chr_lt (by omega) c1).1
          refine gd_open hT (Or.inl rfl) c1 cd (by simp; omega) ?_
          refine (ih (d + 1) cd).1 (by omega) (p + 1) acc (k + 1) W0 P pL hW (by omega) hP (by omega) (fun y1 v sv => ?_) (fun y0 => ?_)
          · rw [if_pos y1] at good
            obtain ⟨c, s1, s2⟩ := sv
            have := good rfl (!v) ⟨c ++ [0], by show _ ++ [0] = _; rw [s1, List.append_assoc], fun s => by rw [ev_app, s2]; rfl⟩
            rw [Nat.add_sub_add_right]
            exact this
          · rw [if_neg (by rw [y0]; decide)] at bad
            exact bad y0
        · have : d = 4 := by omega
          subst this
          rw [if_neg (fun z => cd z.1), if_neg (fun z => cd z.1)] at bad
          have e : rT (chr b L) p acc = (false, p, acc) := by
            unfold rT; rw [c1]; rfl
          rw [e] at bad
          exact gd_full hT (Or.inl c1) (bad rfl)
      · by_cases c2 : chr b L p = 40
        · by_cases cd : d < 4
          · rw [if_neg (fun z => c1 z.2), if_pos ⟨cd, c2⟩] at good bad
            have pL := (chr_lt (by omega) c2).1
            refine gd_open hT (Or.inr rfl) c2 cd (by simp; omega) ?_
            refine (ih (d + 1) cd).2.2 (by omega) (p + 1) acc (40 :: (List.replicate k 33 ++ W0)) P pL (fun y W' e => ?_) ?_ (by simp; omega) (fun y1 v sv W' P' e1 e2 e3 => ?_) (fun y0 => ?_)
            · injection e with e1 e2
              unfold bd; omega
            · rw [opn_c, opn_r]; exact hP
            · rw [if_pos y1] at good bad
              have pos := rE_pos (b := b) n 2 (d + 1) (p + 1) acc pL
              obtain ⟨m, rfl⟩ : ∃ m, n = m + 2 := ⟨n - 2, by omega⟩
              have en := rE_end2 (b := b) L120 pL y1
              refine gd_close hT pos.2.1 ⟨en.2, en.1⟩ hW e2 e1 (by omega) (fun z => ?_) (fun z => ?_)
              · rw [if_pos z] at good
                exact good rfl v sv
              · rw [if_neg z] at bad
                exact bad rfl
            · rw [if_neg (by rw [y0]; decide)] at bad
              exact bad y0
          · have : d = 4 := by omega
            subst this
            rw [if_neg (fun z => cd z.1), if_neg (fun z => cd z.1)] at bad
            have e : rT (chr b L) p acc = (false, p, acc) := by
              unfold rT; rw [c2]; rfl
            rw [e] at bad
            exact gd_full hT (Or.inr c2) (bad rfl)
        · rw [if_neg (fun z => c1 z.2), if_neg (fun z => c2 z.2)] at good bad
          exact gd_test hW hT hk (by have : opn W0 ≤ W0.length := List.countP_le_length; omega) hp hx hx6 ⟨c1, c2⟩ good bad
    · have e : rE (chr b L) (n + 1) 1 d = fun p acc => if (rE (chr b L) n 0 d p acc).1 = true then rLp (chr b L) (rE (chr b L) n 0 d) 38 1 120 (rE (chr b L) n 0 d p acc).2.1 (rE (chr b L) n 0 d p acc).2.2 else rE (chr b L) n 0 d p acc := rfl
      rw [e]
      refine Sm_lp (bad1 := fun y => y = 33) (st1 := fun W P => (W, P)) hT ?_ (Or.inl ⟨rfl, rfl⟩) (fun _ _ => rfl) (fun y h => ⟨fun z => h (Or.inr (Or.inl ⟨Nat.le_refl _, z⟩)), Or.inl rfl⟩) (fun y h => Or.inl h) (by decide) (fun p acc hp => (rE_pos n 0 d p acc hp).2)
      intro p acc W P hp hW hP hl good bad
      refine (ih d hd).1 (by omega) p acc 0 W P hp hW (Nat.zero_le _) hP (by omega) (fun y1 v sv => ?_) bad
      have pos := (rE_pos (b := b) n 0 d p acc hp).2.2 y1
      exact good y1 v sv W (v :: P) rfl (by rw [← hP]; rfl) (by simp; omega)
    · have e : rE (chr b L) (n + 1) 2 d = fun p acc => if (rE (chr b L) n 1 d p acc).1 = true then rLp (chr b L) (rE (chr b L) n 1 d) 124 2 120 (rE (chr b L) n 1 d p acc).2.1 (rE (chr b L) n 1 d p acc).2.2 else rE (chr b L) n 1 d p acc := rfl
      rw [e]
      refine Sm_lp (bad1 := bd 1) (st1 := stl 38) hT ((ih d hd).2.1 (by omega)) (Or.inr ⟨rfl, rfl⟩) stl_stl (fun y h => ⟨fun z => h (Or.inr (Or.inl ⟨by omega, z⟩)), Or.inr fun z => h (Or.inr (Or.inr ⟨Nat.le_refl _, z⟩))⟩) (fun y h => ?_) (by unfold bd; omega) (fun p acc hp => (rE_pos n 1 d p acc hp).2)
      unfold bd at h ⊢; omega
theorem m_takesE {D : Dy} {base L p x : Nat} {b : Nat → Nat} {acc : List Nat} {post : Int32 → Dy → Prop} (hT : MT D base b L) (hp : D.1 33 21 = nI p) (hpL : p ≤ L) (hx : D.1 33 33 = nI x) (hx6 : x < 6) (h1 : (rE (chr b L) 16 2 0 p acc).1 = true → ∀ v, Says (tvM D x) acc (rE (chr b L) 16 2 0 p acc) v → ∀ D', frW D D' → D'.1 33 21 = nI (rE (chr b L) 16 2 0 p acc).2.1 → D'.1 53 0 = bB v → post 1 D') (h0 : (rE (chr b L) 16 2 0 p acc).1 = false → Fl D post (rE (chr b L) 16 2 0 p acc).2.1) : fX12_takesE D post := by
  have L120 := hT.1
  rw [tE_is]
  rintro D1 rfl D3 rfl D5 rfl
  have fr : frW D (sI (sI (sI D 33 36 0) 33 37 0) 33 38 0) := frW_s (frW_s (frW_s frW_r (by omega)) (by omega)) (by omega)
  have S : MS (sI (sI (sI D 33 36 0) 33 37 0) 33 38 0) [] [] 0 p := ⟨by rw [sI_1, if_neg (by omega), sI_1, if_neg (by omega), sI_1, if_pos ⟨rfl, rfl⟩]; rfl, by rw [sI_1, if_neg (by omega), sI_1, if_pos ⟨rfl, rfl⟩]; rfl, by rw [sI_1, if_pos ⟨rfl, rfl⟩]; rfl, by rw [sI_1, if_neg (by omega), sI_1, if_neg (by omega), sI_1, if_neg (by omega)]; exact hp, fun i hi => absurd hi (Nat.not_lt_zero _), fun i hi => absurd hi (Nat.not_lt_zero _), by decide, by decide, by decide, by omega, fun y hy => by cases hy⟩
  refine (Sm_E (b := b) (post := post) hT hx hx6 16 0 (by omega)).2.2 (by omega) p acc [] [] hpL (fun y W' e => by cases e) rfl (Nat.zero_le _) (fun y1 v sv W' P' e1 e2 e3 => ?_) h0 _ fr S FU (by unfold FU; omega)
  have pos := rE_pos (b := b) 16 2 0 p acc hpL
  have en := rE_end2 (b := b) L120 hpL y1
  refine gd_done hT pos.2.1 ⟨en.2, en.1⟩ e2 e1 fun D' f' S' => ?_
  exact h1 y1 v sv D' f' S'.2.2.2.1 (MS_pt S')
