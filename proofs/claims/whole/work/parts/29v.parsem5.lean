/-! E: what its code says; one turn of the other's reader -/
def evS (tv : Nat → Bool) (c : Nat) : List Bool → List Bool
  | s => if 3 ≤ c % 16 then tv c :: s else match s with
    | [] => []
    | b :: s1 => if c % 16 = 0 then (!b) :: s1 else match s1 with
      | [] => [b]
      | a :: s2 => (if c % 16 = 1 then a && b else a || b) :: s2
def ev (tv : Nat → Bool) : List Nat → List Bool → List Bool
  | [], s => s
  | c :: cs, s => ev tv cs (evS tv c s)
theorem ev_app {tv : Nat → Bool} : ∀ c1 c2 s, ev tv (c1 ++ c2) s = ev tv c2 (ev tv c1 s)
  | [], _, _ => rfl
  | c :: c1, c2, s => ev_app c1 c2 _
/-- the code that was added says v -/
def Says (tv : Nat → Bool) (acc : List Nat) (r : Rd) (v : Bool) : Prop := ∃ c, r.2.2 = acc ++ c ∧ ∀ s, ev tv c s = v :: s
theorem rFig_app {ch : Nat → Nat} {tv : Nat → Bool} {s p : Nat} {acc : List Nat} (hs : s = 3 ∨ s = 4 ∨ s = 5) (h : (rFig ch s p acc).1 = true) : ∃ c, (rFig ch s p acc).2.2 = acc ++ [c] ∧ 3 ≤ c % 16 := by
  unfold rFig at h ⊢
  split at h
  · next c1 =>
    rw [if_pos c1]
    split at h
    · next c2 => rw [if_pos c2]; exact ⟨_, rfl, by omega⟩
    · cases h
  · cases h
theorem rPrc_app {ch : Nat → Nat} {p : Nat} {acc : List Nat} (h : (rPrc ch p acc).1 = true) : ∃ c, (rPrc ch p acc).2.2 = acc ++ [c] ∧ 3 ≤ c % 16 := by
  unfold rPrc at h ⊢
  split at h
  · next c1 =>
    rw [if_pos c1]
    split at h
    · next c2 =>
      rw [if_pos c2]
      refine ⟨_, rfl, ?_⟩
      split
      · omega
      · split <;> omega
    · cases h
  · cases h
theorem rT_app {ch : Nat → Nat} {p : Nat} {acc : List Nat} (h : (rT ch p acc).1 = true) : ∃ c, (rT ch p acc).2.2 = acc ++ [c] ∧ 3 ≤ c % 16 := by
  unfold rT at h ⊢
  split at h
  · next c1 => rw [if_pos c1]; exact rPrc_app h
  · next c1 =>
    rw [if_neg c1]
    split at h
    · next c2 => rw [if_pos c2]; exact rFig_app (tv := fun _ => true) (by omega) h
    · next c2 =>
      rw [if_neg c2]
      split at h
      · next c3 => rw [if_pos c3]; exact rFig_app (tv := fun _ => true) (by omega) h
      · next c3 =>
        rw [if_neg c3]
        split at h
        · next c4 => rw [if_pos c4]; exact rFig_app (tv := fun _ => true) (by omega) h
        · cases h
theorem says_t {tv : Nat → Bool} {acc : List Nat} {r : Rd} {c : Nat} (h : r.2.2 = acc ++ [c]) (h3 : 3 ≤ c % 16) : Says tv acc r (tv c) := ⟨[c], h, fun s => by show evS tv c s = _; unfold evS; rw [if_pos h3]⟩
theorem rE_0 {ch : Nat → Nat} {n d p : Nat} {acc : List Nat} : rE ch (n + 1) 0 d p acc = if d < 4 ∧ ch p = 33 then (if (rE ch n 0 (d + 1) (p + 1) acc).1 = true then (true, (rE ch n 0 (d + 1) (p + 1) acc).2.1, (rE ch n 0 (d + 1) (p + 1) acc).2.2 ++ [0]) else rE ch n 0 (d + 1) (p + 1) acc)
    else if d < 4 ∧ ch p = 40 then (if (rE ch n 2 (d + 1) (p + 1) acc).1 = true then (if ch (rE ch n 2 (d + 1) (p + 1) acc).2.1 = 41 then (true, (rE ch n 2 (d + 1) (p + 1) acc).2.1 + 1, (rE ch n 2 (d + 1) (p + 1) acc).2.2) else (false, (rE ch n 2 (d + 1) (p + 1) acc).2.1, acc)) else rE ch n 2 (d + 1) (p + 1) acc)
    else rT ch p acc := rfl
theorem rE_1 {ch : Nat → Nat} {n d p : Nat} {acc : List Nat} : rE ch (n + 1) 1 d p acc = if (rE ch n 0 d p acc).1 = true then rLp ch (rE ch n 0 d) 38 1 120 (rE ch n 0 d p acc).2.1 (rE ch n 0 d p acc).2.2 else rE ch n 0 d p acc := rfl
theorem rE_2 {ch : Nat → Nat} {n d p : Nat} {acc : List Nat} : rE ch (n + 1) 2 d p acc = if (rE ch n 1 d p acc).1 = true then rLp ch (rE ch n 1 d) 124 2 120 (rE ch n 1 d p acc).2.1 (rE ch n 1 d p acc).2.2 else rE ch n 1 d p acc := rfl
theorem rLp_s {ch : Nat → Nat} {one : Nat → List Nat → Rd} {sep op k p : Nat} {acc : List Nat} : rLp ch one sep op (k + 1) p acc = if ch p = sep then (if (one (p + 1) acc).1 = true then rLp ch one sep op k (one (p + 1) acc).2.1 ((one (p + 1) acc).2.2 ++ [op]) else one (p + 1) acc) else (true, p, acc) := rfl
/-- the other's loop over E -/
def tEb (post : Int32 → Dy → Prop) : (Int32 → Dy → Prop) → Int32 → Dy → Prop := (fun (rec9 : Int32 → Dy → Prop) (v7 : Int32) (D8 : Dy) => (fX12_nextByte D8 (fun (v11 : Int32) => ((v7 = 0 → (JN ((fX12_settle v11 D8 (fun (D24 : Dy) => (vp_in (D24.1 33 36) 121 ∧ (∀ D25 : Dy, D25 = sI D24 52 ((D24.1 33 36)).toNatClampNeg v11 → (∀ D27 : Dy, D27 = sI D25 33 36 ((D25.1 33 36) + (1 : Int32)) → (∀ D29 : Dy, D29 = sI D27 33 21 ((D27.1 33 21) + (1 : Int32)) → (rec9 (1 : Int32) D29)))))))) (fun K17 : Prop => ((v11 = (38 : Int32) → K17) ∧ (¬ v11 = (38 : Int32) → ((¬ v11 = (124 : Int32) → (fX12_settle (124 : Int32) D8 (fun (D38 : Dy) => ((¬ (D38.1 33 36) = 0 → ((v11 = (41 : Int32) → (∀ D41 : Dy, D41 = sI D38 33 36 ((D38.1 33 36) - (1 : Int32)) → (∀ D43 : Dy, D43 = sI D41 33 38 ((D41.1 33 38) - (1 : Int32)) → (∀ D45 : Dy, D45 = sI D43 33 37 ((D43.1 33 37) - (1 : Int32)) → (∀ D47 : Dy, D47 = sI D45 33 21 ((D45.1 33 21) + (1 : Int32)) → (vp_in (D47.1 33 37) 121 ∧ (fX12_push (D47.1 53 ((D47.1 33 37)).toNatClampNeg) D47 (fun (D54 : Dy) => (rec9 v7 D54))))))))) ∧ (¬ v11 = (41 : Int32) → post (0 : Int32) D38))) ∧ ((D38.1 33 36) = 0 → post (1 : Int32) D38))))) ∧ (v11 = (124 : Int32) → K17))))))) ∧ (¬ v7 = 0 → (JN (((¬ (D8.1 33 38) = (4 : Int32) → (∀ D58 : Dy, D58 = sI D8 33 38 ((D8.1 33 38) + (1 : Int32)) → (vp_in (D58.1 33 36) 121 ∧ (∀ D60 : Dy, D60 = sI D58 52 ((D58.1 33 36)).toNatClampNeg v11 → (∀ D62 : Dy, D62 = sI D60 33 36 ((D60.1 33 36) + (1 : Int32)) → (∀ D64 : Dy, D64 = sI D62 33 21 ((D62.1 33 21) + (1 : Int32)) → (rec9 v7 D64))))))) ∧ ((D8.1 33 38) = (4 : Int32) → post (0 : Int32) D8))) (fun K55 : Prop => ((v11 = (33 : Int32) → K55) ∧ (¬ v11 = (33 : Int32) → ((¬ v11 = (40 : Int32) → (fX12_takesTest D8 (fun (v69 : Int32) (D73 : Dy) => ((v69 = 0 → post (0 : Int32) D73) ∧ (¬ v69 = 0 → (rec9 (0 : Int32) D73)))))) ∧ (v11 = (40 : Int32) → K55)))))))))))
theorem tE_is {D : Dy} {post : Int32 → Dy → Prop} : fX12_takesE D post = (∀ D1 : Dy, D1 = sI D 33 36 (0 : Int32) → ∀ D3 : Dy, D3 = sI D1 33 37 (0 : Int32) → ∀ D5 : Dy, D5 = sI D3 33 38 (0 : Int32) → LP2 (tEb post) FU (1 : Int32) D5) := rfl
def Gd (D0 : Dy) (L : Nat) (post : Int32 → Dy → Prop) (w : Int32) (W : List Nat) (P : List Bool) (o p : Nat) : Prop := ∀ D', frW D0 D' → MS D' W P o p → ∀ N, L + 2 - p ≤ N → LP2 (tEb post) N w D'
def Fl (D0 : Dy) (post : Int32 → Dy → Prop) (q : Nat) : Prop := ∀ D', frW D0 D' → D'.1 33 21 = nI q → post 0 D'
theorem gd_open {D0 : Dy} {base L p o c : Nat} {b : Nat → Nat} {W : List Nat} {P : List Bool} {post : Int32 → Dy → Prop} (hT : MT D0 base b L) (hc : c = 33 ∨ c = 40) (hp : chr b L p = c) (ho : o < 4) (hl : W.length + P.length ≤ p) (h : Gd D0 L post 1 (c :: W) P (o + 1) (p + 1)) : Gd D0 L post 1 W P o p := by
  intro D' f hS N hN
  have L120 := hT.1
  have hlt := (chr_lt (b := b) (L := L) (p := p) (K := c) (by omega) hp).1
  obtain ⟨M, rfl⟩ : ∃ M, N = M + 1 := ⟨N - 1, by omega⟩
  show tEb post (LP2 (tEb post) M) 1 D'
  unfold tEb
  refine m_next1 (MT_w hT f) hS.2.2.2.1 (by omega) fun v11 hv => ⟨fun z => absurd z (by decide), fun _ => ?_⟩
  rw [hp] at hv
  have ev : v11 = nI c := (NB_eq hv (by omega)).mpr rfl
  refine JN_i True (fun _ => ?_) (fun K hK => ?_)
  · rw [hS.2.2.1]
    refine ⟨fun _ => ?_, fun z => absurd ?_ (show ¬ o = 4 by omega)⟩
    · rintro D58 rfl
      have S1 := MS_o (o' := o + 1) hS (by omega)
      rw [nI_1]
      have g36 := S1.1
      rw [g36]
      refine ⟨nI_in (by omega) (by omega), ?_⟩
      rintro D60 rfl D62 rfl D64 rfl
      rw [nI_clamp (by omega)]
      have S2 := MS_wpush (c := c) S1 (by omega) (by omega)
      have e36 : (sI (sI D' 33 38 (nI (o + 1))) 52 W.length v11).1 33 36 = nI W.length := by rw [sI_1, if_neg (by omega)]; exact g36
      rw [e36, nI_1, ev]
      have e21 : ∀ y, (sI (sI (sI D' 33 38 (nI (o + 1))) 52 W.length (nI c)) 33 36 y).1 33 21 = nI p := fun y => by
        rw [sI_1, if_neg (by omega), sI_1, if_neg (by omega)]; exact S1.2.2.2.1
      rw [e21, nI_1]
      exact h _ (frW_s (frW_s (frW_s (frW_s f (by omega)) (by omega)) (by omega)) (by omega)) (MS_p S2 (by omega)) M (by omega)
    · refine (nI_eq (b := 4) (by omega) (by omega)).mp ?_
      first | exact z | exact Classical.byContradiction z
  · refine ⟨fun _ => hK trivial, fun z => ⟨fun z2 => ?_, fun _ => hK trivial⟩⟩
    rcases hc with rfl | rfl
    · exact absurd ev z
    · exact absurd ev z2
theorem gd_full {D0 : Dy} {base L p : Nat} {b : Nat → Nat} {W : List Nat} {P : List Bool} {post : Int32 → Dy → Prop} (hT : MT D0 base b L) (hc : chr b L p = 33 ∨ chr b L p = 40) (h : Fl D0 post p) : Gd D0 L post 1 W P 4 p := by
  intro D' f hS N hN
  have L120 := hT.1
  have hlt := (chr_lt (b := b) (L := L) (p := p) (K := chr b L p) (by omega) rfl).1
  obtain ⟨M, rfl⟩ : ∃ M, N = M + 1 := ⟨N - 1, by omega⟩
  show tEb post (LP2 (tEb post) M) 1 D'
  unfold tEb
  refine m_next1 (MT_w hT f) hS.2.2.2.1 (by omega) fun v11 hv => ⟨fun z => absurd z (by decide), fun _ => ?_⟩
  refine JN_i True (fun _ => ?_) (fun K hK => ?_)
  · rw [hS.2.2.1]
    exact ⟨fun z => absurd rfl z, fun _ => h D' f hS.2.2.2.1⟩
  · refine ⟨fun _ => hK trivial, fun z => ⟨fun z2 => ?_, fun _ => hK trivial⟩⟩
    rcases hc with y | y
    · exact absurd ((NB_eq (K := 33) hv (by omega)).mpr y) z
    · exact absurd ((NB_eq (K := 40) hv (by omega)).mpr y) z2
theorem gd_test {D0 : Dy} {base L p o k x : Nat} {b : Nat → Nat} {W0 : List Nat} {P : List Bool} {acc : List Nat} {post : Int32 → Dy → Prop} (hW : ∀ y W', W0 = y :: W' → y ≠ 33) (hT : MT D0 base b L) (hk : k ≤ o) (hP : P.length < 120) (hpL : p ≤ L) (hx : D0.1 33 33 = nI x) (hx6 : x < 6) (hn : chr b L p ≠ 33 ∧ chr b L p ≠ 40) (h1 : (rT (chr b L) p acc).1 = true → ∀ v, Says (tvM D0 x) acc (rT (chr b L) p acc) v → Gd D0 L post 0 W0 (ntk k v :: P) (o - k) (rT (chr b L) p acc).2.1) (h0 : (rT (chr b L) p acc).1 = false → Fl D0 post (rT (chr b L) p acc).2.1) : Gd D0 L post 1 (List.replicate k 33 ++ W0) P o p := by
  intro D' f hS N hN
  have L120 := hT.1
  obtain ⟨M, rfl⟩ : ∃ M, N = M + 1 := ⟨N - 1, by omega⟩
  show tEb post (LP2 (tEb post) M) 1 D'
  unfold tEb
  refine m_next1 (MT_w hT f) hS.2.2.2.1 (by omega) fun v11 hv => ⟨fun z => absurd z (by decide), fun _ => ?_⟩
  refine JN_i False (fun h => h.elim) (fun K hK => ⟨fun z => absurd ((NB_eq (K := 33) hv (by omega)).mp z) hn.1, fun _ => ⟨fun _ => ?_, fun z => ?_⟩⟩)
  · refine m_test (acc := acc) hW (MT_w hT f) hS hk hP hpL (by rw [f.2 _ _ (by omega) (by omega) (by omega)]; exact hx) hx6 (fun r1 c r2 c3 D2 f2 S2 rl rp => ⟨fun z => absurd z (by decide), fun _ => ?_⟩) (fun r0 D2 f2 e2 => ⟨fun _ => h0 r0 D2 (frW_t f f2) e2, fun z => absurd rfl z⟩)
    rw [tvM_w f] at S2
    exact h1 r1 _ (says_t r2 c3) D2 (frW_t f f2) S2 M (by omega)
  · have z' : v11 = nI 40 := by first | exact z | exact Classical.byContradiction z
    exact absurd ((NB_eq hv (by omega)).mp z') hn.2
theorem stl_ops {sg : Nat} : ∀ W P, P.length = opn W + 1 → (stl sg W P).2.length = opn (stl sg W P).1 + 1 ∧ (stl sg W P).1.length ≤ W.length ∧ (stl sg W P).2.length ≤ P.length
  | [], P, h => ⟨h, Nat.le_refl _, Nat.le_refl _⟩
  | c :: W, [], h => ⟨h, Nat.le_refl _, Nat.le_refl _⟩
  | c :: W, [b], h => ⟨h, Nat.le_refl _, Nat.le_refl _⟩
  | c :: W, b :: a :: P, h => by
    show (if c = 38 then stl sg W ((a && b) :: P) else if c = 124 ∧ sg ≠ 38 then stl sg W ((a || b) :: P) else (c :: W, b :: a :: P)).2.length = _ ∧ _
    have on : opn (c :: W) = opn W + (if (c == 38 || c == 124) = true then 1 else 0) := by unfold opn; rw [List.countP_cons]
    rw [on] at h
    by_cases c1 : c = 38
    · have e : stl sg (c :: W) (b :: a :: P) = stl sg W ((a && b) :: P) := if_pos c1
      rw [if_pos c1, e]
      have := stl_ops (sg := sg) W ((a && b) :: P) (by simp [c1] at h ⊢; omega)
      exact ⟨this.1, by simp; omega, by have := this.2.2; simp at this ⊢; omega⟩
    · by_cases c2 : c = 124 ∧ sg ≠ 38
      · have e : stl sg (c :: W) (b :: a :: P) = stl sg W ((a || b) :: P) := by
          show (if c = 38 then _ else if c = 124 ∧ sg ≠ 38 then _ else _) = _
          rw [if_neg c1, if_pos c2]
        rw [if_neg c1, if_pos c2, e]
        have := stl_ops (sg := sg) W ((a || b) :: P) (by simp [c2.1] at h ⊢; omega)
        exact ⟨this.1, by simp; omega, by have := this.2.2; simp at this ⊢; omega⟩
      · have e : stl sg (c :: W) (b :: a :: P) = (c :: W, b :: a :: P) := by
          show (if c = 38 then _ else if c = 124 ∧ sg ≠ 38 then _ else _) = _
          rw [if_neg c1, if_neg c2]
        rw [if_neg c1, if_neg c2, e]
        exact ⟨by rw [on]; exact h, Nat.le_refl _, Nat.le_refl _⟩
theorem gd_op {D0 : Dy} {base L p o sep : Nat} {b : Nat → Nat} {W : List Nat} {P : List Bool} {post : Int32 → Dy → Prop} (hT : MT D0 base b L) (hs : sep = 38 ∨ sep = 124) (hp : chr b L p = sep) (hP : P.length = opn W + 1) (hl : W.length + P.length ≤ p) (h : Gd D0 L post 1 (sep :: (stl sep W P).1) (stl sep W P).2 o (p + 1)) : Gd D0 L post 0 W P o p := by
  intro D' f hS N hN
  have L120 := hT.1
  have hlt := (chr_lt (b := b) (L := L) (p := p) (K := sep) (by omega) hp).1
  have so := stl_ops (sg := sep) W P hP
  obtain ⟨M, rfl⟩ : ∃ M, N = M + 1 := ⟨N - 1, by omega⟩
  show tEb post (LP2 (tEb post) M) 0 D'
  unfold tEb
  refine m_next1 (MT_w hT f) hS.2.2.2.1 (by omega) fun v11 hv => ⟨fun _ => ?_, fun z => absurd rfl z⟩
  rw [hp] at hv
  have ev : v11 = nI sep := (NB_eq hv (by omega)).mpr rfl
  refine JN_i True (fun _ => ?_) (fun K hK => ?_)
  · rw [ev]
    refine m_settle (sg := sep) hS hP (by omega) fun D24 f2 S2 _ => ?_
    rw [S2.1]
    refine ⟨nI_in (by omega) (by omega), ?_⟩
    rintro D25 rfl D27 rfl D29 rfl
    rw [nI_clamp (by omega)]
    have S3 := MS_wpush (c := sep) S2 (by omega) (by omega)
    have e36 : (sI D24 52 (stl sep W P).1.length (nI sep)).1 33 36 = nI (stl sep W P).1.length := by rw [sI_1, if_neg (by omega)]; exact S2.1
    rw [e36, nI_1]
    have e21 : ∀ y, (sI (sI D24 52 (stl sep W P).1.length (nI sep)) 33 36 y).1 33 21 = nI p := fun y => by
      rw [sI_1, if_neg (by omega), sI_1, if_neg (by omega)]; exact S2.2.2.2.1
    rw [e21, nI_1]
    exact h _ (frW_s (frW_s (frW_s (frW_t f f2) (by omega)) (by omega)) (by omega)) (MS_p S3 (by omega)) M (by omega)
  · refine ⟨fun _ => hK trivial, fun z => ⟨fun z2 => ?_, fun _ => hK trivial⟩⟩
    rcases hs with rfl | rfl
    · exact absurd ev z
    · exact absurd ev z2
theorem gd_done {D0 : Dy} {base L p o : Nat} {b : Nat → Nat} {W : List Nat} {P P1 : List Bool} {post : Int32 → Dy → Prop} (hT : MT D0 base b L) (hpL : p ≤ L) (hp : chr b L p ≠ 38 ∧ chr b L p ≠ 124) (hP : P.length = opn W + 1) (hst : stl 124 W P = ([], P1)) (h : ∀ D', frW D0 D' → MS D' [] P1 o p → post 1 D') : Gd D0 L post 0 W P o p := by
  intro D' f hS N hN
  have L120 := hT.1
  obtain ⟨M, rfl⟩ : ∃ M, N = M + 1 := ⟨N - 1, by omega⟩
  show tEb post (LP2 (tEb post) M) 0 D'
  unfold tEb
  refine m_next1 (MT_w hT f) hS.2.2.2.1 (by omega) fun v11 hv => ⟨fun _ => ?_, fun z => absurd rfl z⟩
  refine JN_i False (fun h => h.elim) (fun K hK => ⟨fun z => absurd ((NB_eq (K := 38) hv (by omega)).mp z) hp.1, fun _ => ⟨fun _ => ?_, fun z => ?_⟩⟩)
  · refine m_settle (sg := 124) hS hP (by omega) fun D24 f2 S2 _ => ?_
    rw [hst] at S2
    have g := S2.1
    rw [g]
    exact ⟨fun z => absurd rfl z, fun _ => h D24 (frW_t f f2) S2⟩
  · have z' : v11 = nI 124 := by first | exact z | exact Classical.byContradiction z
    exact absurd ((NB_eq hv (by omega)).mp z') hp.2
theorem gd_close {D0 : Dy} {base L p o k : Nat} {b : Nat → Nat} {W W0 : List Nat} {P P2 : List Bool} {v : Bool} {post : Int32 → Dy → Prop} (hT : MT D0 base b L) (hpL : p ≤ L) (hp : chr b L p ≠ 38 ∧ chr b L p ≠ 124) (hW : ∀ y W', W0 = y :: W' → y ≠ 33) (hP : P.length = opn W + 1) (hst : stl 124 W P = (40 :: (List.replicate k 33 ++ W0), v :: P2)) (hk : k + 1 ≤ o) (h1 : chr b L p = 41 → Gd D0 L post 0 W0 (ntk k v :: P2) (o - 1 - k) (p + 1)) (h0 : chr b L p ≠ 41 → Fl D0 post p) : Gd D0 L post 0 W P o p := by
  intro D' f hS N hN
  have L120 := hT.1
  obtain ⟨M, rfl⟩ : ∃ M, N = M + 1 := ⟨N - 1, by omega⟩
  show tEb post (LP2 (tEb post) M) 0 D'
  unfold tEb
  refine m_next1 (MT_w hT f) hS.2.2.2.1 (by omega) fun v11 hv => ⟨fun _ => ?_, fun z => absurd rfl z⟩
  refine JN_i False (fun h => h.elim) (fun K hK => ⟨fun z => absurd ((NB_eq (K := 38) hv (by omega)).mp z) hp.1, fun _ => ⟨fun _ => ?_, fun z => ?_⟩⟩)
  · refine m_settle (sg := 124) hS hP (by omega) fun D24 f2 S2 _ => ?_
    rw [hst] at S2
    have S2 : MS D24 (40 :: (List.replicate k 33 ++ W0)) (v :: P2) o p := S2
    have o4 := S2.2.2.2.2.2.2.2.2.1
    have wl := S2.2.2.2.2.2.2.1
    have pl := S2.2.2.2.2.2.2.2.1
    have wl : (List.replicate k 33 ++ W0).length + 1 ≤ 120 := wl
    have pl : P2.length + 1 ≤ 120 := pl
    have g : D24.1 33 36 = nI ((List.replicate k 33 ++ W0).length + 1) := S2.1
    rw [g]
    refine ⟨fun _ => ⟨fun z2 => ?_, fun z2 => ?_⟩, fun z => absurd z (nI_ne0 (by omega) (by omega))⟩
    · have c41 : chr b L p = 41 := (NB_eq (K := 41) hv (by omega)).mp z2
      have hlt := (chr_lt (b := b) (L := L) (p := p) (K := 41) (by omega) c41).1
      rw [n1, sub' (by omega), Nat.add_sub_cancel]
      have A1 := MS_wpop S2
      rintro D41 rfl D43 rfl
      rw [A1.2.2.1, sub' (by omega)]
      have A2 := MS_o (o' := o - 1) A1 (by omega)
      have e37 : D24.1 33 37 = nI (P2.length + 1) := S2.2.1
      rintro D45 rfl
      have e37' := A2.2.1
      rw [e37', List.length_cons, sub' (by omega), Nat.add_sub_cancel]
      have A3 := MS_ppop A2
      rintro D47 rfl
      rw [A3.2.2.2.1, nI_add]
      have A4 := MS_p (p' := p + 1) A3 (by omega)
      have fr : frW D0 (sI (sI (sI (sI D24 33 36 (nI (List.replicate k 33 ++ W0).length)) 33 38 (nI (o - 1))) 33 37 (nI P2.length)) 33 21 (nI (p + 1))) := frW_s (frW_s (frW_s (frW_s (frW_t f f2) (by omega)) (by omega)) (by omega)) (by omega)
      have top : (sI (sI (sI (sI D24 33 36 (nI (List.replicate k 33 ++ W0).length)) 33 38 (nI (o - 1))) 33 37 (nI P2.length)) 33 21 (nI (p + 1))).1 53 P2.length = bB v := by
        rw [sI_1, if_neg (by omega), sI_1, if_neg (by omega), sI_1, if_neg (by omega), sI_1, if_neg (by omega)]; exact MS_pt S2
      generalize sI (sI (sI (sI D24 33 36 (nI (List.replicate k 33 ++ W0).length)) 33 38 (nI (o - 1))) 33 37 (nI P2.length)) 33 21 (nI (p + 1)) = D47 at *
      rw [A4.2.1]
      refine ⟨nI_in (by omega) (by omega), ?_⟩
      rw [nI_clamp (by omega), top]
      refine m_push hW k D47 P2 (o - 1) (p + 1) v _ A4 (by omega) (by omega) fun D54 f54 S54 => ?_
      exact h1 c41 D54 (frW_t fr f54) S54 M (by omega)
    · have c41 : chr b L p ≠ 41 := fun y => z2 ((NB_eq (K := 41) hv (by omega)).mpr y)
      exact h0 c41 D24 (frW_t f f2) S2.2.2.2.1
  · have z' : v11 = nI 124 := by first | exact z | exact Classical.byContradiction z
    exact absurd ((NB_eq hv (by omega)).mp z') hp.2
