section
/-! PICKS: how high the pile goes; what a code says of a thing -/
def okc (c : Nat) : Prop := c < 16384 ∧ (c % 16 = 3 → c / 16 ≤ 9)
/-- the code takes a pile of s to one of e, never above 16 -/
def Hok : List Nat → Nat → Nat → Prop
  | [], s, e => s = e
  | c :: cs, s, e => okc c ∧ ((3 ≤ c % 16 ∧ s < 16 ∧ Hok cs (s + 1) e) ∨ (c = 0 ∧ 0 < s ∧ Hok cs s e) ∨ ((c = 1 ∨ c = 2) ∧ 1 < s ∧ Hok cs (s - 1) e))
theorem Hok_app : ∀ {c1 c2 : List Nat} {s m e : Nat}, Hok c1 s m → Hok c2 m e → Hok (c1 ++ c2) s e
  | [], _, _, _, _, h1, h2 => by
    have h1 : _ = _ := h1
    rw [h1]; exact h2
  | c :: c1, c2, s, m, e, h1, h2 => by
    obtain ⟨h0, h1⟩ := h1
    refine ⟨h0, ?_⟩
    rcases h1 with ⟨a, b, h⟩ | ⟨a, b, h⟩ | ⟨a, b, h⟩
    · exact Or.inl ⟨a, b, Hok_app h h2⟩
    · exact Or.inr (Or.inl ⟨a, b, Hok_app h h2⟩)
    · exact Or.inr (Or.inr ⟨a, b, Hok_app h h2⟩)
theorem Hok_ok : ∀ {c : List Nat} {s e : Nat}, Hok c s e → ∀ y ∈ c, okc y
  | [], _, _, _, y, hy => by cases hy
  | c :: cs, s, e, h, y, hy => by
    rcases List.mem_cons.mp hy with z | z
    · rw [z]; exact h.1
    · rcases h.2 with ⟨a, b, h⟩ | ⟨a, b, h⟩ | ⟨a, b, h⟩
      · exact Hok_ok h y z
      · exact Hok_ok h y z
      · exact Hok_ok h y z
theorem rFig_ok {ch : Nat → Nat} {s p : Nat} {acc : List Nat} (hs : s = 3 ∨ s = 4 ∨ s = 5) (h : (rFig ch s p acc).1 = true) : ∃ c, (rFig ch s p acc).2.2 = acc ++ [c] ∧ 3 ≤ c % 16 ∧ okc c := by
  unfold rFig at h ⊢
  by_cases c1 : ch p = 61
  · rw [if_pos c1] at h ⊢
    by_cases c2 : dig ch (p + 1) = true
    · rw [if_pos c2]
      have d := of_decide_eq_true c2
      exact ⟨_, rfl, by omega, by omega, fun _ => by omega⟩
    · rw [if_neg c2] at h; cases h
  · rw [if_neg c1] at h; cases h
theorem rPrc_ok {ch : Nat → Nat} {p : Nat} {acc : List Nat} (h : (rPrc ch p acc).1 = true) : ∃ c, (rPrc ch p acc).2.2 = acc ++ [c] ∧ 3 ≤ c % 16 ∧ okc c := by
  have v3 := nmF_v (ch := ch) 3 (p + 1) 0
  unfold rPrc at h ⊢
  by_cases c1 : ch p = 61 ∨ ch p = 62 ∨ ch p = 60
  · rw [if_pos c1] at h ⊢
    by_cases c2 : dig ch (p + 1) = true
    · rw [if_pos c2]
      generalize hs : (if ch p = 61 then 7 else if ch p = 62 then 8 else 6) = s
      have s3 : s = 6 ∨ s = 7 ∨ s = 8 := by
        rw [← hs]
        split
        · omega
        · split
          · omega
          · omega
      generalize (nmF ch 3 (p + 1) 0).2 = v at v3
      exact ⟨_, rfl, by omega, by omega, fun _ => by omega⟩
    · rw [if_neg c2] at h; cases h
  · rw [if_neg c1] at h; cases h
theorem rT_ok {ch : Nat → Nat} {p : Nat} {acc : List Nat} (h : (rT ch p acc).1 = true) : ∃ c, (rT ch p acc).2.2 = acc ++ [c] ∧ 3 ≤ c % 16 ∧ okc c := by
  unfold rT at h ⊢
  by_cases c1 : ch p = 112
  · rw [if_pos c1] at h ⊢; exact rPrc_ok h
  · rw [if_neg c1] at h ⊢
    by_cases c2 : ch p = 109
    · rw [if_pos c2] at h ⊢; exact rFig_ok (by omega) h
    · rw [if_neg c2] at h ⊢
      by_cases c3 : ch p = 116
      · rw [if_pos c3] at h ⊢; exact rFig_ok (by omega) h
      · rw [if_neg c3] at h ⊢
        by_cases c4 : ch p = 110
        · rw [if_pos c4] at h ⊢; exact rFig_ok (by omega) h
        · rw [if_neg c4] at h; cases h
def Hb (k : Nat) (acc : List Nat) (r : Rd) : Prop := ∃ c, r.2.2 = acc ++ c ∧ ∀ s, s + k ≤ 16 → Hok c s (s + 1)
theorem Hb_w {k k' : Nat} {acc : List Nat} {r : Rd} (h : Hb k acc r) (hk : k ≤ k') : Hb k' acc r := by
  obtain ⟨c, h1, h2⟩ := h
  exact ⟨c, h1, fun s hs => h2 s (by omega)⟩
theorem Hok_o {op s : Nat} (hop : op = 1 ∨ op = 2) : Hok [op] (s + 2) (s + 1) := ⟨⟨by omega, fun h => by omega⟩, Or.inr (Or.inr ⟨hop, by omega, by show s + 2 - 1 = s + 1; omega⟩)⟩
theorem rLp_h {ch : Nat → Nat} {sep op k0 : Nat} {one : Nat → List Nat → Rd} (hop : op = 1 ∨ op = 2) (h : ∀ p acc, (one p acc).1 = true → Hb k0 acc (one p acc)) {acc0 : List Nat} : ∀ k p acc, (∃ c0, acc = acc0 ++ c0 ∧ ∀ s, s + (k0 + 1) ≤ 16 → Hok c0 s (s + 1)) → (rLp ch one sep op k p acc).1 = true → Hb (k0 + 1) acc0 (rLp ch one sep op k p acc)
  | 0, p, acc, h0, _ => h0
  | k + 1, p, acc, h0, h1 => by
    rw [rLp_s] at h1 ⊢
    by_cases c : ch p = sep
    · rw [if_pos c] at h1 ⊢
      by_cases c2 : (one (p + 1) acc).1 = true
      · rw [if_pos c2] at h1 ⊢
        obtain ⟨c3, e1, e2⟩ := h (p + 1) acc c2
        obtain ⟨c0, e3, e4⟩ := h0
        refine rLp_h hop h k _ _ ⟨c0 ++ c3 ++ [op], by rw [e1, e3]; simp [List.append_assoc], fun s hs => ?_⟩ h1
        exact Hok_app (Hok_app (e4 s hs) (e2 (s + 1) (by omega))) (Hok_o hop)
      · rw [if_neg c2] at h1; exact absurd h1 c2
    · rw [if_neg c] at h1 ⊢
      exact h0
theorem rE_h {ch : Nat → Nat} : ∀ n w d p acc, d ≤ 4 → w ≤ 2 → (rE ch n w d p acc).1 = true → Hb (w + 1 + 2 * (4 - d)) acc (rE ch n w d p acc)
  | 0, _, _, _, _, _, _, h => by cases h
  | n + 1, 0, d, p, acc, hd, hw, h => by
    rw [rE_0] at h ⊢
    by_cases c : d < 4 ∧ ch p = 33
    · rw [if_pos c] at h ⊢
      by_cases c2 : (rE ch n 0 (d + 1) (p + 1) acc).1 = true
      · rw [if_pos c2]
        obtain ⟨c3, e1, e2⟩ := rE_h n 0 (d + 1) (p + 1) acc (by omega) (by omega) c2
        refine ⟨c3 ++ [0], by show _ ++ [0] = _; rw [e1, List.append_assoc], fun s hs => ?_⟩
        exact Hok_app (e2 s (by omega)) ⟨⟨by omega, fun h => by omega⟩, Or.inr (Or.inl ⟨rfl, by omega, rfl⟩)⟩
      · rw [if_neg c2] at h; exact absurd h c2
    · rw [if_neg c] at h ⊢
      by_cases c1 : d < 4 ∧ ch p = 40
      · rw [if_pos c1] at h ⊢
        by_cases c2 : (rE ch n 2 (d + 1) (p + 1) acc).1 = true
        · rw [if_pos c2] at h ⊢
          by_cases c4 : ch (rE ch n 2 (d + 1) (p + 1) acc).2.1 = 41
          · rw [if_pos c4]
            exact Hb_w (rE_h n 2 (d + 1) (p + 1) acc (by omega) (by omega) c2) (by omega)
          · rw [if_neg c4] at h; cases h
        · rw [if_neg c2] at h; exact absurd h c2
      · rw [if_neg c1] at h ⊢
        obtain ⟨cc, e1, e2, e3⟩ := rT_ok h
        exact ⟨[cc], e1, fun s hs => ⟨e3, Or.inl ⟨e2, by omega, rfl⟩⟩⟩
  | n + 1, 1, d, p, acc, hd, hw, h => by
    rw [rE_1] at h ⊢
    by_cases c : (rE ch n 0 d p acc).1 = true
    · rw [if_pos c] at h ⊢
      obtain ⟨c0, e1, e2⟩ := rE_h n 0 d p acc hd (by omega) c
      refine Hb_w (rLp_h (k0 := 0 + 1 + 2 * (4 - d)) (by omega) (fun p acc h => rE_h n 0 d p acc hd (by omega) h) 120 _ _ ⟨c0, e1, fun s hs => e2 s (by omega)⟩ h) (by omega)
    · rw [if_neg c] at h; exact absurd h c
  | n + 1, 2, d, p, acc, hd, hw, h => by
    rw [rE_2] at h ⊢
    by_cases c : (rE ch n 1 d p acc).1 = true
    · rw [if_pos c] at h ⊢
      obtain ⟨c0, e1, e2⟩ := rE_h n 1 d p acc hd (by omega) c
      refine Hb_w (rLp_h (k0 := 1 + 1 + 2 * (4 - d)) (by omega) (fun p acc h => rE_h n 1 d p acc hd (by omega) h) 120 _ _ ⟨c0, e1, fun s hs => e2 s (by omega)⟩ h) (by omega)
    · rw [if_neg c] at h; exact absurd h c
  | n + 1, w + 3, d, p, acc, hd, hw, h => by omega
/-- the codes of the picks are good ones -/
def okH (R : RS) : Prop := ∀ c ∈ R.2, Hok c 0 1
theorem gFp_H {ch : Nat → Nat} {lo hi p : Nat} {k : Nat → Nat → Rc} {R : RS} (hk : ∀ f q, (k f q).1 = true → okH (k f q).2.2) (h : (gFp ch lo hi p k R).1 = true) : okH (gFp ch lo hi p k R).2.2 := by
  unfold gFp at h ⊢
  by_cases c : ch p = 32
  · rw [if_pos c] at h ⊢
    by_cases g : 48 + lo ≤ ch (p + 1) ∧ ch (p + 1) ≤ 48 + hi
    · rw [if_pos g] at h ⊢; exact hk _ _ h
    · rw [if_neg g] at h; cases h
  · rw [if_neg c] at h; cases h
theorem gNp_H {ch : Nat → Nat} {p : Nat} {k : Nat → Nat → Rc} {R : RS} (hk : ∀ f q, (k f q).1 = true → okH (k f q).2.2) (h : (gNp ch p k R).1 = true) : okH (gNp ch p k R).2.2 := by
  unfold gNp at h ⊢
  by_cases c : ch p = 32
  · rw [if_pos c] at h ⊢
    by_cases g : dig ch (p + 1) = true
    · rw [if_pos g] at h ⊢; exact hk _ _ h
    · rw [if_neg g] at h; cases h
  · rw [if_neg c] at h; cases h
theorem rPk_H {ch : Nat → Nat} {p : Nat} {R : RS} (hR : okH R) (h : (rPk ch p R).1 = true) : okH (rPk ch p R).2.2 := by
  unfold rPk at h ⊢
  by_cases c : ch p = 32
  · rw [if_pos c] at h ⊢
    by_cases g : (rE ch 16 2 0 (p + 1) R.2.flatten).1 = true
    · rw [if_pos g]
      obtain ⟨c0, e1, e2⟩ := rE_h 16 2 0 (p + 1) R.2.flatten (by omega) (by omega) g
      intro y hy
      rcases List.mem_append.mp hy with z | z
      · exact hR y z
      · have z := List.mem_singleton.mp z
        rw [z, e1, List.drop_left]
        exact e2 0 (by omega)
    · rw [if_neg g] at h; cases h
  · rw [if_neg c] at h; cases h
theorem rCl_H {ch : Nat → Nat} {p : Nat} {R : RS} (hR : okH R) (h : (rCl ch p R).1 = true) : okH (rCl ch p R).2.2 := by
  have w7 := wsel_lt (ch := ch) (p := p)
  unfold rCl at h ⊢
  by_cases c : lc ch (wds (wsel ch p)) p = (wds (wsel ch p)).length
  · rw [if_pos c] at h ⊢
    generalize p + (wds (wsel ch p)).length = q at h ⊢
    generalize wsel ch p = w at w7 h ⊢
    have : w = 0 ∨ w = 1 ∨ w = 2 ∨ w = 3 ∨ w = 4 ∨ w = 5 ∨ w = 6 := by omega
    rcases this with rfl | rfl | rfl | rfl | rfl | rfl | rfl
    · exact gFp_H (fun f q h => gNp_H (fun _ _ _ => hR) h) h
    · exact gFp_H (fun f q h => gNp_H (fun _ _ _ => hR) h) h
    · exact gNp_H (fun _ _ _ => hR) h
    · exact gNp_H (fun _ _ _ => hR) h
    · exact gFp_H (fun _ _ _ => hR) h
    · exact gFp_H (fun f q h => gFp_H (fun f q h => gNp_H (fun _ _ _ => hR) h) h) h
    · exact rPk_H hR h
  · rw [if_neg c] at h; cases h
theorem rCls_H {ch : Nat → Nat} {L : Nat} : ∀ k p R, okH R → (rCls ch L k p R).1.1 = true → okH (rCls ch L k p R).1.2.2
  | 0, _, _, hR, _ => hR
  | k + 1, p, R, hR, h => by
    rw [rCls_s] at h ⊢
    by_cases c1 : (rCl ch p R).1 = true
    · rw [if_pos c1] at h ⊢
      have H := rCl_H hR c1
      by_cases c2 : (rCl ch p R).2.1 = L
      · rw [if_pos c2]; exact H
      · rw [if_neg c2] at h ⊢
        by_cases c3 : k = 0
        · rw [if_pos c3] at h; cases h
        · rw [if_neg c3] at h ⊢
          by_cases c4 : ch (rCl ch p R).2.1 = 59
          · rw [if_pos c4] at h ⊢; exact rCls_H k _ _ H h
          · rw [if_neg c4] at h; cases h
    · rw [if_neg c1] at h; cases h
theorem rTx_H {ch : Nat → Nat} {L : Nat} (h : (rTx ch L).1.1 = true) : okH (rTx ch L).1.2.2 := rCls_H 10 0 (md0, []) (fun c hc => by cases hc) h
/-- a test of a thing -/
def tvN (Mk Pr Ne : Nat → Nat) (x c : Nat) : Bool :=
  if c % 16 = 3 then (Mk x).testBit (c / 16)
  else if c % 16 = 4 then decide (x = c / 16)
  else if c % 16 = 5 then decide (Ne x = c / 16)
  else if c % 16 = 6 then decide (Pr x < c / 16)
  else if c % 16 = 7 then decide (Pr x = c / 16)
  else decide (c / 16 < Pr x)
theorem ev_c {tv tv' : Nat → Bool} : ∀ c s, (∀ y ∈ c, tv y = tv' y) → ev tv c s = ev tv' c s
  | [], _, _ => rfl
  | y :: c, s, h => by
    have e : evS tv y s = evS tv' y s := by
      have := h y List.mem_cons_self
      unfold evS
      rw [this]
    show ev tv c (evS tv y s) = ev tv' c (evS tv' y s)
    rw [e]
    exact ev_c c _ fun z hz => h z (List.mem_cons_of_mem _ hz)
/-- what a pick's code says of a thing -/
def hN (Mk Pr Ne : Nat → Nat) (c : List Nat) (x : Nat) : Bool := (ev (tvN Mk Pr Ne x) c []).headD false
theorem tvM_N {D : Dy} {x c : Nat} {Mk Pr Ne : Nat → Nat} (h1 : D.1 34 x = nI (Mk x)) (h2 : D.1 35 x = nI (Pr x)) (h3 : D.1 36 x = nI (Ne x)) (b1 : Mk x < 256) (b2 : Pr x < 100) (b3 : Ne x < 4) (hc : okc c) : tvM D x c = tvN Mk Pr Ne x c := by
  obtain ⟨c1, c2⟩ := hc
  unfold tvM tvN
  rw [h1, h2, h3]
  by_cases e3 : c % 16 = 3
  · rw [if_pos e3, if_pos e3]
    have := c2 e3
    have e : (((nI (Mk x) >>> (nI (c / 16) &&& 31)) &&& nI 1) = nI 1) = ((Mk x).testBit (c / 16) = true) := by
      rw [nI_shr (by omega) (by omega), nI_and, eqI' (Nat.lt_of_le_of_lt Nat.and_le_right (by decide)) (by decide)]
      unfold Nat.testBit
      rw [Nat.and_comm]
      have h2 : 1 &&& Mk x >>> (c / 16) = 0 ∨ 1 &&& Mk x >>> (c / 16) = 1 := by
        have : 1 &&& Mk x >>> (c / 16) ≤ 1 := Nat.and_le_left
        omega
      rcases h2 with h2 | h2 <;> simp [h2]
    simp only [e, Bool.decide_eq_true]
  · rw [if_neg e3, if_neg e3]
    by_cases e4 : c % 16 = 4
    · rw [if_pos e4, if_pos e4]
    · rw [if_neg e4, if_neg e4, decide_eq_decide.mpr (nI_eq (a := Ne x) (b := c / 16) (by omega) (by omega)), decide_eq_decide.mpr (nI_ltI (a := Pr x) (b := c / 16) (by omega) (by omega)), decide_eq_decide.mpr (nI_eq (a := Pr x) (b := c / 16) (by omega) (by omega)), decide_eq_decide.mpr (nI_ltI (a := c / 16) (b := Pr x) (by omega) (by omega))]
theorem hN_M {D : Dy} {x : Nat} {c : List Nat} {v : Bool} {Mk Pr Ne : Nat → Nat} (h1 : D.1 34 x = nI (Mk x)) (h2 : D.1 35 x = nI (Pr x)) (h3 : D.1 36 x = nI (Ne x)) (b1 : Mk x < 256) (b2 : Pr x < 100) (b3 : Ne x < 4) (hc : Hok c 0 1) (hv : ∀ s, ev (tvM D x) c s = v :: s) : hN Mk Pr Ne c x = v := by
  unfold hN
  rw [← ev_c c [] (fun y hy => tvM_N h1 h2 h3 b1 b2 b3 (Hok_ok hc y hy)), hv]
  rfl
end
