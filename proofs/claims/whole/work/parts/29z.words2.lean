/-! CLAUSES: told once; the one's reader of them -/
abbrev RS : Type := Mdt × List (List Nat)
abbrev Rc : Type := Bool × Nat × RS
def upN (f : Nat → Nat) (i v : Nat) : Nat → Nat := fun j => if j = i then v else f j
def gFp (ch : Nat → Nat) (lo hi p : Nat) (k : Nat → Nat → Rc) (R : RS) : Rc := if ch p = 32 then (if 48 + lo ≤ ch (p + 1) ∧ ch (p + 1) ≤ 48 + hi then k (ch (p + 1) - 48) (p + 2) else (false, p + 1, R)) else (false, p, R)
def gNp (ch : Nat → Nat) (p : Nat) (k : Nat → Nat → Rc) (R : RS) : Rc := if ch p = 32 then (if dig ch (p + 1) = true then k (nmF ch 3 (p + 1) 0).2 (nmF ch 3 (p + 1) 0).1 else (false, p + 1, R)) else (false, p, R)
def rsW (R : RS) (f v : Nat) : RS := ((upN (md_w R.1) f v, R.1.2), R.2)
def rsM (R : RS) (f v : Nat) : RS := ((md_w R.1, upN (md_m R.1) f v, R.1.2.2), R.2)
def rsP (R : RS) (v : Nat) : RS := ((md_w R.1, md_m R.1, v, R.1.2.2.2), R.2)
def rsZ (R : RS) (v : Nat) : RS := ((md_w R.1, md_m R.1, md_p R.1, v, R.1.2.2.2.2), R.2)
def rsL (R : RS) (v : Nat) : RS := ((md_w R.1, md_m R.1, md_p R.1, md_z R.1, v, R.1.2.2.2.2.2), R.2)
def rsK (R : RS) (k s v : Nat) : RS := ((md_w R.1, md_m R.1, md_p R.1, md_z R.1, md_l R.1, upN (md_s R.1) k s, upN (md_t R.1) k v), R.2)
def rPk (ch : Nat → Nat) (p : Nat) (R : RS) : Rc := if ch p = 32 then (if (rE ch 16 2 0 (p + 1) R.2.flatten).1 = true then (true, (rE ch 16 2 0 (p + 1) R.2.flatten).2.1, R.1, R.2 ++ [(rE ch 16 2 0 (p + 1) R.2.flatten).2.2.drop R.2.flatten.length]) else (false, (rE ch 16 2 0 (p + 1) R.2.flatten).2.1, R)) else (false, p, R)
def rClw (ch : Nat → Nat) (p : Nat) (R : RS) : Nat → Rc
  | 0 => gFp ch 0 5 p (fun f p => gNp ch p (fun v p => (true, p, rsW R f v)) R) R
  | 1 => gFp ch 0 7 p (fun f p => gNp ch p (fun v p => (true, p, rsM R f v)) R) R
  | 2 => gNp ch p (fun v p => (true, p, rsP R v)) R
  | 3 => gNp ch p (fun v p => (true, p, rsZ R v)) R
  | 4 => gFp ch 1 9 p (fun v p => (true, p, rsL R v)) R
  | 5 => gFp ch 0 2 p (fun k p => gFp ch 0 9 p (fun s p => gNp ch p (fun v p => (true, p, rsK R k s v)) R) R) R
  | _ => rPk ch p R
def rCl (ch : Nat → Nat) (p : Nat) (R : RS) : Rc := if lc ch (wds (wsel ch p)) p = (wds (wsel ch p)).length then rClw ch (p + (wds (wsel ch p)).length) R (wsel ch p) else (false, p + lc ch (wds (wsel ch p)) p, R)
def rCls (ch : Nat → Nat) (L : Nat) : Nat → Nat → RS → Rc × Nat
  | 0, p, R => ((false, p, R), 0)
  | k + 1, p, R => if (rCl ch p R).1 = true then (if (rCl ch p R).2.1 = L then ((true, (rCl ch p R).2.1, (rCl ch p R).2.2), 10 - k) else if k = 0 then ((false, (rCl ch p R).2.1, R), 0) else if ch (rCl ch p R).2.1 = 59 then rCls ch L k ((rCl ch p R).2.1 + 1) (rCl ch p R).2.2 else ((false, (rCl ch p R).2.1, R), 0)) else ((false, (rCl ch p R).2.1, R), 0)
def md0 : Mdt := (fun _ => 10, fun _ => 0, 0, 0, 9, fun _ => 0, fun _ => 1)
/-- what a text of L bytes says -/
def rTx (ch : Nat → Nat) (L : Nat) : Rc × Nat := rCls ch L 10 0 (md0, [])
/-- all but what a reader writes is as it was -/
def frY (t : Nat) (D D' : Dy) : Prop := D'.2 = D.2 ∧ ∀ b x, ¬ (b = t ∧ (x = 2 ∨ x = 6 ∨ x = 7 ∨ x = 8 ∨ x = 12 ∨ x = 15)) → ¬ (t + 1 ≤ b ∧ b ≤ t + 5) → b ≠ t + 8 → D'.1 b x = D.1 b x
theorem frY_r {t : Nat} {D : Dy} : frY t D D := ⟨rfl, fun _ _ _ _ _ => rfl⟩
theorem frY_t {t : Nat} {D D' D'' : Dy} (h : frY t D D') (h' : frY t D' D'') : frY t D D'' := ⟨h'.1.trans h.1, fun b x h1 h2 h3 => (h'.2 b x h1 h2 h3).trans (h.2 b x h1 h2 h3)⟩
theorem frY_s {t : Nat} {D D' : Dy} {a k : Nat} {v : Int32} (h : frY t D D') (ha : (a = t ∧ (k = 2 ∨ k = 6 ∨ k = 7 ∨ k = 8 ∨ k = 12 ∨ k = 15)) ∨ (t + 1 ≤ a ∧ a ≤ t + 5) ∨ a = t + 8) : frY t D (sI D' a k v) := ⟨h.1, fun b x h1 h2 h3 => by rw [sI_1, if_neg (by omega)]; exact h.2 b x h1 h2 h3⟩
theorem frE_Y {t : Nat} {D D' : Dy} (h : frE t D D') : frY t D D' := ⟨h.1, fun b x h1 _ h3 => h.2 b x (by omega) h3⟩
theorem XT_y {D D' : Dy} {t L : Nat} {b : Nat → Nat} (h : XT D t b L) (f : frY t D D') : XT D' t b L := by
  obtain ⟨h1, h2, h3, h4⟩ := h
  exact ⟨h1, h2, by rw [f.2 _ _ (by omega) (by omega) (by omega)]; exact h3, fun i hi => by rw [f.2 _ _ (by omega) (by omega) (by omega)]; exact h4 i hi⟩
def XE (D : Dy) (t : Nat) (cs : List (List Nat)) : Prop := D.1 t 15 = nI cs.length ∧ ∀ j, j < cs.length → D.1 (t + 5) j = nI (cs.take (j + 1)).flatten.length
def XS (D : Dy) (t : Nat) (R : RS) : Prop := XM D t R.1 ∧ XC D t R.2.flatten ∧ XE D t R.2
/-- what the told state keeps to -/
def okR (p c : Nat) (R : RS) : Prop := okM R.1 ∧ R.2.flatten.length ≤ p ∧ R.2.length ≤ c
def rcX (D : Dy) (t L c : Nat) (r : Rc) (post : Int32 → Dy → Prop) : Prop := ∀ D', frY t D D' → D'.1 t 2 = nI r.2.1 → r.2.1 ≤ L → (r.1 = true → XS D' t r.2.2 ∧ okR r.2.1 c r.2.2) → post (if r.1 = true then 1 else 0) D'
theorem XM_e {D D' : Dy} {t : Nat} {M : Mdt} (h : XM D t M) (f : frE t D D') : XM D' t M := by
  obtain ⟨h1, h2, h3, h4, ⟨l, h5, h6⟩, h7⟩ := h
  exact ⟨fun i hi => by rw [f.2 _ _ (by omega) (by omega)]; exact h1 i hi, fun i hi => by rw [f.2 _ _ (by omega) (by omega)]; exact h2 i hi, by rw [f.2 _ _ (by omega) (by omega)]; exact h3, by rw [f.2 _ _ (by omega) (by omega)]; exact h4, ⟨l, by rw [f.2 _ _ (by omega) (by omega)]; exact h5, h6⟩, fun k hk => by rw [f.2 _ _ (by omega) (by omega), f.2 _ _ (by omega) (by omega)]; exact h7 k hk⟩
theorem XE_e {D D' : Dy} {t : Nat} {cs : List (List Nat)} (h : XE D t cs) (f : frE t D D') : XE D' t cs := ⟨by rw [f.2 _ _ (by omega) (by omega)]; exact h.1, fun j hj => by rw [f.2 _ _ (by omega) (by omega)]; exact h.2 j hj⟩
theorem frE_p {t : Nat} {D : Dy} {v : Int32} : frE t D (sI D t 2 v) := frE_s frE_r (Or.inl ⟨rfl, Or.inl rfl⟩)
theorem XS_p {D : Dy} {t p : Nat} {R : RS} (h : XS D t R) : XS (sI D t 2 (nI p)) t R := ⟨XM_e h.1 frE_p, XC_p h.2.1, XE_e h.2.2 frE_p⟩
theorem sI_sI {D : Dy} {a k : Nat} {v w : Int32} : sI (sI D a k v) a k w = sI D a k w := by
  refine Prod.ext (funext fun b => funext fun x => ?_) rfl
  rw [sI_1, sI_1, sI_1]
  by_cases c : b = a ∧ x = k
  · rw [if_pos c, if_pos c]
  · rw [if_neg c, if_neg c, if_neg c]
theorem nI1n : (-nI 1 < 0) ∧ ¬ (0 : Int32) ≤ -nI 1 := by decide
theorem x_fgp {D : Dy} {t L p lo hi : Nat} {b : Nat → Nat} (hT : XT D t b L) (hp : D.1 t 2 = nI p) (hpL : p ≤ L) (hlo : lo ≤ 9) (hhi : hi ≤ 9) {post : Int32 → Dy → Prop} (h1 : chr b L p = 32 → 48 + lo ≤ chr b L (p + 1) → chr b L (p + 1) ≤ 48 + hi → p + 2 ≤ L → post (nI (chr b L (p + 1) - 48)) (sI D t 2 (nI (p + 2)))) (h2 : chr b L p = 32 → ¬ (48 + lo ≤ chr b L (p + 1) ∧ chr b L (p + 1) ≤ 48 + hi) → p + 1 ≤ L → post (-nI 1) (sI D t 2 (nI (p + 1)))) (h0 : chr b L p ≠ 32 → post (-nI 1) D) : fX9_readFigurePart t (nI lo) (nI hi) D post := by
  have L120 := hT.2.1
  unfold fX9_readFigurePart
  refine x_take (K := 32) hT hp hpL (by omega) (fun c hlt => ⟨fun z => absurd z (by decide), fun _ => ?_⟩) (fun c => ⟨fun _ => h0 c, fun z => absurd rfl z⟩)
  have e : ∀ q, sI (sI D t 2 (nI (p + 1))) t 2 (nI q) = sI D t 2 (nI q) := fun q => sI_sI
  refine x_figure (p := p + 1) (XT_e hT frE_p) (by rw [sI_1, if_pos ⟨rfl, rfl⟩]) hlt hhi hlo (fun g1 g2 g3 => ?_) (fun g => ?_)
  · have ec : chr b L (p + 1) = b (p + 1) := chr_eq (by omega) g1 rfl
    rw [e]
    have := h1 c (by omega) (by omega) g1
    rw [ec] at this
    exact this
  · refine h2 c (fun z => g ?_) hlt
    have := chr_lt (b := b) (L := L) (p := p + 1) (K := chr b L (p + 1)) (by omega) rfl
    omega
theorem x_prt {D : Dy} {t L p : Nat} {b : Nat → Nat} (hT : XT D t b L) (hp : D.1 t 2 = nI p) (hpL : p ≤ L) {post : Int32 → Dy → Prop} (h1 : chr b L p = 32 → dig (chr b L) (p + 1) = true → (nmF (chr b L) 3 (p + 1) 0).1 ≤ L → p + 1 ≤ (nmF (chr b L) 3 (p + 1) 0).1 → (nmF (chr b L) 3 (p + 1) 0).2 ≤ 999 → post (nI (nmF (chr b L) 3 (p + 1) 0).2) (sI D t 2 (nI (nmF (chr b L) 3 (p + 1) 0).1))) (h2 : chr b L p = 32 → ¬ dig (chr b L) (p + 1) = true → p + 1 ≤ L → post (-nI 1) (sI D t 2 (nI (p + 1)))) (h0 : chr b L p ≠ 32 → post (-nI 1) D) : fX9_readPart t D post := by
  have L120 := hT.2.1
  unfold fX9_readPart
  refine x_take (K := 32) hT hp hpL (by omega) (fun c hlt => ⟨fun z => absurd z (by decide), fun _ => ?_⟩) (fun c => ⟨fun _ => h0 c, fun z => absurd rfl z⟩)
  have e : ∀ q, sI (sI D t 2 (nI (p + 1))) t 2 (nI q) = sI D t 2 (nI q) := fun q => sI_sI
  refine x_number (p := p + 1) (XT_e hT frE_p) (by rw [sI_1, if_pos ⟨rfl, rfl⟩]) hlt (fun d => ?_) (fun d => h2 c (by rw [d]; decide) hlt)
  rw [e]
  have v := nmF_v (ch := chr b L) 3 (p + 1) 0
  exact h1 c d (nmF_L 3 (p + 1) 0 hlt) (nmF_le 3 (p + 1) 0) (by omega)
