/-! CLAUSES: the one's reader, one clause -/
theorem okR_p {p q c : Nat} {R : RS} (h : okR p c R) (hq : p ≤ q) : okR q c R := ⟨h.1, by have := h.2.1; omega, h.2.2⟩
theorem nI0le {a : Nat} (h : a < 2 ^ 31) : (0 : Int32) ≤ nI a := nI_le (a := 0) (Nat.zero_le _) h
theorem nI0nlt {a : Nat} (h : a < 2 ^ 31) : ¬ nI a < 0 := nI_nlt (b := 0) (Nat.zero_le _) h
theorem x_clw {D : Dy} {t L p c w : Nat} {b : Nat → Nat} {R : RS} {post : Int32 → Dy → Prop} (hT : XT D t b L) (hp : D.1 t 2 = nI p) (hpL : p ≤ L) (hS : XS D t R) (hR : okR p c R) (hc : R.2.length < 10) (hc2 : R.2.length < c) (hw : w < 7) (h : rcX D t L c (rClw (chr b L) p R w) post)
    : (w = 0 → fX9_readWorth t (t + 1) 6 D post) ∧ (w = 1 → fX9_readWorth t (t + 2) 8 D post) ∧ (w = 5 → fX9_readKind t D post) := by
  have L120 := hT.2.1
  refine ⟨fun e => ?_, fun e => ?_, fun e => ?_⟩
  · subst e
    simp only [rClw] at h
    unfold fX9_readWorth
    refine x_fgp (lo := 0) (hi := 5) hT hp hpL (by omega) (by omega) (fun c1 g1 g2 l1 => ?_) (fun c1 g l1 => ?_) (fun c1 => ?_)
    · unfold gFp at h
      rw [if_pos c1, if_pos ⟨g1, g2⟩] at h
      simp only [] at h
      unfold gNp at h
      refine ⟨fun _ => ?_, fun z => absurd (nI0le (by omega)) z⟩
      refine x_prt (p := p + 2) (XT_e hT frE_p) (by rw [sI_1, if_pos ⟨rfl, rfl⟩]) l1 (fun c2 d l2 l3 v => ?_) (fun c2 d l2 => ?_) (fun c2 => ?_)
      · rw [if_pos c2, if_pos d] at h
        simp only [] at h
        refine ⟨fun _ => ⟨nI_in (by omega) (by omega), ?_⟩, fun z => absurd (nI0le (by omega)) z⟩
        rintro D15 rfl
        rw [nI_clamp (by omega), sI_sI]
        exact h _ (frY_s (frE_Y frE_p) (by omega)) (by rw [sI_1, if_neg (by omega), sI_1, if_pos ⟨rfl, rfl⟩]) l2 (fun _ => ⟨XS_W (XS_p hS), okM_W hR.1 v, by have := hR.2.1; show _ ≤ (nmF (chr b L) 3 (p + 2 + 1) 0).1; show R.2.flatten.length ≤ _; omega, hR.2.2⟩)
      · rw [if_pos c2, if_neg d] at h
        refine ⟨fun z => absurd z nI1n.2, fun _ => ?_⟩
        rw [sI_sI]
        exact h _ (frE_Y frE_p) (by rw [sI_1, if_pos ⟨rfl, rfl⟩]) l2 (fun z => by cases z)
      · rw [if_neg c2] at h
        refine ⟨fun z => absurd z nI1n.2, fun _ => ?_⟩
        exact h _ (frE_Y frE_p) (by rw [sI_1, if_pos ⟨rfl, rfl⟩]) l1 (fun z => by cases z)
    · unfold gFp at h
      rw [if_pos c1, if_neg g] at h
      refine ⟨fun z => absurd z nI1n.2, fun _ => ?_⟩
      exact h _ (frE_Y frE_p) (by rw [sI_1, if_pos ⟨rfl, rfl⟩]) l1 (fun z => by cases z)
    · unfold gFp at h
      rw [if_neg c1] at h
      refine ⟨fun z => absurd z nI1n.2, fun _ => ?_⟩
      exact h _ frY_r hp hpL (fun z => by cases z)
  · subst e
    simp only [rClw] at h
    unfold fX9_readWorth
    refine x_fgp (lo := 0) (hi := 7) hT hp hpL (by omega) (by omega) (fun c1 g1 g2 l1 => ?_) (fun c1 g l1 => ?_) (fun c1 => ?_)
    · unfold gFp at h
      rw [if_pos c1, if_pos ⟨g1, g2⟩] at h
      simp only [] at h
      unfold gNp at h
      refine ⟨fun _ => ?_, fun z => absurd (nI0le (by omega)) z⟩
      refine x_prt (p := p + 2) (XT_e hT frE_p) (by rw [sI_1, if_pos ⟨rfl, rfl⟩]) l1 (fun c2 d l2 l3 v => ?_) (fun c2 d l2 => ?_) (fun c2 => ?_)
      · rw [if_pos c2, if_pos d] at h
        simp only [] at h
        refine ⟨fun _ => ⟨nI_in (by omega) (by omega), ?_⟩, fun z => absurd (nI0le (by omega)) z⟩
        rintro D15 rfl
        rw [nI_clamp (by omega), sI_sI]
        exact h _ (frY_s (frE_Y frE_p) (by omega)) (by rw [sI_1, if_neg (by omega), sI_1, if_pos ⟨rfl, rfl⟩]) l2 (fun _ => ⟨XS_M (XS_p hS), okM_M hR.1 v, by have := hR.2.1; show R.2.flatten.length ≤ (nmF (chr b L) 3 (p + 2 + 1) 0).1; omega, hR.2.2⟩)
      · rw [if_pos c2, if_neg d] at h
        refine ⟨fun z => absurd z nI1n.2, fun _ => ?_⟩
        rw [sI_sI]
        exact h _ (frE_Y frE_p) (by rw [sI_1, if_pos ⟨rfl, rfl⟩]) l2 (fun z => by cases z)
      · rw [if_neg c2] at h
        refine ⟨fun z => absurd z nI1n.2, fun _ => ?_⟩
        exact h _ (frE_Y frE_p) (by rw [sI_1, if_pos ⟨rfl, rfl⟩]) l1 (fun z => by cases z)
    · unfold gFp at h
      rw [if_pos c1, if_neg g] at h
      refine ⟨fun z => absurd z nI1n.2, fun _ => ?_⟩
      exact h _ (frE_Y frE_p) (by rw [sI_1, if_pos ⟨rfl, rfl⟩]) l1 (fun z => by cases z)
    · unfold gFp at h
      rw [if_neg c1] at h
      refine ⟨fun z => absurd z nI1n.2, fun _ => ?_⟩
      exact h _ frY_r hp hpL (fun z => by cases z)
  · subst e
    simp only [rClw] at h
    unfold fX9_readKind
    refine x_fgp (lo := 0) (hi := 2) hT hp hpL (by omega) (by omega) (fun c1 g1 g2 l1 => ?_) (fun c1 g l1 => ?_) (fun c1 => ?_)
    · unfold gFp at h
      rw [if_pos c1, if_pos ⟨g1, g2⟩] at h
      simp only [] at h
      refine ⟨fun _ => ?_, fun z => absurd (nI0le (by omega)) z⟩
      have vk : vp_in (nI (chr b L (p + 1) - 48)) 3 := nI_in (by omega) (by omega)
      refine x_fgp (p := p + 2) (lo := 0) (hi := 9) (XT_e hT frE_p) (by rw [sI_1, if_pos ⟨rfl, rfl⟩]) l1 (by omega) (by omega) (fun c2 g3 g4 l2 => ?_) (fun c2 g3 l2 => ?_) (fun c2 => ?_)
      · rw [if_pos c2, if_pos ⟨g3, g4⟩] at h
        refine ⟨vk, ?_⟩
        rintro D14 rfl
        refine ⟨vk, ?_⟩
        rw [nI_clamp (by omega), sI_sI]
        have g14 : (sI (sI D t 2 (nI (p + 2 + 2))) (t + 3) (chr b L (p + 1) - 48) (nI (chr b L (p + 2 + 1) - 48))).1 (t + 3) (chr b L (p + 1) - 48) = nI (chr b L (p + 2 + 1) - 48) := by rw [sI_1, if_pos ⟨rfl, rfl⟩]
        rw [g14]
        refine ⟨fun _ => ?_, fun z => absurd (nI0le (by omega)) z⟩
        unfold gNp at h
        have f14 : frY t D (sI (sI D t 2 (nI (p + 2 + 2))) (t + 3) (chr b L (p + 1) - 48) (nI (chr b L (p + 2 + 1) - 48))) := frY_s (frE_Y frE_p) (by omega)
        have e14 : (sI (sI D t 2 (nI (p + 2 + 2))) (t + 3) (chr b L (p + 1) - 48) (nI (chr b L (p + 2 + 1) - 48))).1 t 2 = nI (p + 2 + 2) := by rw [sI_1, if_neg (by omega), sI_1, if_pos ⟨rfl, rfl⟩]
        refine x_prt (p := p + 2 + 2) (XT_y hT f14) e14 l2 (fun c3 d l3 l4 v => ?_) (fun c3 d l3 => ?_) (fun c3 => ?_)
        · rw [if_pos c3, if_pos d] at h
          simp only [] at h
          refine ⟨vk, ?_⟩
          rintro D23 rfl
          refine ⟨vk, ?_⟩
          rw [sI_1, if_pos ⟨rfl, rfl⟩]
          refine ⟨fun z => absurd z (nI0nlt (by omega)), fun _ => ?_⟩
          have sw : ∀ q, sI (sI (sI D t 2 (nI (p + 2 + 2))) (t + 3) (chr b L (p + 1) - 48) (nI (chr b L (p + 2 + 1) - 48))) t 2 (nI q) = sI (sI D t 2 (nI q)) (t + 3) (chr b L (p + 1) - 48) (nI (chr b L (p + 2 + 1) - 48)) := fun q => by
            refine Prod.ext (funext fun y => funext fun x => ?_) rfl
            rw [sI_1, sI_1, sI_1, sI_1, sI_1]
            by_cases z1 : y = t ∧ x = 2
            · rw [if_pos z1, if_neg (by omega), if_pos z1]
            · rw [if_neg z1, if_neg z1, if_neg z1]
          rw [sw]
          exact h _ (frY_s (frY_s (frE_Y frE_p) (by omega)) (by omega)) (by rw [sI_1, if_neg (by omega), sI_1, if_neg (by omega), sI_1, if_pos ⟨rfl, rfl⟩]) l3 (fun _ => ⟨XS_K (XS_p hS), okM_K hR.1 (by omega) v, by have := hR.2.1; show R.2.flatten.length ≤ (nmF (chr b L) 3 (p + 2 + 2 + 1) 0).1; omega, hR.2.2⟩)
        · rw [if_pos c3, if_neg d] at h
          refine ⟨vk, ?_⟩
          rintro D23 rfl
          refine ⟨vk, ?_⟩
          rw [sI_1, if_pos ⟨rfl, rfl⟩]
          refine ⟨fun _ => ?_, fun z => absurd nI1n.1 z⟩
          exact h _ (frY_s (frY_t f14 (frE_Y frE_p)) (by omega)) (by rw [sI_1, if_neg (by omega), sI_1, if_pos ⟨rfl, rfl⟩]) l3 (fun z => by cases z)
        · rw [if_neg c3] at h
          refine ⟨vk, ?_⟩
          rintro D23 rfl
          refine ⟨vk, ?_⟩
          rw [sI_1, if_pos ⟨rfl, rfl⟩]
          refine ⟨fun _ => ?_, fun z => absurd nI1n.1 z⟩
          exact h _ (frY_s f14 (by omega)) (by rw [sI_1, if_neg (by omega)]; exact e14) l2 (fun z => by cases z)
      · rw [if_pos c2, if_neg g3] at h
        refine ⟨vk, ?_⟩
        rintro D14 rfl
        refine ⟨vk, ?_⟩
        rw [sI_1, if_pos ⟨rfl, rfl⟩, sI_sI]
        refine ⟨fun z => absurd z nI1n.2, fun _ => ?_⟩
        exact h _ (frY_s (frE_Y frE_p) (by rw [nI_clamp (by omega)]; omega)) (by rw [sI_1, if_neg (by omega), sI_1, if_pos ⟨rfl, rfl⟩]) l2 (fun z => by cases z)
      · rw [if_neg c2] at h
        refine ⟨vk, ?_⟩
        rintro D14 rfl
        refine ⟨vk, ?_⟩
        rw [sI_1, if_pos ⟨rfl, rfl⟩]
        refine ⟨fun z => absurd z nI1n.2, fun _ => ?_⟩
        exact h _ (frY_s (frE_Y frE_p) (by omega)) (by rw [sI_1, if_neg (by omega), sI_1, if_pos ⟨rfl, rfl⟩]) l1 (fun z => by cases z)
    · unfold gFp at h
      rw [if_pos c1, if_neg g] at h
      refine ⟨fun z => absurd z nI1n.2, fun _ => ?_⟩
      exact h _ (frE_Y frE_p) (by rw [sI_1, if_pos ⟨rfl, rfl⟩]) l1 (fun z => by cases z)
    · unfold gFp at h
      rw [if_neg c1] at h
      refine ⟨fun z => absurd z nI1n.2, fun _ => ?_⟩
      exact h _ frY_r hp hpL (fun z => by cases z)
theorem x_clause {D : Dy} {t L p c : Nat} {b : Nat → Nat} {R : RS} {post : Int32 → Dy → Prop} (hT : XT D t b L) (hp : D.1 t 2 = nI p) (hpL : p ≤ L) (hS : XS D t R) (hR : okR p c R) (hc : c < 10) (h : rcX D t L (c + 1) (rCl (chr b L) p R) post) : fX9_readClause t D post := by
  have L120 := hT.2.1
  have w7 := wsel_lt (ch := chr b L) (p := p)
  unfold rCl at h
  unfold fX9_readClause
  refine x_word hT hp hpL (fun e => ?_) (fun e => ?_)
  · rw [if_pos e] at h
    have pl := lc_L (b := b) (L := L) (wds (wsel (chr b L) p)) p (wds_128 _ w7) hpL
    rw [e] at pl
    generalize wsel (chr b L) p = w at *
    have hq : p ≤ p + (wds w).length := Nat.le_add_right _ _
    generalize p + (wds w).length = q at *
    have f6 : frY t D (sI D t 2 (nI q)) := frE_Y frE_p
    have h := rcX_n f6 h
    have T6 := XT_y hT f6
    have S6 : XS (sI D t 2 (nI q)) t R := XS_p hS
    have e6 : (sI D t 2 (nI q)).1 t 2 = nI q := by rw [sI_1, if_pos ⟨rfl, rfl⟩]
    generalize sI D t 2 (nI q) = D6 at *
    have R6 : okR q (c + 1) R := ⟨hR.1, by have := hR.2.1; omega, by have := hR.2.2; omega⟩
    have cl := x_clw T6 e6 pl S6 R6 (by have := hR.2.2; omega) (by have := hR.2.2; omega) w7
      (post := fun v D => (v = 0 ∨ v = 1) ∧ post v D) (fun D' f1 f2 f3 f4 => ⟨by split <;> decide, h D' f1 f2 f3 f4⟩)
    have : w = 0 ∨ w = 1 ∨ w = 2 ∨ w = 3 ∨ w = 4 ∨ w = 5 ∨ w = 6 := by omega
    rcases this with rfl | rfl | rfl | rfl | rfl | rfl | rfl
    · exact ⟨fun _ => cl.1 rfl, fun z => absurd rfl z⟩
    · exact ⟨fun z => absurd z (by decide), fun _ => ⟨fun _ => cl.2.1 rfl, fun z => absurd rfl z⟩⟩
    · refine ⟨fun z => absurd z (by decide), fun _ => ⟨fun z => absurd z (by decide), fun _ => ⟨fun _ => ?_, fun z => absurd rfl z⟩⟩⟩
      simp only [rClw] at h
      unfold gNp at h
      refine x_prt T6 e6 pl (fun c1 d l1 l2 v => ?_) (fun c1 d l1 => ?_) (fun c1 => ?_)
      · rw [if_pos c1, if_pos d] at h
        simp only [] at h
        rintro D28 rfl
        rw [sI_1, if_pos ⟨rfl, rfl⟩]
        refine ⟨fun z => absurd z (nI0nlt (by omega)), fun _ => ?_⟩
        exact h _ (frY_s (frE_Y frE_p) (by omega)) (by rw [sI_1, if_neg (by omega), sI_1, if_pos ⟨rfl, rfl⟩]) l1 (fun _ => ⟨XS_P (XS_p S6), okM_P R6.1 v, by have := R6.2.1; show R.2.flatten.length ≤ (nmF (chr b L) 3 (q + 1) 0).1; omega, R6.2.2⟩)
      · rw [if_pos c1, if_neg d] at h
        rintro D28 rfl
        rw [sI_1, if_pos ⟨rfl, rfl⟩]
        refine ⟨fun _ => ?_, fun z => absurd nI1n.1 z⟩
        exact h _ (frY_s (frE_Y frE_p) (by omega)) (by rw [sI_1, if_neg (by omega), sI_1, if_pos ⟨rfl, rfl⟩]) l1 (fun z => by cases z)
      · rw [if_neg c1] at h
        rintro D28 rfl
        rw [sI_1, if_pos ⟨rfl, rfl⟩]
        refine ⟨fun _ => ?_, fun z => absurd nI1n.1 z⟩
        exact h _ (frY_s frY_r (by omega)) (by rw [sI_1, if_neg (by omega)]; exact e6) pl (fun z => by cases z)
    · refine ⟨fun z => absurd z (by decide), fun _ => ⟨fun z => absurd z (by decide), fun _ => ⟨fun z => absurd z (by decide), fun _ => ⟨fun _ => ?_, fun z => absurd rfl z⟩⟩⟩⟩
      simp only [rClw] at h
      unfold gNp at h
      refine x_prt T6 e6 pl (fun c1 d l1 l2 v => ?_) (fun c1 d l1 => ?_) (fun c1 => ?_)
      · rw [if_pos c1, if_pos d] at h
        simp only [] at h
        rintro D28 rfl
        rw [sI_1, if_pos ⟨rfl, rfl⟩]
        refine ⟨fun z => absurd z (nI0nlt (by omega)), fun _ => ?_⟩
        exact h _ (frY_s (frE_Y frE_p) (by omega)) (by rw [sI_1, if_neg (by omega), sI_1, if_pos ⟨rfl, rfl⟩]) l1 (fun _ => ⟨XS_Z (XS_p S6), okM_Z R6.1 v, by have := R6.2.1; show R.2.flatten.length ≤ (nmF (chr b L) 3 (q + 1) 0).1; omega, R6.2.2⟩)
      · rw [if_pos c1, if_neg d] at h
        rintro D28 rfl
        rw [sI_1, if_pos ⟨rfl, rfl⟩]
        refine ⟨fun _ => ?_, fun z => absurd nI1n.1 z⟩
        exact h _ (frY_s (frE_Y frE_p) (by omega)) (by rw [sI_1, if_neg (by omega), sI_1, if_pos ⟨rfl, rfl⟩]) l1 (fun z => by cases z)
      · rw [if_neg c1] at h
        rintro D28 rfl
        rw [sI_1, if_pos ⟨rfl, rfl⟩]
        refine ⟨fun _ => ?_, fun z => absurd nI1n.1 z⟩
        exact h _ (frY_s frY_r (by omega)) (by rw [sI_1, if_neg (by omega)]; exact e6) pl (fun z => by cases z)
    · refine ⟨fun z => absurd z (by decide), fun _ => ⟨fun z => absurd z (by decide), fun _ => ⟨fun z => absurd z (by decide), fun _ => ⟨fun z => absurd z (by decide), fun _ => ⟨fun _ => ?_, fun z => absurd rfl z⟩⟩⟩⟩⟩
      simp only [rClw] at h
      unfold gFp at h
      refine x_fgp (lo := 1) (hi := 9) T6 e6 pl (by omega) (by omega) (fun c1 g1 g2 l1 => ?_) (fun c1 d l1 => ?_) (fun c1 => ?_)
      · rw [if_pos c1, if_pos ⟨g1, g2⟩] at h
        simp only [] at h
        rintro D28 rfl
        rw [sI_1, if_pos ⟨rfl, rfl⟩]
        refine ⟨fun z => absurd z (nI0nlt (by omega)), fun _ => ?_⟩
        exact h _ (frY_s (frE_Y frE_p) (by omega)) (by rw [sI_1, if_neg (by omega), sI_1, if_pos ⟨rfl, rfl⟩]) l1 (fun _ => ⟨XS_L (XS_p S6) (by omega) (by omega), okM_L R6.1 (by omega) (by omega), by have := R6.2.1; show R.2.flatten.length ≤ q + 2; omega, R6.2.2⟩)
      · rw [if_pos c1, if_neg d] at h
        rintro D28 rfl
        rw [sI_1, if_pos ⟨rfl, rfl⟩]
        refine ⟨fun _ => ?_, fun z => absurd nI1n.1 z⟩
        exact h _ (frY_s (frE_Y frE_p) (by omega)) (by rw [sI_1, if_neg (by omega), sI_1, if_pos ⟨rfl, rfl⟩]) l1 (fun z => by cases z)
      · rw [if_neg c1] at h
        rintro D28 rfl
        rw [sI_1, if_pos ⟨rfl, rfl⟩]
        refine ⟨fun _ => ?_, fun z => absurd nI1n.1 z⟩
        exact h _ (frY_s frY_r (by omega)) (by rw [sI_1, if_neg (by omega)]; exact e6) pl (fun z => by cases z)
    · exact ⟨fun z => absurd z (by decide), fun _ => ⟨fun z => absurd z (by decide), fun _ => ⟨fun z => absurd z (by decide), fun _ => ⟨fun z => absurd z (by decide), fun _ => ⟨fun z => absurd z (by decide), fun _ => ⟨fun _ => cl.2.2 rfl, fun z => absurd rfl z⟩⟩⟩⟩⟩⟩
    · refine ⟨fun z => absurd z (by decide), fun _ => ⟨fun z => absurd z (by decide), fun _ => ⟨fun z => absurd z (by decide), fun _ => ⟨fun z => absurd z (by decide), fun _ => ⟨fun z => absurd z (by decide), fun _ => ⟨fun z => absurd z (by decide), fun _ => ⟨fun _ => ?_, fun z => absurd rfl z⟩⟩⟩⟩⟩⟩⟩
      simp only [rClw] at h
      unfold rPk at h
      have RL := R6.2.1
      refine x_take (K := 32) T6 e6 pl (by omega) (fun c1 hlt => JN_1 (fun D' => post 0 D') (fun D' hd => hd) (fun K hK => ⟨fun z => absurd z (by decide), fun _ => ?_⟩)) (fun c1 => JN_1 (fun D' => post 0 D') (fun D' hd => hd) (fun K hK => ⟨fun _ => hK _ ?_, fun z => absurd rfl z⟩))
      · rw [if_pos c1] at h
        have f7 : frY t D6 (sI D6 t 2 (nI (q + 1))) := frE_Y frE_p
        have S7 : XS (sI D6 t 2 (nI (q + 1))) t R := XS_p S6
        show fX9_rec 16 2 t (nI 0) _ _
        refine x_rE 16 2 0 (q + 1) R.2.flatten _ _ (by omega) (by omega) (by omega) (XT_y T6 f7) (by rw [sI_1, if_pos ⟨rfl, rfl⟩]) hlt S7.2.1 (by omega) (fun D' f' e' l' g' => ?_)
        by_cases r1 : (rE (chr b L) 16 2 0 (q + 1) R.2.flatten).1 = true
        · rw [if_pos r1] at h ⊢
          obtain ⟨C', g1, g2⟩ := g' r1
          obtain ⟨v, cc, a1, a2⟩ := rE_says (tv := fun _ => true) 16 2 0 (q + 1) R.2.flatten r1
          have ef : (R.2 ++ [(rE (chr b L) 16 2 0 (q + 1) R.2.flatten).2.2.drop R.2.flatten.length]).flatten = (rE (chr b L) 16 2 0 (q + 1) R.2.flatten).2.2 := by
            rw [fl_snoc, a1, List.drop_left]
          have E' := XE_e S7.2.2 f'
          have hc' := hR.2.2
          refine ⟨fun z => absurd z (by decide), fun _ => ?_⟩
          unfold fX9_endPick
          rw [E'.1]
          refine ⟨fun _ => ⟨nI_in (by omega) (by omega), ?_⟩, fun z => absurd (nI_lt (b := 10) (by omega) (by omega)) z⟩
          rintro D2 rfl D4 rfl
          rw [nI_clamp (by omega)]
          refine ⟨fun z => absurd z (by decide), fun _ => ?_⟩
          have e15 : ∀ y, (sI D' (t + 5) R.2.length y).1 t 15 = nI R.2.length := fun y => by rw [sI_1, if_neg (by omega)]; exact E'.1
          rw [e15, nI_1, C'.1]
          have XE2 := XE_snoc (c := (rE (chr b L) 16 2 0 (q + 1) R.2.flatten).2.2.drop R.2.flatten.length) E'
          rw [ef] at XE2
          refine h _ (frY_s (frY_s (frY_t f7 (frE_Y f')) (by omega)) (by omega)) (by rw [sI_1, if_neg (by omega), sI_1, if_neg (by omega)]; exact e') l' (fun _ => ⟨⟨?_, ?_, XE2⟩, R6.1, ?_, ?_⟩)
          · obtain ⟨h1, h2, h3, h4, ⟨l, h5, h6⟩, h7⟩ := XM_e S7.1 f'
            have o : ∀ a x, ¬ (a = t ∧ x = 15) → a ≠ t + 5 → (sI (sI D' (t + 5) R.2.length (nI (rE (chr b L) 16 2 0 (q + 1) R.2.flatten).2.2.length)) t 15 (nI (R.2.length + 1))).1 a x = D'.1 a x := fun a x z1 z2 => by rw [sI_1, if_neg z1, sI_1, if_neg (fun z => z2 z.1)]
            exact ⟨fun i hi => by rw [o _ _ (by omega) (by omega)]; exact h1 i hi, fun i hi => by rw [o _ _ (by omega) (by omega)]; exact h2 i hi, by rw [o _ _ (by omega) (by omega)]; exact h3, by rw [o _ _ (by omega) (by omega)]; exact h4, ⟨l, by rw [o _ _ (by omega) (by omega)]; exact h5, h6⟩, fun j hj => by rw [o _ _ (by omega) (by omega), o _ _ (by omega) (by omega)]; exact h7 j hj⟩
          · show XC _ t (R.2 ++ [(rE (chr b L) 16 2 0 (q + 1) R.2.flatten).2.2.drop R.2.flatten.length]).flatten
            rw [ef]
            exact XC_s (XC_s C' (by omega)) (by omega)
          · show (R.2 ++ [(rE (chr b L) 16 2 0 (q + 1) R.2.flatten).2.2.drop R.2.flatten.length]).flatten.length ≤ (rE (chr b L) 16 2 0 (q + 1) R.2.flatten).2.1
            rw [ef]; omega
          · show (R.2 ++ [(rE (chr b L) 16 2 0 (q + 1) R.2.flatten).2.2.drop R.2.flatten.length]).length ≤ c + 1
            rw [List.length_append]; show R.2.length + 1 ≤ c + 1; omega
        · rw [if_neg r1] at h ⊢
          refine ⟨fun _ => hK _ ?_, fun z => absurd rfl z⟩
          exact h _ (frY_t f7 (frE_Y f')) e' l' (fun z => by cases z)
      · rw [if_neg c1] at h
        exact h _ frY_r e6 pl (fun z => by cases z)
  · rw [if_neg (by omega)] at h
    refine ⟨fun z => absurd z (by decide), fun _ => ⟨fun z => absurd z (by decide), fun _ => ⟨fun z => absurd z (by decide), fun _ => ⟨fun z => absurd z (by decide), fun _ => ⟨fun z => absurd z (by decide), fun _ => ⟨fun z => absurd z (by decide), fun _ => ⟨fun z => absurd z (by decide), fun _ => ?_⟩⟩⟩⟩⟩⟩⟩
    exact h _ (frE_Y frE_p) (by rw [sI_1, if_pos ⟨rfl, rfl⟩]) (lc_L _ p (wds_128 _ w7) hpL) (fun z => by cases z)
