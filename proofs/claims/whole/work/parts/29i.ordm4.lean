/-! what the other has found, and kept -/
def AG (D : Dy) (n c who v : Nat) : Bool := agL (rqD D n c who) (ord (n + 1) 0 v)
def RK (D : Dy) (n c : Nat) : Prop := (D.1 33 46 = -nI 1 ∨ ∃ q, q ≤ n ∧ D.1 33 46 = nI q) ∧ (D.1 33 46 = nI n → PLs D n ∧ ∀ w, w < 16 → D.1 58 w = nI 0 ∨ (D.1 58 w = nI 1 ∧ ∀ v, v < fac (n + 1) → D.1 57 (5040 * w + v) = bB (AG D n c w v)))
theorem AG_k {D D' : Dy} {n c w v : Nat} (f : frK D D') : AG D' n c w v = AG D n c w v := by
  unfold AG
  rw [rqD_c fun b i hb _ => f.2 b i (by omega) (by omega)]
theorem countP_0 {α : Type} {f : α → Bool} : ∀ Q : List α, (Q.countP (fun q => !f q) = 0) = (Q.all f = true)
  | [] => by simp
  | a :: Q => by
    rw [List.countP_cons, List.all_cons]
    have ih := countP_0 (f := f) Q
    refine propext ?_
    cases h : f a
    · simp
    · simp only [Bool.not_true, Bool.false_eq_true, if_false, Nat.add_zero, Bool.true_and]
      rw [ih]
/-- all that is known of both, for orders -/
def BO (D : Dy) (n k c : Nat) : Prop := n ≤ 6 ∧ k ≤ 16 ∧ c ≤ 80 ∧ D.1 1 3 = nI n ∧ D.1 33 0 = nI n ∧ D.1 0 3 = nI k ∧ D.1 33 1 = nI k ∧ ChX D n k c (cW D) (cS D) (cO D) (cU D) ∧ ChM D n k c (cW D) (cS D) (cO D) (cU D)
theorem cF_o {D D' : Dy} (f : frO D D') : cW D' = cW D ∧ cS D' = cS D ∧ cO D' = cO D ∧ cU D' = cU D := by
  refine ⟨funext fun i => ?_, funext fun i => ?_, funext fun i => ?_, funext fun i => ?_⟩
  · unfold cW; rw [f.2 _ _ (by omega)]
  · unfold cS; rw [f.2 _ _ (by omega)]
  · unfold cO; rw [f.2 _ _ (by omega)]
  · unfold cU; rw [f.2 _ _ (by omega)]
theorem cF_k {D D' : Dy} (f : frK D D') : cW D' = cW D ∧ cS D' = cS D ∧ cO D' = cO D ∧ cU D' = cU D := by
  refine ⟨funext fun i => ?_, funext fun i => ?_, funext fun i => ?_, funext fun i => ?_⟩
  · unfold cW; rw [f.2 _ _ (by omega) (by omega)]
  · unfold cS; rw [f.2 _ _ (by omega) (by omega)]
  · unfold cO; rw [f.2 _ _ (by omega) (by omega)]
  · unfold cU; rw [f.2 _ _ (by omega) (by omega)]
theorem ChX_k {D D' : Dy} {n k c : Nat} {W S O U : Nat → Nat} (h : ChX D n k c W S O U) (f : frK D D') : ChX D' n k c W S O U := by
  refine ⟨by rw [f.2 _ _ (by omega) (by omega)]; exact h.1, fun i hi => ?_⟩
  rw [f.2 8 _ (by omega) (by omega), f.2 9 _ (by omega) (by omega), f.2 10 _ (by omega) (by omega), f.2 11 _ (by omega) (by omega)]
  exact h.2 i hi
theorem ChM_o {D D' : Dy} {n k c : Nat} {W S O U : Nat → Nat} (h : ChM D n k c W S O U) (f : frO D D') : ChM D' n k c W S O U := by
  refine ⟨by rw [f.2 _ _ (by omega)]; exact h.1, fun i hi => ?_⟩
  rw [f.2 38 _ (by omega), f.2 39 _ (by omega), f.2 40 _ (by omega), f.2 41 _ (by omega)]
  exact h.2 i hi
theorem BO_o {D D' : Dy} {n k c : Nat} (h : BO D n k c) (f : frO D D') : BO D' n k c := by
  obtain ⟨h1, h2, h3, h4, h5, h6, h7, h8, h9⟩ := h
  obtain ⟨e1, e2, e3, e4⟩ := cF_o f
  refine ⟨h1, h2, h3, by rw [f.2 _ _ (by omega)]; exact h4, by rw [f.2 _ _ (by omega)]; exact h5, by rw [f.2 _ _ (by omega)]; exact h6, by rw [f.2 _ _ (by omega)]; exact h7, ?_, ?_⟩
  · rw [e1, e2, e3, e4]; exact ChX_o h8 f
  · rw [e1, e2, e3, e4]; exact ChM_o h9 f
theorem BO_k {D D' : Dy} {n k c : Nat} (h : BO D n k c) (f : frK D D') : BO D' n k c := by
  obtain ⟨h1, h2, h3, h4, h5, h6, h7, h8, h9⟩ := h
  obtain ⟨e1, e2, e3, e4⟩ := cF_k f
  refine ⟨h1, h2, h3, by rw [f.2 _ _ (by omega) (by omega)]; exact h4, by rw [f.2 _ _ (by omega) (by omega)]; exact h5, by rw [f.2 _ _ (by omega) (by omega)]; exact h6, by rw [f.2 _ _ (by omega) (by omega)]; exact h7, ?_, ?_⟩
  · rw [e1, e2, e3, e4]; exact ChX_k h8 f
  · rw [e1, e2, e3, e4]; exact ChM_k h9 f
theorem PLs_c {D D' : Dy} {n : Nat} (h : PLs D n) (e : ∀ x, D'.1 56 x = D.1 56 x) : PLs D' n := fun v hv s hs => by rw [e]; exact h v hv s hs
theorem RK_o {D D' : Dy} {n c : Nat} (h : RK D n c) (f : frO D D') : RK D' n c := by
  obtain ⟨h1, h2⟩ := h
  unfold RK
  rw [f.2 33 46 (by omega)]
  refine ⟨h1, fun z => ⟨PLs_c (h2 z).1 fun x => f.2 _ _ (by omega), fun w hw => ?_⟩⟩
  rw [f.2 58 w (by omega)]
  refine ((h2 z).2 w hw).imp id fun y => ⟨y.1, fun v hv => ?_⟩
  rw [f.2 57 _ (by omega), y.2 v hv]
  unfold AG
  rw [rqD_c fun b i hb _ => f.2 b i (by omega)]
theorem m_findAgreeing {D : Dy} {n k c who : Nat} (hB : BO D n k c) (hK : RK D n c) (hw : who < 16) {post : Dy → Prop} (hp : ∀ D', frK D D' → RK D' n c → D'.1 33 46 = nI n → PLs D' n → (∀ v, v < fac (n + 1) → D'.1 57 (5040 * who + v) = bB (AG D n c who v)) → D'.1 58 who = nI 1 → (D.1 33 46 = nI n → ∀ w, w < 16 → D.1 58 w = nI 1 → D'.1 58 w = nI 1) → post D') : fX12_findAgreeing (nI who) D post := by
  obtain ⟨hn, hk, hc, -, h0, -, -, hX, hM⟩ := id hB
  have f7 := fac7 (n := n + 1) (by omega)
  unfold fX12_findAgreeing
  refine m_findPlaces hn h0 (fun z => (hK.2 z).1) fun D1 f1 e46 pl h58 => ⟨nI_in hw (by omega), ?_⟩
  have K1 : ∀ w, w < 16 → D1.1 58 w = nI 0 ∨ (D1.1 58 w = nI 1 ∧ D1 = D ∧ ∀ v, v < fac (n + 1) → D1.1 57 (5040 * w + v) = bB (AG D n c w v)) := by
    intro w hw
    rcases h58 with z | z
    · subst z
      exact ((hK.2 e46).2 w hw).imp id fun y => ⟨y.1, rfl, y.2⟩
    · exact Or.inl (z.2 w hw)
  rw [nI_clamp (by omega)]
  refine ⟨fun _ => ⟨nI_in hw (by omega), ?_⟩, fun z => ?_⟩
  · rintro D8 rfl
    refine lp2_I (fac (n + 1)) (fun v x D' => x = nI v ∧ frK D D' ∧ D'.1 33 46 = nI n ∧ PLs D' n ∧ (∀ w, w < 16 → D'.1 58 w = if w = who then nI 1 else D1.1 58 w) ∧ (∀ v', v' < v → D'.1 57 (5040 * who + v') = bB (AG D n c who v')) ∧ (∀ w, w ≠ who → ∀ v', v' < 5040 → D'.1 57 (5040 * w + v') = D1.1 57 (5040 * w + v'))) (by omega) (fun v hv x D' hpp rec hr => ?_) ⟨rfl, frK_s f1 (by omega), by rw [sI_1, if_neg (by omega)]; exact e46, PLs_c pl fun x => by rw [sI_1, if_neg (by omega)], fun w _ => ?_, fun v' h => by omega, fun w _ v' _ => by rw [sI_1, if_neg (by omega)]⟩
    · obtain ⟨rfl, p1, p2, p3, p4, p5, p6⟩ := hpp
      obtain ⟨-, -, -, -, e0, -, -, -, hM'⟩ := BO_k hB p1
      obtain ⟨g1, g2, g3, g4⟩ := cF_k p1
      rw [g1, g2, g3, g4] at hM'
      rw [m_orders hn e0]
      by_cases e : v = fac (n + 1)
      · subst e
        refine ⟨fun _ => hp D' p1 ⟨Or.inr ⟨n, Nat.le_refl _, p2⟩, fun _ => ⟨p3, fun w hw' => ?_⟩⟩ p2 p3 p5 (by rw [p4 who hw, if_pos rfl]) (fun z w hw' h1 => ?_), fun y => absurd (Int32.le_refl _) y⟩
        · rw [p4 w hw']
          by_cases x : w = who
          · subst x
            rw [if_pos rfl]
            exact Or.inr ⟨rfl, fun v' hv' => by rw [p5 v' hv', AG_k p1]⟩
          · rw [if_neg x]
            refine (K1 w hw').imp id fun y => ⟨y.1, fun v' hv' => ?_⟩
            rw [p6 w x v' (by omega), y.2.2 v' hv', AG_k p1]
        · rw [p4 w hw']
          rcases h58 with y | y
          · rw [y, h1]; split <;> rfl
          · exact absurd z y.1
      · have hv' : v < fac (n + 1) := by omega
        have hr := hr hv'
        refine ⟨fun y => absurd y (nI_ge hv' (by omega)), fun _ => ?_⟩
        rw [m_against hn hk hc hw e0 p3 hM' (fun i hi => (hX.2 i hi).2.2.2.2.2.2.2.2) hv']
        have al : agn (rqL n (cW D) (cS D) (cO D) (cU D) who c) (ord (n + 1) 0 v) ≤ 80 := Nat.le_trans List.countP_le_length (Nat.le_trans (rqL_len1 c) hc)
        have az : (agn (rqL n (cW D) (cS D) (cO D) (cU D) who c) (ord (n + 1) 0 v) = 0) = (AG D n c who v = true) := countP_0 (α := Nat × Nat) (f := fun q => fst (q.2 ||| 2 ^ q.1) (ord (n + 1) 0 v) == q.1) _
        refine JN_1 (fun v25 => v25 = bB (AG D n c who v)) (fun v25 h25 => ?_) (fun K hK => ?_)
        · subst h25
          rw [n5040, nI_mul, nI_add, nI_clamp (by omega)]
          refine ⟨nI_in (by omega) (by omega), ?_, ?_⟩
          · cases AG D n c who v
            · exact Or.inl rfl
            · exact Or.inr rfl
          · rintro D28 rfl v30 rfl
            rw [nI_1]
            refine hr _ _ ⟨rfl, frK_s p1 (by omega), ?_, PLs_c p3 fun x => by rw [sI_1, if_neg (by omega)], fun w hw' => ?_, fun v' h' => ?_, fun w hne v' h' => ?_⟩
            · rw [sI_1, if_neg (by omega)]; exact p2
            · rw [sI_1, if_neg (by omega)]; exact p4 w hw'
            · rw [sI_1]
              by_cases x : v' = v
              · subst x; rw [if_pos ⟨rfl, rfl⟩]
              · rw [if_neg (by omega)]; exact p5 v' (by omega)
            · rw [sI_1, if_neg (by omega)]; exact p6 w hne v' h'
        · refine ⟨fun y => hK _ ?_, fun y => hK _ ?_⟩
          · have : AG D n c who v = false := by
              cases h : AG D n c who v
              · rfl
              · exact absurd (by rw [az.mpr h]; rfl) y
            rw [this]; rfl
          · have y0 : nI (agn (rqL n (cW D) (cS D) (cO D) (cU D) who c) (ord (n + 1) 0 v)) = nI 0 := by
              first | exact y | exact Classical.byContradiction y
            have := az.mp ((nI_eq (by omega) (by omega)).mp y0)
            rw [this]; rfl
    · rw [sI_1]
      by_cases x : w = who
      · rw [if_pos ⟨rfl, x⟩, if_pos x]; rfl
      · rw [if_neg (fun y => x y.2), if_neg x]
  · rcases K1 who hw with y | ⟨y1, y2, y3⟩
    · exact absurd y z
    · subst y2
      exact hp D1 f1 hK e46 pl y3 y1 fun _ _ _ h => h
