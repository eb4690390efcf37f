/-! TEXTS, the other's reader: settling -/
def stl (sg : Nat) : List Nat → List Bool → List Nat × List Bool
  | c :: W, b :: a :: P => if c = 38 then stl sg W ((a && b) :: P) else if c = 124 ∧ sg ≠ 38 then stl sg W ((a || b) :: P) else (c :: W, b :: a :: P)
  | W, P => (W, P)
/-- how many wait that take two -/
def opn (W : List Nat) : Nat := W.countP fun c => c == 38 || c == 124
theorem MS_ptop {D : Dy} {a r : Bool} {W : List Nat} {P : List Bool} {o p : Nat} (h : MS D W (a :: P) o p) : MS (sI D 53 P.length (bB r)) W (r :: P) o p := by
  obtain ⟨h1, h2, h3, h4, h5, h6, h7, h8, h9, h10, h11⟩ := h
  refine ⟨by rw [sI_1, if_neg (by omega)]; exact h1, by rw [sI_1, if_neg (by omega)]; exact h2, by rw [sI_1, if_neg (by omega)]; exact h3, by rw [sI_1, if_neg (by omega)]; exact h4, fun i hi => ?_, fun i hi => ?_, h7, h8, h9, h10, h11⟩
  · rw [sI_1, if_neg (by omega)]; exact h5 i hi
  · rw [sI_1]
    by_cases e : i = P.length
    · subst e; rw [if_pos ⟨rfl, rfl⟩]; simp
    · have hi' : i < P.length := by simp at hi; omega
      rw [if_neg (fun z => e z.2), getD_c hi', h6 i (by simp; omega), getD_c hi']
theorem m_settle {D : Dy} {sg o p : Nat} {W : List Nat} {P : List Bool} (hS : MS D W P o p) (hP : P.length = opn W + 1) (hsg : sg < 128) {post : Dy → Prop} (hpost : ∀ D', frW D D' → MS D' (stl sg W P).1 (stl sg W P).2 o p → (stl sg W P).2.length = opn (stl sg W P).1 + 1 → post D') : fX12_settle (nI sg) D post := by
  unfold fX12_settle
  have Wl := hS.2.2.2.2.2.2.1
  refine lp1_I W.length (fun k D' => ∃ W' P', frW D D' ∧ MS D' W' P' o p ∧ W'.length + k = W.length ∧ stl sg W' P' = stl sg W P ∧ P'.length = opn W' + 1) (by omega) (fun k hk D' hpp rec hr => ?_) ⟨W, P, frW_r, hS, rfl, rfl, hP⟩
  obtain ⟨W', P', f1, m1, kl, st, pl⟩ := hpp
  have fin : (stl sg W' P' = (W', P')) → post D' := fun e => by
    rw [e] at st
    refine hpost D' f1 ?_ ?_
    · rw [← st]; exact m1
    · rw [← st]; exact pl
  rw [m1.1]
  cases W' with
  | nil => exact ⟨fun _ => fin (by unfold stl; rfl), fun z => absurd (Int32.le_refl _) z⟩
  | cons c W2 =>
    have wl := m1.2.2.2.2.2.2.1
    have wl : W2.length + 1 ≤ 120 := wl
    have pl8 := m1.2.2.2.2.2.2.2.1
    have c128 := m1.2.2.2.2.2.2.2.2.2.2 c List.mem_cons_self
    have ec := MS_wt m1
    have kl : W2.length + 1 + k = W.length := kl
    rw [List.length_cons, n1, sub' (by omega), Nat.add_sub_cancel, nI_clamp (by omega), ec]
    have vp : vp_in (nI W2.length) 121 := nI_in (by omega) (by omega)
    refine ⟨fun z => absurd z (nI_nle (by omega) (by omega)), fun _ => ⟨vp, ?_⟩⟩
    refine JN_i (c = 38 ∨ (c = 124 ∧ sg ≠ 38)) (fun hq => ?_) (fun K hK => ?_)
    · have on : opn (c :: W2) = opn W2 + 1 := by
        unfold opn; rw [List.countP_cons]
        rcases hq with rfl | ⟨rfl, _⟩ <;> simp
      rw [on] at pl
      cases P' with
      | nil => simp at pl
      | cons bb P1 =>
        cases P1 with
        | nil => simp at pl
        | cons aa P2 =>
          have pl : P2.length = opn W2 := by simp at pl; omega
          have pl8 : P2.length + 2 ≤ 120 := pl8
          rintro D7 rfl D9 rfl
          have e37 : (sI D' 33 36 (nI W2.length)).1 33 37 = nI (P2.length + 2) := by rw [sI_1, if_neg (by omega)]; exact m1.2.1
          rw [e37, sub' (by omega), show P2.length + 2 - 1 = P2.length + 1 by omega]
          have m2 : MS (sI (sI D' 33 36 (nI W2.length)) 33 37 (nI (P2.length + 1))) W2 (aa :: P2) o p := MS_ppop (MS_wpop m1)
          have g36 : (sI (sI D' 33 36 (nI W2.length)) 33 37 (nI (P2.length + 1))).1 33 36 = nI W2.length := m2.1
          have g37 : (sI (sI D' 33 36 (nI W2.length)) 33 37 (nI (P2.length + 1))).1 33 37 = nI (P2.length + 1) := m2.2.1
          have g52 : (sI (sI D' 33 36 (nI W2.length)) 33 37 (nI (P2.length + 1))).1 52 W2.length = nI c := by rw [sI_1, if_neg (by omega), sI_1, if_neg (by omega)]; exact ec
          have ga : (sI (sI D' 33 36 (nI W2.length)) 33 37 (nI (P2.length + 1))).1 53 P2.length = bB aa := MS_pt m2
          have gb : (sI (sI D' 33 36 (nI W2.length)) 33 37 (nI (P2.length + 1))).1 53 (P2.length + 1) = bB bb := by
            rw [sI_1, if_neg (by omega), sI_1, if_neg (by omega)]; exact MS_pt (P := aa :: P2) m1
          have fr2 : frW D (sI (sI D' 33 36 (nI W2.length)) 33 37 (nI (P2.length + 1))) := frW_s (frW_s f1 (by omega)) (by omega)
          generalize sI (sI D' 33 36 (nI W2.length)) 33 37 (nI (P2.length + 1)) = D9 at *
          rw [g36, g37, sub' (by omega), Nat.add_sub_cancel, nI_clamp (by omega), nI_clamp (by omega), nI_clamp (by omega), g52, ga, gb]
          have v1 : vp_in (nI P2.length) 121 := nI_in (by omega) (by omega)
          have v2 : vp_in (nI (P2.length + 1)) 121 := nI_in (by omega) (by omega)
          refine ⟨vp, ?_⟩
          refine JN_1 (fun x => x = bB (if c = 38 then aa && bb else aa || bb)) (fun x hx => ?_) (fun K12 hK12 => ?_)
          · subst hx
            refine ⟨v1, ?_, ?_⟩
            · cases (if c = 38 then aa && bb else aa || bb)
              · exact Or.inl rfl
              · exact Or.inr rfl
            · rintro D14 rfl
              refine hr (by omega) _ ⟨W2, (if c = 38 then aa && bb else aa || bb) :: P2, frW_s fr2 (by omega), MS_ptop m2, by omega, ?_, by simp [pl]⟩
              rw [← st]
              show _ = if c = 38 then stl sg W2 ((aa && bb) :: P2) else if c = 124 ∧ sg ≠ 38 then stl sg W2 ((aa || bb) :: P2) else (c :: W2, bb :: aa :: P2)
              rcases hq with rfl | ⟨rfl, h⟩
              · rfl
              · rw [if_neg (by omega), if_neg (by omega), if_pos ⟨rfl, h⟩]
          · refine ⟨fun z => ⟨v1, ?_⟩, fun z => ⟨v1, ?_⟩⟩
            · have hc : c ≠ 38 := fun y => z (by rw [y]; rfl)
              rw [if_neg hc] at hK12
              refine JN_i ((aa || bb) = true) (fun h => hK12 _ (by rw [h]; rfl)) (fun K hK => ?_)
              cases aa
              · refine ⟨fun y => absurd rfl y, fun _ => ⟨v2, fun y => hK12 _ ?_, fun y => hK ?_⟩⟩
                · cases bb
                  · rfl
                  · exact absurd y (by decide)
                · cases bb
                  · exact absurd rfl y
                  · rfl
              · exact ⟨fun _ => hK rfl, fun y => absurd y (by decide)⟩
            · have hc : c = 38 := by
                refine (nI_eq (b := 38) (by omega) (by omega)).mp ?_
                first | exact z | exact Classical.byContradiction z
              rw [if_pos hc] at hK12
              refine JN_i ((aa && bb) = false) (fun h => hK12 _ (by rw [h]; rfl)) (fun K hK => ?_)
              cases aa
              · exact ⟨fun _ => hK rfl, fun y => absurd rfl y⟩
              · refine ⟨fun y => absurd y (by decide), fun _ => ⟨v2, fun y => hK ?_, fun y => hK12 _ ?_⟩⟩
                · cases bb
                  · rfl
                  · exact absurd y (by decide)
                · cases bb
                  · exact absurd rfl y
                  · rfl
    · have stp : ¬ (c = 38 ∨ (c = 124 ∧ sg ≠ 38)) → post D' := fun hq => fin (by
        cases P' with
        | nil => rfl
        | cons bb P1 =>
          cases P1 with
          | nil => rfl
          | cons aa P2 =>
            show (if c = 38 then _ else if c = 124 ∧ sg ≠ 38 then _ else _) = _
            rw [if_neg (fun z => hq (Or.inl z)), if_neg (fun z => hq (Or.inr z))])
      refine ⟨fun z => hK (Or.inl ((nI_eq (b := 38) (by omega) (by omega)).mp z)), fun z => ?_⟩
      have hc : c ≠ 38 := fun y => z (by rw [y]; rfl)
      refine ⟨vp, fun y => stp ?_, fun y => ⟨fun y2 => stp ?_, fun y2 => hK (Or.inr ⟨?_, ?_⟩)⟩⟩
      · rintro (q | q)
        · exact hc q
        · exact y (by rw [q.1]; rfl)
      · have hs : sg = 38 := (nI_eq (b := 38) (by omega) (by omega)).mp y2
        rintro (q | q)
        · exact hc q
        · exact q.2 hs
      · refine (nI_eq (b := 124) (by omega) (by omega)).mp ?_
        first | exact y | exact Classical.byContradiction y
      · exact fun q => y2 (by rw [q]; rfl)
