/-! TEXTS, the other's reader: bytes, stacks -/
theorem s8_neg {b : Nat} (h : 128 ≤ b) (h2 : b < 256) : s8 b < 0 ∧ -200 ≤ (s8 b).toInt := by
  have : ∀ b, b < 256 → 128 ≤ b → s8 b < 0 ∧ -200 ≤ (s8 b).toInt := by decide +kernel
  exact this b h2 h
theorem s8_pos {b : Nat} (h : b < 128) : s8 b = nI b := fa_byte_small h
/-- the text that the other reads, from base on -/
def MT (D : Dy) (base : Nat) (b : Nat → Nat) (L : Nat) : Prop := L ≤ 120 ∧ base + L ≤ 1320 ∧ D.1 33 19 = nI base ∧ D.1 33 20 = nI L ∧ ∀ i, i < L → D.1 44 (base + i) = s8 (b i) ∧ b i < 256
def NB (c : Nat) (v : Int32) : Prop := (c < 128 ∧ v = nI c) ∨ (c = 200 ∧ v < 0 ∧ -200 ≤ v.toInt)
theorem m_next1 {D : Dy} {base L p : Nat} {b : Nat → Nat} (hT : MT D base b L) (hp : D.1 33 21 = nI p) (hp2 : p ≤ 1000) {post : Int32 → Prop} (h : ∀ v, NB (chr b L p) v → post v) : fX12_nextByte D post := by
  obtain ⟨t1, t2, t3, t4, t5⟩ := hT
  unfold fX12_nextByte
  rw [t4, hp, t3]
  by_cases c : p < L
  · obtain ⟨b1, b2⟩ := t5 p c
    refine ⟨fun z => absurd z (nI_ge c (by omega)), fun _ => ?_⟩
    rw [nI_add, nI_clamp (by omega), b1]
    refine ⟨nI_in (by omega) (by omega), h _ ?_⟩
    unfold chr
    by_cases q : b p < 128
    · rw [if_pos ⟨c, q⟩]; exact Or.inl ⟨q, s8_pos q⟩
    · rw [if_neg (fun z => q z.2)]; exact Or.inr ⟨rfl, s8_neg (by omega) b2⟩
  · refine ⟨fun _ => h _ ?_, fun z => absurd (nI_le (by omega) (by omega)) z⟩
    unfold chr
    rw [if_neg (fun z => c z.1)]
    exact Or.inr ⟨rfl, by decide, by decide⟩
theorem NB_eq {c K : Nat} {v : Int32} (h : NB c v) (hK : K < 128) : v = nI K ↔ c = K := by
  rcases h with ⟨h1, rfl⟩ | ⟨rfl, h2⟩
  · exact nI_eq (by omega) (by omega)
  · exact ⟨fun z => absurd h2.1 (by rw [z]; exact nI_pos (by omega)), fun z => by omega⟩
/-- all but the reader's own is as it was -/
def frW (D D' : Dy) : Prop := D'.2 = D.2 ∧ ∀ b x, ¬ (b = 33 ∧ (x = 21 ∨ x = 23 ∨ x = 36 ∨ x = 37 ∨ x = 38)) → b ≠ 52 → b ≠ 53 → D'.1 b x = D.1 b x
theorem frW_r {D : Dy} : frW D D := ⟨rfl, fun _ _ _ _ _ => rfl⟩
theorem frW_t {D D' D'' : Dy} (h : frW D D') (h' : frW D' D'') : frW D D'' := ⟨h'.1.trans h.1, fun b x h1 h2 h3 => (h'.2 b x h1 h2 h3).trans (h.2 b x h1 h2 h3)⟩
theorem frW_s {D D' : Dy} {a k : Nat} {v : Int32} (h : frW D D') (ha : (a = 33 ∧ (k = 21 ∨ k = 23 ∨ k = 36 ∨ k = 37 ∨ k = 38)) ∨ a = 52 ∨ a = 53) : frW D (sI D' a k v) := ⟨h.1, fun b x h1 h2 h3 => by rw [sI_1, if_neg (by omega)]; exact h.2 b x h1 h2 h3⟩
theorem MT_w {D D' : Dy} {base L : Nat} {b : Nat → Nat} (h : MT D base b L) (f : frW D D') : MT D' base b L := by
  obtain ⟨t1, t2, t3, t4, t5⟩ := h
  exact ⟨t1, t2, by rw [f.2 _ _ (by omega) (by omega) (by omega)]; exact t3, by rw [f.2 _ _ (by omega) (by omega) (by omega)]; exact t4, fun i hi => by rw [f.2 _ _ (by omega) (by omega) (by omega)]; exact t5 i hi⟩
/-- the stacks: the top is the head -/
def MS (D : Dy) (W : List Nat) (P : List Bool) (o p : Nat) : Prop := D.1 33 36 = nI W.length ∧ D.1 33 37 = nI P.length ∧ D.1 33 38 = nI o ∧ D.1 33 21 = nI p ∧ (∀ i, i < W.length → D.1 52 i = nI (W.getD (W.length - 1 - i) 0)) ∧ (∀ i, i < P.length → D.1 53 i = bB (P.getD (P.length - 1 - i) false)) ∧ W.length ≤ 120 ∧ P.length ≤ 120 ∧ o ≤ 4 ∧ p ≤ 120 ∧ ∀ x ∈ W, x < 128
theorem MS_wt {D : Dy} {c : Nat} {W : List Nat} {P : List Bool} {o p : Nat} (h : MS D (c :: W) P o p) : D.1 52 W.length = nI c := by
  have := h.2.2.2.2.1 W.length (by simp)
  rw [this]; simp
theorem MS_pt {D : Dy} {c : Bool} {W : List Nat} {P : List Bool} {o p : Nat} (h : MS D W (c :: P) o p) : D.1 53 P.length = bB c := by
  have := h.2.2.2.2.2.1 P.length (by simp)
  rw [this]; simp
theorem getD_c {α : Type} {x : α} {l : List α} {i : Nat} {d : α} (h : i < l.length) : (x :: l).getD ((x :: l).length - 1 - i) d = l.getD (l.length - 1 - i) d := by
  rw [List.length_cons, show l.length + 1 - 1 - i = (l.length - 1 - i) + 1 by omega]; rfl
/-- a new top of the waiting ones -/
theorem MS_wpush {D : Dy} {c : Nat} {W : List Nat} {P : List Bool} {o p : Nat} (h : MS D W P o p) (hW : W.length < 120) (hc : c < 128) : MS (sI (sI D 52 W.length (nI c)) 33 36 (nI (W.length + 1))) (c :: W) P o p := by
  obtain ⟨h1, h2, h3, h4, h5, h6, h7, h8, h9, h10, h11⟩ := h
  refine ⟨by rw [sI_1, if_pos ⟨rfl, rfl⟩]; rfl, by rw [sI_1, if_neg (by omega), sI_1, if_neg (by omega)]; exact h2, by rw [sI_1, if_neg (by omega), sI_1, if_neg (by omega)]; exact h3, by rw [sI_1, if_neg (by omega), sI_1, if_neg (by omega)]; exact h4, fun i hi => ?_, fun i hi => ?_, by simp; omega, h8, h9, h10, fun x hx => ?_⟩
  · rw [sI_1, if_neg (by omega), sI_1]
    by_cases e : i = W.length
    · subst e; rw [if_pos ⟨rfl, rfl⟩]; simp
    · have hi' : i < W.length := by simp at hi; omega
      rw [if_neg (fun z => e z.2), getD_c hi']; exact h5 i hi'
  · rw [sI_1, if_neg (by omega), sI_1, if_neg (by omega)]; exact h6 i hi
  · rcases List.mem_cons.mp hx with z | z
    · rw [z]; exact hc
    · exact h11 x z
theorem MS_ppush {D : Dy} {v : Bool} {W : List Nat} {P : List Bool} {o p : Nat} (h : MS D W P o p) (hP : P.length < 120) : MS (sI (sI D 53 P.length (bB v)) 33 37 (nI (P.length + 1))) W (v :: P) o p := by
  obtain ⟨h1, h2, h3, h4, h5, h6, h7, h8, h9, h10, h11⟩ := h
  refine ⟨by rw [sI_1, if_neg (by omega), sI_1, if_neg (by omega)]; exact h1, by rw [sI_1, if_pos ⟨rfl, rfl⟩]; rfl, by rw [sI_1, if_neg (by omega), sI_1, if_neg (by omega)]; exact h3, by rw [sI_1, if_neg (by omega), sI_1, if_neg (by omega)]; exact h4, fun i hi => ?_, fun i hi => ?_, h7, by simp; omega, h9, h10, h11⟩
  · rw [sI_1, if_neg (by omega), sI_1, if_neg (by omega)]; exact h5 i hi
  · rw [sI_1, if_neg (by omega), sI_1]
    by_cases e : i = P.length
    · subst e; rw [if_pos ⟨rfl, rfl⟩]; simp
    · have hi' : i < P.length := by simp at hi; omega
      rw [if_neg (fun z => e z.2), getD_c hi']; exact h6 i hi'
theorem MS_wpop {D : Dy} {c : Nat} {W : List Nat} {P : List Bool} {o p : Nat} (h : MS D (c :: W) P o p) : MS (sI D 33 36 (nI W.length)) W P o p := by
  obtain ⟨h1, h2, h3, h4, h5, h6, h7, h8, h9, h10, h11⟩ := h
  refine ⟨by rw [sI_1, if_pos ⟨rfl, rfl⟩], by rw [sI_1, if_neg (by omega)]; exact h2, by rw [sI_1, if_neg (by omega)]; exact h3, by rw [sI_1, if_neg (by omega)]; exact h4, fun i hi => ?_, fun i hi => ?_, by simp at h7; omega, h8, h9, h10, fun x hx => h11 x (List.mem_cons_of_mem _ hx)⟩
  · rw [sI_1, if_neg (by omega), h5 i (by simp; omega), getD_c hi]
  · rw [sI_1, if_neg (by omega)]; exact h6 i hi
theorem MS_ppop {D : Dy} {c : Bool} {W : List Nat} {P : List Bool} {o p : Nat} (h : MS D W (c :: P) o p) : MS (sI D 33 37 (nI P.length)) W P o p := by
  obtain ⟨h1, h2, h3, h4, h5, h6, h7, h8, h9, h10, h11⟩ := h
  refine ⟨by rw [sI_1, if_neg (by omega)]; exact h1, by rw [sI_1, if_pos ⟨rfl, rfl⟩], by rw [sI_1, if_neg (by omega)]; exact h3, by rw [sI_1, if_neg (by omega)]; exact h4, fun i hi => ?_, fun i hi => ?_, h7, by simp at h8; omega, h9, h10, h11⟩
  · rw [sI_1, if_neg (by omega)]; exact h5 i hi
  · rw [sI_1, if_neg (by omega), h6 i (by simp; omega), getD_c hi]
theorem MS_o {D : Dy} {W : List Nat} {P : List Bool} {o o' p : Nat} (h : MS D W P o p) (ho : o' ≤ 4) : MS (sI D 33 38 (nI o')) W P o' p := by
  obtain ⟨h1, h2, h3, h4, h5, h6, h7, h8, h9, h10, h11⟩ := h
  exact ⟨by rw [sI_1, if_neg (by omega)]; exact h1, by rw [sI_1, if_neg (by omega)]; exact h2, by rw [sI_1, if_pos ⟨rfl, rfl⟩], by rw [sI_1, if_neg (by omega)]; exact h4, fun i hi => by rw [sI_1, if_neg (by omega)]; exact h5 i hi, fun i hi => by rw [sI_1, if_neg (by omega)]; exact h6 i hi, h7, h8, ho, h10, h11⟩
theorem MS_p {D : Dy} {W : List Nat} {P : List Bool} {o p p' : Nat} (h : MS D W P o p) (hp : p' ≤ 120) : MS (sI D 33 21 (nI p')) W P o p' := by
  obtain ⟨h1, h2, h3, h4, h5, h6, h7, h8, h9, h10, h11⟩ := h
  exact ⟨by rw [sI_1, if_neg (by omega)]; exact h1, by rw [sI_1, if_neg (by omega)]; exact h2, by rw [sI_1, if_neg (by omega)]; exact h3, by rw [sI_1, if_pos ⟨rfl, rfl⟩], fun i hi => by rw [sI_1, if_neg (by omega)]; exact h5 i hi, fun i hi => by rw [sI_1, if_neg (by omega)]; exact h6 i hi, h7, h8, h9, hp, h11⟩
theorem MS_d {D : Dy} {W : List Nat} {P : List Bool} {o p : Nat} {v : Int32} (h : MS D W P o p) : MS (sI D 33 23 v) W P o p := by
  obtain ⟨h1, h2, h3, h4, h5, h6, h7, h8, h9, h10, h11⟩ := h
  exact ⟨by rw [sI_1, if_neg (by omega)]; exact h1, by rw [sI_1, if_neg (by omega)]; exact h2, by rw [sI_1, if_neg (by omega)]; exact h3, by rw [sI_1, if_neg (by omega)]; exact h4, fun i hi => by rw [sI_1, if_neg (by omega)]; exact h5 i hi, fun i hi => by rw [sI_1, if_neg (by omega)]; exact h6 i hi, h7, h8, h9, h10, h11⟩
def ntk : Nat → Bool → Bool
  | 0, v => v
  | k + 1, v => ntk k (!v)
/-- a value goes on the pile, behind the nots that wait for it -/
theorem m_push {W0 : List Nat} (hW : ∀ x W', W0 = x :: W' → x ≠ 33) : ∀ k (D : Dy) (P : List Bool) (o p : Nat) (v : Bool) (post : Dy → Prop), MS D (List.replicate k 33 ++ W0) P o p → k ≤ o → P.length < 120 → (∀ D', frW D D' → MS D' W0 (ntk k v :: P) (o - k) p → post D') → fX12_push (bB v) D post := by
  intro k D P o p v post h hk hP hpost
  unfold fX12_push
  have bb01 : ∀ v : Bool, bB v = 0 ∨ bB v = 1 := fun v => by cases v <;> simp [bB] <;> first | exact Or.inl rfl | exact Or.inr rfl
  refine lp2_I k (fun j x D' => ∃ v', x = bB v' ∧ frW D D' ∧ MS D' (List.replicate (k - j) 33 ++ W0) P (o - j) p ∧ ntk (k - j) v' = ntk k v) (by have := h.2.2.2.2.2.2.2.2.1; omega) (fun j hj x D' hpp rec hr => ?_) ⟨v, rfl, frW_r, h, rfl⟩
  obtain ⟨v', rfl, f1, m1, nt⟩ := hpp
  have e36 := m1.1
  have e38 := m1.2.2.1
  by_cases e : j = k
  · subst e
    rw [Nat.sub_self] at m1 nt e36
    have m1 : MS D' W0 P (o - j) p := m1
    have e36 : D'.1 33 36 = nI W0.length := e36
    have nt : v' = ntk j v := nt
    refine JN_i True (fun _ => ?_) (fun K hK => ?_)
    · rw [m1.2.1]
      refine ⟨nI_in (by omega) (by omega), bb01 v', ?_⟩
      rintro D7 rfl D9 rfl
      rw [nI_clamp (by omega)]
      have e37 : (sI D' 53 P.length (bB v')).1 33 37 = nI P.length := by rw [sI_1, if_neg (by omega)]; exact m1.2.1
      rw [e37, nI_1]
      refine hpost _ (frW_s (frW_s f1 (by omega)) (by omega)) ?_
      rw [← nt]
      exact MS_ppush m1 hP
    · rw [e36]
      cases hW0 : W0 with
      | nil => exact ⟨fun _ => hK trivial, fun z => absurd (Int32.le_refl _) z⟩
      | cons c W' =>
        have wl := m1.2.2.2.2.2.2.1
        rw [hW0] at wl m1
        have wl : W'.length + 1 ≤ 120 := wl
        have ec := MS_wt m1
        have c128 := m1.2.2.2.2.2.2.2.2.2.2 c List.mem_cons_self
        have ne := hW c W' hW0
        rw [List.length_cons, n1, sub' (by omega), Nat.add_sub_cancel]
        refine ⟨fun z => absurd z (nI_nle (by omega) (by omega)), fun _ => ⟨nI_in (by omega) (by omega), fun _ => hK trivial, fun z => ?_⟩⟩
        rw [nI_clamp (by omega), ec] at z
        exact absurd ((nI_eq (b := 33) (by omega) (by omega)).mp z) ne
  · have hj' : j < k := by omega
    have hr := hr hj'
    obtain ⟨m, hm⟩ : ∃ m, k - j = m + 1 := ⟨k - j - 1, by omega⟩
    rw [hm] at m1 nt e36
    have m1 : MS D' (33 :: (List.replicate m 33 ++ W0)) P (o - j) p := m1
    have wl := m1.2.2.2.2.2.2.1
    have wl : (List.replicate m 33 ++ W0).length + 1 ≤ 120 := wl
    have ec := MS_wt m1
    have e36 : D'.1 33 36 = nI ((List.replicate m 33 ++ W0).length + 1) := m1.1
    refine JN_i False (fun h => h.elim) (fun K hK => ?_)
    rw [e36, n1, sub' (by omega), Nat.add_sub_cancel]
    refine ⟨fun z => absurd z (nI_nle (by omega) (by omega)), fun _ => ⟨nI_in (by omega) (by omega), fun z => ?_, fun _ => ?_⟩⟩
    · rw [nI_clamp (by omega), ec] at z
      exact absurd rfl z
    · have o4 := m1.2.2.2.2.2.2.2.2.1
      refine JN_1 (fun x => x = bB (!v')) (fun x hx => ?_) (fun K hK => ⟨fun z => hK _ ?_, fun z => hK _ ?_⟩)
      · subst hx
        rintro D16 rfl D18 rfl
        have e38 : ∀ v, (sI D' 33 36 v).1 33 38 = nI (o - j) := fun v => by rw [sI_1, if_neg (by omega)]; exact m1.2.2.1
        rw [e38, sub' (by omega)]
        refine hr _ _ ⟨!v', rfl, frW_s (frW_s f1 (by omega)) (by omega), ?_, ?_⟩
        · rw [show k - (j + 1) = m by omega, show o - (j + 1) = o - j - 1 by omega]
          exact MS_o (MS_wpop m1) (by omega)
        · rw [show k - (j + 1) = m by omega]; exact nt
      · cases v'
        · exact absurd rfl z
        · rfl
      · cases v'
        · rfl
        · exact absurd z (by decide)
