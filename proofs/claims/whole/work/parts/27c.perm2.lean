/-! ORDERS that agree: what each CHOICE wants (its first, its rivals) -/
def okS (Q : List (Nat × Nat)) (e P : Nat) : Bool := Q.all fun q => !(q.2.testBit e) || P.testBit q.1
def okL (Q : List (Nat × Nat)) : Nat → List Nat → Bool
  | _, [] => true
  | P, e :: l => okS Q e P && okL Q (P ||| 2 ^ e) l
def ok1 (q : Nat × Nat) : Nat → List Nat → Bool
  | _, [] => true
  | P, e :: l => (!(q.2.testBit e) || P.testBit q.1) && ok1 q (P ||| 2 ^ e) l
theorem all_and {α : Type} {f g : α → Bool} : ∀ Q : List α, (Q.all f && Q.all g) = Q.all fun q => f q && g q
  | [] => rfl
  | a :: Q => by
    rw [List.all_cons, List.all_cons, List.all_cons, ← all_and Q]
    cases f a <;> cases g a <;> cases Q.all f <;> cases Q.all g <;> rfl
theorem okL_all {Q : List (Nat × Nat)} : ∀ l P, okL Q P l = Q.all fun q => ok1 q P l
  | [], P => by
    show true = _
    induction Q with
    | nil => rfl
    | cons a Q ih => rw [List.all_cons, ← ih]; rfl
  | e :: l, P => by
    show (okS Q e P && okL Q (P ||| 2 ^ e) l) = _
    rw [okL_all l, okS, all_and]; rfl
theorem ok1_in {q : Nat × Nat} : ∀ l P, P.testBit q.1 = true → ok1 q P l = true
  | [], _, _ => rfl
  | e :: l, P, h => by
    show ((_ || P.testBit q.1) && ok1 q (P ||| 2 ^ e) l) = true
    rw [h, Bool.or_true, Bool.true_and]
    exact ok1_in l _ (by rw [tb_or, h]; rfl)
theorem ok1_fst {q : Nat × Nat} (hq : q.2.testBit q.1 = false) : ∀ l P, P.testBit q.1 = false → q.1 ∈ l → ok1 q P l = (fst (q.2 ||| 2 ^ q.1) l == q.1)
  | [], _, _, h => by cases h
  | e :: l, P, h, hm => by
    show ((!(q.2.testBit e) || P.testBit q.1) && ok1 q (P ||| 2 ^ e) l) = ((if (q.2 ||| 2 ^ q.1).testBit e = true then e else fst (q.2 ||| 2 ^ q.1) l) == q.1)
    by_cases c : e = q.1
    · subst c
      rw [hq, tb_or, hq, ok1_in l _ (by rw [tb_or]; simp)]
      simp
    · have hm' : q.1 ∈ l := by
        rcases List.mem_cons.mp hm with z | z
        · exact absurd z.symm c
        · exact z
      have c' : ¬ q.1 = e := fun z => c z.symm
      rw [tb_or, h]
      by_cases d : q.2.testBit e = true
      · rw [d]; simp [c]
      · have d' : q.2.testBit e = false := by simpa using d
        rw [d']
        simp only [c', decide_false, Bool.or_false, Bool.not_false, Bool.true_and, Bool.false_eq_true, if_false]
        exact ok1_fst hq l _ (by rw [tb_or, h]; simp [c]) hm'
def agL (Q : List (Nat × Nat)) (l : List Nat) : Bool := Q.all fun q => fst (q.2 ||| 2 ^ q.1) l == q.1
theorem all_c {α : Type} {f g : α → Bool} : ∀ Q : List α, (∀ q ∈ Q, f q = g q) → Q.all f = Q.all g
  | [], _ => rfl
  | a :: Q, h => by rw [List.all_cons, List.all_cons, h a List.mem_cons_self, all_c Q fun q hq => h q (List.mem_cons_of_mem _ hq)]
theorem countP_c {α : Type} {f g : α → Bool} : ∀ Q : List α, (∀ q ∈ Q, f q = g q) → Q.countP f = Q.countP g
  | [], _ => rfl
  | a :: Q, h => by rw [List.countP_cons, List.countP_cons, h a List.mem_cons_self, countP_c Q fun q hq => h q (List.mem_cons_of_mem _ hq)]
theorem ok_ag {Q : List (Nat × Nat)} {l : List Nat} (h : ∀ q ∈ Q, q.2.testBit q.1 = false ∧ q.1 ∈ l) : okL Q 0 l = agL Q l := by
  rw [okL_all]
  exact all_c Q fun q hq => ok1_fst (h q hq).1 l 0 (Nat.zero_testBit _) (h q hq).2
/-- how many of the CHOICES a row breaks, told as they break -/
def cst (Q : List (Nat × Nat)) : Nat → List Nat → Nat
  | _, [] => 0
  | P, e :: l => (Q.countP fun q => q.1 == e && (q.2 &&& P != 0)) + cst Q (P ||| 2 ^ e) l
def cs1 (q : Nat × Nat) : Nat → List Nat → Nat
  | _, [] => 0
  | P, e :: l => (if (q.1 == e && (q.2 &&& P != 0)) = true then 1 else 0) + cs1 q (P ||| 2 ^ e) l
theorem cst_cons {q : Nat × Nat} {Q : List (Nat × Nat)} : ∀ l P, cst (q :: Q) P l = cs1 q P l + cst Q P l
  | [], _ => rfl
  | e :: l, P => by
    show (q :: Q).countP _ + cst (q :: Q) _ l = _ + _ + (_ + _)
    rw [cst_cons l, List.countP_cons]
    omega
theorem cst_nil : ∀ l P, cst [] P l = 0
  | [], _ => rfl
  | e :: l, P => by show 0 + cst [] _ l = 0; rw [cst_nil l]
theorem cs1_no {q : Nat × Nat} : ∀ l P, q.1 ∉ l → cs1 q P l = 0
  | [], _, _ => rfl
  | e :: l, P, h => by
    show (if _ then 1 else 0) + _ = 0
    have c : ¬ q.1 = e := fun z => h (z ▸ List.mem_cons_self)
    rw [cs1_no l _ fun z => h (List.mem_cons_of_mem _ z), if_neg (by simp [c])]
theorem and_or2 {a P e : Nat} : (a &&& (P ||| 2 ^ e) ≠ 0) ↔ (a &&& P ≠ 0 ∨ a.testBit e = true) := by
  rw [Nat.and_or_distrib_left]
  constructor
  · intro h
    refine Classical.byContradiction fun z => h ?_
    have z1 : a &&& P = 0 := Classical.byContradiction fun w => z (Or.inl w)
    have z2 : a.testBit e = false := by
      cases w : a.testBit e
      · rfl
      · exact absurd (Or.inr w) z
    have : a &&& 2 ^ e = 0 := by
      refine Nat.eq_of_testBit_eq fun i => ?_
      rw [Nat.testBit_and, Nat.testBit_two_pow, Nat.zero_testBit]
      by_cases y : e = i
      · subst y; rw [z2]; rfl
      · simp [y]
    rw [z1, this]; rfl
  · intro h w
    have w' := fun i => congrArg (fun x => x.testBit i) w
    rcases h with h | h
    · refine h (Nat.eq_of_testBit_eq fun i => ?_)
      have := w' i
      simp only [Nat.testBit_or, Nat.zero_testBit, Bool.or_eq_false_iff] at this
      rw [this.1, Nat.zero_testBit]
    · have := w' e
      simp only [Nat.testBit_or, Nat.zero_testBit, Bool.or_eq_false_iff, Nat.testBit_and, h, Nat.testBit_two_pow] at this
      simp at this
theorem cs1_fst {q : Nat × Nat} (hq : q.2.testBit q.1 = false) : ∀ l P, P.testBit q.1 = false → q.1 ∈ l → l.Nodup → cs1 q P l = if q.2 &&& P ≠ 0 then 1 else if fst (q.2 ||| 2 ^ q.1) l = q.1 then 0 else 1
  | [], _, _, h, _ => by cases h
  | e :: l, P, h, hm, hd => by
    show (if (q.1 == e && (q.2 &&& P != 0)) = true then 1 else 0) + cs1 q (P ||| 2 ^ e) l = if _ then 1 else if (if (q.2 ||| 2 ^ q.1).testBit e = true then e else fst (q.2 ||| 2 ^ q.1) l) = q.1 then 0 else 1
    obtain ⟨d1, d2⟩ := List.nodup_cons.mp hd
    by_cases c : q.1 = e
    · have e1 : (q.2 ||| 2 ^ q.1).testBit e = true := by rw [tb_or]; simp [c]
      rw [cs1_no l _ (c ▸ d1), if_pos e1, if_pos c.symm]
      by_cases z : q.2 &&& P = 0
      · simp [z]
      · simp [z, c]
    · have hm' : q.1 ∈ l := by
        rcases List.mem_cons.mp hm with z | z
        · exact absurd z c
        · exact z
      rw [cs1_fst hq l _ (by rw [tb_or, h]; simp; exact fun z => c z.symm) hm' d2, if_neg (by simp [c])]
      have e1 : (q.2 ||| 2 ^ q.1).testBit e = q.2.testBit e := by rw [tb_or]; simp [c]
      rw [e1, Nat.zero_add]
      by_cases z : q.2 &&& P = 0
      · by_cases y : q.2.testBit e = true
        · rw [if_pos (and_or2.mpr (Or.inr y)), if_neg (by simp [z]), if_pos y, if_neg fun w => c w.symm]
        · rw [if_neg (fun w => (and_or2.mp w).elim (fun u => u z) y), if_neg (show ¬ (q.2 &&& P ≠ 0) by simp [z]), if_neg y]
      · rw [if_pos (and_or2.mpr (Or.inl z)), if_pos z]
theorem cst_ag {Q : List (Nat × Nat)} {l : List Nat} (hl : l.Nodup) (h : ∀ q ∈ Q, q.2.testBit q.1 = false ∧ q.1 ∈ l) : cst Q 0 l = Q.countP fun q => !(fst (q.2 ||| 2 ^ q.1) l == q.1) := by
  induction Q with
  | nil => exact cst_nil l 0
  | cons a Q ih =>
    rw [cst_cons, ih fun q hq => h q (List.mem_cons_of_mem _ hq), List.countP_cons]
    obtain ⟨h1, h2⟩ := h a List.mem_cons_self
    rw [cs1_fst h1 l 0 (Nat.zero_testBit _) h2 hl, Nat.and_zero]
    by_cases z : fst (a.2 ||| 2 ^ a.1) l = a.1
    · simp [z]
    · simp [z]; omega
theorem ord_out {N : Nat} (hN : N ≤ 32) : ∀ r P v, unu P N = r → v < fac r → (∀ s ∈ ord r P v, s < N ∧ P.testBit s = false) ∧ (ord r P v).Nodup
  | 0, P, v, hU, _ => ⟨fun s h => absurd h (by simp [ord]), List.nodup_nil⟩
  | r + 1, P, v, hU, hv => by
    obtain ⟨e, v', h1, h2, h3, h4⟩ := ord_fst hN hU hv
    have hu := (unu_put (N := N) h2).1
    rw [if_pos h1] at hu
    obtain ⟨i1, i2⟩ := ord_out hN r (P ||| 2 ^ e) v' (by omega) h3
    rw [h4]
    refine ⟨fun s hs => ?_, List.nodup_cons.mpr ⟨fun z => ?_, i2⟩⟩
    · rcases List.mem_cons.mp hs with z | z
      · rw [z]; exact ⟨h1, h2⟩
      · obtain ⟨y1, y2⟩ := i1 s z
        rw [tb_or] at y2
        exact ⟨y1, (Bool.or_eq_false_iff.mp y2).1⟩
    · have := (i1 e z).2
      rw [tb_or] at this
      simp at this
def mayS (Q : List (Nat × Nat)) (e P : Nat) : Bool := !P.testBit e && okS Q e P
/-- how many agreeing rows of the rest there are behind P; those of them that take s of S -/
def sB (Q : List (Nat × Nat)) (N P : Nat) : Nat := sumN (fun v => if okL Q P (ord (unu P N) P v) = true then 1 else 0) (fac (unu P N))
def tkS (Q : List (Nat × Nat)) (N S s P : Nat) : Nat := sumN (fun v => if (okL Q P (ord (unu P N) P v) && fst S (ord (unu P N) P v) == s) = true then 1 else 0) (fac (unu P N))
theorem unu_put' {P s N : Nat} (h : P.testBit s = false) (hs : s < N) : unu (P ||| 2 ^ s) N = unu P N - 1 := by
  rw [(unu_put h).1, if_pos hs]
theorem sB_rec {Q : List (Nat × Nat)} {N P : Nat} (hN : N ≤ 32) (h : unu P N ≠ 0) : sB Q N P = sumN (fun s => if mayS Q s P = true then sB Q N (P ||| 2 ^ s) else 0) N := by
  obtain ⟨r, hr⟩ : ∃ r, unu P N = r + 1 := ⟨unu P N - 1, by omega⟩
  unfold sB
  rw [hr, sum_ord (fun l => if okL Q P l = true then 1 else 0) hN hr]
  refine sumN_c fun s hs => ?_
  by_cases c : P.testBit s = true
  · rw [if_pos c]; unfold mayS; rw [c]; rfl
  · have c' : P.testBit s = false := by simpa using c
    rw [if_neg c]
    have hu : unu (P ||| 2 ^ s) N = r := by rw [unu_put' c' hs, hr]; rfl
    rw [hu]
    unfold mayS
    rw [c']
    by_cases d : okS Q s P = true
    · rw [d, if_pos (by rfl)]
      refine sumN_c fun v _ => ?_
      show (if (okS Q s P && okL Q _ _) = true then 1 else 0) = _
      rw [d, Bool.true_and]
    · have d' : okS Q s P = false := by simpa using d
      rw [d', if_neg (by simp)]
      refine sumN_0 fun v _ => ?_
      show (if (okS Q s P && okL Q _ _) = true then 1 else 0) = _
      rw [d', Bool.false_and]; rfl
theorem sB_all {Q : List (Nat × Nat)} {N P : Nat} (h : unu P N = 0) : sB Q N P = 1 := by
  unfold sB; rw [h]; rfl
theorem tkS_all {Q : List (Nat × Nat)} {N S s P : Nat} (hs : s ≠ 31) (h : unu P N = 0) : tkS Q N S s P = 0 := by
  unfold tkS; rw [h]
  show 0 + (if (true && (31 == s)) = true then 1 else 0) = 0
  rw [if_neg (by simp; exact fun z => hs z.symm)]
theorem tkS_rec {Q : List (Nat × Nat)} {N S s0 P : Nat} (hN : N ≤ 32) (h : unu P N ≠ 0) : tkS Q N S s0 P = sumN (fun s => if mayS Q s P = true then (if S.testBit s = true then (if s = s0 then sB Q N (P ||| 2 ^ s) else 0) else tkS Q N S s0 (P ||| 2 ^ s)) else 0) N := by
  obtain ⟨r, hr⟩ : ∃ r, unu P N = r + 1 := ⟨unu P N - 1, by omega⟩
  unfold tkS
  rw [hr, sum_ord (fun l => if (okL Q P l && fst S l == s0) = true then 1 else 0) hN hr]
  refine sumN_c fun s hs => ?_
  by_cases c : P.testBit s = true
  · rw [if_pos c]; unfold mayS; rw [c]; rfl
  · have c' : P.testBit s = false := by simpa using c
    rw [if_neg c]
    have hu : unu (P ||| 2 ^ s) N = r := by rw [unu_put' c' hs, hr]; rfl
    unfold sB mayS
    rw [hu, c']
    by_cases d : okS Q s P = true
    · rw [d, if_pos (by rfl)]
      by_cases g : S.testBit s = true
      · rw [if_pos g]
        by_cases e : s = s0
        · rw [if_pos e]
          refine sumN_c fun v _ => ?_
          show (if ((okS Q s P && okL Q _ _) && (if S.testBit s = true then s else _) == s0) = true then 1 else 0) = _
          rw [d, if_pos g, e]; simp
        · rw [if_neg e]
          refine sumN_0 fun v _ => ?_
          show (if ((okS Q s P && okL Q _ _) && (if S.testBit s = true then s else _) == s0) = true then 1 else 0) = _
          rw [d, if_pos g]; simp [e]
      · rw [if_neg g]
        refine sumN_c fun v _ => ?_
        show (if ((okS Q s P && okL Q _ _) && (if S.testBit s = true then s else fst S _) == s0) = true then 1 else 0) = _
        rw [d, if_neg g, Bool.true_and]
    · have d' : okS Q s P = false := by simpa using d
      rw [d', if_neg (by simp)]
      refine sumN_0 fun v _ => ?_
      show (if ((okS Q s P && okL Q _ _) && _) = true then 1 else 0) = _
      rw [d', Bool.false_and, Bool.false_and]; rfl
