section
/-! PICKS: the one runs a code for all things at once -/
/-- the goods, as the one and the other hold them -/
def XG (D : Dy) (n : Nat) (Mk Pr Ne : Nat → Nat) : Prop := n ≤ 6 ∧ D.1 1 3 = nI n ∧ ∀ i, i < n → (D.1 2 i = nI (Mk i) ∧ Mk i < 256) ∧ (D.1 3 i = nI (Pr i) ∧ Pr i < 100) ∧ (D.1 4 i = nI (Ne i) ∧ Ne i < 4)
def MG (D : Dy) (n : Nat) (Mk Pr Ne : Nat → Nat) : Prop := n ≤ 6 ∧ D.1 33 0 = nI n ∧ ∀ i, i < n → (D.1 34 i = nI (Mk i) ∧ Mk i < 256) ∧ (D.1 35 i = nI (Pr i) ∧ Pr i < 100) ∧ (D.1 36 i = nI (Ne i) ∧ Ne i < 4)
theorem XG_c {D D' : Dy} {n : Nat} {Mk Pr Ne : Nat → Nat} (h : XG D n Mk Pr Ne) (e : ∀ a y, a = 1 ∨ a = 2 ∨ a = 3 ∨ a = 4 → D'.1 a y = D.1 a y) : XG D' n Mk Pr Ne := by
  obtain ⟨h1, h2, h3⟩ := h
  refine ⟨h1, by rw [e _ _ (by omega)]; exact h2, fun i hi => ?_⟩
  rw [e _ _ (by omega), e _ _ (by omega), e _ _ (by omega)]; exact h3 i hi
theorem MG_c {D D' : Dy} {n : Nat} {Mk Pr Ne : Nat → Nat} (h : MG D n Mk Pr Ne) (e : ∀ a y, (a = 33 ∧ y = 0) ∨ a = 34 ∨ a = 35 ∨ a = 36 → D'.1 a y = D.1 a y) : MG D' n Mk Pr Ne := by
  obtain ⟨h1, h2, h3⟩ := h
  refine ⟨h1, by rw [e _ _ (by omega)]; exact h2, fun i hi => ?_⟩
  rw [e _ _ (by omega), e _ _ (by omega), e _ _ (by omega)]; exact h3 i hi
theorem bBd {p : Prop} [Decidable p] {post : Int32 → Prop} (h : post (bB (decide p))) : (p → post 1) ∧ (¬ p → post 0) := by
  constructor
  · intro z; rw [decide_eq_true z] at h; exact h
  · intro z; rw [decide_eq_false z] at h; exact h
theorem x_passes {D : Dy} {n x c : Nat} {Mk Pr Ne : Nat → Nat} (hG : XG D n Mk Pr Ne) (hx : x < n) (hc : okc c) {post : Int32 → Prop} (h : post (bB (tvN Mk Pr Ne x c))) : fX1_passes (nI x) (nI (c % 16)) (nI (c / 16)) D post := by
  obtain ⟨n6, -, g⟩ := hG
  obtain ⟨⟨m1, m2⟩, ⟨p1, p2⟩, ⟨e1, e2⟩⟩ := g x hx
  obtain ⟨c1, c2⟩ := hc
  have vx : vp_in (nI x) 6 := nI_in (by omega) (by omega)
  unfold fX1_passes
  rw [nI_clamp (by omega), m1, p1, e1]
  unfold tvN at h
  have eq : ∀ k, k < 16 → (nI (c % 16) = nI k ↔ c % 16 = k) := fun k hk => nI_eq (by omega) (by omega)
  have q : ∀ {a b : Nat}, a < 20000 → b < 20000 → (nI a = nI b ↔ a = b) := fun h1 h2 => nI_eq (by omega) (by omega)
  have ql : ∀ {a b : Nat}, a < 20000 → b < 20000 → (nI a ≤ nI b ↔ a ≤ b) := fun h1 h2 => nI_leI (by omega) (by omega)
  by_cases q3 : c % 16 = 3
  · rw [if_pos q3] at h
    refine ⟨fun _ => ⟨vx, ?_⟩, fun z => absurd ((eq 3 (by omega)).mpr q3) z⟩
    rw [isIn' (by have := c2 q3; omega) (by omega)]
    exact ⟨bB_01, h⟩
  · rw [if_neg q3] at h
    refine ⟨fun z => absurd ((eq 3 (by omega)).mp z) q3, fun _ => ?_⟩
    by_cases q4 : c % 16 = 4
    · rw [if_pos q4] at h
      exact ⟨fun _ => ⟨fun z => (bBd h).2 fun y => z ((q (by omega) (by omega)).mpr y), fun z => (bBd h).1 ((q (by omega) (by omega)).mp z)⟩, fun z => absurd ((eq 4 (by omega)).mpr q4) z⟩
    · rw [if_neg q4] at h
      refine ⟨fun z => absurd ((eq 4 (by omega)).mp z) q4, fun _ => ?_⟩
      by_cases q5 : c % 16 = 5
      · rw [if_pos q5] at h
        exact ⟨fun _ => ⟨vx, fun z => (bBd h).2 fun y => z ((q (by omega) (by omega)).mpr y), fun z => (bBd h).1 ((q (by omega) (by omega)).mp z)⟩, fun z => absurd ((eq 5 (by omega)).mpr q5) z⟩
      · rw [if_neg q5] at h
        refine ⟨fun z => absurd ((eq 5 (by omega)).mp z) q5, fun _ => ?_⟩
        by_cases q6 : c % 16 = 6
        · rw [if_pos q6] at h
          exact ⟨fun _ => ⟨vx, fun z => (bBd h).2 (by have := (ql (by omega) (by omega)).mp z; omega), fun z => (bBd h).1 (Nat.lt_of_not_le fun y => z ((ql (by omega) (by omega)).mpr y))⟩, fun z => absurd ((eq 6 (by omega)).mpr q6) z⟩
        · rw [if_neg q6] at h
          refine ⟨fun z => absurd ((eq 6 (by omega)).mp z) q6, fun _ => ?_⟩
          by_cases q7 : c % 16 = 7
          · rw [if_pos q7] at h
            exact ⟨fun _ => ⟨vx, fun z => (bBd h).2 fun y => z ((q (by omega) (by omega)).mpr y), fun z => (bBd h).1 ((q (by omega) (by omega)).mp z)⟩, fun z => absurd ((eq 7 (by omega)).mpr q7) z⟩
          · rw [if_neg q7] at h
            exact ⟨fun z => absurd ((eq 7 (by omega)).mp z) q7, fun _ => ⟨vx, fun z => (bBd h).2 (by have := (ql (by omega) (by omega)).mp z; omega), fun z => (bBd h).1 (Nat.lt_of_not_le fun y => z ((ql (by omega) (by omega)).mpr y))⟩⟩
theorem or_bit {m k x : Nat} (hm : m < 2 ^ k) (hx : x < k + 1) : (m ||| 2 ^ k).testBit x = if x = k then true else m.testBit x := by
  rw [Nat.testBit_or, Nat.testBit_two_pow]
  by_cases e : x = k
  · rw [if_pos e, e]; simp
  · rw [if_neg e, decide_eq_false (fun z => e z.symm), Bool.or_false]
theorem orb_lt {m k : Nat} (hm : m < 2 ^ k) : (m ||| 2 ^ k) < 2 ^ (k + 1) := Nat.or_lt_two_pow (Nat.lt_trans hm (Nat.pow_lt_pow_right (by omega) (by omega))) (Nat.pow_lt_pow_right (by omega) (by omega))
theorem x_passing {D : Dy} {n c : Nat} {Mk Pr Ne : Nat → Nat} (hG : XG D n Mk Pr Ne) (hc : okc c) {post : Int32 → Prop} (h : ∀ m, m < 2 ^ n → (∀ x, x < n → m.testBit x = tvN Mk Pr Ne x c) → post (nI m)) : fX1_passing (nI (c % 16)) (nI (c / 16)) D post := by
  have n6 := hG.1
  unfold fX1_passing
  rw [hG.2.1]
  refine lp2_I n (fun k v1 v2 => v2 = nI k ∧ ∃ m, v1 = nI m ∧ m < 2 ^ k ∧ ∀ x, x < k → m.testBit x = tvN Mk Pr Ne x c) (by omega) (fun k hk v1 v2 hv rec hr => ?_) ⟨rfl, 0, rfl, by decide, fun x hx => absurd hx (Nat.not_lt_zero _)⟩
  obtain ⟨rfl, m, rfl, m1, m2⟩ := hv
  by_cases e : k = n
  · subst e
    exact ⟨fun _ => h m m1 m2, fun z => absurd (Int32.le_refl _) z⟩
  · have hk' : k < n := by omega
    refine ⟨fun z => absurd z (nI_ge hk' (by omega)), fun _ => x_passes hG hk' hc ?_⟩
    have lt := Nat.lt_trans m1 (Nat.pow_lt_pow_right (a := 2) (by omega) (Nat.lt_succ_self k))
    refine JN_1 (fun v => v = nI (if tvN Mk Pr Ne k c = true then m ||| 2 ^ k else m)) (fun v hv => ?_) (fun K hK => ⟨fun z => hK _ ?_, fun z => ?_⟩)
    · subst hv
      rintro v14 rfl
      rw [nI_1]
      refine hr hk' _ _ ⟨rfl, _, rfl, ?_, fun x hx => ?_⟩
      · split
        · exact orb_lt m1
        · exact lt
      · by_cases t1 : tvN Mk Pr Ne k c = true
        · rw [if_pos t1, or_bit m1 hx]
          by_cases e2 : x = k
          · rw [if_pos e2, e2, t1]
          · rw [if_neg e2]; exact m2 x (by omega)
        · rw [if_neg t1]
          by_cases e2 : x = k
          · rw [e2, Nat.testBit_lt_two_pow m1]; simpa using t1
          · exact m2 x (by omega)
    · have : tvN Mk Pr Ne k c = false := by rw [n0, bB_0] at z; exact z
      rw [if_neg (by rw [this]; decide)]
    · have : tvN Mk Pr Ne k c = true := by rw [n0, bB_0] at z; simpa using z
      rintro v17 rfl
      refine hK _ ?_
      rw [if_pos this, n1, shl' (by omega), nI_or]
/-- the pile: the top is the head -/
def XK (D : Dy) (t : Nat) (S : List Int32) : Prop := ∀ i, i < S.length → D.1 (t + 7) i = S.getD (S.length - 1 - i) 0
theorem XK_tl {D : Dy} {t : Nat} {b : Int32} {S : List Int32} (h : XK D t (b :: S)) : XK D t S := fun i hi => by
  rw [h i (by simp; omega), getD_c hi]
theorem XK_push {D : Dy} {t : Nat} {v : Int32} {S : List Int32} (h : XK D t S) : XK (sI D (t + 7) S.length v) t (v :: S) := fun i hi => by
  rw [sI_1]
  by_cases e : i = S.length
  · subst e; rw [if_pos ⟨rfl, rfl⟩]; simp
  · have hi' : i < S.length := by simp at hi; omega
    rw [if_neg (fun z => e z.2), getD_c hi']; exact h i hi'
theorem XK_top {D : Dy} {t : Nat} {b : Int32} {S : List Int32} (h : XK D t (b :: S)) : D.1 (t + 7) S.length = b := by
  rw [h S.length (by simp)]; simp
def frH (t : Nat) (D D' : Dy) : Prop := D'.2 = D.2 ∧ ∀ b y, b ≠ t + 7 → D'.1 b y = D.1 b y
theorem frH_s {t k : Nat} {D D' : Dy} {v : Int32} (h : frH t D D') : frH t D (sI D' (t + 7) k v) := ⟨h.1, fun b y h1 => by rw [sI_1, if_neg (fun z => h1 z.1)]; exact h.2 b y h1⟩
theorem drop_c {c : List Nat} {k : Nat} (hk : k < c.length) : c.drop k = c.getD k 0 :: c.drop (k + 1) := by
  rw [List.drop_eq_getElem_cons hk, List.getD_eq_getElem?_getD, List.getElem?_eq_getElem hk]; rfl
theorem x_hold {D : Dy} {t a n : Nat} {c : List Nat} {Mk Pr Ne : Nat → Nat} (hG : XG D n Mk Pr Ne) (ht : 65 ≤ t) (hcode : ∀ i, i < c.length → D.1 (t + 8) (a + i) = nI (c.getD i 0)) (ha : a + c.length ≤ 120) (hH : Hok c 0 1) {post : Int32 → Dy → Prop} (h : ∀ v D', frH t D D' → (∀ x, x < n → bt v x = hN Mk Pr Ne c x) → post v D') : fX9_holdingFor t (nI a) (nI (a + c.length)) D post := by
  have n6 := hG.1
  unfold fX9_holdingFor
  refine lp3_I c.length (fun k v1 v2 D' => v2 = nI (a + k) ∧ ∃ S : List Int32, v1 = nI S.length ∧ S.length ≤ 16 ∧ XK D' t S ∧ frH t D D' ∧ Hok (c.drop k) S.length 1 ∧ ∀ x, x < n → ev (tvN Mk Pr Ne x) (c.drop k) (S.map fun v => bt v x) = ev (tvN Mk Pr Ne x) c []) (by omega) (fun k hk v1 v2 D' hv rec hr => ?_) ⟨rfl, [], rfl, by decide, fun i hi => absurd hi (Nat.not_lt_zero _), ⟨rfl, fun _ _ _ => rfl⟩, hH, fun x hx => rfl⟩
  obtain ⟨rfl, S, rfl, S16, K1, f1, H1, E1⟩ := hv
  refine JN_i (k = c.length) (fun e => ?_) (fun K6 hK6 => ⟨fun z => hK6 ?_, fun z => ?_⟩)
  · rw [e, List.drop_length] at H1 E1
    have H1 : S.length = 1 := H1
    cases S with
    | nil => cases H1
    | cons v S' =>
      have : S' = [] := List.eq_nil_of_length_eq_zero (by simpa using H1)
      subst this
      refine ⟨fun z => absurd z (show ¬ nI 1 ≤ 0 by decide), fun _ => ⟨nI_in (c := 0) (by omega) (by omega), ?_⟩⟩
      have z0 : (0 : Int32).toNatClampNeg = 0 := rfl
      have top : D'.1 (t + 7) 0 = v := XK_top K1
      rw [z0, top]
      refine h v D' f1 fun x hx => ?_
      unfold hN
      rw [← E1 x hx]
      rfl
  · have := (leI' (by omega) (by omega)).mp z; omega
  · have hk' : k < c.length := Nat.lt_of_not_le fun y => z (nI_le (by omega) (by omega))
    have e120 : Int32.ofNat 120 = nI 120 := rfl
    have e16 : Int32.ofNat 16 = nI 16 := rfl
    rw [e120, e16]
    refine ⟨fun z => absurd z (nI_ge (by omega) (by omega)), fun _ => ⟨nI_in (by omega) (by omega), ?_⟩⟩
    rw [nI_clamp (by omega), f1.2 _ _ (by omega), hcode k hk']
    rw [drop_c hk'] at H1 E1
    generalize c.getD k 0 = y at H1 E1
    obtain ⟨ok, H1⟩ := H1
    have y1 := ok.1
    have ea : nI y &&& 15 = nI (y % 16) := by
      rw [show (15 : Int32) = nI 15 from rfl, nI_and, show y &&& 15 = y % 16 from Nat.and_two_pow_sub_one_eq_mod y 4]
    have es : nI y >>> ((4 : Int32) &&& 31) = nI (y / 16) := by
      rw [show ((4 : Int32) &&& 31) = (nI 4 &&& 31) from rfl, nI_shr (by omega) (by omega), Nat.shiftRight_eq_div_pow]
    rw [ea, es]
    rintro v11 rfl
    refine JN_2 (fun v13 D14 => ∃ S : List Int32, v13 = nI S.length ∧ S.length ≤ 16 ∧ XK D14 t S ∧ frH t D D14 ∧ Hok (c.drop (k + 1)) S.length 1 ∧ ∀ x, x < n → ev (tvN Mk Pr Ne x) (c.drop (k + 1)) (S.map fun v => bt v x) = ev (tvN Mk Pr Ne x) c []) (fun v13 D14 hv => ?_) (fun K15 hK15 => ?_)
    · rintro v17 rfl
      rw [nI_1]
      exact hr hk' _ _ _ ⟨by rw [Nat.add_assoc], hv⟩
    · have ne : ∀ j, j < 16 → y % 16 ≠ j → ¬ nI (y % 16) = nI j := fun j hj h z => h ((nI_eq (by omega) (by omega)).mp z)
      have G1 : XG D' n Mk Pr Ne := XG_c hG fun a y h => f1.2 _ _ (by omega)
      rcases H1 with ⟨y3, s16, H1⟩ | ⟨rfl, s0, H1⟩ | ⟨yy, s1, H1⟩
      · refine JN_p ?_ (fun K hK => ⟨fun _ => hK, fun z => absurd z (ne 0 (by omega) (by omega))⟩)
        refine JN_p ?_ (fun K hK => ⟨fun _ => hK, fun z => absurd z (ne 1 (by omega) (by omega))⟩)
        refine JN_p ?_ (fun K hK => ⟨fun _ => hK, fun z => absurd z (ne 2 (by omega) (by omega))⟩)
        refine ⟨fun z => ?_, fun _ => ⟨fun z => absurd z (nI_ge s16 (by omega)), fun _ => ⟨nI_in (by omega) (by omega), x_passing G1 ok fun m m1 m2 => ⟨nI_in s16 (by omega), ?_⟩⟩⟩⟩
        · have := (leI' (b := 2) (by omega) (by omega)).mp z; omega
        · rw [nI_clamp (by omega), nI_1]
          rintro D32 rfl v34 rfl
          refine hK15 _ _ ⟨nI m :: S, rfl, s16, XK_push K1, frH_s f1, H1, fun x hx => ?_⟩
          rw [← E1 x hx]
          show ev _ _ (bt (nI m) x :: S.map _) = ev _ _ (evS _ y (S.map _))
          have : evS (tvN Mk Pr Ne x) y (S.map fun v => bt v x) = tvN Mk Pr Ne x y :: S.map fun v => bt v x := by unfold evS; rw [if_pos y3]
          rw [this, bt_nI _ (by omega), m2 x hx]
      · cases S with
        | nil => cases s0
        | cons b S' =>
          refine JN_i False (fun h => h.elim) (fun K hK => ⟨fun z => absurd rfl z, fun _ => ⟨fun z => ?_, fun _ => ?_⟩⟩)
          · have := (leI' (b := 0) (by omega) (by omega)).mp z; simp at this
          · have l16 : S'.length + 1 ≤ 16 := S16
            rw [List.length_cons, n1, sub' (by omega), Nat.add_sub_cancel, nI_clamp (by omega), XK_top K1]
            refine ⟨nI_in (by omega) (by omega), nI_in (by omega) (by omega), ?_⟩
            rintro D54 rfl
            refine hK15 _ _ ⟨(b ^^^ (-1)) :: S', rfl, S16, XK_push (XK_tl K1), frH_s f1, H1, fun x hx => ?_⟩
            rw [← E1 x hx]
            show ev _ _ (bt (b ^^^ (-1)) x :: S'.map _) = ev _ _ ((!bt b x) :: S'.map _)
            rw [b_xor, b_m1 x (by omega)]
            cases bt b x <;> rfl
      · have big : ∀ j, j < 2 → ¬ nI S.length ≤ nI j := fun j hj z => by have := (leI' (by omega) (by omega)).mp z; omega
        cases S with
        | nil => cases s1
        | cons b S1 =>
          cases S1 with
          | nil => simp at s1
          | cons a S' =>
            have l16 : S'.length + 1 + 1 ≤ 16 := S16
            have em : nI (b :: a :: S').length + (-1) = nI (S'.length + 1) := by
              rw [show ((-1 : Int32)) = -nI 1 from rfl, List.length_cons, List.length_cons, adm' (by omega)]; rfl
            have e2 : nI (S'.length + 1) - 1 = nI S'.length := by rw [n1, sub' (by omega), Nat.add_sub_cancel]
            have t1 : D'.1 (t + 7) (S'.length + 1) = b := XK_top K1
            have t2 : D'.1 (t + 7) S'.length = a := XK_top (XK_tl K1)
            rcases yy with rfl | rfl
            · refine JN_p ?_ (fun K hK => ⟨fun _ => hK, fun z => absurd z (ne 0 (by omega) (by omega))⟩)
              refine JN_i False (fun h => h.elim) (fun K hK => ⟨fun z => absurd rfl z, fun _ => ⟨fun z => absurd z (big 1 (by omega)), fun _ => ?_⟩⟩)
              rw [em]
              rintro v46 rfl
              rw [e2]
              rintro v48 rfl
              rw [nI_clamp (by omega), nI_clamp (by omega), t1, t2]
              refine ⟨nI_in (by omega) (by omega), nI_in (by omega) (by omega), nI_in (by omega) (by omega), ?_⟩
              rintro D50 rfl
              refine hK15 _ _ ⟨(a &&& b) :: S', rfl, by show S'.length + 1 ≤ 16; omega, XK_push (XK_tl (XK_tl K1)), frH_s f1, H1, fun x hx => ?_⟩
              rw [← E1 x hx]
              show ev _ _ (bt (a &&& b) x :: S'.map _) = ev _ _ ((bt a x && bt b x) :: S'.map _)
              rw [b_and]
            · refine JN_p ?_ (fun K hK => ⟨fun _ => hK, fun z => absurd z (ne 0 (by omega) (by omega))⟩)
              refine JN_p ?_ (fun K hK => ⟨fun _ => hK, fun z => absurd z (ne 1 (by omega) (by omega))⟩)
              refine JN_i False (fun h => h.elim) (fun K hK => ⟨fun z => absurd rfl z, fun _ => ⟨fun z => absurd z (big 1 (by omega)), fun _ => ?_⟩⟩)
              rw [em]
              rintro v46 rfl
              rw [e2]
              rintro v48 rfl
              rw [nI_clamp (by omega), nI_clamp (by omega), t1, t2]
              refine ⟨nI_in (by omega) (by omega), nI_in (by omega) (by omega), nI_in (by omega) (by omega), ?_⟩
              rintro D50 rfl
              refine hK15 _ _ ⟨(a ||| b) :: S', rfl, by show S'.length + 1 ≤ 16; omega, XK_push (XK_tl (XK_tl K1)), frH_s f1, H1, fun x hx => ?_⟩
              rw [← E1 x hx]
              show ev _ _ (bt (a ||| b) x :: S'.map _) = ev _ _ ((bt a x || bt b x) :: S'.map _)
              rw [b_or]
theorem fl_take {cs : List (List Nat)} {k : Nat} (hk : k < cs.length) : (cs.take (k + 1)).flatten = (cs.take k).flatten ++ cs.getD k [] := by
  rw [List.take_succ_eq_append_getElem hk, fl_snoc, List.getD_eq_getElem?_getD, List.getElem?_eq_getElem hk]; rfl
theorem fl_seg : ∀ (cs : List (List Nat)) (k i : Nat), k < cs.length → i < (cs.getD k []).length → cs.flatten.getD ((cs.take k).flatten.length + i) 0 = (cs.getD k []).getD i 0
  | [], _, _, h, _ => absurd h (Nat.not_lt_zero _)
  | c :: cs, 0, i, _, hi => by
    have hi : i < c.length := hi
    show (c ++ cs.flatten).getD (0 + i) 0 = c.getD i 0
    rw [Nat.zero_add, List.getD_eq_getElem?_getD, List.getD_eq_getElem?_getD, List.getElem?_append_left hi]
  | c :: cs, k + 1, i, h, hi => by
    have hi : i < (cs.getD k []).length := hi
    have := fl_seg cs k i (by simpa using h) hi
    show (c ++ cs.flatten).getD ((c ++ (cs.take k).flatten).length + i) 0 = (cs.getD k []).getD i 0
    rw [← this, List.length_append, List.getD_eq_getElem?_getD, List.getD_eq_getElem?_getD, List.getElem?_append_right (by omega)]
    congr 2; omega
theorem fl_len {cs : List (List Nat)} {k : Nat} : (cs.take k).flatten.length ≤ cs.flatten.length := by
  have : cs.flatten = (cs.take k).flatten ++ (cs.drop k).flatten := by rw [← List.flatten_append, List.take_append_drop]
  rw [this, List.length_append]; omega
/-- all but the pile and what picks hold is as it was -/
def frJ (t : Nat) (D D' : Dy) : Prop := D'.2 = D.2 ∧ ∀ b y, b ≠ t + 6 → b ≠ t + 7 → D'.1 b y = D.1 b y
theorem x_runPicks {D : Dy} {t n : Nat} {cs : List (List Nat)} {Mk Pr Ne : Nat → Nat} (hG : XG D n Mk Pr Ne) (ht : 65 ≤ t) (hC : XC D t cs.flatten) (hE : XE D t cs) (hL : cs.flatten.length ≤ 120) (h10 : cs.length ≤ 10) (hH : ∀ c ∈ cs, Hok c 0 1) {post : Dy → Prop} (h : ∀ D', frJ t D D' → (∀ j, j < cs.length → ∀ x, x < n → bt (D'.1 (t + 6) j) x = hN Mk Pr Ne (cs.getD j []) x) → post D') : fX9_runPicks t D post := by
  unfold fX9_runPicks
  refine lp3_I cs.length (fun k v1 v2 D' => v2 = nI k ∧ v1 = nI (cs.take k).flatten.length ∧ frJ t D D' ∧ ∀ j, j < k → ∀ x, x < n → bt (D'.1 (t + 6) j) x = hN Mk Pr Ne (cs.getD j []) x) (by omega) (fun k hk v1 v2 D' hv rec hr => ?_) ⟨rfl, rfl, ⟨rfl, fun _ _ _ _ => rfl⟩, fun j hj => absurd hj (Nat.not_lt_zero _)⟩
  obtain ⟨rfl, rfl, f1, g1⟩ := hv
  have e15 : D'.1 t 15 = nI cs.length := by rw [f1.2 _ _ (by omega) (by omega)]; exact hE.1
  rw [e15]
  by_cases e : k = cs.length
  · subst e
    exact ⟨fun _ => h D' f1 g1, fun z => absurd (Int32.le_refl _) z⟩
  · have hk' : k < cs.length := by omega
    have e5 : D'.1 (t + 5) k = nI (cs.take (k + 1)).flatten.length := by rw [f1.2 _ _ (by omega) (by omega)]; exact hE.2 k hk'
    have mem : cs.getD k [] ∈ cs := by
      rw [List.getD_eq_getElem?_getD, List.getElem?_eq_getElem hk']; exact List.getElem_mem hk'
    have len : (cs.take (k + 1)).flatten.length = (cs.take k).flatten.length + (cs.getD k []).length := by rw [fl_take hk', List.length_append]
    have le := fl_len (cs := cs) (k := k + 1)
    refine ⟨fun z => absurd z (nI_ge hk' (by omega)), fun _ => ⟨nI_in (by omega) (by omega), ?_⟩⟩
    rw [nI_clamp (by omega), e5, len]
    refine x_hold (XG_c hG fun a y h => f1.2 _ _ (by omega) (by omega)) ht (fun i hi => ?_) (by omega) (hH _ mem) fun v D2 f2 b2 => ?_
    · rw [f1.2 _ _ (by omega) (by omega), hC.2 _ (by omega), fl_seg cs k i hk' hi]
    · refine ⟨nI_in (by omega) (by omega), ?_⟩
      rintro D13 rfl
      refine ⟨nI_in (by omega) (by omega), ?_⟩
      have e13 : (sI D2 (t + 6) k v).1 (t + 5) k = nI (cs.take (k + 1)).flatten.length := by rw [sI_1, if_neg (by omega), f2.2 _ _ (by omega)]; exact e5
      rw [e13, nI_1]
      rintro v15 rfl v17 rfl
      refine hr hk' _ _ _ ⟨rfl, rfl, ⟨f2.1.trans f1.1, fun b y h1 h2 => ?_⟩, fun j hj x hx => ?_⟩
      · rw [sI_1, if_neg (fun z => h1 z.1), f2.2 _ _ h2]; exact f1.2 b y h1 h2
      · rw [sI_1]
        by_cases e2 : j = k
        · rw [if_pos ⟨rfl, e2⟩, e2]; exact b2 x hx
        · rw [if_neg (fun z => e2 z.2), f2.2 _ _ (by omega)]; exact g1 j (by omega) x hx
end
