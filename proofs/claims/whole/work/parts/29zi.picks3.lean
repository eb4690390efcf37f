section
/-! PICKS: the cheapest of those picked, both ways -/
def chN (f : Nat → Bool) (Pr : Nat → Nat) : Nat → Nat
  | 0 => 7
  | k + 1 => if f k = true ∧ (chN f Pr k = 7 ∨ Pr k < Pr (chN f Pr k)) then k else chN f Pr k
theorem chN_s {f : Nat → Bool} {Pr : Nat → Nat} {k : Nat} : chN f Pr (k + 1) = if f k = true ∧ (chN f Pr k = 7 ∨ Pr k < Pr (chN f Pr k)) then k else chN f Pr k := rfl
theorem chN_lt {f : Nat → Bool} {Pr : Nat → Nat} : ∀ k, chN f Pr k = 7 ∨ (chN f Pr k < k ∧ f (chN f Pr k) = true)
  | 0 => Or.inl rfl
  | k + 1 => by
    rw [chN_s]
    split
    · next c => exact Or.inr ⟨Nat.lt_succ_self _, c.1⟩
    · rcases chN_lt (f := f) (Pr := Pr) k with h | ⟨h1, h2⟩
      · exact Or.inl h
      · exact Or.inr ⟨by omega, h2⟩
theorem chN_7 {f : Nat → Bool} {Pr : Nat → Nat} : ∀ k, k ≤ 6 → (chN f Pr k = 7 ↔ ∀ x, x < k → f x = false)
  | 0, _ => ⟨fun _ x hx => absurd hx (Nat.not_lt_zero _), fun _ => rfl⟩
  | k + 1, hk => by
    have ih := chN_7 (f := f) (Pr := Pr) k (by omega)
    rw [chN_s]
    by_cases c : f k = true
    · by_cases c2 : chN f Pr k = 7 ∨ Pr k < Pr (chN f Pr k)
      · rw [if_pos ⟨c, c2⟩]
        exact ⟨fun z => by omega, fun z => by have := z k (Nat.lt_succ_self _); rw [this] at c; cases c⟩
      · rw [if_neg (fun z => c2 z.2)]
        exact ⟨fun z => absurd (Or.inl z) c2, fun z => by have := z k (Nat.lt_succ_self _); rw [this] at c; cases c⟩
    · rw [if_neg (fun z => c z.1), ih]
      constructor
      · intro h x hx
        by_cases e : x = k
        · rw [e]; simpa using c
        · exact h x (by omega)
      · intro h x hx; exact h x (by omega)
theorem chN_c {f g : Nat → Bool} {Pr : Nat → Nat} : ∀ k, (∀ x, x < k → f x = g x) → chN f Pr k = chN g Pr k
  | 0, _ => rfl
  | k + 1, h => by
    rw [chN_s, chN_s, chN_c k (fun x hx => h x (by omega)), h k (Nat.lt_succ_self _)]
theorem x_cheap {D : Dy} {n m : Nat} {Mk Pr Ne : Nat → Nat} (hG : XG D n Mk Pr Ne) (hm : m < 2 ^ n) {post : Int32 → Prop} (h : post (nI (chN (fun x => m.testBit x) Pr n))) : fX1_cheapestOf (nI m) D post := by
  obtain ⟨n6, g0, g⟩ := hG
  have pw := pw6 n6
  unfold fX1_cheapestOf
  rw [g0]
  refine lp2_I n (fun k v1 v2 => v2 = nI k ∧ v1 = nI (chN (fun x => m.testBit x) Pr k)) (by omega) (fun k hk v1 v2 hv rec hr => ?_) ⟨rfl, rfl⟩
  obtain ⟨rfl, rfl⟩ := hv
  by_cases e : k = n
  · subst e
    exact ⟨fun _ => h, fun z => absurd (Int32.le_refl _) z⟩
  · have hk' : k < n := by omega
    have lt := chN_lt (f := fun x => m.testBit x) (Pr := Pr) k
    refine ⟨fun z => absurd z (nI_ge hk' (by omega)), fun _ => ?_⟩
    rw [isIn' (by omega) (by omega)]
    refine JN_1 (fun v => v = nI (chN (fun x => m.testBit x) Pr (k + 1))) (fun v hv => ?_) (fun K hK => ⟨fun z => hK _ ?_, fun z => ?_⟩)
    · subst hv
      rintro v14 rfl
      rw [nI_1]
      exact hr hk' _ _ ⟨rfl, rfl⟩
    · have z : m.testBit k = false := by rw [n0, bB_0] at z; exact z
      rw [chN_s, if_neg (by rw [z]; simp)]
    · have z : m.testBit k = true := by rw [n0, bB_0] at z; simpa using z
      refine JN_i (chN (fun x => m.testBit x) Pr k = 7 ∨ Pr k < Pr (chN (fun x => m.testBit x) Pr k)) (fun q => hK _ (by rw [chN_s, if_pos ⟨z, q⟩])) (fun K17 hK17 => ⟨fun z7 => hK17 (Or.inl ?_), fun z7 => ?_⟩)
      · exact (nI_eq (b := 7) (by omega) (by omega)).mp z7
      · have n7 : ¬ chN (fun x => m.testBit x) Pr k = 7 := fun y => z7 (by rw [y]; rfl)
        obtain ⟨l1, l2⟩ : chN (fun x => m.testBit x) Pr k < k ∧ m.testBit (chN (fun x => m.testBit x) Pr k) = true := by
          rcases lt with y | y
          · exact absurd y n7
          · exact y
        obtain ⟨-, ⟨p1, p2⟩, -⟩ := g k hk'
        obtain ⟨-, ⟨p3, p4⟩, -⟩ := g (chN (fun x => m.testBit x) Pr k) (by omega)
        refine ⟨nI_in (by omega) (by omega), nI_in (by omega) (by omega), ?_⟩
        rw [nI_clamp (by omega), nI_clamp (by omega), p1, p3]
        refine ⟨fun y => hK _ ?_, fun y => hK17 (Or.inr (Nat.lt_of_not_le fun w => y (nI_le w (by omega))))⟩
        have := (leI' (by omega) (by omega)).mp y
        rw [chN_s, if_neg (fun w => by rcases w.2 with w | w; exact n7 w; omega)]
/-- what is picked: of the first pick that holds for one of the set the cheapest for which it holds -/
def pkN (F : Nat → Nat → Bool) (Pr : Nat → Nat) (n : Nat) : Nat → Nat → Nat
  | 0, _ => 7
  | k + 1, j => if chN (F j) Pr n = 7 then pkN F Pr n k (j + 1) else chN (F j) Pr n
def pkF (Mk Pr Ne : Nat → Nat) (cs : List (List Nat)) (S : Nat) (j x : Nat) : Bool := hN Mk Pr Ne (cs.getD j []) x && S.testBit x
def pkd (Mk Pr Ne : Nat → Nat) (cs : List (List Nat)) (n S : Nat) : Nat := pkN (pkF Mk Pr Ne cs S) Pr n cs.length 0
theorem pkN_s {F : Nat → Nat → Bool} {Pr : Nat → Nat} {n k j : Nat} : pkN F Pr n (k + 1) j = if chN (F j) Pr n = 7 then pkN F Pr n k (j + 1) else chN (F j) Pr n := rfl
theorem pkN_lt {F : Nat → Nat → Bool} {Pr : Nat → Nat} {n : Nat} : ∀ k j, pkN F Pr n k j = 7 ∨ (pkN F Pr n k j < n ∧ ∃ i, F i (pkN F Pr n k j) = true)
  | 0, _ => Or.inl rfl
  | k + 1, j => by
    rw [pkN_s]
    split
    · exact pkN_lt k (j + 1)
    · next c =>
      rcases chN_lt (f := F j) (Pr := Pr) n with h | ⟨h1, h2⟩
      · exact absurd h c
      · exact Or.inr ⟨h1, j, h2⟩
theorem pkd_lt {Mk Pr Ne : Nat → Nat} {cs : List (List Nat)} {n S : Nat} : pkd Mk Pr Ne cs n S = 7 ∨ (pkd Mk Pr Ne cs n S < n ∧ S.testBit (pkd Mk Pr Ne cs n S) = true) := by
  rcases pkN_lt (F := pkF Mk Pr Ne cs S) (Pr := Pr) (n := n) cs.length 0 with h | ⟨h1, i, h2⟩
  · exact Or.inl h
  · refine Or.inr ⟨h1, ?_⟩
    unfold pkF at h2
    rw [Bool.and_eq_true] at h2
    exact h2.2
theorem and_bits (v : Int32) {S n : Nat} (hS : S < 2 ^ n) (hn : n ≤ 6) : ∃ m, m < 2 ^ n ∧ v &&& nI S = nI m ∧ ∀ x, x < n → m.testBit x = (bt v x && S.testBit x) := by
  have pw := pw6 hn
  refine ⟨v.toBitVec.toNat &&& S, Nat.lt_of_le_of_lt Nat.and_le_right hS, ?_, fun x hx => ?_⟩
  · refine b_ext fun i hi => ?_
    rw [b_and, bt_nI _ hi, bt_nI _ hi, Nat.testBit_and, BitVec.testBit_toNat]; rfl
  · rw [Nat.testBit_and, BitVec.testBit_toNat]; rfl
theorem bits_0 {m n : Nat} (hm : m < 2 ^ n) : m = 0 ↔ ∀ x, x < n → m.testBit x = false := by
  constructor
  · intro h x _; rw [h]; exact Nat.zero_testBit x
  · intro h
    refine Nat.eq_of_testBit_eq fun i => ?_
    rw [Nat.zero_testBit]
    by_cases c : i < n
    · exact h i c
    · exact Nat.testBit_lt_two_pow (Nat.lt_of_lt_of_le hm (Nat.pow_le_pow_right (by omega) (by omega)))
theorem x_pick {D : Dy} {t n S : Nat} {cs : List (List Nat)} {Mk Pr Ne : Nat → Nat} (hG : XG D n Mk Pr Ne) (hE : D.1 t 15 = nI cs.length) (h10 : cs.length ≤ 10) (hB : ∀ j, j < cs.length → ∀ x, x < n → bt (D.1 (t + 6) j) x = hN Mk Pr Ne (cs.getD j []) x) (hS : S < 2 ^ n) {post : Int32 → Prop} (h : post (nI (pkd Mk Pr Ne cs n S))) : fX9_pickFrom t (nI S) D post := by
  have n6 := hG.1
  have pw := pw6 n6
  unfold fX9_pickFrom
  rw [hE]
  refine lp1_I cs.length (fun k v => v = nI k ∧ pkN (pkF Mk Pr Ne cs S) Pr n (cs.length - k) k = pkd Mk Pr Ne cs n S) (by omega) (fun k hk v hv rec hr => ?_) ⟨rfl, rfl⟩
  obtain ⟨rfl, ep⟩ := hv
  by_cases e : k = cs.length
  · subst e
    rw [Nat.sub_self] at ep
    have ep : 7 = pkd Mk Pr Ne cs n S := ep
    rw [← ep] at h
    exact ⟨fun _ => h, fun z => absurd (Int32.le_refl _) z⟩
  · have hk' : k < cs.length := by omega
    obtain ⟨m, m1, m2, m3⟩ := and_bits (D.1 (t + 6) k) hS n6
    have em : ∀ x, x < n → m.testBit x = pkF Mk Pr Ne cs S k x := fun x hx => by rw [m3 x hx, hB k hk' x hx]; rfl
    have ec : chN (fun x => m.testBit x) Pr n = chN (pkF Mk Pr Ne cs S k) Pr n := chN_c n em
    have e7 := chN_7 (f := fun x => m.testBit x) (Pr := Pr) n n6
    rw [ec] at e7
    rw [show cs.length - k = (cs.length - (k + 1)) + 1 by omega, pkN_s] at ep
    refine ⟨fun z => absurd z (nI_ge hk' (by omega)), fun _ => ⟨nI_in (by omega) (by omega), ?_⟩⟩
    rw [nI_clamp (by omega), m2]
    refine ⟨fun z => ?_, fun z => ⟨nI_in (by omega) (by omega), x_cheap hG m1 ?_⟩⟩
    · have m0 : m = 0 := (nI_eq (b := 0) (by omega) (by omega)).mp z
      rw [if_pos (e7.mpr ((bits_0 m1).mp m0))] at ep
      rintro v6 rfl
      rw [nI_1]
      exact hr hk' _ ⟨rfl, ep⟩
    · have m0 : ¬ m = 0 := fun y => z (by rw [y]; rfl)
      rw [if_neg (fun y => m0 ((bits_0 m1).mpr (e7.mp y)))] at ep
      rw [ec, ep]
      exact h
theorem m_pick {D : Dy} {n S : Nat} {cs : List (List Nat)} {Mk Pr Ne : Nat → Nat} (hG : MG D n Mk Pr Ne) (hE : D.1 33 31 = nI cs.length) (h10 : cs.length ≤ 10) (hB : ∀ j, j < cs.length → ∀ x, x < n → D.1 51 (6 * j + x) = bB (hN Mk Pr Ne (cs.getD j []) x)) (hS : S < 2 ^ n) {post : Int32 → Prop} (h : post (nI (pkd Mk Pr Ne cs n S))) : fX12_pickedOf (nI S) D post := by
  obtain ⟨n6, g0, g⟩ := hG
  have pw := pw6 n6
  unfold fX12_pickedOf
  rw [hE, g0]
  refine lp1_I cs.length (fun k v => v = nI k ∧ pkN (pkF Mk Pr Ne cs S) Pr n (cs.length - k) k = pkd Mk Pr Ne cs n S) (by omega) (fun j hj v hv rec hr => ?_) ⟨rfl, rfl⟩
  obtain ⟨rfl, ep⟩ := hv
  by_cases e : j = cs.length
  · subst e
    rw [Nat.sub_self] at ep
    have ep : 7 = pkd Mk Pr Ne cs n S := ep
    rw [← ep] at h
    exact ⟨fun _ => h, fun z => absurd (Int32.le_refl _) z⟩
  · have hj' : j < cs.length := by omega
    rw [show cs.length - j = (cs.length - (j + 1)) + 1 by omega, pkN_s] at ep
    refine ⟨fun z => absurd z (nI_ge hj' (by omega)), fun _ => ?_⟩
    refine lp2_I n (fun k v5 v6 => v6 = nI k ∧ v5 = if chN (pkF Mk Pr Ne cs S j) Pr k = 7 then -nI 1 else nI (chN (pkF Mk Pr Ne cs S j) Pr k)) (by omega) (fun k hk v5 v6 hv rec2 hr2 => ?_) ⟨rfl, rfl⟩
    obtain ⟨rfl, rfl⟩ := hv
    have lt := chN_lt (f := pkF Mk Pr Ne cs S j) (Pr := Pr) k
    have lk := chN_s (f := pkF Mk Pr Ne cs S j) (Pr := Pr) (k := k)
    by_cases e : k = n
    · subst e
      refine ⟨fun _ => ⟨fun z => ?_, fun z => ?_⟩, fun z => absurd (Int32.le_refl _) z⟩
      · have c7 : chN (pkF Mk Pr Ne cs S j) Pr k = 7 := by
          refine Classical.byContradiction fun y => ?_
          rw [if_neg y] at z
          exact nI0nlt (by omega) z
        rw [if_pos c7] at ep
        rintro v11 rfl
        rw [nI_1]
        exact hr hj' _ ⟨rfl, ep⟩
      · have c7 : ¬ chN (pkF Mk Pr Ne cs S j) Pr k = 7 := fun y => z (by rw [if_pos y]; exact nI1n.1)
        rw [if_neg c7] at ep ⊢
        rw [ep]; exact h
    · have hk' : k < n := by omega
      obtain ⟨-, ⟨p1, p2⟩, -⟩ := g k hk'
      refine ⟨fun z => absurd z (nI_ge hk' (by omega)), fun _ => ?_⟩
      rw [has' (by omega) (by omega)]
      have fk : pkF Mk Pr Ne cs S j k = (hN Mk Pr Ne (cs.getD j []) k && S.testBit k) := rfl
      refine JN_1 (fun v => v = if chN (pkF Mk Pr Ne cs S j) Pr (k + 1) = 7 then -nI 1 else nI (chN (pkF Mk Pr Ne cs S j) Pr (k + 1))) (fun v hv => ?_) (fun K hK => ?_)
      · subst hv
        rintro v21 rfl
        rw [nI_1]
        exact hr2 hk' _ _ ⟨rfl, rfl⟩
      · have no : pkF Mk Pr Ne cs S j k = false → K (if chN (pkF Mk Pr Ne cs S j) Pr k = 7 then -nI 1 else nI (chN (pkF Mk Pr Ne cs S j) Pr k)) := fun q => hK _ (by rw [show chN (pkF Mk Pr Ne cs S j) Pr (k + 1) = chN (pkF Mk Pr Ne cs S j) Pr k from by rw [lk, if_neg (by rw [q]; simp)]])
        refine ⟨fun z => no ?_, fun z => ⟨?_, ?_⟩⟩
        · have z : S.testBit k = false := by rw [n0, bB_0] at z; exact z
          rw [fk, z, Bool.and_false]
        · rw [show (6 : Int32) = nI 6 from rfl, nI_mul, nI_add]; exact nI_in (by omega) (by omega)
        · have z : S.testBit k = true := by rw [n0, bB_0] at z; simpa using z
          rw [show (6 : Int32) = nI 6 from rfl, nI_mul, nI_add, nI_clamp (by omega), hB j hj' k hk']
          refine ⟨fun y => no ?_, fun y => ?_⟩
          · have y : hN Mk Pr Ne (cs.getD j []) k = false := by rw [n0, bB_0] at y; exact y
            rw [fk, y, Bool.false_and]
          · have y : hN Mk Pr Ne (cs.getD j []) k = true := by rw [n0, bB_0] at y; simpa using y
            have fk : pkF Mk Pr Ne cs S j k = true := by rw [fk, y, z]; rfl
            refine JN_i (chN (pkF Mk Pr Ne cs S j) Pr k = 7 ∨ Pr k < Pr (chN (pkF Mk Pr Ne cs S j) Pr k)) (fun q => hK _ (by rw [show chN (pkF Mk Pr Ne cs S j) Pr (k + 1) = k from by rw [lk, if_pos ⟨fk, q⟩], if_neg (by omega)])) (fun K17 hK17 => ⟨fun z7 => hK17 (Or.inl ?_), fun z7 => ?_⟩)
            · refine Classical.byContradiction fun y => ?_
              rw [if_neg y] at z7
              exact nI0nlt (by omega) z7
            · have c7 : ¬ chN (pkF Mk Pr Ne cs S j) Pr k = 7 := fun y => z7 (by rw [if_pos y]; exact nI1n.1)
              obtain ⟨l1, l2⟩ : chN (pkF Mk Pr Ne cs S j) Pr k < k ∧ pkF Mk Pr Ne cs S j (chN (pkF Mk Pr Ne cs S j) Pr k) = true := by
                rcases lt with y | y
                · exact absurd y c7
                · exact y
              obtain ⟨-, ⟨p3, p4⟩, -⟩ := g (chN (pkF Mk Pr Ne cs S j) Pr k) (by omega)
              rw [if_neg c7]
              refine ⟨nI_in (by omega) (by omega), nI_in (by omega) (by omega), ?_⟩
              rw [nI_clamp (by omega), nI_clamp (by omega), p1, p3]
              refine ⟨fun y => hK _ ?_, fun y => hK17 (Or.inr (Nat.lt_of_not_le fun w => y (nI_le w (by omega))))⟩
              have := (leI' (by omega) (by omega)).mp y
              rw [show chN (pkF Mk Pr Ne cs S j) Pr (k + 1) = chN (pkF Mk Pr Ne cs S j) Pr k from by rw [lk, if_neg (fun w => by rcases w.2 with w | w; exact c7 w; omega)], if_neg c7]
end
