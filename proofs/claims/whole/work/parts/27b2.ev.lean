/-! EVALUATING the pure programs: loops by what stands behind each turn, literals as nI -/
theorem lp1_V {A : Type} {b : (A → Prop) → A → Prop} (n : Nat) (f : Nat → A) (V : Nat → Prop) (hn : n < 1000000) (h : ∀ k, k ≤ n → ∀ rec : A → Prop, (k < n → rec (f (k + 1)) = V (k + 1)) → b rec (f k) = V k) {x : A} (hx : x = f 0) : LP1 b FU x = V 0 := by
  subst hx
  have H : ∀ N k, k ≤ n → n - k < N → LP1 b N (f k) = V k := by
    intro N
    induction N with
    | zero => intro k hk h0; omega
    | succ N ih => intro k hk h0; exact h k hk _ fun hlt => ih (k + 1) hlt (by omega)
  exact H FU 0 (Nat.zero_le _) (FU_big (by omega))
theorem lp2_V {A B : Type} {b : (A → B → Prop) → A → B → Prop} (n : Nat) (f : Nat → A) (g : Nat → B) (V : Nat → Prop) (hn : n < 1000000) (h : ∀ k, k ≤ n → ∀ rec : A → B → Prop, (k < n → rec (f (k + 1)) (g (k + 1)) = V (k + 1)) → b rec (f k) (g k) = V k) {x : A} {y : B} (hx : x = f 0) (hy : y = g 0) : LP2 b FU x y = V 0 := by
  subst hx; subst hy
  have H : ∀ N k, k ≤ n → n - k < N → LP2 b N (f k) (g k) = V k := by
    intro N
    induction N with
    | zero => intro k hk h0; omega
    | succ N ih => intro k hk h0; exact h k hk _ fun hlt => ih (k + 1) hlt (by omega)
  exact H FU 0 (Nat.zero_le _) (FU_big (by omega))
theorem lp3_V {A B C : Type} {b : (A → B → C → Prop) → A → B → C → Prop} (n : Nat) (f : Nat → A) (g : Nat → B) (e : Nat → C) (V : Nat → Prop) (hn : n < 1000000) (h : ∀ k, k ≤ n → ∀ rec : A → B → C → Prop, (k < n → rec (f (k + 1)) (g (k + 1)) (e (k + 1)) = V (k + 1)) → b rec (f k) (g k) (e k) = V k) {x : A} {y : B} {z : C} (hx : x = f 0) (hy : y = g 0) (hz : z = e 0) : LP3 b FU x y z = V 0 := by
  subst hx; subst hy; subst hz
  have H : ∀ N k, k ≤ n → n - k < N → LP3 b N (f k) (g k) (e k) = V k := by
    intro N
    induction N with
    | zero => intro k hk h0; omega
    | succ N ih => intro k hk h0; exact h k hk _ fun hlt => ih (k + 1) hlt (by omega)
  exact H FU 0 (Nat.zero_le _) (FU_big (by omega))
theorem lp4_V {A B C E : Type} {b : (A → B → C → E → Prop) → A → B → C → E → Prop} (n : Nat) (f : Nat → A) (g : Nat → B) (e : Nat → C) (d : Nat → E) (V : Nat → Prop) (hn : n < 1000000) (h : ∀ k, k ≤ n → ∀ rec : A → B → C → E → Prop, (k < n → rec (f (k + 1)) (g (k + 1)) (e (k + 1)) (d (k + 1)) = V (k + 1)) → b rec (f k) (g k) (e k) (d k) = V k) {x : A} {y : B} {z : C} {w : E} (hx : x = f 0) (hy : y = g 0) (hz : z = e 0) (hw : w = d 0) : LP4 b FU x y z w = V 0 := by
  subst hx; subst hy; subst hz; subst hw
  have H : ∀ N k, k ≤ n → n - k < N → LP4 b N (f k) (g k) (e k) (d k) = V k := by
    intro N
    induction N with
    | zero => intro k hk h0; omega
    | succ N ih => intro k hk h0; exact h k hk _ fun hlt => ih (k + 1) hlt (by omega)
  exact H FU 0 (Nat.zero_le _) (FU_big (by omega))
theorem lp5_V {A B C E F : Type} {b : (A → B → C → E → F → Prop) → A → B → C → E → F → Prop} (n : Nat) (f : Nat → A) (g : Nat → B) (e : Nat → C) (d : Nat → E) (c : Nat → F) (V : Nat → Prop) (hn : n < 1000000) (h : ∀ k, k ≤ n → ∀ rec : A → B → C → E → F → Prop, (k < n → rec (f (k + 1)) (g (k + 1)) (e (k + 1)) (d (k + 1)) (c (k + 1)) = V (k + 1)) → b rec (f k) (g k) (e k) (d k) (c k) = V k) {x : A} {y : B} {z : C} {w : E} {v : F} (hx : x = f 0) (hy : y = g 0) (hz : z = e 0) (hw : w = d 0) (hv : v = c 0) : LP5 b FU x y z w v = V 0 := by
  subst hx; subst hy; subst hz; subst hw; subst hv
  have H : ∀ N k, k ≤ n → n - k < N → LP5 b N (f k) (g k) (e k) (d k) (c k) = V k := by
    intro N
    induction N with
    | zero => intro k hk h0; omega
    | succ N ih => intro k hk h0; exact h k hk _ fun hlt => ih (k + 1) hlt (by omega)
  exact H FU 0 (Nat.zero_le _) (FU_big (by omega))
theorem sI_1 {D : Dy} {a k : Nat} {v : Int32} {b j : Nat} : (sI D a k v).1 b j = if b = a ∧ j = k then v else D.1 b j := rfl
theorem sI_2 {D : Dy} {a k : Nat} {v : Int32} : (sI D a k v).2 = D.2 := rfl
theorem sL_1 {D : Dy} {a k : Nat} {v : Int64} : (sL D a k v).1 = D.1 := rfl
theorem sL_2 {D : Dy} {a k : Nat} {v : Int64} {b j : Nat} : (sL D a k v).2 b j = if b = a ∧ j = k then v else D.2 b j := rfl
theorem sLA_1 {D : Dy} {a : Nat} {f : Nat → Int64} : (sLA D a f).1 = D.1 := rfl
theorem sLA_2 {D : Dy} {a : Nat} {f : Nat → Int64} {b j : Nat} : (sLA D a f).2 b j = if b = a then f j else D.2 b j := rfl
/-- a truth as the machine holds it -/
def bB (b : Bool) : Int32 := if b = true then nI 1 else nI 0
theorem bB_t : bB true = nI 1 := rfl
theorem bB_f : bB false = nI 0 := rfl
theorem bB_0 {b : Bool} : (bB b = nI 0) = (b = false) := by cases b <;> simp [bB, nI] <;> decide
theorem bB_1 {b : Bool} : (bB b = nI 1) = (b = true) := by cases b <;> simp [bB, nI] <;> decide
theorem ltI' {a b : Nat} (ha : a < 2 ^ 31) (hb : b < 2 ^ 31) : (nI a < nI b) = (a < b) := propext (nI_ltI ha hb)
theorem leI' {a b : Nat} (ha : a < 2 ^ 31) (hb : b < 2 ^ 31) : (nI a ≤ nI b) = (a ≤ b) := propext (nI_leI ha hb)
theorem eqI' {a b : Nat} (ha : a < 2 ^ 31) (hb : b < 2 ^ 31) : (nI a = nI b) = (a = b) := propext (nI_eq ha hb)
theorem vpI' {c N : Nat} (hc : c < 2 ^ 31) (hN : N < 2 ^ 31) : vp_in (nI c) N = (c < N) := by
  unfold vp_in
  rw [nI_clamp hc]
  have := nI_pos hc
  simp [this]
theorem pos0' {a : Nat} (ha : a < 2 ^ 31) : (nI a < nI 0) = False := by rw [ltI' ha (by omega)]; simp
theorem le0' {a : Nat} (ha : a < 2 ^ 31) : (nI 0 ≤ nI a) = True := by rw [leI' (by omega) ha]; simp
theorem n0 : (0 : Int32) = nI 0 := rfl
theorem n1 : (1 : Int32) = nI 1 := rfl
theorem n2 : (2 : Int32) = nI 2 := rfl
theorem n3 : (3 : Int32) = nI 3 := rfl
theorem n4 : (4 : Int32) = nI 4 := rfl
theorem n5 : (5 : Int32) = nI 5 := rfl
theorem n6 : (6 : Int32) = nI 6 := rfl
theorem n7 : (7 : Int32) = nI 7 := rfl
theorem n8 : (8 : Int32) = nI 8 := rfl
theorem n9 : (9 : Int32) = nI 9 := rfl
theorem n10 : (10 : Int32) = nI 10 := rfl
theorem n11 : (11 : Int32) = nI 11 := rfl
theorem n12 : (12 : Int32) = nI 12 := rfl
theorem n13 : (13 : Int32) = nI 13 := rfl
theorem n14 : (14 : Int32) = nI 14 := rfl
theorem n15 : (15 : Int32) = nI 15 := rfl
theorem n16 : (16 : Int32) = nI 16 := rfl
theorem n20 : (20 : Int32) = nI 20 := rfl
theorem n30 : (30 : Int32) = nI 30 := rfl
theorem n48 : (48 : Int32) = nI 48 := rfl
theorem n50 : (50 : Int32) = nI 50 := rfl
theorem n60 : (60 : Int32) = nI 60 := rfl
theorem n80 : (80 : Int32) = nI 80 := rfl
theorem n99 : (99 : Int32) = nI 99 := rfl
theorem n100 : (100 : Int32) = nI 100 := rfl
theorem n120 : (120 : Int32) = nI 120 := rfl
theorem n255 : (255 : Int32) = nI 255 := rfl
theorem n256 : (256 : Int32) = nI 256 := rfl
theorem n1200 : (1200 : Int32) = nI 1200 := rfl
theorem n5040 : (5040 : Int32) = nI 5040 := rfl
theorem sub' {a b : Nat} (h : b ≤ a) : nI a - nI b = nI (a - b) := nI_subN h
theorem adm' {a b : Nat} (h : b ≤ a) : nI a + -nI b = nI (a - b) := by rw [← Int32.sub_eq_add_neg]; exact nI_subN h
theorem ng_toInt {b : Nat} (hb : b < 2 ^ 31) : (-nI b).toInt = -(b : Int) := by
  rw [Int32.toInt_neg, nI_toInt hb]
  exact Int.bmod_eq_of_le (by omega) (by omega)
theorem ngeq' {a b : Nat} (ha : a < 2 ^ 31) (h0 : 0 < b) (hb : b < 2 ^ 31) : (nI a = -nI b) = False := by
  refine eq_false fun h => ?_
  have := congrArg Int32.toInt h
  rw [nI_toInt ha, ng_toInt hb] at this
  omega
theorem ngeq2' {a b : Nat} (ha : a < 2 ^ 31) (h0 : 0 < b) (hb : b < 2 ^ 31) : (-nI b = nI a) = False := by
  refine eq_false fun h => ?_
  have := congrArg Int32.toInt h
  rw [nI_toInt ha, ng_toInt hb] at this
  omega
theorem nglt' {b : Nat} (h0 : 0 < b) (hb : b < 2 ^ 31) : (-nI b < nI 0) = True := by
  refine eq_true (Int32.lt_iff_toInt_lt.mpr ?_)
  rw [ng_toInt hb, nI_toInt (by omega)]
  omega
theorem ngle' {a b : Nat} (ha : a < 2 ^ 31) (hb : b < 2 ^ 31) : (-nI b ≤ nI a) = True := by
  refine eq_true (Int32.le_iff_toInt_le.mpr ?_)
  rw [ng_toInt hb, nI_toInt ha]
  omega
theorem ngle2' {a b : Nat} (ha : a < 2 ^ 31) (h0 : 0 < b) (hb : b < 2 ^ 31) : (nI a ≤ -nI b) = False := by
  refine eq_false fun h => ?_
  have := Int32.le_iff_toInt_le.mp h
  rw [ng_toInt hb, nI_toInt ha] at this
  omega
theorem wi_t {j m : Nat} (h : j < m) (hm : m ≤ 1000000) {post : Int32 → Prop} : fX11_within (nI j) (nI m) post = post (nI 1) := by
  simp only [fX11_within, JN, n0, n1, pos0' (show j < 2 ^ 31 by omega), leI' (show m < 2 ^ 31 by omega) (show j < 2 ^ 31 by omega), show ¬ m ≤ j by omega]
  simp
theorem wi_f {a : Int32} {m : Nat} (h : ¬ iN a m) (hm : m ≤ 1000000) {post : Int32 → Prop} : fX11_within a (nI m) post = post (nI 0) := by
  simp only [fX11_within, JN, n0, n1]
  by_cases c : a < nI 0
  · simp [c]
  · have : nI m ≤ a := by
      refine Classical.byContradiction fun z => h ((in_iff hm).mp ⟨c, z⟩)
    simp [c, this]
theorem ii_t {j m : Nat} (h : j < m) (hm : m ≤ 1000000) {post : Int32 → Prop} : fX12_in (nI j) (nI 0) (nI m - nI 1) post = post (nI 1) := by
  have e := (in_iff' hm).mpr ⟨j, h, rfl⟩
  have e1 : ¬ nI j < nI 0 := e.1
  have e2 : ¬ nI m - nI 1 < nI j := e.2
  simp only [fX12_in, JN, n0, n1]
  simp [e1, e2]
theorem ii_f {a : Int32} {m : Nat} (h : ¬ iN a m) (hm : m ≤ 1000000) {post : Int32 → Prop} : fX12_in a (nI 0) (nI m - nI 1) post = post (nI 0) := by
  simp only [fX12_in, JN, n0, n1]
  by_cases c : a < nI 0
  · simp [c]
  · have : nI m - nI 1 < a := by
      refine Classical.byContradiction fun z => h ((in_iff' hm).mp ⟨c, z⟩)
    simp [c, this]
theorem ix_t {j m : Nat} (h : j ≤ m) (hm : m < 1000000) {post : Int32 → Prop} : fX12_in (nI j) (nI 0) (nI m) post = post (nI 1) := by
  have := ii_t (j := j) (m := m + 1) (by omega) (by omega) (post := post)
  rwa [sub' (by omega)] at this
theorem ix_f {a : Int32} {m : Nat} (h : ¬ iN a (m + 1)) (hm : m < 1000000) {post : Int32 → Prop} : fX12_in a (nI 0) (nI m) post = post (nI 0) := by
  have := ii_f (m := m + 1) h (by omega) (post := post)
  rwa [sub' (by omega)] at this
theorem nI_and (a b : Nat) : nI a &&& nI b = nI (a &&& b) := by
  refine b_ext fun i hi => ?_
  rw [b_and, bt_nI _ hi, bt_nI _ hi, bt_nI _ hi, Nat.testBit_and]
theorem nI_or (a b : Nat) : nI a ||| nI b = nI (a ||| b) := by
  refine b_ext fun i hi => ?_
  rw [b_or, bt_nI _ hi, bt_nI _ hi, bt_nI _ hi, Nat.testBit_or]
/-- the bits of a that b has not -/
def aNot (a b : Nat) : Nat := a ^^^ (a &&& b)
theorem aNot_bit {a b i : Nat} : (aNot a b).testBit i = (a.testBit i && !b.testBit i) := by
  unfold aNot; rw [Nat.testBit_xor, Nat.testBit_and]; cases a.testBit i <;> cases b.testBit i <;> rfl
theorem nI_andN (a b : Nat) : nI a &&& (nI b ^^^ -nI 1) = nI (aNot a b) := by
  refine b_ext fun i hi => ?_
  have e : bt (-nI 1) i = true := b_m1 i hi
  rw [b_and, b_xor, e, bt_nI _ hi, bt_nI _ hi, bt_nI _ hi, aNot_bit]
  cases a.testBit i <;> cases b.testBit i <;> rfl
theorem shl' {n : Nat} (hn : n < 31) : nI 1 <<< (nI n &&& 31) = nI (2 ^ n) := nI_shl1 hn
theorem isIn' {o j : Nat} (ho : o < 31) (hj : j < 2 ^ 31) {post : Int32 → Prop} : fX11_isIn (nI o) (nI j) post = post (bB (j.testBit o)) := by
  have e : (((nI j >>> (nI o &&& 31)) &&& 1) = 0) = (j.testBit o = false) := by
    rw [nI_shr hj ho, show (1 : Int32) = nI 1 from rfl, nI_and, n0, eqI' (Nat.lt_of_le_of_lt Nat.and_le_right (by decide)) (by decide)]
    unfold Nat.testBit
    rw [Nat.and_comm]
    simp
  simp only [fX11_isIn, JN, e]
  cases j.testBit o <;> simp [bB, n0, n1]
theorem has' {o j : Nat} (ho : o < 31) (hj : j < 2 ^ 31) {post : Int32 → Prop} : fX12_has (nI j) (nI o) post = post (bB (j.testBit o)) := by
  have e : (((nI j >>> (nI o &&& 31)) &&& 1) = 1) = (j.testBit o = true) := by
    rw [nI_shr hj ho, show (1 : Int32) = nI 1 from rfl, nI_and, eqI' (Nat.lt_of_le_of_lt Nat.and_le_right (by decide)) (by decide)]
    unfold Nat.testBit
    rw [Nat.and_comm]
    have h2 : 1 &&& j >>> o = 0 ∨ 1 &&& j >>> o = 1 := by
      have : 1 &&& j >>> o ≤ 1 := Nat.and_le_left
      omega
    rcases h2 with h2 | h2 <;> simp [h2]
  simp only [fX12_has, JN, e]
  cases j.testBit o <;> simp [bB, n0, n1]
theorem ltL0' {x y : Int64} : (lg_cmp x y < nI 0) = (x < y) := propext (lg_cmp_lt x y)
theorem geL0' {x y : Int64} : (nI 0 ≤ lg_cmp x y) = (y ≤ x) := propext (lg_cmp_ge x y)
theorem leL0' {x y : Int64} : (lg_cmp x y ≤ nI 0) = (x ≤ y) := propext (lg_cmp_le x y)
theorem gtL0' {x y : Int64} : (nI 0 < lg_cmp x y) = (y < x) := propext (lg_cmp_gt x y)
theorem eqL0' {x y : Int64} : (lg_cmp x y = nI 0) = (x = y) := propext (lg_cmp_eq x y)
theorem bq_t {c A B : Prop} (h : c) (a : A) : (c → A) ∧ (¬ c → B) := ⟨fun _ => a, fun z => absurd h z⟩
theorem bq_f {c A B : Prop} (h : ¬ c) (b : B) : (c → A) ∧ (¬ c → B) := ⟨fun z => absurd z h, fun _ => b⟩
theorem brE {c A B R : Prop} (h1 : c → A = R) (h2 : ¬ c → B = R) : ((c → A) ∧ (¬ c → B)) = R := by
  by_cases h : c
  · rw [← h1 h]; simp [h]
  · rw [← h2 h]; simp [h]
theorem brE' {c A B R : Prop} (h1 : c → A = R) (h2 : ¬ c → B = R) : ((¬ c → B) ∧ (c → A)) = R := by
  by_cases h : c
  · rw [← h1 h]; simp [h]
  · rw [← h2 h]; simp [h]
theorem vpT {c N : Nat} (h : c < N) (hN : N < 2 ^ 31) : vp_in (nI c) N = True := by rw [vpI' (by omega) hN]; exact eq_true h
theorem e10 : (nI 1 = nI 0) = False := by rw [eqI' (by omega) (by omega)]; simp
theorem e01 : (nI 0 = nI 1) = False := by rw [eqI' (by omega) (by omega)]; simp
theorem ltT {a b : Nat} (h : a < b) (hb : b < 2 ^ 31) : (nI a < nI b) = True := by rw [ltI' (by omega) hb]; exact eq_true h
theorem ltF {a b : Nat} (h : b ≤ a) (ha : a < 2 ^ 31) : (nI a < nI b) = False := by rw [ltI' ha (by omega)]; exact eq_false (by omega)
theorem leT {a b : Nat} (h : a ≤ b) (hb : b < 2 ^ 31) : (nI a ≤ nI b) = True := by rw [leI' (by omega) hb]; exact eq_true h
theorem leF {a b : Nat} (h : b < a) (ha : a < 2 ^ 31) : (nI a ≤ nI b) = False := by rw [leI' ha (by omega)]; exact eq_false (by omega)
theorem neF {a b : Nat} (h : a ≠ b) (ha : a < 2 ^ 31) (hb : b < 2 ^ 31) : (nI a = nI b) = False := by rw [eqI' ha hb]; exact eq_false h
/-- a truth as the machine holds it, of any claim -/
noncomputable def bP (p : Prop) : Int32 := @ite _ p (Classical.propDecidable p) (nI 1) (nI 0)
theorem bP_t {p : Prop} (h : p) : bP p = nI 1 := if_pos h
theorem bP_f {p : Prop} (h : ¬ p) : bP p = nI 0 := if_neg h
theorem bP_0 {p : Prop} : (bP p = nI 0) = ¬ p := by
  by_cases h : p
  · rw [bP_t h]; simp [h, e10]
  · rw [bP_f h]; simp [h]
theorem bP_1 {p : Prop} : (bP p = nI 1) = p := by
  by_cases h : p
  · rw [bP_t h]; simp [h]
  · rw [bP_f h]; simp [h, e01]
theorem bP_c {p q : Prop} (h : p ↔ q) : bP p = bP q := by rw [propext h]
theorem bP_l {p : Prop} : nI 0 ≤ bP p := by
  by_cases h : p
  · rw [bP_t h, leT (by omega) (by omega)]; trivial
  · rw [bP_f h, leT (by omega) (by omega)]; trivial
theorem aNot_le {a b : Nat} : aNot a b ≤ a := by
  have : aNot a b = a &&& aNot a b := by
    refine Nat.eq_of_testBit_eq fun i => ?_
    rw [Nat.testBit_and, aNot_bit]
    cases a.testBit i <;> cases b.testBit i <;> rfl
  rw [this]; exact Nat.and_le_left
theorem aNot_0 {a b : Nat} : (aNot a b = 0) = (b &&& a = a) := by
  refine propext ⟨fun h => Nat.eq_of_testBit_eq fun i => ?_, fun h => Nat.eq_of_testBit_eq fun i => ?_⟩
  · have := congrArg (fun x => x.testBit i) h
    simp only [aNot_bit, Nat.zero_testBit] at this
    rw [Nat.testBit_and]
    cases x : a.testBit i <;> cases y : b.testBit i <;> simp_all
  · have := congrArg (fun x => x.testBit i) h
    simp only [Nat.testBit_and] at this
    rw [aNot_bit, Nat.zero_testBit]
    cases x : a.testBit i <;> cases y : b.testBit i <;> simp_all
/-- how many bits are set (of 8) -/
def pc (j : Nat) : Nat := sumN (fun i => if j.testBit i = true then 1 else 0) 8
set_option maxRecDepth 100000 in
theorem bitC' {j : Nat} (h : j < 256) : bitC (nI j) = nI (pc j) := by
  have : ∀ j, j < 256 → bitC (nI j) = nI (pc j) := by decide +kernel
  exact this j h
set_option maxRecDepth 100000 in
theorem pc_low {j : Nat} (h : j < 256) (h0 : j ≠ 0) : (j &&& (j - 1)) < j ∧ pc j = pc (j &&& (j - 1)) + 1 := by
  have : ∀ j, j < 256 → j ≠ 0 → (j &&& (j - 1)) < j ∧ pc j = pc (j &&& (j - 1)) + 1 := by decide +kernel
  exact this j h h0
theorem pc_8 {j : Nat} : pc j ≤ 8 := by
  have h1 : pc j ≤ sumN (fun _ => 1) 8 := sumN_le fun v _ => by split <;> omega
  exact h1
def onB (post : Int32 → Prop) (rec3 : Int32 → Int32 → Prop) (v1 v2 : Int32) : Prop := (v2 = 0 → post v1) ∧ (¬ v2 = 0 → ∀ v6 : Int32, v6 = v1 + 1 → ∀ v8 : Int32, v8 = v2 &&& (v2 - 1) → rec3 v6 v8)
theorem ones' {j : Nat} (h : j < 256) {post : Int32 → Prop} : fX12_ones (nI j) post = post (nI (pc j)) := by
  have H : ∀ N j a, j < 256 → j < N → LP2 (onB post) N (nI a) (nI j) = post (nI (a + pc j)) := by
    intro N
    induction N with
    | zero => intro j a _ h; omega
    | succ N ih =>
      intro j a hj hN
      show ((nI j = 0 → post (nI a)) ∧ (¬ nI j = 0 → ∀ v6 : Int32, v6 = nI a + 1 → ∀ v8 : Int32, v8 = nI j &&& (nI j - 1) → LP2 (onB post) N v6 v8)) = _
      by_cases e : j = 0
      · subst e
        simp [nI_0, show pc 0 = 0 by decide]
      · obtain ⟨p1, p2⟩ := pc_low hj e
        have e1 : ¬ nI j = 0 := nI_ne0 (by omega) (by omega)
        have e2 : nI j &&& (nI j - 1) = nI (j &&& (j - 1)) := by rw [n1, sub' (by omega), nI_and]
        have := ih (j &&& (j - 1)) (a + 1) (by omega) (by omega)
        rw [Nat.add_assoc, Nat.add_comm 1, ← p2] at this
        rw [← this]
        generalize LP2 (onB post) N = F
        simp only [e1, false_implies, not_false_eq_true, true_implies, true_and, forall_eq, e2, nI_1]
  have := H FU j 0 h (FU_big (by omega))
  rw [Nat.zero_add] at this
  rw [← this]; rfl
theorem isTh_t {D : Dy} {n : Nat} (h : D.1 33 0 = nI n) (hn : n ≤ 1000000) {j : Nat} (hj : j < n) {post : Int32 → Prop} : fX12_isThing (nI j) D post = post (nI 1) := by
  unfold fX12_isThing
  rw [h, n0, n1, ii_t hj hn]
  simp
theorem isTh_f {D : Dy} {n : Nat} (h : D.1 33 0 = nI n) (hn : n ≤ 1000000) {a : Int32} (hj : ¬ iN a n) {post : Int32 → Prop} : fX12_isThing a D post = post (nI 0) := by
  unfold fX12_isThing
  rw [h, n0, n1, ii_f hj hn]
  simp
theorem isTk_t {D : Dy} {n : Nat} (h : D.1 33 1 = nI n) (hn : n ≤ 1000000) {j : Nat} (hj : j < n) {post : Int32 → Prop} : fX12_isTaker (nI j) D post = post (nI 1) := by
  unfold fX12_isTaker
  rw [h, n0, n1, ii_t hj hn]
  simp
theorem isTk_f {D : Dy} {n : Nat} (h : D.1 33 1 = nI n) (hn : n ≤ 1000000) {a : Int32} (hj : ¬ iN a n) {post : Int32 → Prop} : fX12_isTaker a D post = post (nI 0) := by
  unfold fX12_isTaker
  rw [h, n0, n1, ii_f hj hn]
  simp
theorem isCh_t {D : Dy} {n : Nat} (h : D.1 33 2 = nI n) (hn : n ≤ 1000000) {j : Nat} (hj : j < n) {post : Int32 → Prop} : fX12_isChoice (nI j) D post = post (nI 1) := by
  unfold fX12_isChoice
  rw [h, n0, n1, ii_t hj hn]
  simp
theorem isCh_f {D : Dy} {n : Nat} (h : D.1 33 2 = nI n) (hn : n ≤ 1000000) {a : Int32} (hj : ¬ iN a n) {post : Int32 → Prop} : fX12_isChoice a D post = post (nI 0) := by
  unfold fX12_isChoice
  rw [h, n0, n1, ii_f hj hn]
  simp
theorem isMo_t {D : Dy} {n : Nat} (h : D.1 33 13 = nI n) (hn : n ≤ 1000000) {j : Nat} (hj : j < n) {post : Int32 → Prop} : fX12_isModel (nI j) D post = post (nI 1) := by
  unfold fX12_isModel
  rw [h, n0, n1, ii_t hj hn]
  simp
theorem isMo_f {D : Dy} {n : Nat} (h : D.1 33 13 = nI n) (hn : n ≤ 1000000) {a : Int32} (hj : ¬ iN a n) {post : Int32 → Prop} : fX12_isModel a D post = post (nI 0) := by
  unfold fX12_isModel
  rw [h, n0, n1, ii_f hj hn]
  simp
theorem lp1_P {A : Type} {b : (A → Prop) → A → Prop} (n : Nat) (f : Nat → A) (V : Nat → Prop) (hn : n < 1000000) (h : ∀ k, k ≤ n → ∀ rec : A → Prop, (k < n → V (k + 1) → rec (f (k + 1))) → V k → b rec (f k)) {x : A} (hx : x = f 0) (h0 : V 0) : LP1 b FU x := by
  subst hx
  have H : ∀ N k, k ≤ n → n - k < N → V k → LP1 b N (f k) := by
    intro N
    induction N with
    | zero => intro k hk h0; omega
    | succ N ih => intro k hk h0 hv; exact h k hk _ (fun hlt hv' => ih (k + 1) hlt (by omega) hv') hv
  exact H FU 0 (Nat.zero_le _) (FU_big (by omega)) h0
theorem lp2_P {A B : Type} {b : (A → B → Prop) → A → B → Prop} (n : Nat) (f : Nat → A) (g : Nat → B) (V : Nat → Prop) (hn : n < 1000000) (h : ∀ k, k ≤ n → ∀ rec : A → B → Prop, (k < n → V (k + 1) → rec (f (k + 1)) (g (k + 1))) → V k → b rec (f k) (g k)) {x : A} {y : B} (hx : x = f 0) (hy : y = g 0) (h0 : V 0) : LP2 b FU x y := by
  subst hx; subst hy
  have H : ∀ N k, k ≤ n → n - k < N → V k → LP2 b N (f k) (g k) := by
    intro N
    induction N with
    | zero => intro k hk h0; omega
    | succ N ih => intro k hk h0 hv; exact h k hk _ (fun hlt hv' => ih (k + 1) hlt (by omega) hv') hv
  exact H FU 0 (Nat.zero_le _) (FU_big (by omega)) h0
theorem lp3_P {A B C : Type} {b : (A → B → C → Prop) → A → B → C → Prop} (n : Nat) (f : Nat → A) (g : Nat → B) (e : Nat → C) (V : Nat → Prop) (hn : n < 1000000) (h : ∀ k, k ≤ n → ∀ rec : A → B → C → Prop, (k < n → V (k + 1) → rec (f (k + 1)) (g (k + 1)) (e (k + 1))) → V k → b rec (f k) (g k) (e k)) {x : A} {y : B} {z : C} (hx : x = f 0) (hy : y = g 0) (hz : z = e 0) (h0 : V 0) : LP3 b FU x y z := by
  subst hx; subst hy; subst hz
  have H : ∀ N k, k ≤ n → n - k < N → V k → LP3 b N (f k) (g k) (e k) := by
    intro N
    induction N with
    | zero => intro k hk h0; omega
    | succ N ih => intro k hk h0 hv; exact h k hk _ (fun hlt hv' => ih (k + 1) hlt (by omega) hv') hv
  exact H FU 0 (Nat.zero_le _) (FU_big (by omega)) h0
theorem lp4_P {A B C E : Type} {b : (A → B → C → E → Prop) → A → B → C → E → Prop} (n : Nat) (f : Nat → A) (g : Nat → B) (e : Nat → C) (d : Nat → E) (V : Nat → Prop) (hn : n < 1000000) (h : ∀ k, k ≤ n → ∀ rec : A → B → C → E → Prop, (k < n → V (k + 1) → rec (f (k + 1)) (g (k + 1)) (e (k + 1)) (d (k + 1))) → V k → b rec (f k) (g k) (e k) (d k)) {x : A} {y : B} {z : C} {w : E} (hx : x = f 0) (hy : y = g 0) (hz : z = e 0) (hw : w = d 0) (h0 : V 0) : LP4 b FU x y z w := by
  subst hx; subst hy; subst hz; subst hw
  have H : ∀ N k, k ≤ n → n - k < N → V k → LP4 b N (f k) (g k) (e k) (d k) := by
    intro N
    induction N with
    | zero => intro k hk h0; omega
    | succ N ih => intro k hk h0 hv; exact h k hk _ (fun hlt hv' => ih (k + 1) hlt (by omega) hv') hv
  exact H FU 0 (Nat.zero_le _) (FU_big (by omega)) h0
theorem lp5_P {A B C E F : Type} {b : (A → B → C → E → F → Prop) → A → B → C → E → F → Prop} (n : Nat) (f : Nat → A) (g : Nat → B) (e : Nat → C) (d : Nat → E) (c : Nat → F) (V : Nat → Prop) (hn : n < 1000000) (h : ∀ k, k ≤ n → ∀ rec : A → B → C → E → F → Prop, (k < n → V (k + 1) → rec (f (k + 1)) (g (k + 1)) (e (k + 1)) (d (k + 1)) (c (k + 1))) → V k → b rec (f k) (g k) (e k) (d k) (c k)) {x : A} {y : B} {z : C} {w : E} {v : F} (hx : x = f 0) (hy : y = g 0) (hz : z = e 0) (hw : w = d 0) (hv : v = c 0) (h0 : V 0) : LP5 b FU x y z w v := by
  subst hx; subst hy; subst hz; subst hw; subst hv
  have H : ∀ N k, k ≤ n → n - k < N → V k → LP5 b N (f k) (g k) (e k) (d k) (c k) := by
    intro N
    induction N with
    | zero => intro k hk h0; omega
    | succ N ih => intro k hk h0 hv; exact h k hk _ (fun hlt hv' => ih (k + 1) hlt (by omega) hv') hv
  exact H FU 0 (Nat.zero_le _) (FU_big (by omega)) h0
theorem JN_p {J : Prop} {b : Prop → Prop} (hJ : J) (h : ∀ K : Prop, K → b K) : JN J b := h J hJ
