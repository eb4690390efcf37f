/-! THE PURE LAYER: intro rules -/
theorem lp1_in {A : Type} {b : (A → Prop) → A → Prop} (P : Nat → A → Prop) (h : ∀ k x, P k x → ∀ rec : A → Prop, (∀ j y, j < k → P j y → rec y) → b rec x) : ∀ (N k : Nat) (x : A), k < N → P k x → LP1 b N x := by
  intro N
  induction N with
  | zero => intro k x hk; exact absurd hk (by omega)
  | succ N ih => intro k x hk hP; exact h k x hP _ fun j y hj hq => ih j y (by omega) hq
theorem lp2_in {A B : Type} {b : (A → B → Prop) → A → B → Prop} (P : Nat → A → B → Prop) (h : ∀ k x y, P k x y → ∀ rec : A → B → Prop, (∀ j x' y', j < k → P j x' y' → rec x' y') → b rec x y) : ∀ (N k : Nat) (x : A) (y : B), k < N → P k x y → LP2 b N x y := by
  intro N
  induction N with
  | zero => intro k x y hk; exact absurd hk (by omega)
  | succ N ih => intro k x y hk hP; exact h k x y hP _ fun j x' y' hj hq => ih j x' y' (by omega) hq
theorem lp3_in {A B C : Type} {b : (A → B → C → Prop) → A → B → C → Prop} (P : Nat → A → B → C → Prop) (h : ∀ k x y z, P k x y z → ∀ rec : A → B → C → Prop, (∀ j x' y' z', j < k → P j x' y' z' → rec x' y' z') → b rec x y z) : ∀ (N k : Nat) (x : A) (y : B) (z : C), k < N → P k x y z → LP3 b N x y z := by
  intro N
  induction N with
  | zero => intro k x y z hk; exact absurd hk (by omega)
  | succ N ih => intro k x y z hk hP; exact h k x y z hP _ fun j x' y' z' hj hq => ih j x' y' z' (by omega) hq
theorem lp4_in {A B C E : Type} {b : (A → B → C → E → Prop) → A → B → C → E → Prop} (P : Nat → A → B → C → E → Prop) (h : ∀ k x y z w, P k x y z w → ∀ rec : A → B → C → E → Prop, (∀ j x' y' z' w', j < k → P j x' y' z' w' → rec x' y' z' w') → b rec x y z w) : ∀ (N k : Nat) (x : A) (y : B) (z : C) (w : E), k < N → P k x y z w → LP4 b N x y z w := by
  intro N
  induction N with
  | zero => intro k x y z w hk; exact absurd hk (by omega)
  | succ N ih => intro k x y z w hk hP; exact h k x y z w hP _ fun j x' y' z' w' hj hq => ih j x' y' z' w' (by omega) hq
theorem FU_big {k : Nat} (h : k < 100000000) : k < FU := h
/-- a truth as the machine holds it -/
def bI (p : Prop) [Decidable p] : Int32 := if p then 1 else 0
theorem bI_t {p : Prop} [Decidable p] (h : p) : bI p = 1 := if_pos h
theorem bI_f {p : Prop} [Decidable p] (h : ¬ p) : bI p = 0 := if_neg h
theorem bI_01 {p : Prop} [Decidable p] : bI p = 0 ∨ bI p = 1 := by unfold bI; split <;> simp
theorem bI_0 {p : Prop} [Decidable p] : bI p = 0 ↔ ¬ p := by unfold bI; split <;> simp_all
theorem bI_1 {p : Prop} [Decidable p] : ¬ bI p = 0 ↔ p := by unfold bI; split <;> simp_all
theorem s_within {a b : Int32} {post : Int32 → Prop} (h : post (bI (¬ a < 0 ∧ ¬ b ≤ a))) : fX11_within a b post := by
  simp only [fX11_within, JN]
  refine ⟨fun h1 => ?_, fun h1 => ⟨fun h2 => ?_, fun h2 => ?_⟩⟩
  · rwa [bI_f (by simp [h1])] at h
  · rwa [bI_f (by simp [h2])] at h
  · rwa [bI_t ⟨h1, h2⟩] at h
theorem s_in {a b c : Int32} {post : Int32 → Prop} (h : post (bI (¬ a < b ∧ ¬ c < a))) : fX12_in a b c post := by
  simp only [fX12_in, JN]
  refine ⟨fun h1 => ?_, fun h1 => ⟨fun h2 => ?_, fun h2 => ?_⟩⟩
  · rwa [bI_f (by simp [h1])] at h
  · rwa [bI_f (by simp [h2])] at h
  · rwa [bI_t ⟨h1, h2⟩] at h
theorem s_has {a : Int32} {D : Dy} {post : Int32 → Prop} (h : post (bI (¬ a < 0 ∧ ¬ D.1 1 3 ≤ a))) : fX1_has a D post := by
  unfold fX1_has; exact s_within ⟨bI_01, h⟩
theorem s_isThing {a : Int32} {D : Dy} {post : Int32 → Prop} (h : post (bI (¬ a < 0 ∧ ¬ D.1 33 0 - 1 < a))) : fX12_isThing a D post := by
  unfold fX12_isThing; exact s_in ⟨bI_01, h⟩
theorem s_isTaker {a : Int32} {D : Dy} {post : Int32 → Prop} (h : post (bI (¬ a < 0 ∧ ¬ D.1 33 1 - 1 < a))) : fX12_isTaker a D post := by
  unfold fX12_isTaker; exact s_in ⟨bI_01, h⟩
theorem s_isChoice {a : Int32} {D : Dy} {post : Int32 → Prop} (h : post (bI (¬ a < 0 ∧ ¬ D.1 33 2 - 1 < a))) : fX12_isChoice a D post := by
  unfold fX12_isChoice; exact s_in ⟨bI_01, h⟩
