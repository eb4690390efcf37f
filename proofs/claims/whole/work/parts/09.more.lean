/-! Math.min and max, System.arraycopy of longs, instanceof over Z; the combinators of the pure programs -/
section ZE
variable {p : Program} {l : Launch} {e : Env} {R : Room} {s : State} {m : MethodId} {args : Array Value} {below : List Frame} {meth : Method} {c : Code} {nL : Nat} {k n : Nat} {Q : State → Prop} {pc : Nat} {lv : List (Nat × Value)} {st : List Value}
variable {G : Gl} {cc : ByteArray} {own : String} {ret : Option FieldType} {A : Nat → Prop} {S S' S0 : Sh} {D D' : Dy} {a N : Nat} {Wp : Heap → List Loc → Prop}
theorem z_mmax (hC : CX G cc own nL ret p s m args meth c) {idx : Nat} (h1 : Cond.methodLink own idx Lib.Math.max.name ∈ TB) (h2 : Cond.static Lib.Math.max.name ∈ TB) (h3 : Cond.initialized "java/lang/Math" ∈ TB) (h4 : Cond.code Lib.Math.max.name Lib.Math.max.code 2 (some .int) ∈ TB) (hR : 1 ≤ R.frames ∧ 30 ≤ R.locals) (hkn : k ≤ R.cells ∧ n ≤ R.slots) (hrm : (st.map fun v => v.category).sum ≤ 8) {x y : Int32} (hd : decode cc pc = .ok (.invokestatic idx, 3))
    (kz : Z p l e R s m args below meth c nL Wp k n Q (pc + 3) lv (.int (if x < y then y else x) :: st)) : Z p l e R s m args below meth c nL Wp k n Q pc lv (.int y :: .int x :: st) := by
  intro H locs hW ls hl
  obtain ⟨hx, hb, hml, hown, hts, hre, hlo, hG⟩ := hC
  exact va_mmax hx hb (by rw [hml]; exact hl.1.symm) hown (hts _ h1) (hts _ h2) (hts _ h3) (hts _ h4) hR.1 (by omega) hkn.1 hkn.2 hd (kz H locs hW ls hl)
theorem z_mmin (hC : CX G cc own nL ret p s m args meth c) {idx : Nat} (h1 : Cond.methodLink own idx Lib.Math.min.name ∈ TB) (h2 : Cond.static Lib.Math.min.name ∈ TB) (h3 : Cond.initialized "java/lang/Math" ∈ TB) (h4 : Cond.code Lib.Math.min.name Lib.Math.min.code 2 (some .int) ∈ TB) (hR : 1 ≤ R.frames ∧ 30 ≤ R.locals) (hkn : k ≤ R.cells ∧ n ≤ R.slots) (hrm : (st.map fun v => v.category).sum ≤ 8) {x y : Int32} (hd : decode cc pc = .ok (.invokestatic idx, 3))
    (kz : Z p l e R s m args below meth c nL Wp k n Q (pc + 3) lv (.int (if y < x then y else x) :: st)) : Z p l e R s m args below meth c nL Wp k n Q pc lv (.int y :: .int x :: st) := by
  intro H locs hW ls hl
  obtain ⟨hx, hb, hml, hown, hts, hre, hlo, hG⟩ := hC
  exact va_mmin hx hb (by rw [hml]; exact hl.1.symm) hown (hts _ h1) (hts _ h2) (hts _ h3) (hts _ h4) hR.1 (by omega) hkn.1 hkn.2 hd (kz H locs hW ls hl)
theorem z_instY (hC : CX G cc own nL ret p s m args meth c) {idx ci : Nat} {C nm : String} {T : u_T} (hci : CF ci C T) (h13 : ci < 13) (hK : S.2.1 a = ci + 1) (hcl : Cond.classLink own idx nm ∈ TB) (hcast : (C, nm) ∈ cyL) (hd : decode cc pc = .ok (.instanceof idx, 3))
    (kz : Z p l e R s m args below meth c nL (WM G s A S D) k n Q (pc + 3) lv (.int 1 :: st)) : Z p l e R s m args below meth c nL (WM G s A S D) k n Q pc lv (.ref (G.1 + a) :: st) := by
  intro H locs hW ls hl
  obtain ⟨hx, hb, hml, hown, hts, hre, hlo, hG⟩ := hC
  exact va_instY hx hb hown (hts _ hcl) (hG.2.2.2.2.2.1 _ hcast) (recv_ok hG hW hci h13 hK) hd (kz H locs hW ls hl)
theorem z_instS (hC : CX G cc own nL ret p s m args meth c) {idx ci : Nat} {C : String} {T : u_T} (hci : CF ci C T) (h13 : ci < 13) (hK : S.2.1 a = ci + 1) (hcl : Cond.classLink own idx C ∈ TB) (hd : decode cc pc = .ok (.instanceof idx, 3))
    (kz : Z p l e R s m args below meth c nL (WM G s A S D) k n Q (pc + 3) lv (.int 1 :: st)) : Z p l e R s m args below meth c nL (WM G s A S D) k n Q pc lv (.ref (G.1 + a) :: st) := by
  intro H locs hW ls hl
  obtain ⟨hx, hb, hml, hown, hts, hre, hlo, hG⟩ := hC
  exact va_instE hx hb hown (hts _ hcl) (recv_ok hG hW hci h13 hK) hd (kz H locs hW ls hl)
theorem z_instN (hC : CX G cc own nL ret p s m args meth c) {idx ci : Nat} {C nm : String} {T : u_T} (hci : CF ci C T) (h13 : ci < 13) (hK : S.2.1 a = ci + 1) (hcl : Cond.classLink own idx nm ∈ TB) (hnc : va_Nc C nm s) (hd : decode cc pc = .ok (.instanceof idx, 3))
    (kz : Z p l e R s m args below meth c nL (WM G s A S D) k n Q (pc + 3) lv (.int 0 :: st)) : Z p l e R s m args below meth c nL (WM G s A S D) k n Q pc lv (.ref (G.1 + a) :: st) := by
  intro H locs hW ls hl
  obtain ⟨hx, hb, hml, hown, hts, hre, hlo, hG⟩ := hC
  exact va_instNo hx hb hown (hts _ hcl) hnc (recv_ok hG hW hci h13 hK) hd (kz H locs hW ls hl)
/-- arraycopy between two rows of longs -/
theorem z_copyl (hC : CX G cc own nL ret p s m args meth c) {idx a0 a1 n0 n1 : Nat} (hlink : Cond.methodLink own idx arraycopyName ∈ TB) (hnat : Cond.native arraycopyName ∈ TB) (hstat : Cond.static arraycopyName ∈ TB) (hini : Cond.initialized "java/lang/System" ∈ TB)
    (hK0 : S.2.1 a0 = 21) (hN0 : S.2.2.1 a0 = n0) (hK1 : S.2.1 a1 = 21) (hN1 : S.2.2.1 a1 = n1) {sp dp j : Int32} (h1 : ¬ sp < 0) (h2 : ¬ dp < 0) (h3 : ¬ j < 0) (h4 : sp.toNatClampNeg + j.toNatClampNeg ≤ n0) (h5 : dp.toNatClampNeg + j.toNatClampNeg ≤ n1) (hR : 1 ≤ R.frames ∧ 60 ≤ R.locals) (hrm : (st.map fun v => v.category).sum ≤ 8) (hd : decode cc pc = .ok (.invokestatic idx, 3))
    (kz : Z p l e R s m args below meth c nL (WM G s A S (sLA D a1 (va_cpy (D.2 a0) (D.2 a1) sp.toNatClampNeg dp.toNatClampNeg j.toNatClampNeg))) k n Q (pc + 3) lv st) : Z p l e R s m args below meth c nL (WM G s A S D) k n Q pc lv (.int j :: .int dp :: .ref (G.1 + a1) :: .int sp :: .ref (G.1 + a0) :: st) := by
  intro H locs hW ls hl
  obtain ⟨hx, hb, hml, hown, hts, hre, hlo, hG⟩ := hC
  have nn : ∀ z : Int32, ¬ z < 0 → z.toInt = (z.toNatClampNeg : Int) := by
    intro z hz
    have hz0 : (0 : Int) ≤ z.toInt := by
      have := Int32.not_lt.mp hz
      simpa using Int32.le_iff_toInt_le.mp this
    show z.toInt = ((z.toInt.toNat : Nat) : Int)
    omega
  intro T hT X
  have hc0 := Wa_arr hW.1 hK0 (by omega)
  have hc1 := Wa_arr hW.1 hK1 (by omega)
  rw [aE_l hK0, hN0] at hc0
  rw [aE_l hK1, hN1] at hc1
  generalize hf : D.2 a0 = f at hc0 kz
  generalize hg : D.2 a1 = g at hc1 kz
  obtain ⟨-, k0, hk0, cm0, hkk0⟩ := ty21 hG n0 (fun j => .long (f j))
  obtain ⟨-, k1, hk1, cm1, hkk1⟩ := ty21 hG n1 (fun j => .long (g j))
  obtain ⟨vm', X', step⟩ := X.arraycopy hx hown (hts _ hlink) (hts _ hnat) (hts _ hstat) (hts _ hini) (src := G.1 + a0) (dst := G.1 + a1) (cs := vp_cell (G.2.2.1 21) (n0, .inr (.inl f))) (cd := vp_cell (G.2.2.1 21) (n1, .inr (.inl g))) (srcPos := sp) (destPos := dp) (n := j) (by rw [hT]; exact hc0) (by rw [hT]; exact hc1)
    (fun _ h => by cases h) (fun _ h => by cases h) (fun h => by cases h) (fun h => by cases h) hk0 hk1 hkk0 hkk1 (by simp [refKind]) h1 h2 h3
    (by rw [nn sp h1, nn j h3]; show ¬ _ > ((arrV _ n0 (fun j => .long (f j))).slots.size : Int); rw [arrV_size]; omega)
    (by rw [nn dp h2, nn j h3]; show ¬ _ > ((arrV _ n1 (fun j => .long (g j))).slots.size : Int); rw [arrV_size]; omega)
    (fun vm₁ _ i hi => by
      have e : (vp_cell (G.2.2.1 21) (n0, .inr (.inl f))).slots.getD (sp.toNatClampNeg + i) .null = .long (f (sp.toNatClampNeg + i)) := by
        show (arrV _ n0 (fun j => .long (f j))).slots.getD _ _ = _
        rw [Array.getD_eq_getD_getElem?, arrV_read _ _ (by omega)]
        rfl
      refine ⟨?_, ?_⟩
      · rw [e]; rfl
      · rw [e]; exact trivial)
    (g := F0 m pc ls (.int j :: .int dp :: .ref (G.1 + a1) :: .int sp :: .ref (G.1 + a0) :: st)) rfl (by rw [hml]; exact hl.1) (rest := st) rfl (by rw [hb]; exact hd) hR.1 (by
      have : nativeFrameWords "java/lang/System" "arraycopy" 5 ≤ 40 := by decide +kernel
      show 2 * 0 + _ + _ ≤ _; omega)
  have e1 : copied (vp_cell (G.2.2.1 21) (n0, .inr (.inl f))) (vp_cell (G.2.2.1 21) (n1, .inr (.inl g))) sp dp j = vp_cell (G.2.2.1 21) (n1, .inr (.inl (va_cpy f g sp.toNatClampNeg dp.toNatClampNeg j.toNatClampNeg))) := va_copied (fun z => .long z) _ _ f g h4
  rw [e1] at X' step
  have hlt : G.1 + a1 < H.size := (Array.getElem?_eq_some_iff.mp hc1).1
  generalize hcl : vp_cell (G.2.2.1 21) (n1, .inr (.inl (va_cpy f g sp.toNatClampNeg dp.toNatClampNeg j.toNatClampNeg))) = cl at X' step
  have hheap : ((T.setVm vm').setCell (G.1 + a1) cl).heap = H.setIfInBounds (G.1 + a1) cl := by rw [← hT]; rfl
  have oq : ∀ q : Nat, q ≠ G.1 + a1 → (H.setIfInBounds (G.1 + a1) cl)[q]? = H[q]? := fun q hq => by simp [Array.getElem?_setIfInBounds, Ne.symm hq]
  have hA1 : A (G.1 + a1) := hW.2.1 _ ⟨a1, rfl, Or.inl (by omega)⟩
  obtain ⟨w1, w2, w3, w4⟩ := Wd_set (H1 := H.setIfInBounds (G.1 + a1) cl) (a := a1) (i := 0) (S' := S) (D' := sLA D a1 (va_cpy f g sp.toNatClampNeg dp.toNatClampNeg j.toNatClampNeg)) hW rfl rfl rfl (fun _ _ => rfl) (fun _ _ => rfl) (fun b hb => by funext i; simp [sLA, hb]) (by omega) (Wa_of_l hK1 (by
      rw [hN1, Array.getElem?_setIfInBounds]
      simp only [if_true, hlt]
      rw [← hcl, vp_cell_l]
      congr 3; funext i; simp [sLA])) (by simp) oq
  obtain ⟨t, a2, b2⟩ := kz _ (locs ++ _) ⟨w1, w2, w3, w4.1, w4.2.1, fun q hq => by
      rcases List.mem_append.mp hq with h | h
      · exact hW.2.2.2.2.2 q h
      · obtain ⟨z, -, hz⟩ := List.mem_map.mp h
        rw [← hz]
        exact hA1⟩ ls hl _ hheap X'
  exact ⟨t, step t a2, b2⟩
end ZE
/-! the pure programs: a body says what must hold for its answer to be as 'post' wants -/
def LP1 {A : Type} (b : (A → Prop) → A → Prop) : Nat → A → Prop
  | 0, _ => False
  | n + 1, x => b (LP1 b n) x
def LP2 {A B : Type} (b : (A → B → Prop) → A → B → Prop) : Nat → A → B → Prop
  | 0, _, _ => False
  | n + 1, x, y => b (LP2 b n) x y
def LP3 {A B C : Type} (b : (A → B → C → Prop) → A → B → C → Prop) : Nat → A → B → C → Prop
  | 0, _, _, _ => False
  | n + 1, x, y, z => b (LP3 b n) x y z
def LP4 {A B C D : Type} (b : (A → B → C → D → Prop) → A → B → C → D → Prop) : Nat → A → B → C → D → Prop
  | 0, _, _, _, _ => False
  | n + 1, x, y, z, w => b (LP4 b n) x y z w
def LP5 {A B C D E : Type} (b : (A → B → C → D → E → Prop) → A → B → C → D → E → Prop) : Nat → A → B → C → D → E → Prop
  | 0, _, _, _, _, _ => False
  | n + 1, x, y, z, w, v => b (LP5 b n) x y z w v
def LP6 {A B C D E F : Type} (b : (A → B → C → D → E → F → Prop) → A → B → C → D → E → F → Prop) : Nat → A → B → C → D → E → F → Prop
  | 0, _, _, _, _, _, _ => False
  | n + 1, x, y, z, w, v, u => b (LP6 b n) x y z w v u
def LP7 {A B C D E F G : Type} (b : (A → B → C → D → E → F → G → Prop) → A → B → C → D → E → F → G → Prop) : Nat → A → B → C → D → E → F → G → Prop
  | 0, _, _, _, _, _, _, _ => False
  | n + 1, x, y, z, w, v, u, t => b (LP7 b n) x y z w v u t
/-- a place where ways meet -/
def JN {τ : Type} (J : τ) (b : τ → Prop) : Prop := b J
theorem JN_use {τ : Type} {J : τ} {b : τ → Prop} (E : JN J b) (P : τ → Prop) (hJ : P J) : ∃ K : τ, P K ∧ b K := ⟨J, hJ, E⟩
theorem LP1_use {A : Type} {b : (A → Prop) → A → Prop} (P : A → Prop) (h : ∀ rec, (∀ x, rec x → P x) → ∀ x, b rec x → P x) : ∀ n x, LP1 b n x → P x
  | 0, _, h0 => h0.elim
  | n + 1, x, E => h _ (LP1_use P h n) x E
theorem LP2_use {A B : Type} {b : (A → B → Prop) → A → B → Prop} (P : A → B → Prop) (h : ∀ rec, (∀ x y, rec x y → P x y) → ∀ x y, b rec x y → P x y) : ∀ n x y, LP2 b n x y → P x y
  | 0, _, _, h0 => h0.elim
  | n + 1, x, y, E => h _ (LP2_use P h n) x y E
theorem LP3_use {A B C : Type} {b : (A → B → C → Prop) → A → B → C → Prop} (P : A → B → C → Prop) (h : ∀ rec, (∀ x y z, rec x y z → P x y z) → ∀ x y z, b rec x y z → P x y z) : ∀ n x y z, LP3 b n x y z → P x y z
  | 0, _, _, _, h0 => h0.elim
  | n + 1, x, y, z, E => h _ (LP3_use P h n) x y z E
theorem LP4_use {A B C D : Type} {b : (A → B → C → D → Prop) → A → B → C → D → Prop} (P : A → B → C → D → Prop) (h : ∀ rec, (∀ x y z w, rec x y z w → P x y z w) → ∀ x y z w, b rec x y z w → P x y z w) : ∀ n x y z w, LP4 b n x y z w → P x y z w
  | 0, _, _, _, _, h0 => h0.elim
  | n + 1, x, y, z, w, E => h _ (LP4_use P h n) x y z w E
theorem LP5_use {A B C D E : Type} {b : (A → B → C → D → E → Prop) → A → B → C → D → E → Prop} (P : A → B → C → D → E → Prop) (h : ∀ rec, (∀ x y z w v, rec x y z w v → P x y z w v) → ∀ x y z w v, b rec x y z w v → P x y z w v) : ∀ n x y z w v, LP5 b n x y z w v → P x y z w v
  | 0, _, _, _, _, _, h0 => h0.elim
  | n + 1, x, y, z, w, v, E => h _ (LP5_use P h n) x y z w v E
theorem LP6_use {A B C D E F : Type} {b : (A → B → C → D → E → F → Prop) → A → B → C → D → E → F → Prop} (P : A → B → C → D → E → F → Prop) (h : ∀ rec, (∀ x y z w v u, rec x y z w v u → P x y z w v u) → ∀ x y z w v u, b rec x y z w v u → P x y z w v u) : ∀ n x y z w v u, LP6 b n x y z w v u → P x y z w v u
  | 0, _, _, _, _, _, _, h0 => h0.elim
  | n + 1, x, y, z, w, v, u, E => h _ (LP6_use P h n) x y z w v u E
theorem LP7_use {A B C D E F G : Type} {b : (A → B → C → D → E → F → G → Prop) → A → B → C → D → E → F → G → Prop} (P : A → B → C → D → E → F → G → Prop) (h : ∀ rec, (∀ x y z w v u t, rec x y z w v u t → P x y z w v u t) → ∀ x y z w v u t, b rec x y z w v u t → P x y z w v u t) : ∀ n x y z w v u t, LP7 b n x y z w v u t → P x y z w v u t
  | 0, _, _, _, _, _, _, _, h0 => h0.elim
  | n + 1, x, y, z, w, v, u, t, E => h _ (LP7_use P h n) x y z w v u t E
/-- more than the turns of any loop -/
def FU : Nat := 100000000
