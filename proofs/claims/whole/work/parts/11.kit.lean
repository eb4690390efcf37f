/-! what the generated walks stand on -/
abbrev ZM (l : Launch) (G : Gl) (p : Program) (e : Env) (s : State) (m : MethodId) (args : Array Value) (below : List Frame) (meth : Method) (c : Code) (nL h : Nat) (S0 : Sh) (P : Option Value → Sh → Dy → Prop) (S : Sh) (D : Dy) (pc : Nat) (lv : List (Nat × Value)) (st : List Value) : Prop :=
  Z p l e (rmH h 0 0) s m args below meth c nL (WM G s (AS G S0) S D) 0 0 (MQ below (QcP G S0 P) args s 0 0 (AS G S0)) pc lv st
def PI (S : Sh) (post : Int32 → Dy → Prop) : Option Value → Sh → Dy → Prop := fun v S' D' => ∃ r, v = some (.int r) ∧ S = S' ∧ post r D'
def PIr (S : Sh) (D : Dy) (post : Int32 → Prop) : Option Value → Sh → Dy → Prop := fun v S' D' => ∃ r, v = some (.int r) ∧ S = S' ∧ D = D' ∧ post r
def PL (S : Sh) (post : Int64 → Dy → Prop) : Option Value → Sh → Dy → Prop := fun v S' D' => ∃ r, v = some (.long r) ∧ S = S' ∧ post r D'
def PLr (S : Sh) (D : Dy) (post : Int64 → Prop) : Option Value → Sh → Dy → Prop := fun v S' D' => ∃ r, v = some (.long r) ∧ S = S' ∧ D = D' ∧ post r
def PV (S : Sh) (post : Dy → Prop) : Option Value → Sh → Dy → Prop := fun v S' D' => v = none ∧ S = S' ∧ post D'
def PVr (S : Sh) (D : Dy) (post : Prop) : Option Value → Sh → Dy → Prop := fun v S' D' => v = none ∧ S = S' ∧ D = D' ∧ post
def mcls (kd : Nat) : Nat := match kd with
  | 0 => 4
  | 1 => 7
  | 2 => 5
  | 3 => 3
  | 4 => 2
  | _ => 8
/-- a Text and its rows, from t on -/
def FT (S : Sh) (t : Nat) : Prop := S.2.1 t = 10 ∧ (∀ j, 1 ≤ j → j < 9 → S.2.1 (t + j) = 20 ∧ S.2.2.1 (t + j) = [0, 6, 8, 3, 3, 10, 10, 16, 120].getD j 0) ∧ S.2.2.2 t 0 = some 12 ∧ S.2.2.2 t 4 = some (t + 1) ∧ S.2.2.2 t 5 = some (t + 2) ∧ S.2.2.2 t 9 = some (t + 3) ∧ S.2.2.2 t 10 = some (t + 4) ∧ S.2.2.2 t 13 = some (t + 5) ∧ S.2.2.2 t 14 = some (t + 6) ∧ S.2.2.2 t 16 = some (t + 7) ∧ S.2.2.2 t 11 = some (t + 8)
/-- a model of kind kd, behind its Text -/
def FMo (S : Sh) (t kd : Nat) : Prop := FT S t ∧ kd < 6 ∧ S.2.1 (t + 9) = mcls kd + 1 ∧ (S.2.1 (t + 10) = 20 ∧ S.2.2.1 (t + 10) = 24) ∧ (S.2.1 (t + 11) = 21 ∧ S.2.2.1 (t + 11) = 8) ∧ (S.2.1 (t + 12) = 21 ∧ S.2.2.1 (t + 12) = 8) ∧ S.2.2.2 (t + 9) 2 = some t ∧ S.2.2.2 (t + 9) 3 = some (t + 10) ∧ S.2.2.2 (t + 9) 4 = some (t + 11) ∧ S.2.2.2 (t + 9) 5 = some (t + 12) ∧ (kd = 2 → (S.2.1 (t + 13) = 20 ∧ S.2.2.1 (t + 13) = 4) ∧ (S.2.1 (t + 14) = 20 ∧ S.2.2.1 (t + 14) = 4) ∧ S.2.2.2 (t + 9) 6 = some (t + 13) ∧ S.2.2.2 (t + 9) 7 = some (t + 14))
theorem FMo.ft {S : Sh} {t kd : Nat} (h : FMo S t kd) : FT S t := h.1
theorem FMo.kd {S : Sh} {t kd : Nat} (h : FMo S t kd) : kd < 6 := h.2.1
theorem kO {S : Sh} {t kd : Nat} (h : FMo S t kd) : S.2.1 (t + 9) = mcls kd + 1 := h.2.2.1
theorem kO_10 {S : Sh} {t kd : Nat} (h : FMo S t kd) : S.2.1 (t + 10) = 20 := h.2.2.2.1.1
theorem nO_10 {S : Sh} {t kd : Nat} (h : FMo S t kd) : S.2.2.1 (t + 10) = 24 := h.2.2.2.1.2
theorem kO_11 {S : Sh} {t kd : Nat} (h : FMo S t kd) : S.2.1 (t + 11) = 21 := h.2.2.2.2.1.1
theorem nO_11 {S : Sh} {t kd : Nat} (h : FMo S t kd) : S.2.2.1 (t + 11) = 8 := h.2.2.2.2.1.2
theorem kO_12 {S : Sh} {t kd : Nat} (h : FMo S t kd) : S.2.1 (t + 12) = 21 := h.2.2.2.2.2.1.1
theorem nO_12 {S : Sh} {t kd : Nat} (h : FMo S t kd) : S.2.2.1 (t + 12) = 8 := h.2.2.2.2.2.1.2
theorem kO_13 {S : Sh} {t : Nat} (h : FMo S t 2) : S.2.1 (t + 13) = 20 := (h.2.2.2.2.2.2.2.2.2.2 rfl).1.1
theorem nO_13 {S : Sh} {t : Nat} (h : FMo S t 2) : S.2.2.1 (t + 13) = 4 := (h.2.2.2.2.2.2.2.2.2.2 rfl).1.2
theorem kO_14 {S : Sh} {t : Nat} (h : FMo S t 2) : S.2.1 (t + 14) = 20 := (h.2.2.2.2.2.2.2.2.2.2 rfl).2.1.1
theorem nO_14 {S : Sh} {t : Nat} (h : FMo S t 2) : S.2.2.1 (t + 14) = 4 := (h.2.2.2.2.2.2.2.2.2.2 rfl).2.1.2
theorem kT_0 {S : Sh} {t : Nat} (h : FT S t) : S.2.1 t = 10 := h.1
theorem kT_1 {S : Sh} {t : Nat} (h : FT S t) : S.2.1 (t + 1) = 20 := (h.2.1 1 (by decide) (by decide)).1
theorem kT_2 {S : Sh} {t : Nat} (h : FT S t) : S.2.1 (t + 2) = 20 := (h.2.1 2 (by decide) (by decide)).1
theorem kT_3 {S : Sh} {t : Nat} (h : FT S t) : S.2.1 (t + 3) = 20 := (h.2.1 3 (by decide) (by decide)).1
theorem kT_4 {S : Sh} {t : Nat} (h : FT S t) : S.2.1 (t + 4) = 20 := (h.2.1 4 (by decide) (by decide)).1
theorem kT_5 {S : Sh} {t : Nat} (h : FT S t) : S.2.1 (t + 5) = 20 := (h.2.1 5 (by decide) (by decide)).1
theorem kT_6 {S : Sh} {t : Nat} (h : FT S t) : S.2.1 (t + 6) = 20 := (h.2.1 6 (by decide) (by decide)).1
theorem kT_7 {S : Sh} {t : Nat} (h : FT S t) : S.2.1 (t + 7) = 20 := (h.2.1 7 (by decide) (by decide)).1
theorem kT_8 {S : Sh} {t : Nat} (h : FT S t) : S.2.1 (t + 8) = 20 := (h.2.1 8 (by decide) (by decide)).1
theorem nT_1 {S : Sh} {t : Nat} (h : FT S t) : S.2.2.1 (t + 1) = 6 := (h.2.1 1 (by decide) (by decide)).2
theorem nT_2 {S : Sh} {t : Nat} (h : FT S t) : S.2.2.1 (t + 2) = 8 := (h.2.1 2 (by decide) (by decide)).2
theorem nT_3 {S : Sh} {t : Nat} (h : FT S t) : S.2.2.1 (t + 3) = 3 := (h.2.1 3 (by decide) (by decide)).2
theorem nT_4 {S : Sh} {t : Nat} (h : FT S t) : S.2.2.1 (t + 4) = 3 := (h.2.1 4 (by decide) (by decide)).2
theorem nT_5 {S : Sh} {t : Nat} (h : FT S t) : S.2.2.1 (t + 5) = 10 := (h.2.1 5 (by decide) (by decide)).2
theorem nT_6 {S : Sh} {t : Nat} (h : FT S t) : S.2.2.1 (t + 6) = 10 := (h.2.1 6 (by decide) (by decide)).2
theorem nT_7 {S : Sh} {t : Nat} (h : FT S t) : S.2.2.1 (t + 7) = 16 := (h.2.1 7 (by decide) (by decide)).2
theorem nT_8 {S : Sh} {t : Nat} (h : FT S t) : S.2.2.1 (t + 8) = 120 := (h.2.1 8 (by decide) (by decide)).2
theorem rT_0 {S : Sh} {t : Nat} (h : FT S t) : S.2.2.2 t 0 = some 12 := h.2.2.1
theorem rT_4 {S : Sh} {t : Nat} (h : FT S t) : S.2.2.2 t 4 = some (t + 1) := h.2.2.2.1
theorem rT_5 {S : Sh} {t : Nat} (h : FT S t) : S.2.2.2 t 5 = some (t + 2) := h.2.2.2.2.1
theorem rT_9 {S : Sh} {t : Nat} (h : FT S t) : S.2.2.2 t 9 = some (t + 3) := h.2.2.2.2.2.1
theorem rT_10 {S : Sh} {t : Nat} (h : FT S t) : S.2.2.2 t 10 = some (t + 4) := h.2.2.2.2.2.2.1
theorem rT_13 {S : Sh} {t : Nat} (h : FT S t) : S.2.2.2 t 13 = some (t + 5) := h.2.2.2.2.2.2.2.1
theorem rT_14 {S : Sh} {t : Nat} (h : FT S t) : S.2.2.2 t 14 = some (t + 6) := h.2.2.2.2.2.2.2.2.1
theorem rT_16 {S : Sh} {t : Nat} (h : FT S t) : S.2.2.2 t 16 = some (t + 7) := h.2.2.2.2.2.2.2.2.2.1
theorem rT_11 {S : Sh} {t : Nat} (h : FT S t) : S.2.2.2 t 11 = some (t + 8) := h.2.2.2.2.2.2.2.2.2.2
/-- a reference to a model, or none -/
def mq (G : Gl) (r : Option (Nat × Nat)) : Option Nat := r.map (fun q => G.1 + (q.1 + 9))
def PQr (G : Gl) (S : Sh) (D : Dy) (post : Option (Nat × Nat) → Prop) : Option Value → Sh → Dy → Prop := fun v S' D' => ∃ r, v = some (va_rf (mq G r)) ∧ S = S' ∧ D = D' ∧ (∀ t kd, r = some (t, kd) → FMo S t kd) ∧ post r
def PSr (G : Gl) (S : Sh) (D : Dy) (post : Nat → Prop) : Option Value → Sh → Dy → Prop := fun v S' D' => ∃ r, v = some (.ref (G.2.2.2.1 r)) ∧ S = S' ∧ D = D' ∧ r < 7 ∧ post r
theorem fV_int {B : Nat} {S : Sh} {D : Dy} {c a k : Nat} (h : fty c k = .int) : fV B S D c a k = .int (D.1 a k) := by unfold fV; rw [h]
theorem fV_long {B : Nat} {S : Sh} {D : Dy} {c a k : Nat} (h : fty c k = .long) : fV B S D c a k = .long (D.2 a k) := by unfold fV; rw [h]
def isRf (t : FieldType) : Bool := match t with
  | .int => false
  | .long => false
  | _ => true
theorem fV_ref {B : Nat} {S : Sh} {D : Dy} {c a k b : Nat} (h : isRf (fty c k) = true) (hr : S.2.2.2 a k = some b) : fV B S D c a k = .ref (B + b) := by
  unfold fV
  rw [hr]
  cases hq : fty c k <;> rw [hq] at h <;> first | rfl | cases h
theorem sw_ne {x v : Int32} {i : Int} (h : ¬ x = v) (hv : v.toInt = i) : x.toInt ≠ i := fun q => h (Int32.toInt_inj.mp (q.trans hv.symm))
theorem vp_lt {i : Int32} {n : Nat} (h : vp_in i n) : i.toNatClampNeg < n := Nat.not_le.mp fun q => h (Or.inr q)
section ZK
variable {p : Program} {l : Launch} {e : Env} {R : Room} {s : State} {m : MethodId} {args : Array Value} {below : List Frame} {meth : Method} {c : Code} {nL : Nat} {k n : Nat} {Q : State → Prop} {pc : Nat} {lv : List (Nat × Value)} {st : List Value}
variable {G : Gl} {cc : ByteArray} {own : String} {ret : Option FieldType} {A : Nat → Prop} {S S' S0 : Sh} {D D' : Dy} {a N : Nat} {Wp : Heap → List Loc → Prop}
theorem z_topD (kz : ∀ D', D' = D → Z p l e R s m args below meth c nL (WM G s A S D') k n Q pc lv st) : Z p l e R s m args below meth c nL (WM G s A S D) k n Q pc lv st := kz D rfl
theorem ck_mk {idx : Nat} {y : MethodName} {b : ByteArray} {nLy : Nat} {rt : Option FieldType} {h na : Nat} (h1 : Cond.methodLink own idx y ∈ TB) (h2 : Cond.initialized y.cls ∈ TB) (h3 : Cond.code y b nLy rt ∈ TB) (h4 : y.cls ≠ "java/lang/invoke/MethodHandle" ∧ y.cls ≠ "java/lang/invoke/VarHandle" ∧ (parseMethodDescriptor y.desc).map (fun d => d.parameters.length) = some na) (h5 : h + 1 ≤ R.frames) (h6 : 8 + (nLy + 11) + 60 * h ≤ R.locals) : CK R own idx y b nLy rt h na := ⟨h1, h2, h3, h4, h5, h6⟩
theorem z_ifnullM (hC : CX G cc own nL ret p s m args meth c) {r : Option (Nat × Nat)} (hr : ∀ t kd, r = some (t, kd) → FMo S t kd) {off : Int} {tgt : Nat} (hd : decode cc pc = .ok (.ifnull off, 3)) (ht : (pc : Int) + off = (tgt : Int)) (kt : r = none → Z p l e R s m args below meth c nL Wp k n Q tgt lv st) (kf : ∀ t kd, FMo S t kd → r = some (t, kd) → Z p l e R s m args below meth c nL Wp k n Q (pc + 3) lv st) : Z p l e R s m args below meth c nL Wp k n Q pc lv (va_rf (mq G r) :: st) := by
  refine z_ifnull hC hd ht (fun h => ?_) (fun x h => ?_)
  · cases r with
    | none => exact kt rfl
    | some q => cases h
  · cases r with
    | none => cases h
    | some q => exact kf q.1 q.2 (hr _ _ rfl) rfl
theorem z_ifnonnullM (hC : CX G cc own nL ret p s m args meth c) {r : Option (Nat × Nat)} (hr : ∀ t kd, r = some (t, kd) → FMo S t kd) {off : Int} {tgt : Nat} (hd : decode cc pc = .ok (.ifnonnull off, 3)) (ht : (pc : Int) + off = (tgt : Int)) (kt : ∀ t kd, FMo S t kd → r = some (t, kd) → Z p l e R s m args below meth c nL Wp k n Q tgt lv st) (kf : r = none → Z p l e R s m args below meth c nL Wp k n Q (pc + 3) lv st) : Z p l e R s m args below meth c nL Wp k n Q pc lv (va_rf (mq G r) :: st) := by
  refine z_ifnonnull hC hd ht (fun x h => ?_) (fun h => ?_)
  · cases r with
    | none => cases h
    | some q => exact kt q.1 q.2 (hr _ _ rfl) rfl
  · cases r with
    | none => exact kf rfl
    | some q => cases h
theorem z_aretQ {C : String} (hC : CX G cc own nL (some (.object C)) p s m args meth c) {r : Option (Nat × Nat)} {post : Option (Nat × Nat) → Prop} (hr : ∀ t kd, r = some (t, kd) → FMo S t kd) (hd : decode cc pc = .ok (.areturn, 1)) (E : post r) : Z p l e R s m args below meth c nL (WM G s (AS G S0) S D) 0 0 (MQ below (QcP G S0 (PQr G S D post)) args s 0 0 (AS G S0)) pc lv [va_rf (mq G r)] :=
  z_aret hC hd (Nat.le_refl _) (Nat.le_refl _) ⟨r, rfl, rfl, rfl, hr, E⟩
theorem z_aretS {C : String} (hC : CX G cc own nL (some (.object C)) p s m args meth c) {i : Nat} {post : Nat → Prop} (hd : decode cc pc = .ok (.areturn, 1)) (hi : i < 7) (E : post i) : Z p l e R s m args below meth c nL (WM G s (AS G S0) S D) 0 0 (MQ below (QcP G S0 (PSr G S D post)) args s 0 0 (AS G S0)) pc lv [.ref (G.2.2.2.1 i)] :=
  z_aret (r := some (G.2.2.2.1 i)) hC hd (Nat.le_refl _) (Nat.le_refl _) ⟨i, rfl, rfl, rfl, hi, E⟩
theorem z_ldcS (i : Nat) (hi : i < 7) {idx : Nat} (hx : wIdx i = idx) (hC : CX G cc "WhyChosen$Text" nL ret p s m args meth c) (hd : decode cc pc = .ok (.ldc idx, 2)) (kz : Z p l e R s m args below meth c nL Wp k n Q (pc + 2) lv (.ref (G.2.2.2.1 i) :: st)) : Z p l e R s m args below meth c nL Wp k n Q pc lv st := by
  intro H locs hW ls hl
  obtain ⟨hxx, hb, hml, hown, hts, hre, hlo, hG⟩ := hC
  have h := hG.2.2.1 i hi
  rw [hx] at h
  exact va_ldcS hxx hb hown h hd (kz H locs hW ls hl)
end ZK
