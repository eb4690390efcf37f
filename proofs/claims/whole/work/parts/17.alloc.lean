/-! new cells, with the world after them named; stores of references in constructors; rows of rows -/
theorem mc_outer (c : ClassId) (N h0 : Nat) : ∀ i : Nat, Jvm.Free.Multi.outerC c N h0 i = arrV c N (fun j => va_rf (if j < i then some (h0 + 1 + j) else none))
  | 0 => by
    show ({ cls := c, slots := Array.replicate N .null, vm := .none } : Cell) = _
    rw [arrV_new]
    refine congrArg (arrV c N) (funext fun j => ?_)
    simp [va_rf]
  | i + 1 => by
    show (Jvm.Free.Multi.outerC c N h0 i).setSlot i (.ref (h0 + 1 + i)) = _
    rw [mc_outer c N h0 i, arrV_store]
    refine congrArg (arrV c N) (funext fun j => ?_)
    by_cases e : j = i
    · subst e
      simp [updV, va_rf]
    · by_cases h : j < i
      · simp [updV, e, h, Nat.lt_succ_of_lt h]
      · simp [updV, e, h, show ¬ j < i + 1 by omega]
/-- N rows of K longs behind their outer row -/
def sM (S : Sh) (N K : Nat) : Sh := (S.1 + 1 + N, fun a => if a = S.1 then 24 else if S.1 < a ∧ a ≤ S.1 + N then 21 else S.2.1 a, fun a => if a = S.1 then N else if S.1 < a ∧ a ≤ S.1 + N then K else S.2.2.1 a, fun a j => if a = S.1 then (if j < N then some (S.1 + 1 + j) else none) else if S.1 < a ∧ a ≤ S.1 + N then none else S.2.2.2 a j)
def dM (D : Dy) (a N : Nat) : Dy := (fun b j => if a ≤ b ∧ b ≤ a + N then 0 else D.1 b j, fun b j => if a ≤ b ∧ b ≤ a + N then 0 else D.2 b j)
/-- the S and the count of new cells and slots are told, too -/
abbrev ZMA (l : Launch) (G : Gl) (p : Program) (e : Env) (s : State) (m : MethodId) (args : Array Value) (below : List Frame) (meth : Method) (c : Code) (nL h mc ms k n : Nat) (S0 : Sh) (P : Option Value → Sh → Dy → Prop) (S : Sh) (D : Dy) (pc : Nat) (lv : List (Nat × Value)) (st : List Value) : Prop :=
  Z p l e (rmH h mc ms) s m args below meth c nL (WM G s (AS G S0) S D) k n (MQ below (QcP G S0 P) args s mc ms (AS G S0)) pc lv st
def PVs (post : Sh → Dy → Prop) : Option Value → Sh → Dy → Prop := fun v S' D' => v = none ∧ post S' D'
def PIs (post : Int32 → Sh → Dy → Prop) : Option Value → Sh → Dy → Prop := fun v S' D' => ∃ r, v = some (.int r) ∧ post r S' D'
def PRs (G : Gl) (o : Nat) (post : Sh → Dy → Prop) : Option Value → Sh → Dy → Prop := fun v S' D' => v = some (.ref (G.1 + o)) ∧ post S' D'
section ZA
variable {p : Program} {l : Launch} {e : Env} {R : Room} {s : State} {m : MethodId} {args : Array Value} {below : List Frame} {meth : Method} {c : Code} {nL : Nat} {k n : Nat} {Q : State → Prop} {pc : Nat} {lv : List (Nat × Value)} {st : List Value}
variable {G : Gl} {cc : ByteArray} {own : String} {ret : Option FieldType} {A : Nat → Prop} {S S' S0 : Sh} {D D' : Dy} {a N : Nat}
theorem z_newQ (hC : CX G cc own nL ret p s m args meth c) {idx ci : Nat} {C : String} {T : u_T} (hci : CF ci C T) (h13 : ci < 13) (hcl : Cond.classLink own idx C ∈ TB) (ha : S.1 = a) (hcells : k + 1 ≤ R.cells) (hslots : n + nF ci ≤ R.slots) (hd : decode cc pc = .ok (.new idx, 3))
    (kz : ∀ S', S' = sN S (ci + 1) 0 → ∀ D', D' = dN D a → Z p l e R s m args below meth c nL (WM G s A S' D') (k + 1) (n + nF ci) Q (pc + 3) lv (.ref (G.1 + a) :: st)) : Z p l e R s m args below meth c nL (WM G s A S D) k n Q pc lv st := by
  subst ha; exact z_new hC hci h13 hcl hcells hslots hd (kz _ rfl _ rfl)
theorem z_newaQ (hC : CX G cc own nL ret p s m args meth c) {at_ : ArrayType} {ty : FieldType} {t : Nat} (hty : newarray.typeOf at_ = ty) (hcase : (ty = .int ∧ t = 20) ∨ (ty = .long ∧ t = 21) ∨ (ty = .boolean ∧ t = 22)) (hw : Cond.arrayClass ty ∈ TB) {i : Int32} (hi : ¬ i < 0) (hN : i.toNatClampNeg = N) (hbig : N ≤ 1000000) (ha : S.1 = a) (hcells : k + 1 ≤ R.cells) (hslots : n + N ≤ R.slots) (hd : decode cc pc = .ok (.newarray at_, 2))
    (kz : ∀ S', S' = sN S t N → ∀ D', D' = dN D a → Z p l e R s m args below meth c nL (WM G s A S' D') (k + 1) (n + N) Q (pc + 2) lv (.ref (G.1 + a) :: st)) : Z p l e R s m args below meth c nL (WM G s A S D) k n Q pc lv (.int i :: st) := by
  subst ha; exact z_newa hC hty hcase hw hi hN hbig hcells hslots hd (kz _ rfl _ rfl)
theorem z_anewQ (hC : CX G cc own nL ret p s m args meth c) {idx : Nat} (hcl : Cond.classLink own idx "WhyChosen$Model" ∈ TB) {i : Int32} (hi : ¬ i < 0) (hN : i.toNatClampNeg = N) (hbig : N ≤ 1000000) (ha : S.1 = a) (hcells : k + 1 ≤ R.cells) (hslots : n + N ≤ R.slots) (hd : decode cc pc = .ok (.anewarray idx, 3))
    (kz : ∀ S', S' = sN S 23 N → ∀ D', D' = dN D a → Z p l e R s m args below meth c nL (WM G s A S' D') (k + 1) (n + N) Q (pc + 3) lv (.ref (G.1 + a) :: st)) : Z p l e R s m args below meth c nL (WM G s A S D) k n Q pc lv (.int i :: st) := by
  subst ha; exact z_anew hC hcl hi hN hbig hcells hslots hd (kz _ rfl _ rfl)
theorem WM_many {H H1 : Heap} {locs : List Loc} {N K : Nat} (hW : WM G s A S D H locs) (hz : H1.size = H.size + 1 + N) (oq : ∀ q : Nat, q < H.size → H1[q]? = H[q]?) (h0 : Wa G (sM S N K) (dM D S.1 N) H1 S.1) (h1 : ∀ b, S.1 < b → b ≤ S.1 + N → Wa G (sM S N K) (dM D S.1 N) H1 b) : WM G s A (sM S N K) (dM D S.1 N) H1 locs := by
  obtain ⟨w1, w2, w3, w4⟩ := hW
  refine ⟨⟨by rw [hz, w1.1]; show _ = G.1 + (S.1 + 1 + N); omega, fun b hb => ?_, fun b => ?_⟩, fun q ⟨b, e1, e2⟩ => w2 q ⟨b, e1, ?_⟩, w3, ?_⟩
  · show b < S.1 + 1 + N
    by_cases h : b = S.1
    · omega
    · by_cases h2 : S.1 < b ∧ b ≤ S.1 + N
      · omega
      · have : S.2.1 b ≠ 0 := by simpa [sM, h, h2] using hb
        have := w1.2.1 b this
        omega
  · by_cases h : b = S.1
    · rw [h]; exact h0
    · by_cases h2 : S.1 < b ∧ b ≤ S.1 + N
      · exact h1 b h2.1 h2.2
      · have h3 : ¬ (S.1 ≤ b ∧ b ≤ S.1 + N) := by omega
        exact Wa_congr (by simp [sM, h, h2]) (by simp [sM, h, h2]) (by funext j; simp [sM, h, h2]) (by funext j; simp [dM, h3]) (by funext j; simp [dM, h3]) (fun hb => oq _ (by have := w1.2.1 b hb; have := w1.1; omega)) (w1.2.2 b)
  · by_cases h : b = S.1
    · right; omega
    · by_cases h2 : S.1 < b ∧ b ≤ S.1 + N
      · right; omega
      · rcases e2 with e2 | e2
        · left; simpa [sM, h, h2] using e2
        · right; have : S.1 + 1 + N ≤ b := e2; omega
  · refine ⟨by have := w4.1; omega, fun q h1 h2 => (oq q (by have := w4.1; omega)).trans (w4.2.1 q h1 h2), w4.2.2⟩
theorem z_multi (hC : CX G cc own nL ret p s m args meth c) {idx K : Nat} (hcl : Cond.classLink own idx "[[J" ∈ TB) (hac : Cond.arrayClass .long ∈ TB) {i j : Int32} (hi : ¬ i < 0) (hj : ¬ j < 0) (hN : i.toNatClampNeg = N) (hK : j.toNatClampNeg = K) (hbig : N ≤ 100000 ∧ K ≤ 100000) (ha : S.1 = a) (hcells : k + (1 + N) ≤ R.cells) (hslots : n + (N + N * K) ≤ R.slots) (hd : decode cc pc = .ok (.multianewarray idx 2, 4))
    (kz : ∀ S', S' = sM S N K → ∀ D', D' = dM D a N → Z p l e R s m args below meth c nL (WM G s A S' D') (k + 1 + N) (n + N + N * K) Q (pc + 4) lv (.ref (G.1 + a) :: st)) : Z p l e R s m args below meth c nL (WM G s A S D) k n Q pc lv (.int j :: .int i :: st) := by
  subst ha; subst hN; subst hK
  intro H locs hW ls hl T hT Xs
  obtain ⟨hx, hb, hml, hown, hts, hre, hlk, hG⟩ := hC
  obtain ⟨vm₁, cA, comp, -, fA, fC, hO, -, X', step⟩ := Xs.multianewarray2F hx hown (ty := .long) (hts _ hcl) (hG.2.2.2.2.2.2.2.2 (.array .long) (by decide)) (hts _ hac) (g := F0 m pc ls (.int j :: .int i :: st)) rfl (by rw [hb]; exact hd) rfl hi hj (by omega) (by simp [componentBytes]; omega) (by omega) rfl rfl hcells hslots
  have ec : comp = G.2.2.1 21 := by
    have h2 : s.vm.findClass ("[" ++ FieldType.long.toString) = some (G.2.2.1 21) := (hG.1.2 1 _ rfl).2
    exact Option.some.inj (fC.symm.trans h2)
  have eA : cA = G.2.2.1 24 := by
    have h2 : s.vm.findClass ("[" ++ (FieldType.array .long).toString) = some (G.2.2.1 24) := (hG.1.2 4 _ rfl).2
    exact Option.some.inj (fA.symm.trans h2)
  subst ec; subst eA
  generalize hF : Jvm.Free.Multi.fill (T.setVm vm₁) (G.2.2.1 24) (G.2.2.1 21) i.toNatClampNeg j.toNatClampNeg (defaultValue .long) i.toNatClampNeg = F at X' step
  have hTh : (T.setVm vm₁).heap = H := hT
  obtain ⟨f1, f2, -, -⟩ := Jvm.Free.Multi.fill_facts (T.setVm vm₁) (G.2.2.1 24) (G.2.2.1 21) i.toNatClampNeg j.toNatClampNeg (defaultValue .long) i.toNatClampNeg
  rw [hF, hTh] at f1 f2
  have hold : ∀ x : Nat, x < H.size → F.heap[x]? = H[x]? := fun x hx => by
    have := Jvm.Free.Multi.fill_old (T.setVm vm₁) (G.2.2.1 24) (G.2.2.1 21) i.toNatClampNeg j.toNatClampNeg (defaultValue .long) (a := x) (by rw [hTh]; exact hx) i.toNatClampNeg
    rw [hF, hTh] at this
    exact this
  have hsz : H.size = G.1 + S.1 := hW.1.1
  have hrow : ∀ q : Nat, q < i.toNatClampNeg → F.heap[H.size + 1 + q]? = some (arrV (G.2.2.1 21) j.toNatClampNeg (fun _ => .long 0)) := fun q hq => by
    have := Jvm.Free.Multi.fill_inner (T.setVm vm₁) (G.2.2.1 24) (G.2.2.1 21) i.toNatClampNeg j.toNatClampNeg (defaultValue .long) i.toNatClampNeg q hq
    rw [hF, hTh] at this
    rw [this, ← arrV_new]; rfl
  rw [mc_outer] at f2
  have hst : T.heap.size = G.1 + S.1 := by rw [show T.heap = H from hT]; exact hsz
  rw [hst] at step
  refine (kz _ rfl _ rfl F.heap _ (WM_many hW f1 hold (Wa_of_r (t := 24) (by simp [sM]) (by omega) ?_) fun b h1 h2 => Wa_of_l (by simp [sM, h1, h2, Nat.ne_of_gt h1]) ?_) ls hl F rfl X').imp fun t h => ⟨step t h.1, h.2⟩
  · rw [← hsz, f2]
    have : (sM S i.toNatClampNeg j.toNatClampNeg).2.2.1 S.1 = i.toNatClampNeg := by simp [sM]
    rw [this]; congr 2; funext q
    by_cases h : q < i.toNatClampNeg
    · have e9 : H.size + 1 + q = G.1 + (S.1 + 1 + q) := by omega
      simp [sM, h, e9]
    · simp [sM, h]
  · have hb := hrow (b - S.1 - 1) (by omega)
    rw [show H.size + 1 + (b - S.1 - 1) = G.1 + b by omega] at hb
    rw [hb]
    have e1 : (sM S i.toNatClampNeg j.toNatClampNeg).2.2.1 b = j.toNatClampNeg := by simp [sM, h1, h2, Nat.ne_of_gt h1]
    rw [e1]; congr 2; funext q
    have : S.1 ≤ b ∧ b ≤ S.1 + i.toNatClampNeg := by omega
    simp [dM, this]
/-- a reference of ours into a field -/
theorem z_putr (hC : CX G cc own nL ret p s m args meth c) {idx ci j b : Nat} {fin : Bool} (hf : LF own idx ci j fin) (hfin : fin = false ∨ (meth.name = "<init>" ∧ ∀ C T, CF ci C T → (T j).1 = own)) (ht : isRf (fty ci j) = true) (hK : S.2.1 a = ci + 1) (hd : decode cc pc = .ok (.putfield idx, 3))
    (kz : ∀ S', S' = sR S a j (some b) → Z p l e R s m args below meth c nL (WM G s A S' D) k n Q (pc + 3) lv st) : Z p l e R s m args below meth c nL (WM G s A S D) k n Q pc lv (.ref (G.1 + b) :: .ref (G.1 + a) :: st) := by
  have hnr : narrow (fty ci j) (.ref (G.1 + b)) = .ref (G.1 + b) := by cases fty ci j <;> rfl
  have hdef : fits (fty ci j) (.ref (G.1 + b)) = true := by
    obtain ⟨C, T, ref, hCF, hci, hj, -⟩ := hf
    have := fty_def ci hci j hj
    cases hq : fty ci j <;> rw [hq] at ht this <;> first | rfl | (exact absurd ht (by decide)) | (exact absurd this (by decide))
  refine z_putC (S' := sR S a j (some b)) (D' := D) hC hf hfin hK hd hnr hdef rfl rfl rfl (fun b hb => by funext i; simp [sR, hb]) (fun _ _ => rfl) (fun _ _ => rfl) (fun i hi => ?_) (kz _ rfl)
  by_cases h : i = j
  · subst h
    have : fV G.1 (sR S a i (some b)) D ci a i = .ref (G.1 + b) := fV_ref ht (by simp [sR])
    rw [this]; simp [updV]
  · simp [updV, fV, sR, h]
theorem z_putiQ (hC : CX G cc own nL ret p s m args meth c) {idx ci j : Nat} {fin : Bool} (hf : LF own idx ci j fin) (hfin : fin = false ∨ (meth.name = "<init>" ∧ ∀ C T, CF ci C T → (T j).1 = own)) (ht : fty ci j = .int) (hK : S.2.1 a = ci + 1) (hd : decode cc pc = .ok (.putfield idx, 3)) {v : Int32}
    (kz : ∀ D', D' = sI D a j v → Z p l e R s m args below meth c nL (WM G s A S D') k n Q (pc + 3) lv st) : Z p l e R s m args below meth c nL (WM G s A S D) k n Q pc lv (.int v :: .ref (G.1 + a) :: st) := by
  refine z_putC (S' := S) (D' := sI D a j v) hC hf hfin hK hd (by rw [ht]; rfl) (by rw [ht]; rfl) rfl rfl rfl (fun _ _ => rfl) (fun b hb => by funext i; simp [sI, hb]) (fun _ _ => rfl) (fun i hi => ?_) (kz _ rfl)
  by_cases h : i = j
  · subst h; simp [updV, fV, ht, sI]
  · simp [updV, fV, sI, h]
theorem z_putlQ (hC : CX G cc own nL ret p s m args meth c) {idx ci j : Nat} {fin : Bool} (hf : LF own idx ci j fin) (hfin : fin = false ∨ (meth.name = "<init>" ∧ ∀ C T, CF ci C T → (T j).1 = own)) (ht : fty ci j = .long) (hK : S.2.1 a = ci + 1) (hd : decode cc pc = .ok (.putfield idx, 3)) {v : Int64}
    (kz : ∀ D', D' = sL D a j v → Z p l e R s m args below meth c nL (WM G s A S D') k n Q (pc + 3) lv st) : Z p l e R s m args below meth c nL (WM G s A S D) k n Q pc lv (.long v :: .ref (G.1 + a) :: st) := by
  refine z_putC (S' := S) (D' := sL D a j v) hC hf hfin hK hd (by rw [ht]; rfl) (by rw [ht]; rfl) rfl rfl rfl (fun _ _ => rfl) (fun _ _ => rfl) (fun b hb => by funext i; simp [sL, hb]) (fun i hi => ?_) (kz _ rfl)
  by_cases h : i = j
  · subst h; simp [updV, fV, ht, sL]
  · simp [updV, fV, sL, h]
theorem z_lnew (kz : ∀ S', S' = S → Z p l e R s m args below meth c nL (WM G s A S' D) k n Q pc lv st) : Z p l e R s m args below meth c nL (WM G s A S D) k n Q pc lv st := kz S rfl
end ZA
theorem cft {ci : Nat} {C0 : String} {T0 : u_T} (h0 : CF ci C0 T0) {j : Nat} {own : String} (h : (T0 j).1 = own) : ∀ C T, CF ci C T → (T j).1 = own := fun C T hc => by
  have e := Option.some.inj (hc.1.symm.trans h0.1)
  have e2 : T = T0 := congrArg (fun q : vw_C => q.2.1) e
  rw [e2]; exact h
