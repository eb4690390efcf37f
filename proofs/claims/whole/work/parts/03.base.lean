/-! THE PURE MACHINE: a heap as numbers: kinds, lengths, references (Sh), ints and longs (Dy); the world of a method is the cells from G.1 on that have a kind -/
def TB : List Cond := lw_tbl.filter goodWord
theorem TB_good {w : Cond} (h : w ∈ TB) : (w.onTables && w.keeps) = true ∨ ∃ ty, w = .arrayClass ty := good_of_word (List.mem_filter.mp h).2
theorem TB_of (i : Nat) {w : Cond} (h : tables_1[i]? = some w) (hg : goodWord w = true) : w ∈ TB := List.mem_filter.mpr ⟨List.mem_append_right _ (List.mem_of_getElem? h), hg⟩
theorem TB_sel (i : Nat) {q : MethodName × Nat} (h : lw_privs[i]? = some q) (hg : goodWord (Cond.selects q.1.cls q.1 q.1) = true) : Cond.selects q.1.cls q.1 q.1 ∈ TB :=
  List.mem_filter.mpr ⟨List.mem_append_left _ (List.mem_map.mpr ⟨q, List.mem_of_getElem? h, rfl⟩), hg⟩
/-- picks by the gaps between places, in one walk -/
def selG : List Cond → List Nat → List Cond
  | [], _ => []
  | _ :: _, [] => []
  | x :: xs, 0 :: gs => x :: selG xs gs
  | _ :: xs, (n + 1) :: gs => selG xs (n :: gs)
theorem selG_mem : ∀ (l : List Cond) (gs : List Nat) (w : Cond), w ∈ selG l gs → w ∈ l
  | [], _, _, h => by simp [selG] at h
  | _ :: _, [], _, h => by simp [selG] at h
  | x :: xs, 0 :: gs, w, h => by
    simp only [selG, List.mem_cons] at h
    rcases h with h | h
    · rw [h]; exact List.mem_cons_self
    · exact List.mem_cons_of_mem _ (selG_mem xs gs w h)
  | x :: xs, (n + 1) :: gs, w, h => by
    simp only [selG] at h
    exact List.mem_cons_of_mem _ (selG_mem xs (n :: gs) w h)
theorem TB_all {l ws : List Cond} (hl : ∀ w ∈ l, w ∈ tables_1) (gs : List Nat) (h : selG l gs = ws) (hg : ws.all goodWord = true) : ∀ w ∈ ws, w ∈ TB := fun w hw =>
  List.mem_filter.mpr ⟨List.mem_append_right _ (hl w (selG_mem l gs w (by rw [h]; exact hw))), List.all_eq_true.mp hg w hw⟩
theorem tIn1 : ∀ w ∈ tables_1_1, w ∈ tables_1 := fun _ h => List.mem_append_left _ h
theorem tIn2 : ∀ w ∈ tables_1_2, w ∈ tables_1 := fun _ h => List.mem_append_right _ (List.mem_append_left _ h)
theorem tIn3 : ∀ w ∈ tables_1_3, w ∈ tables_1 := fun _ h => List.mem_append_right _ (List.mem_append_right _ (List.mem_append_left _ h))
theorem tIn4 : ∀ w ∈ tables_1_4, w ∈ tables_1 := fun _ h => List.mem_append_right _ (List.mem_append_right _ (List.mem_append_right _ (List.mem_append_left _ h)))
theorem tIn5 : ∀ w ∈ tables_1_5, w ∈ tables_1 := fun _ h => List.mem_append_right _ (List.mem_append_right _ (List.mem_append_right _ (List.mem_append_right _ (List.mem_append_left _ h))))
theorem tIn6 : ∀ w ∈ tables_1_6, w ∈ tables_1 := fun _ h => List.mem_append_right _ (List.mem_append_right _ (List.mem_append_right _ (List.mem_append_right _ (List.mem_append_right _ (List.mem_append_left _ h)))))
theorem tIn7 : ∀ w ∈ tables_1_7, w ∈ tables_1 := fun _ h => List.mem_append_right _ (List.mem_append_right _ (List.mem_append_right _ (List.mem_append_right _ (List.mem_append_right _ (List.mem_append_right _ h)))))
abbrev Dy : Type := (Nat → Nat → Int32) × (Nat → Nat → Int64)
abbrev Sh : Type := Nat × (Nat → Nat) × (Nat → Nat) × (Nat → Nat → Option Nat)
abbrev Gl : Type := Nat × va_G × (Nat → ClassId) × (Nat → Nat) × (Nat → Nat)
def fty (c k : Nat) : FieldType := match c with
  | 0 => tyX0 k
  | 1 => tyX1 k
  | 2 => tyX2 k
  | 3 => tyX3 k
  | 4 => tyX4 k
  | 5 => tyX5 k
  | 6 => tyX6 k
  | 7 => tyX7 k
  | 8 => tyX8 k
  | 9 => tyX9 k
  | 10 => tyX10 k
  | 11 => tyX11 k
  | _ => tyX12 k
def nF (c : Nat) : Nat := match c with
  | 0 => 5
  | 1 => 4
  | 5 => 8
  | 6 => 8
  | 9 => 17
  | 10 => 2
  | 11 => 16
  | 12 => 54
  | _ => 6
def fV (B : Nat) (S : Sh) (D : Dy) (c a k : Nat) : Value := match fty c k with
  | .int => .int (D.1 a k)
  | .long => .long (D.2 a k)
  | _ => va_rf ((S.2.2.2 a k).map (B + ·))
def aE (B : Nat) (S : Sh) (D : Dy) (a : Nat) : vp_A := (S.2.2.1 a, if S.2.1 a = 21 then .inr (.inl (D.2 a)) else if S.2.1 a ≤ 22 then .inl (D.1 a) else .inr (.inr (.inr (.inr fun j => (S.2.2.2 a j).map (B + ·)))))
def Wa (G : Gl) (S : Sh) (D : Dy) (H : Heap) (a : Nat) : Prop :=
  if S.2.1 a = 0 then True else if S.2.1 a ≤ 13 then t_OB (G.1 + a) (G.2.1.1 (S.2.1 a - 1)) (nF (S.2.1 a - 1)) (G.2.1.2 (S.2.1 a - 1)) H (fV G.1 S D (S.2.1 a - 1) a)
  else H[G.1 + a]? = some (vp_cell (G.2.2.1 (S.2.1 a)) (aE G.1 S D a))
def Wd (G : Gl) (S : Sh) (D : Dy) (H : Heap) : Prop := H.size = G.1 + S.1 ∧ (∀ a, S.2.1 a ≠ 0 → a < S.1) ∧ ∀ a, Wa G S D H a
/-- which cells a method may write: its world's, and new ones -/
def AS (G : Gl) (S : Sh) : Nat → Prop := fun q => ∃ a, q = G.1 + a ∧ (S.2.1 a ≠ 0 ∨ S.1 ≤ a)
def tysG (G : Gl) : List (ClassId × FieldType) := [(G.2.2.1 20, .int), (G.2.2.1 21, .long), (G.2.2.1 22, .boolean), (G.2.2.1 23, .object "WhyChosen$Model"), (G.2.2.1 24, .array .long)]
def wLen : List Nat := [5, 4, 5, 4, 4, 4, 4]
def wByt : List (List Int32) := [[119, 111, 114, 116, 104], [109, 97, 114, 107], [112, 114, 105, 99, 101], [110, 111, 110, 101], [108, 111, 111, 107], [107, 105, 110, 100], [112, 105, 99, 107]]
def wIdx (i : Nat) : Nat := [91, 93, 95, 96, 97, 98, 100].getD i 0
def wTx (i : Nat) : String := ["worth", "mark", "price", "none", "look", "kind", "pick"].getD i ""
/-- kinds of models that are none of another -/
def ncL : List (String × String) := [("WhyChosen$Model", "WhyChosen$Plain"), ("WhyChosen$Model", "WhyChosen$Nested"), ("WhyChosen$Model", "WhyChosen$Mixed"), ("WhyChosen$Model", "WhyChosen$Looked"), ("WhyChosen$Model", "WhyChosen$Rule"), ("WhyChosen$Plain", "WhyChosen$Nested"), ("WhyChosen$Plain", "WhyChosen$Mixed"), ("WhyChosen$Plain", "WhyChosen$Looked"), ("WhyChosen$Plain", "WhyChosen$Rule"), ("WhyChosen$Nested", "WhyChosen$Mixed"), ("WhyChosen$Nested", "WhyChosen$Looked"), ("WhyChosen$Nested", "WhyChosen$Rule"), ("WhyChosen$Mixed", "WhyChosen$Nested"), ("WhyChosen$Mixed", "WhyChosen$Looked"), ("WhyChosen$Mixed", "WhyChosen$Rule"), ("WhyChosen$Looked", "WhyChosen$Nested"), ("WhyChosen$Looked", "WhyChosen$Mixed"), ("WhyChosen$Looked", "WhyChosen$Rule"), ("WhyChosen$Rule", "WhyChosen$Plain"), ("WhyChosen$Rule", "WhyChosen$Nested"), ("WhyChosen$Rule", "WhyChosen$Mixed"), ("WhyChosen$Rule", "WhyChosen$Looked")]
/-- kinds of models that are some of another -/
def cyL : List (String × String) := [("WhyChosen$Looked", "WhyChosen$Plain"), ("WhyChosen$Mixed", "WhyChosen$Plain"), ("WhyChosen$Nested", "WhyChosen$Plain"), ("WhyChosen$Plain", "WhyChosen$Model"), ("WhyChosen$Nested", "WhyChosen$Model"), ("WhyChosen$Mixed", "WhyChosen$Model"), ("WhyChosen$Looked", "WhyChosen$Model"), ("WhyChosen$Rule", "WhyChosen$Model")]
/-- links to private members of nest mates -/
def nestT : List (String × Nat × MethodName × String) := [(RX0, 28, yX11_isIn, "WhyChosen"), (RX1, 25, yX11_within, "WhyChosen"), (RX1, 39, yX11_isIn, "WhyChosen"), (RX3, 37, yX11_isIn, "WhyChosen"), (RX4, 52, yX11_isIn, "WhyChosen"), (RX5, 36, yX11_isIn, "WhyChosen"), (RX6, 41, yX11_isIn, "WhyChosen"), (RX7, 29, yX11_isIn, "WhyChosen")]
def aoL : List FieldType := [.object "WhyChosen$Model", .array .long]
theorem ao_moved {ty : FieldType} {u U : State} (h : u.vm.Alike U.vm) (hb : (Cond.arrayOver ty).before #[] u = true) : (Cond.arrayOver ty).before #[] U = true := by
  have e := Cond.arrayOver_setVmC (args := #[]) (s := u) h ty
  rw [hb] at e; exact e
/-- what the tables say: classes, arrays, the seven texts, nest mates -/
def Gk (G : Gl) (U : State) : Prop := va_K G.2.1 vwCl (tysG G) U ∧ vk_S 7 wLen wByt G.2.2.2.1 G.2.2.2.2 (fun q => G.1 ≤ q) U U.heap ∧ (∀ i, i < 7 → vk_R "WhyChosen$Text" (wIdx i) (wTx i) (G.2.2.2.1 i) U) ∧ (∀ q ∈ ncL, va_Nc q.1 q.2 U) ∧ (∀ q ∈ nestT, va_Nw (.methodLinkNest q.1 q.2.1 q.2.2.1 q.2.2.2) U) ∧ (∀ q ∈ cyL, va_Nw (.castable q.1 q.2) U) ∧ va_Z "java/lang/String" "COMPACT_STRINGS" "Z" (.int 1) (fun q => G.1 ≤ q) U U.heap ∧ va_Zq "jdk/internal/util/Preconditions" "SIOOBE_FORMATTER" "Ljava/util/function/BiFunction;" (fun q => G.1 ≤ q) U U.heap ∧ ∀ ty ∈ aoL, (Cond.arrayOver ty).before #[] U = true
def rmH (h mc ms : Nat) : Room := { frames := h, cells := mc, slots := ms, locals := 60 * h }
def CX (G : Gl) (cc : ByteArray) (own : String) (nL : Nat) (ret : Option FieldType) (p : Program) (s : State) (m : MethodId) (args : Array Value) (meth : Method) (c : Code) : Prop :=
  p.tables.exec = Jvm.exec ∧ c.code = cc ∧ c.maxLocals = nL ∧ s.vm.findClass own = some m.cls ∧ (∀ w ∈ TB, w.before args s = true) ∧ meth.sig.returnType = ret ∧ meth.locks = false ∧ Gk G s
def Z (p : Program) (l : Launch) (e : Env) (R : Room) (s : State) (m : MethodId) (args : Array Value) (below : List Frame) (meth : Method) (c : Code) (nL : Nat) (Wp : Heap → List Loc → Prop) (k n : Nat) (Q : State → Prop) (pc : Nat) (lv : List (Nat × Value)) (st : List Value) : Prop :=
  ∀ (H : Heap) (locs : List Loc), Wp H locs → ∀ ls, lv_has ls nL lv → W p l e R s m args below meth c H locs k n Q (F0 m pc ls st)
def WM (G : Gl) (s : State) (A : Nat → Prop) (S : Sh) (D : Dy) : Heap → List Loc → Prop := fun H locs => Wd G S D H ∧ (∀ q, AS G S q → A q) ∧ (∀ q, A q → G.1 ≤ q) ∧ va_S A s.heap H locs
def QcP (G : Gl) (S0 : Sh) (P : Option Value → Sh → Dy → Prop) : Array Value → State → Outcome → State → Prop := fun _ st oc t =>
  (∃ v S' D', oc = .returned v ∧ P v S' D' ∧ Wd G S' D' t.heap ∧ ∀ q, AS G S' q → AS G S0 q) ∧ va_F (AS G S0) st t
def Ct (l : Launch) (G : Gl) (y : MethodName) (b : ByteArray) (nL : Nat) (ret : Option FieldType) (h mc ms : Nat) (S : Sh) (D : Dy) (av : List Value) (P : Option Value → Sh → Dy → Prop) : Prop :=
  Met l y (.code y b nL ret :: TB) (rmH h mc ms) (va_Pc av (fun U => Wd G S D U.heap ∧ Gk G U)) (QcP G S P) mc ms (AS G S)
theorem Gk.moved {G : Gl} {s U : State} (hW : s.WarmedH U.vm) (h : Gk G s) (hk : ∀ a : Nat, a < s.heap.size → ¬ G.1 ≤ a → U.heap[a]? = s.heap[a]?) : Gk G U :=
  ⟨h.1.moved hW.alike, (h.2.1.moved hW.alike).kept hk, fun i hi => (h.2.2.1 i hi).warm hW, fun q hq => (h.2.2.2.1 q hq).moved hW.alike, fun q hq => (h.2.2.2.2.1 q hq).warmM hW, fun q hq => (h.2.2.2.2.2.1 q hq).warmC hW, (h.2.2.2.2.2.2.1.moved hW.alike).kept hk, (h.2.2.2.2.2.2.2.1.moved hW.alike).kept hk, fun ty ht => ao_moved hW.alike (h.2.2.2.2.2.2.2.2 ty ht)⟩
theorem Gk.calling {G : Gl} {U : State} {g : JFrame} {mk : MethodId} {a : Array Value} (h : Gk G U) : Gk G (U.calling g mk a) :=
  ⟨va_K.moved (u := U) (U := U.calling g mk a) (Vm.Alike.refl U.vm) h.1, vk_S.moved (u := U) (U := U.calling g mk a) (Vm.Alike.refl U.vm) h.2.1, fun i hi => vk_R.same (u := U) (U := U.calling g mk a) rfl (h.2.2.1 i hi), fun q hq => va_Nc.moved (u := U) (U := U.calling g mk a) (Vm.Alike.refl U.vm) (h.2.2.2.1 q hq), fun q hq => va_Nw.same (u := U) (U := U.calling g mk a) rfl rfl (h.2.2.2.2.1 q hq), fun q hq => va_Nw.same (u := U) (U := U.calling g mk a) rfl rfl (h.2.2.2.2.2.1 q hq), va_Z.moved (u := U) (U := U.calling g mk a) (Vm.Alike.refl U.vm) h.2.2.2.2.2.2.1, va_Zq.moved (u := U) (U := U.calling g mk a) (Vm.Alike.refl U.vm) h.2.2.2.2.2.2.2.1, fun ty ht => ao_moved (u := U) (U := U.calling g mk a) (Vm.Alike.refl U.vm) (h.2.2.2.2.2.2.2.2 ty ht)⟩
theorem WM.old {G : Gl} {s : State} {A : Nat → Prop} {S : Sh} {D : Dy} {H : Heap} {locs : List Loc} (h : WM G s A S D H locs) : ∀ a : Nat, a < s.heap.size → ¬ G.1 ≤ a → H[a]? = s.heap[a]? := fun a h1 h2 => h.2.2.2.2.1 a h1 (fun q => h2 (h.2.2.1 a q))
theorem AS_base {G : Gl} {S : Sh} : ∀ q, AS G S q → G.1 ≤ q := fun q ⟨a, h, _⟩ => by omega
theorem preS_ok {G : Gl} {s : State} {A : Nat → Prop} {S : Sh} {D : Dy} {H : Heap} {locs : List Loc} {av : List Value} (hG : Gk G s) (h : WM G s A S D H locs) : PreS s H (va_Pc av (fun U => Wd G S D U.heap ∧ Gk G U)) av := by
  refine ⟨fun a U g mk q => ?_, fun U hU hW => ⟨rfl, by rw [hU]; exact h.1, hG.moved hW (by rw [hU]; exact h.old)⟩⟩
  obtain ⟨q1, q2, q3⟩ := q
  exact ⟨q1, q2, q3.calling⟩
