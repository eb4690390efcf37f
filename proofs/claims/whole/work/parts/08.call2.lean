/-! MORE CALLS, ENDS, THE START over Z -/
section ZD
variable {p : Program} {l : Launch} {e : Env} {R : Room} {s : State} {m : MethodId} {args : Array Value} {below : List Frame} {meth : Method} {c : Code} {nL : Nat} {k n : Nat} {Q : State → Prop} {pc : Nat} {lv : List (Nat × Value)} {st : List Value}
variable {G : Gl} {cc : ByteArray} {own : String} {ret : Option FieldType} {A : Nat → Prop} {S S' S0 : Sh} {D D' : Dy} {a N : Nat}
/-- a virtual call on a receiver of class C: the method x is named, y runs; owner: where x is declared -/
def CU (C owner : String) (x y : MethodName) : Prop := Cond.sameMethod x.cls owner x.name x.desc ∈ TB ∧ Cond.selects C x y ∈ TB ∧ Cond.instanceMethod y ∈ TB ∧ Cond.instanceMethod ⟨owner, x.name, x.desc⟩ ∈ TB ∧ (∃ b0 m0 r0, Cond.code ⟨owner, x.name, x.desc⟩ b0 m0 r0 ∈ TB) ∧ owner ≠ "java/lang/invoke/MethodHandle" ∧ owner ≠ "java/lang/invoke/VarHandle"
theorem z_callU (hC : CX G cc own nL ret p s m args meth c) {idx na h mc ms nLy b0 ci : Nat} {T : u_T} {C owner : String} {x y : MethodName} {b : ByteArray} {rt : Option FieldType} {av rest : List Value} {P : Option Value → Sh → Dy → Prop} (hlk : Cond.methodLink own idx x ∈ TB) (hini : Cond.initialized y.cls ∈ TB) (hcd : Cond.code y b nLy rt ∈ TB) (hna : (parseMethodDescriptor x.desc).map (fun d => d.parameters.length) = some na) (hR : h + 1 ≤ R.frames ∧ 8 + (nLy + 11) + 60 * h ≤ R.locals) (cu : CU C owner x y) (hci : CF ci C T) (h13 : ci < 13) (hK : S.2.1 b0 = ci + 1) (hM : Ct l G y b nLy rt h mc ms S D (.ref (G.1 + b0) :: av) P) (hlen : av.length = na) (hstk : st = av.reverse ++ .ref (G.1 + b0) :: rest) (hrm : (rest.map fun v => v.category).sum ≤ 8) (hkn : k + mc ≤ R.cells ∧ n + ms ≤ R.slots) (hd : decode cc pc = .ok (.invokevirtual idx, 3))
    (kz : ∀ v S' D', P v S' D' → Z p l e R s m args below meth c nL (WM G s A S' D') (k + mc) (n + ms) Q (pc + 3) lv (v.toList ++ rest)) : Z p l e R s m args below meth c nL (WM G s A S D) k n Q pc lv st := by
  obtain ⟨hx, hb, hml, hown, hts, hre, hlo, hG⟩ := id hC
  obtain ⟨u1, u2, u3, u4, ⟨b0', m0, r0, u5⟩, u6, u7⟩ := cu
  refine z_call (av := (Value.ref (G.1 + b0) :: av).toArray) hC (fun H locs hW ls hls => ?_) kz
  have hgood : GoodIn TB (va_wsO own idx C owner x y (Cond.code y b nLy rt :: TB)) := fun w hw => by
    unfold va_wsO at hw
    rcases List.mem_append.mp hw with h | h
    · have : w ∈ TB := by
        simp only [List.mem_cons, List.not_mem_nil, or_false] at h
        rcases h with rfl | rfl | rfl | rfl | rfl | rfl <;> assumption
      exact ⟨this, TB_good this⟩
    · exact GoodCode hcd w h
  exact va_runU (C := C) (owner := owner) (x := x) ⟨hx, hb, hml, hown, hts⟩ hM (va_cwO na hts hgood rfl rfl rfl u5 ⟨u6, u7, hna⟩ hR) ⟨(preS_ok hG hW).1, recv_ok hG hW hci h13 hK, (preS_ok hG hW).2⟩ rfl hlen hls hstk (lv_room hrm) hd hkn
theorem z_callSU (hC : CX G cc own nL ret p s m args meth c) {idx na h mc ms nLy b0 ci : Nat} {T : u_T} {C : String} {y : MethodName} {b : ByteArray} {rt : Option FieldType} {av rest : List Value} {P : Option Value → Sh → Dy → Prop} (hlk : Cond.methodLink own idx y ∈ TB) (hsm : Cond.sameMethod y.cls y.cls y.name y.desc ∈ TB) (hsu : Cond.superclass own y.cls ∈ TB) (hin : Cond.instanceMethod y ∈ TB) (hini : Cond.initialized y.cls ∈ TB) (hcd : Cond.code y b nLy rt ∈ TB) (hnm : y.name ≠ "<init>") (hna : (parseMethodDescriptor y.desc).map (fun d => d.parameters.length) = some na) (hR : h + 1 ≤ R.frames ∧ 8 + (nLy + 11) + 60 * h ≤ R.locals) (hci : CF ci C T) (h13 : ci < 13) (hK : S.2.1 b0 = ci + 1) (hM : Ct l G y b nLy rt h mc ms S D (.ref (G.1 + b0) :: av) P) (hlen : av.length = na) (hstk : st = av.reverse ++ .ref (G.1 + b0) :: rest) (hrm : (rest.map fun v => v.category).sum ≤ 8) (hkn : k + mc ≤ R.cells ∧ n + ms ≤ R.slots) (hd : decode cc pc = .ok (.invokespecial idx, 3))
    (kz : ∀ v S' D', P v S' D' → Z p l e R s m args below meth c nL (WM G s A S' D') (k + mc) (n + ms) Q (pc + 3) lv (v.toList ++ rest)) : Z p l e R s m args below meth c nL (WM G s A S D) k n Q pc lv st := by
  obtain ⟨hx, hb, hml, hown, hts, hre, hlo, hG⟩ := id hC
  refine z_call (av := (Value.ref (G.1 + b0) :: av).toArray) hC (fun H locs hW ls hls => ?_) kz
  have hgood : GoodIn TB (va_wsSU own idx y (Cond.code y b nLy rt :: TB)) := fun w hw => by
    unfold va_wsSU at hw
    rcases List.mem_append.mp hw with h | h
    · have : w ∈ TB := by
        simp only [List.mem_cons, List.not_mem_nil, or_false] at h
        rcases h with rfl | rfl | rfl | rfl | rfl <;> assumption
      exact ⟨this, TB_good this⟩
    · exact GoodCode hcd w h
  exact va_runSU (C := C) (hG.1.1 ci _ hci.1).2 ⟨hx, hb, hml, hown, hts⟩ hM (va_cwSU na hts hgood rfl rfl rfl ⟨hnm, hna⟩ hR) ⟨(preS_ok hG hW).1, recv_ok hG hW hci h13 hK, (preS_ok hG hW).2⟩ rfl hlen hls hstk (lv_room hrm) hd hkn
/-- a static method of a nest mate -/
theorem z_callSN (hC : CX G cc own nL ret p s m args meth c) {idx na h mc ms nLy : Nat} {host : String} {y : MethodName} {b : ByteArray} {rt : Option FieldType} {av rest : List Value} {P : Option Value → Sh → Dy → Prop} (hlk : (own, idx, y, host) ∈ nestT) (hini : Cond.initialized y.cls ∈ TB) (hcd : Cond.code y b nLy rt ∈ TB) (hna : y.cls ≠ "java/lang/invoke/MethodHandle" ∧ y.cls ≠ "java/lang/invoke/VarHandle" ∧ (parseMethodDescriptor y.desc).map (fun d => d.parameters.length) = some na) (hR : h + 1 ≤ R.frames ∧ 8 + (nLy + 11) + 60 * h ≤ R.locals) (hst : Cond.static y ∈ TB) (hM : Ct l G y b nLy rt h mc ms S D av P) (hlen : av.length = na) (hstk : st = av.reverse ++ rest) (hrm : (rest.map fun v => v.category).sum ≤ 8) (hkn : k + mc ≤ R.cells ∧ n + ms ≤ R.slots) (hd : decode cc pc = .ok (.invokestatic idx, 3))
    (kz : ∀ v S' D', P v S' D' → Z p l e R s m args below meth c nL (WM G s A S' D') (k + mc) (n + ms) Q (pc + 3) lv (v.toList ++ rest)) : Z p l e R s m args below meth c nL (WM G s A S D) k n Q pc lv st := by
  obtain ⟨hx, hb, hml, hown, hts, hre, hlo, hG⟩ := id hC
  refine z_call (av := av.toArray) hC (fun H locs hW ls hls => ?_) kz
  exact va_runSN ⟨hx, hb, hml, hown, hts⟩ hM ⟨va_cnB na hts (GoodCode hcd) rfl rfl rfl (hG.2.2.2.2.1 _ hlk) (hts _ hini) hna hR, hts _ hst, trivial⟩ (preS_ok hG hW) rfl hlen hls hstk (lv_room hrm) hd hkn
theorem z_objInit (hC : CX G cc own nL ret p s m args meth c) {idx x : Nat} {rest : List Value} (h1 : Cond.methodLink own idx objectInit ∈ TB) (h2 : Cond.instanceMethod objectInit ∈ TB) (h3 : Cond.code objectInit ⟨#[0xb1]⟩ 1 none ∈ TB) (hR : 1 ≤ R.frames ∧ 30 ≤ R.locals) (hrm : (rest.map fun v => v.category).sum ≤ 8) (hd : decode cc pc = .ok (.invokespecial idx, 3))
    {Wp : Heap → List Loc → Prop} (kz : Z p l e R s m args below meth c nL Wp k n Q (pc + 3) lv rest) : Z p l e R s m args below meth c nL Wp k n Q pc lv (.ref x :: rest) := by
  intro H locs hW ls hl
  obtain ⟨hx, hb, hml, hown, hts, hre, hlo, hG⟩ := hC
  have hr2 := lv_room (m := m) (pc := pc) (ls := ls) (rest := rest) hrm
  refine W.objInit hx hb hown (hts _ h1) (hts _ h2) (hts _ h3) rfl (by rw [hml]; exact hl.1) rfl hd hR.1 ?_ (kz H locs hW ls hl)
  have : (F0 m pc ls (.ref x :: rest)).monitorRoom = 0 := rfl
  simp only [this] at hr2 ⊢
  omega
theorem Z_of {Wp : Heap → List Loc → Prop} (h : ∀ H locs, Wp H locs → Z p l e R s m args below meth c nL (fun H' L' => H' = H ∧ L' = locs) k n Q pc lv st) : Z p l e R s m args below meth c nL Wp k n Q pc lv st := fun H locs hW ls hl => h H locs hW H locs ⟨rfl, rfl⟩ ls hl
theorem z_ret {mc ms : Nat} {P : Option Value → Sh → Dy → Prop} (hk : k ≤ mc) (hn : n ≤ ms) {o : Option Value} {stk : List Value} (hp : P o S D)
    (hw : ∀ (H : Heap) (locs : List Loc) (ls : Array Slot), (∀ t : State, t.heap = H → s.WarmedH t.vm → QcP G S0 P args s (.returned o) t) → (∀ q ∈ locs, AS G S0 q.base) → W p l e R s m args below meth c H locs mc ms (MQ below (QcP G S0 P) args s mc ms (AS G S0)) (F0 m pc ls stk)) :
    Z p l e R s m args below meth c nL (WM G s (AS G S0) S D) k n (MQ below (QcP G S0 P) args s mc ms (AS G S0)) pc lv stk := by
  intro H locs hW ls hl
  refine W.widen hk hn (hw H locs ls (fun t ht hWt => ?_) hW.2.2.2.2.2)
  exact ⟨⟨o, S, D, rfl, hp, by rw [ht]; exact hW.1, hW.2.1⟩, hW.2.2.2.F ht⟩
theorem z_iret (hC : CX G cc own nL (some .int) p s m args meth c) {mc ms : Nat} {P : Option Value → Sh → Dy → Prop} {v : Int32} (hd : decode cc pc = .ok (.ireturn, 1)) (hk : k ≤ mc) (hn : n ≤ ms) (hp : P (some (.int v)) S D) : Z p l e R s m args below meth c nL (WM G s (AS G S0) S D) k n (MQ below (QcP G S0 P) args s mc ms (AS G S0)) pc lv [.int v] := by
  obtain ⟨hx, hb, hml, hown, hts, hre, hlk, hG⟩ := hC
  exact z_ret hk hn hp fun H locs ls hq hf => W.iret hx hb hre hq hf hd hlk
theorem z_zret (hC : CX G cc own nL (some .boolean) p s m args meth c) {mc ms : Nat} {P : Option Value → Sh → Dy → Prop} {v : Int32} (hd : decode cc pc = .ok (.ireturn, 1)) (hv : v = 0 ∨ v = 1) (hk : k ≤ mc) (hn : n ≤ ms) (hp : P (some (.int v)) S D) : Z p l e R s m args below meth c nL (WM G s (AS G S0) S D) k n (MQ below (QcP G S0 P) args s mc ms (AS G S0)) pc lv [.int v] := by
  obtain ⟨hx, hb, hml, hown, hts, hre, hlk, hG⟩ := hC
  exact z_ret hk hn hp fun H locs ls hq hf => W.zret hx hb hre (by rcases hv with rfl | rfl <;> rfl) hq hf hd hlk
theorem z_lret (hC : CX G cc own nL (some .long) p s m args meth c) {mc ms : Nat} {P : Option Value → Sh → Dy → Prop} {v : Int64} (hd : decode cc pc = .ok (.lreturn, 1)) (hk : k ≤ mc) (hn : n ≤ ms) (hp : P (some (.long v)) S D) : Z p l e R s m args below meth c nL (WM G s (AS G S0) S D) k n (MQ below (QcP G S0 P) args s mc ms (AS G S0)) pc lv [.long v] := by
  obtain ⟨hx, hb, hml, hown, hts, hre, hlk, hG⟩ := hC
  exact z_ret hk hn hp fun H locs ls hq hf => W.lret hx hb hre hq hf hd hlk
theorem z_vret (hC : CX G cc own nL none p s m args meth c) {mc ms : Nat} {P : Option Value → Sh → Dy → Prop} (hd : decode cc pc = .ok (.return_, 1)) (hk : k ≤ mc) (hn : n ≤ ms) (hp : P none S D) : Z p l e R s m args below meth c nL (WM G s (AS G S0) S D) k n (MQ below (QcP G S0 P) args s mc ms (AS G S0)) pc lv [] := by
  obtain ⟨hx, hb, hml, hown, hts, hre, hlk, hG⟩ := hC
  exact z_ret hk hn hp fun H locs ls hq hf => W.vret hx hb hre hq hf hd hlk
theorem z_aret {C : String} (hC : CX G cc own nL (some (.object C)) p s m args meth c) {mc ms : Nat} {P : Option Value → Sh → Dy → Prop} {r : Option Nat} (hd : decode cc pc = .ok (.areturn, 1)) (hk : k ≤ mc) (hn : n ≤ ms) (hp : P (some (va_rf r)) S D) : Z p l e R s m args below meth c nL (WM G s (AS G S0) S D) k n (MQ below (QcP G S0 P) args s mc ms (AS G S0)) pc lv [va_rf r] := by
  obtain ⟨hx, hb, hml, hown, hts, hre, hlk, hG⟩ := hC
  exact z_ret hk hn hp fun H locs ls hq hf => W.aret hx hb hre (Or.inl ⟨C, rfl⟩) (by cases r <;> simp [va_rf]) hq hf hd hlk
/-- a contract out of a walk from the method's entry -/
theorem z_enter {y : MethodName} {b : ByteArray} {h mc ms : Nat} {av : List Value} {P : Option Value → Sh → Dy → Prop} (hy : plainName y.cls = true) (hlen : (lg_sl av).length ≤ nL) {lv0 : List (Nat × Value)} (hlv : lv_args 0 av = lv0)
    (body : ∀ (p : Program) (e : Env) (s : State) (m : MethodId) (args : Array Value) (below : List Frame) (meth : Method) (c : Code), CX G b y.cls nL ret p s m args meth c → meth.name = y.name → Z p l e (rmH h mc ms) s m args below meth c nL (WM G s (AS G S) S D) 0 0 (MQ below (QcP G S P) args s mc ms (AS G S)) 0 lv0 []) : Ct l G y b nL ret h mc ms S D av P := by
  refine Met.ofW (cc := b) (maxL := nL) (ret := ret) hy rfl ?_
  intro p e s m args below meth c s₁ B hml hv
  obtain ⟨rfl, hP, hK⟩ := hv
  have hts := atoms_spec (ws := .code y b nL ret :: TB) B.pre
  have hown : s.vm.findClass y.cls = some m.cls := findClass_of_methodNamed B.named
  have hl := lv_entry av (n := nL) hlen
  rw [lg_entry_eq]
  exact body p e s m av.toArray below meth c ⟨B.exec, B.bytes, hml, hown, fun w hw => hts w (List.mem_cons_of_mem _ hw), B.returns, B.notSynchronized, hK⟩ (name_of_methodNamed B.named B.method).1 s.heap [] ⟨hP, fun _ h => h, AS_base, va_S.rf⟩ _ (by rw [← hlv]; exact hl)
end ZD
