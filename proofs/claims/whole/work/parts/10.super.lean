/-! super.m(..) where the named class has m from above -/
section VSX
variable {p : Program} {l : Launch} {e : Env} {R : Room} {s : State} {m : MethodId} {args : Array Value} {below : List Frame} {meth : Method} {c : Code}
theorem zz_callSX {T : State} {locs : List Loc} {cells slots : Nat} (X : Stand p l e R s m args below meth c T locs cells slots) (hexec : p.tables.exec = Jvm.exec) {own : String} {index : Nat} {x y : MethodName} {bytes : ByteArray} {maxL : Nat} {ret : Option FieldType}
    (hown : s.vm.findClass own = some m.cls) (hlink : (Cond.methodLink own index x).before args s = true) (hsame : (Cond.sameMethod x.cls y.cls x.name x.desc).before args s = true) (hyx : y = ⟨y.cls, x.name, x.desc⟩) (hsup : (Cond.superclass own x.cls).before args s = true) (hsup2 : (Cond.superclass x.cls y.cls).before args s = true)
    (hinst : (Cond.instanceMethod y).before args s = true) (hcode : (Cond.code y bytes maxL ret).before args s = true) (hno : x.name ≠ "<init>")
    {W : Nat} {Pre : Pt → Array Value → Prop} {Post : Pt → Array Value → Option Value → Pt → Prop} (hK : Back l R p e below s args y 3 W Pre Post)
    {b : Addr} {cellB : Cell} {kB : Class} (hcell : T.heap[b]? = some cellB) (hobj : cellB.vm.isStatics = false) (hkB : s.vm.classes[cellB.cls]? = some kB)
    {g : JFrame} (hg : g.method = m) (hsize : g.locals.size = c.maxLocals) {argsL rest : List Value} (hlen : ∀ sig, parseMethodDescriptor y.desc = some sig → argsL.length = sig.parameters.length)
    (hstack : g.stack = argsL.reverse ++ .ref b :: rest) (hW : 2 * g.monitorRoom + (rest.map fun v => v.category).sum ≤ W) (hdg : decode c.code g.pc = .ok (.invokespecial index, 3))
    (hpre : ∀ vm₁, s.WarmedH vm₁ → Pre ⟨T.setVm vm₁, locs, cells, slots⟩ (Value.ref b :: argsL).toArray) :
    ∃ (v : Option Value) (vm₁ : Vm) (B : Pt), s.WarmedH vm₁ ∧ Stand p l e R s m args below meth c B.U B.locs B.cells B.slots ∧ Post ⟨T.setVm vm₁, locs, cells, slots⟩ (Value.ref b :: argsL).toArray v B ∧
      ∀ target, Steps p.tables e below (B.U.setTop { g with pc := g.pc + 3, stack := v.toList ++ rest }) target → Steps p.tables e below (T.setTop g) target := by
  obtain ⟨mk, methM, hnamed, hmethM, hstM, habM⟩ := Cond.instanceMethod_spec hinst
  obtain ⟨methM', cM, hmethM', -, -, -, -, -, -, hsigM⟩ := Cond.code_spec hnamed hcode
  cases hmethM.symm.trans hmethM'
  obtain ⟨ps, dk, kp, hps, hdk, hkp, hsuper, -, hkpo, hnid⟩ := Cond.superclass_spec hown hsup
  obtain ⟨ps2, dk2, kp2, hps2, hdk2, hkp2, hsuper2, -, -, -⟩ := Cond.superclass_spec hps hsup2
  cases hkp.symm.trans hdk2
  have hn : s.methodNamed? ⟨y.cls, x.name, x.desc⟩ = some mk := by rw [← hyx]; exact hnamed
  have hpm : ps2 = mk.cls := Option.some.inj (hps2.symm.trans (findClass_of_methodNamed hnamed))
  have hlt : ps < s.vm.classes.size := (Array.getElem?_eq_some_iff.mp hkp).1
  have hsub : s.vm.isSubclass ps mk.cls = true := by
    rw [← hpm]
    obtain ⟨nn, hnn⟩ : ∃ nn, s.vm.classes.size = nn + 1 := ⟨s.vm.classes.size - 1, (Nat.sub_add_cancel (Nat.lt_of_le_of_lt (Nat.zero_le _) hlt)).symm⟩
    simp [Vm.isSubclass, Vm.isSubclassAux, hnn, hkp, hsuper2]
  obtain ⟨vm₁, X₁, hstep₁⟩ := X.invokespecialUp hexec hown hlink hsame hn hmethM hstM habM hno hdk hnid hps hsuper hsub (a := b) (cell := cellB) hcell
    (fun z h => by rw [h] at hobj; cases hobj) hkB (g := g) hg (argsL := argsL) (rest := rest) (hlen _ hsigM) hstack hdg
  obtain ⟨v, B, X', hpost, hsteps⟩ := hK m meth c ⟨T.setVm vm₁, locs, cells, slots⟩ { g with stack := rest } (.invokespecial index) mk (Value.ref b :: argsL).toArray X₁ hg hsize hdg hW (X₁.named hnamed) (hpre vm₁ X₁.warmed)
  exact ⟨v, vm₁, B, X₁.warmed, X', hpost, fun target h => hstep₁ _ (by rw [doInvoke_state]; exact hsteps.trans h)⟩
end VSX
section VSY
variable {p : Program} {l : Launch} {e : Env} {R : Room} {s : State} {m : MethodId} {args : Array Value} {below : List Frame} {meth : Method} {c : Code} {nL : Nat} {k n : Nat} {Q : State → Prop} {pc : Nat} {lv : List (Nat × Value)} {st : List Value}
variable {G : Gl} {cc : ByteArray} {own : String} {ret : Option FieldType} {A : Nat → Prop} {S S' S0 : Sh} {D D' : Dy} {a N : Nat}
theorem z_callSX (hC : CX G cc own nL ret p s m args meth c) {idx na h mc ms nLy b0 ci : Nat} {T : u_T} {C : String} {x y : MethodName} {b : ByteArray} {rt : Option FieldType} {av rest : List Value} {P : Option Value → Sh → Dy → Prop} (hlk : Cond.methodLink own idx x ∈ TB) (hsm : Cond.sameMethod x.cls y.cls x.name x.desc ∈ TB) (hyx : y = ⟨y.cls, x.name, x.desc⟩) (hsu : Cond.superclass own x.cls ∈ TB) (hsu2 : Cond.superclass x.cls y.cls ∈ TB) (hin : Cond.instanceMethod y ∈ TB) (hini : Cond.initialized y.cls ∈ TB) (hcd : Cond.code y b nLy rt ∈ TB) (hnm : x.name ≠ "<init>") (hna : (parseMethodDescriptor y.desc).map (fun d => d.parameters.length) = some na) (hR : h + 1 ≤ R.frames ∧ 8 + (nLy + 11) + 60 * h ≤ R.locals) (hci : CF ci C T) (h13 : ci < 13) (hK : S.2.1 b0 = ci + 1) (hM : Ct l G y b nLy rt h mc ms S D (.ref (G.1 + b0) :: av) P) (hlen : av.length = na) (hstk : st = av.reverse ++ .ref (G.1 + b0) :: rest) (hrm : (rest.map fun v => v.category).sum ≤ 8) (hkn : k + mc ≤ R.cells ∧ n + ms ≤ R.slots) (hd : decode cc pc = .ok (.invokespecial idx, 3))
    (kz : ∀ v S' D', P v S' D' → Z p l e R s m args below meth c nL (WM G s A S' D') (k + mc) (n + ms) Q (pc + 3) lv (v.toList ++ rest)) : Z p l e R s m args below meth c nL (WM G s A S D) k n Q pc lv st := by
  obtain ⟨hx, hb, hml, hown, hts, hre, hlo, hG⟩ := id hC
  refine z_call (av := (Value.ref (G.1 + b0) :: av).toArray) hC (fun H locs hW ls hls => ?_) kz
  have hK2 : Back l R p e below s args y 3 8 (PreOf R mc ms (va_Pc (.ref (G.1 + b0) :: av) (fun U => Wd G S D U.heap ∧ Gk G U))) (PostOf (QcP G S P) mc ms (AS G S)) :=
    back_of (bytes := b) (maxL := nLy) (ret := rt) hM (preS_ok hG hW).1 rfl rfl hR.1 hR.2 (pay_in hts (GoodCode hcd)) List.mem_cons_self (fun a' U hW => word_at hW (Or.inl (by first | rfl | simp [Cond.onTables, Cond.keeps, Cond.steady])) (hts _ hini))
  obtain ⟨cell, g1, g2, g3⟩ := recv_ok hG hW hci h13 hK
  obtain ⟨kB, hkB, -⟩ := Vm.findClass_spec g3
  intro T0 hT X
  obtain ⟨v, vm₁, ⟨U', l2, c2, s2⟩, hW₁, X', ⟨g', mk, t, L, e1, e2, hq, h1, hL, h2, h3⟩, stp⟩ := zz_callSX X hx (bytes := b) (maxL := nLy) (ret := rt) hown (hts _ hlk) (hts _ hsm) hyx (hts _ hsu) (hts _ hsu2) (hts _ hin) (hts _ hcd) hnm hK2 (by rw [hT]; exact g1) g2 hkB (g := F0 m pc ls st) rfl (hls.trans hml.symm) (argsL := av) (rest := rest) (fun sig hsig => by rw [hsig] at hna; exact hlen.trans (Option.some.inj hna).symm) hstk (lv_room hrm) (by rw [hb]; exact hd)
    (fun vm₁ hW₁ => ⟨hkn.1, hkn.2, (preS_ok hG hW).2 (T0.setVm vm₁) hT hW₁⟩)
  dsimp only [Pt.U, Pt.locs, Pt.cells, Pt.slots] at X' e1 e2 h1 h2 h3 stp
  subst h1; subst h2; subst h3
  exact ⟨v, (T0.setVm vm₁).calling g' mk (Value.ref (G.1 + b0) :: av).toArray, t, U', L, hT, X', hL, e1, e2, hq, stp⟩
end VSY
