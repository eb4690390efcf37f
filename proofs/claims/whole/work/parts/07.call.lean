/-! NEW CELLS, CALLS, ENDS over Z -/
theorem fty_def : ∀ c, c < 13 → ∀ j, j < nF c → (fty c j = .int ∨ fty c j = .long ∨ defaultValue (fty c j) = .null) := by decide +kernel
section ZC
variable {p : Program} {l : Launch} {e : Env} {R : Room} {s : State} {m : MethodId} {args : Array Value} {below : List Frame} {meth : Method} {c : Code} {nL : Nat} {k n : Nat} {Q : State → Prop} {pc : Nat} {lv : List (Nat × Value)} {st : List Value}
variable {G : Gl} {cc : ByteArray} {own : String} {ret : Option FieldType} {A : Nat → Prop} {S S' S0 : Sh} {D D' : Dy} {a N : Nat}
theorem Wd_push {H H1 : Heap} {locs : List Loc} {kd ln : Nat} (hW : WM G s A S D H locs) (hkd : kd ≠ 0) (hnew : Wa G (sN S kd ln) (dN D S.1) H1 S.1) (hz : H1.size = H.size + 1) (oq : ∀ q : Nat, q < H.size → H1[q]? = H[q]?) : WM G s A (sN S kd ln) (dN D S.1) H1 locs := by
  obtain ⟨w1, w2, w3, w4⟩ := hW
  refine ⟨⟨by rw [hz, w1.1]; rfl, fun b hb => ?_, fun b => ?_⟩, fun q ⟨b, e1, e2⟩ => w2 q ⟨b, e1, ?_⟩, w3, ?_⟩
  · by_cases h : b = S.1
    · rw [h]; exact Nat.lt_succ_self _
    · have : S.2.1 b ≠ 0 := by simpa [sN, h] using hb
      exact Nat.lt_succ_of_lt (w1.2.1 b this)
  · by_cases h : b = S.1
    · rw [h]; exact hnew
    · exact Wa_congr (by simp [sN, h]) (by simp [sN, h]) (by funext j; simp [sN, h]) (by funext j; simp [dN, h]) (by funext j; simp [dN, h]) (fun hb => oq _ (by have := w1.2.1 b hb; have := w1.1; omega)) (w1.2.2 b)
  · by_cases h : b = S.1
    · right; omega
    · rcases e2 with e2 | e2
      · left; simpa [sN, h] using e2
      · right; have : S.1 + 1 ≤ b := e2; omega
  · refine ⟨by have := w4.1; omega, fun q h1 h2 => (oq q (by have := w4.1; omega)).trans (w4.2.1 q h1 h2), w4.2.2⟩
theorem z_new (hC : CX G cc own nL ret p s m args meth c) {idx ci : Nat} {C : String} {T : u_T} (hci : CF ci C T) (h13 : ci < 13) (hcl : Cond.classLink own idx C ∈ TB) (hcells : k + 1 ≤ R.cells) (hslots : n + nF ci ≤ R.slots) (hd : decode cc pc = .ok (.new idx, 3))
    (kz : Z p l e R s m args below meth c nL (WM G s A (sN S (ci + 1) 0) (dN D S.1)) (k + 1) (n + nF ci) Q (pc + 3) lv (.ref (G.1 + S.1) :: st)) : Z p l e R s m args below meth c nL (WM G s A S D) k n Q pc lv st := by
  intro H locs hW ls hl
  obtain ⟨hx, hb, hml, hown, hts, hre, hlk, hG⟩ := hC
  obtain ⟨g1, g2, g3, g4, g5, g6⟩ := hci
  have hKn := hG.1.1 ci _ g1
  refine W.newcK hx hb hown (hts _ hcl) (hts _ g5) (hts _ g6) rfl hd hcells hslots hKn.2.1 rfl fun H1 kC hkC e1 z1 o1 => ?_
  have hsz : H.size = G.1 + S.1 := hW.1.1
  rw [hsz]
  refine kz H1 _ (Wd_push hW (by omega) ?_ z1 o1) ls hl
  unfold Wa
  have hk : (sN S (ci + 1) 0).2.1 S.1 = ci + 1 := by simp [sN]
  rw [hk, if_neg (by omega), if_pos (by omega)]
  show t_OB (G.1 + S.1) (G.2.1.1 ci) (nF ci) (G.2.1.2 ci) H1 _
  rw [hsz] at e1
  refine (u_born (fty ci) hts g2 hKn hkC e1 g3).to fun j hj => ?_
  have hfd := fty_def ci h13 j hj
  show defaultValue (fty ci j) = fV G.1 (sN S (ci + 1) 0) (dN D S.1) ci S.1 j
  unfold fV
  have e3 : (sN S (ci + 1) 0).2.2.2 S.1 j = none := by simp [sN]
  have e4 : (dN D S.1).1 S.1 j = 0 := by simp [dN]
  have e5 : (dN D S.1).2 S.1 j = 0 := by simp [dN]
  rw [e3, e4, e5]
  cases hq : fty ci j <;> rw [hq] at hfd <;> simp [defaultValue, va_rf] at hfd ⊢
theorem z_newa (hC : CX G cc own nL ret p s m args meth c) {at_ : ArrayType} {ty : FieldType} {t : Nat} (hty : newarray.typeOf at_ = ty) (hcase : (ty = .int ∧ t = 20) ∨ (ty = .long ∧ t = 21) ∨ (ty = .boolean ∧ t = 22)) (hw : Cond.arrayClass ty ∈ TB) {i : Int32} (hi : ¬ i < 0) (hN : i.toNatClampNeg = N) (hbig : N ≤ 1000000) (hcells : k + 1 ≤ R.cells) (hslots : n + N ≤ R.slots) (hd : decode cc pc = .ok (.newarray at_, 2))
    (kz : Z p l e R s m args below meth c nL (WM G s A (sN S t N) (dN D S.1)) (k + 1) (n + N) Q (pc + 2) lv (.ref (G.1 + S.1) :: st)) : Z p l e R s m args below meth c nL (WM G s A S D) k n Q pc lv (.int i :: st) := by
  intro H locs hW ls hl
  obtain ⟨hx, hb, hml, hown, hts, hre, hlk, hG⟩ := hC
  subst hty
  have hbytes : N * componentBytes (newarray.typeOf at_) ≤ 536870912 := by
    rcases hcase with ⟨h, -⟩ | ⟨h, -⟩ | ⟨h, -⟩ <;> rw [h] <;> simp [componentBytes] <;> omega
  refine va_newaK hx hb (hts _ hw) rfl hd rfl hi hN hbytes hcells hslots rfl fun H1 cA e1 z1 o1 hAr hNm => ?_
  have hsz : H.size = G.1 + S.1 := hW.1.1
  have hcA : cA = G.2.2.1 t := by
    rcases hcase with ⟨h, rfl⟩ | ⟨h, rfl⟩ | ⟨h, rfl⟩ <;> rw [h] at hNm
    · have h2 : s.vm.findClass ("[" ++ FieldType.int.toString) = some (G.2.2.1 20) := (hG.1.2 0 _ rfl).2
      exact Option.some.inj (hNm.symm.trans h2)
    · have h2 : s.vm.findClass ("[" ++ FieldType.long.toString) = some (G.2.2.1 21) := (hG.1.2 1 _ rfl).2
      exact Option.some.inj (hNm.symm.trans h2)
    · have h2 : s.vm.findClass ("[" ++ FieldType.boolean.toString) = some (G.2.2.1 22) := (hG.1.2 2 _ rfl).2
      exact Option.some.inj (hNm.symm.trans h2)
  subst hcA
  rw [hsz] at e1 ⊢
  refine kz H1 _ (Wd_push hW (by omega) ?_ z1 o1) ls hl
  have hk : (sN S t N).2.1 S.1 = t := by simp [sN]
  have hn : (sN S t N).2.2.1 S.1 = N := by simp [sN]
  rcases hcase with ⟨h, rfl⟩ | ⟨h, rfl⟩ | ⟨h, rfl⟩ <;> rw [h] at e1
  · refine Wa_of_i hk (Or.inl rfl) ?_
    rw [e1, hn]; congr 2; funext j; simp [dN, defaultValue]
  · refine Wa_of_l hk ?_
    rw [e1, hn]; congr 2; funext j; simp [dN, defaultValue]
  · refine Wa_of_i hk (Or.inr rfl) ?_
    rw [e1, hn]; congr 2; funext j; simp [dN, defaultValue]
theorem z_anew (hC : CX G cc own nL ret p s m args meth c) {idx : Nat} (hcl : Cond.classLink own idx "WhyChosen$Model" ∈ TB) {i : Int32} (hi : ¬ i < 0) (hN : i.toNatClampNeg = N) (hbig : N ≤ 1000000) (hcells : k + 1 ≤ R.cells) (hslots : n + N ≤ R.slots) (hd : decode cc pc = .ok (.anewarray idx, 3))
    (kz : Z p l e R s m args below meth c nL (WM G s A (sN S 23 N) (dN D S.1)) (k + 1) (n + N) Q (pc + 3) lv (.ref (G.1 + S.1) :: st)) : Z p l e R s m args below meth c nL (WM G s A S D) k n Q pc lv (.int i :: st) := by
  intro H locs hW ls hl
  obtain ⟨hx, hb, hml, hown, hts, hre, hlk, hG⟩ := hC
  subst hN
  refine W.anew hx hb hown (hts _ hcl) (hG.2.2.2.2.2.2.2.2 (.object "WhyChosen$Model") (by decide)) rfl hd rfl hi (by omega) hcells hslots fun cA kA comp f1 f2 f3 f4 => ?_
  have hsz : H.size = G.1 + S.1 := hW.1.1
  generalize hH1 : H.push ({ cls := cA, slots := Array.replicate i.toNatClampNeg .null, vm := .none } : Cell) = H1
  have z1 : H1.size = H.size + 1 := by rw [← hH1, Array.size_push]
  have e1 : H1[H.size]? = some (arrV cA i.toNatClampNeg (fun _ => .null)) := by rw [← hH1, Array.getElem?_push_size, ← arrV_new]
  have o1 : ∀ q : Nat, q < H.size → H1[q]? = H[q]? := fun q hq => by rw [← hH1, Array.getElem?_push, if_neg (Nat.ne_of_lt hq)]
  have hcA : cA = G.2.2.1 23 := by
    obtain ⟨_, _, _, _, _, h4⟩ := (hG.1.2 3 _ rfl).2
    exact Option.some.inj (f1.symm.trans h4)
  subst hcA
  rw [hsz]
  rw [hsz] at e1
  refine kz H1 _ (Wd_push hW (by omega) ?_ z1 o1) ls hl
  have hk : (sN S 23 i.toNatClampNeg).2.1 S.1 = 23 := by simp [sN]
  have hn : (sN S 23 i.toNatClampNeg).2.2.1 S.1 = i.toNatClampNeg := by simp [sN]
  refine Wa_of_r hk (by omega) ?_
  rw [e1, hn]; congr 2; funext j; simp [sN, va_rf]
/-- a call comes back -/
theorem z_call (hC : CX G cc own nL ret p s m args meth c) {mc ms : Nat} {st0 rest : List Value} {av : Array Value} {P : Option Value → Sh → Dy → Prop}
    (hr : ∀ H locs, WM G s A S D H locs → ∀ ls : Array Slot, ls.size = nL → va_Run p l e R s m args below meth c H locs k n mc ms (F0 m pc ls st0) rest (QcP G S P av) (AS G S))
    (kz : ∀ v S' D', P v S' D' → Z p l e R s m args below meth c nL (WM G s A S' D') (k + mc) (n + ms) Q (pc + 3) lv (v.toList ++ rest)) : Z p l e R s m args below meth c nL (WM G s A S D) k n Q pc lv st0 := by
  intro H locs hW ls hl T hT X
  obtain ⟨v, st₀, t, T', L, h0, X', hL, e1, e2, ⟨⟨v', S', D', hv, hp, hWd, hsub⟩, hz, hk⟩, stp⟩ := hr H locs hW ls hl.1 T hT X
  cases hv
  rw [h0] at hz hk
  obtain ⟨w1, w2, w3, w4⟩ := hW
  have hW' : WM G s A S' D' T'.heap (locs ++ L) := by
    refine ⟨by rw [e1]; exact hWd, fun q hq => w2 q (hsub q hq), w3, Nat.le_trans w4.1 (by rw [e1]; exact hz), fun q h1 h2 => ?_, fun q hq => ?_⟩
    · rw [e1, hk q (Nat.lt_of_lt_of_le h1 w4.1) (fun z => h2 (w2 q z))]; exact w4.2.1 q h1 h2
    · rcases List.mem_append.mp hq with h | h
      · exact w4.2.2 q h
      · exact w2 _ (hL q h)
  obtain ⟨t2, a1, b1⟩ := kz _ S' D' hp T'.heap _ hW' ls hl T' rfl X'
  exact ⟨t2, stp t2 a1, b1⟩
/-- the words and the room of a callee -/
def CK (R : Room) (own : String) (idx : Nat) (y : MethodName) (b : ByteArray) (nLy : Nat) (rt : Option FieldType) (h na : Nat) : Prop :=
  Cond.methodLink own idx y ∈ TB ∧ Cond.initialized y.cls ∈ TB ∧ Cond.code y b nLy rt ∈ TB ∧ (y.cls ≠ "java/lang/invoke/MethodHandle" ∧ y.cls ≠ "java/lang/invoke/VarHandle" ∧ (parseMethodDescriptor y.desc).map (fun d => d.parameters.length) = some na) ∧ h + 1 ≤ R.frames ∧ 8 + (nLy + 11) + 60 * h ≤ R.locals
theorem GoodCode {y : MethodName} {b : ByteArray} {nLy : Nat} {rt : Option FieldType} (h : Cond.code y b nLy rt ∈ TB) : GoodIn TB (Cond.code y b nLy rt :: TB) := fun w hw => by
  rcases List.mem_cons.mp hw with rfl | hw
  · exact ⟨h, TB_good h⟩
  · exact ⟨hw, TB_good hw⟩
theorem CK.callB (hts : ∀ w ∈ TB, w.before args s = true) {idx na h mc ms nLy : Nat} {y : MethodName} {b : ByteArray} {rt : Option FieldType} (ck : CK R own idx y b nLy rt h na) : CallB R s args own idx y b nLy rt (Cond.code y b nLy rt :: TB) (rmH h mc ms) mc ms na :=
  callB_of na hts (GoodCode ck.2.2.1) rfl rfl rfl (hts _ ck.2.1) (hts _ ck.1) ck.2.2.2.1 ck.2.2.2.2
theorem z_callS (hC : CX G cc own nL ret p s m args meth c) {idx na h mc ms nLy : Nat} {y : MethodName} {b : ByteArray} {rt : Option FieldType} {av rest : List Value} {P : Option Value → Sh → Dy → Prop} (ck : CK R own idx y b nLy rt h na) (hst : Cond.static y ∈ TB) (hM : Ct l G y b nLy rt h mc ms S D av P) (hlen : av.length = na) (hstk : st = av.reverse ++ rest) (hrm : (rest.map fun v => v.category).sum ≤ 8) (hkn : k + mc ≤ R.cells ∧ n + ms ≤ R.slots) (hd : decode cc pc = .ok (.invokestatic idx, 3))
    (kz : ∀ v S' D', P v S' D' → Z p l e R s m args below meth c nL (WM G s A S' D') (k + mc) (n + ms) Q (pc + 3) lv (v.toList ++ rest)) : Z p l e R s m args below meth c nL (WM G s A S D) k n Q pc lv st := by
  obtain ⟨hx, hb, hml, hown, hts, hre, hlk, hG⟩ := id hC
  refine z_call (av := av.toArray) hC (fun H locs hW ls hls => ?_) kz
  exact va_runS ⟨hx, hb, hml, hown, hts⟩ hM ⟨ck.callB hts, hts _ hst⟩ (preS_ok hG hW) rfl hlen hls hstk (lv_room hrm) hd hkn
theorem recv_ok (hG : Gk G s) {H : Heap} {locs : List Loc} {b ci : Nat} {C : String} {T : u_T} (hW : WM G s A S D H locs) (hci : CF ci C T) (h13 : ci < 13) (hK : S.2.1 b = ci + 1) : ∃ cell : Cell, H[G.1 + b]? = some cell ∧ cell.vm.isStatics = false ∧ s.vm.findClass C = some cell.cls := by
  obtain ⟨cell, g1, g2, g3, -⟩ := Wa_obj hW.1 hK h13
  exact ⟨cell, g1, by rw [g3]; rfl, by rw [g2]; exact (hG.1.1 ci _ hci.1).2.1⟩
theorem z_callV (hC : CX G cc own nL ret p s m args meth c) {idx na h mc ms nLy b0 ci : Nat} {T : u_T} {y : MethodName} {b : ByteArray} {rt : Option FieldType} {av rest : List Value} {P : Option Value → Sh → Dy → Prop} (ck : CK R own idx y b nLy rt h na) (hin : Cond.instanceMethod y ∈ TB) (hse : Cond.selects y.cls y y ∈ TB) (hci : CF ci y.cls T) (h13 : ci < 13) (hK : S.2.1 b0 = ci + 1) (hM : Ct l G y b nLy rt h mc ms S D (.ref (G.1 + b0) :: av) P) (hlen : av.length = na) (hstk : st = av.reverse ++ .ref (G.1 + b0) :: rest) (hrm : (rest.map fun v => v.category).sum ≤ 8) (hkn : k + mc ≤ R.cells ∧ n + ms ≤ R.slots) (hd : decode cc pc = .ok (.invokevirtual idx, 3))
    (kz : ∀ v S' D', P v S' D' → Z p l e R s m args below meth c nL (WM G s A S' D') (k + mc) (n + ms) Q (pc + 3) lv (v.toList ++ rest)) : Z p l e R s m args below meth c nL (WM G s A S D) k n Q pc lv st := by
  obtain ⟨hx, hb, hml, hown, hts, hre, hlk, hG⟩ := id hC
  refine z_call (av := (Value.ref (G.1 + b0) :: av).toArray) hC (fun H locs hW ls hls => ?_) kz
  exact va_runV (C := y.cls) ⟨hx, hb, hml, hown, hts⟩ hM ⟨ck.callB hts, hts _ hin, hts _ hse⟩ ⟨(preS_ok hG hW).1, recv_ok hG hW hci h13 hK, (preS_ok hG hW).2⟩ rfl hlen hls hstk (lv_room hrm) hd hkn
theorem z_callI (hC : CX G cc own nL ret p s m args meth c) {idx na h mc ms nLy b0 : Nat} {y : MethodName} {b : ByteArray} {av rest : List Value} {P : Option Value → Sh → Dy → Prop} (ck : CK R own idx y b nLy none h na) (hnm : y.name = "<init>") (hin : Cond.instanceMethod y ∈ TB) (hM : Ct l G y b nLy none h mc ms S D (.ref (G.1 + b0) :: av) P) (hlen : av.length = na) (hstk : st = av.reverse ++ .ref (G.1 + b0) :: rest) (hrm : (rest.map fun v => v.category).sum ≤ 8) (hkn : k + mc ≤ R.cells ∧ n + ms ≤ R.slots) (hd : decode cc pc = .ok (.invokespecial idx, 3))
    (kz : ∀ v S' D', P v S' D' → Z p l e R s m args below meth c nL (WM G s A S' D') (k + mc) (n + ms) Q (pc + 3) lv (v.toList ++ rest)) : Z p l e R s m args below meth c nL (WM G s A S D) k n Q pc lv st := by
  obtain ⟨hx, hb, hml, hown, hts, hre, hlk, hG⟩ := id hC
  refine z_call (av := (Value.ref (G.1 + b0) :: av).toArray) hC (fun H locs hW ls hls => ?_) kz
  exact va_runI ⟨hx, hb, hml, hown, hts⟩ hM ⟨ck.callB hts, hnm, hts _ hin⟩ (preS_ok hG hW) rfl hlen hls hstk (lv_room hrm) hd hkn
end ZC
