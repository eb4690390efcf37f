/-! the JDK's members that the system calls: Integer.bitCount, String.length and charAt of the seven texts -/
theorem kc_J6_265 : Cond.constant RJ6 265 (1431655765 : Int32) ∈ TB := tw_655
theorem kc_J6_266 : Cond.constant RJ6 266 (858993459 : Int32) ∈ TB := tw_656
theorem kc_J6_267 : Cond.constant RJ6 267 (252645135 : Int32) ∈ TB := tw_657
def fJ6_bitCount_0f7a4 (a1 : Int32) (post : Int32 → Prop) : Prop :=
  (∀ v1 : Int32, v1 = (a1 - (((a1).toUInt32 >>> (((1 : Int32)).toUInt32 &&& Int32.toUInt32 31)).toInt32 &&& (1431655765 : Int32))) → (∀ v3 : Int32, v3 = ((v1 &&& (858993459 : Int32)) + (((v1).toUInt32 >>> (((2 : Int32)).toUInt32 &&& Int32.toUInt32 31)).toInt32 &&& (858993459 : Int32))) → (∀ v5 : Int32, v5 = ((v3 + ((v3).toUInt32 >>> (((4 : Int32)).toUInt32 &&& Int32.toUInt32 31)).toInt32) &&& (252645135 : Int32)) → (∀ v7 : Int32, v7 = (v5 + ((v5).toUInt32 >>> (((8 : Int32)).toUInt32 &&& Int32.toUInt32 31)).toInt32) → (∀ v9 : Int32, v9 = (v7 + ((v7).toUInt32 >>> (((16 : Int32)).toUInt32 &&& Int32.toUInt32 31)).toInt32) → post (v9 &&& (63 : Int32)))))))
set_option maxHeartbeats 4000000 in
set_option maxRecDepth 100000 in
theorem ct_J6_bitCount_0f7a4 {l : Launch} {G : Gl} {S : Sh} {D : Dy}  {a1 : Int32} {post : Int32 → Prop} (E : fJ6_bitCount_0f7a4 a1 post) : Ct l G yJ6_bitCount_0f7a4 cJ6_bitCount_0f7a4 1 (some .int) 0 0 0 S D [.int a1] (PIr S D post) := by
  refine z_enter (lv0 := [(0, .int a1)]) (by decide) (Nat.le_of_ble_eq_true rfl) rfl ?_
  intro p e s m args below meth c hC hnm
  unfold fJ6_bitCount_0f7a4 at E
  refine z_iload_n hC dJ6_bitCount_0f7a4_0 rfl 0 rfl ?_
  refine z_iload_n hC dJ6_bitCount_0f7a4_1 rfl 0 rfl ?_
  refine z_iconst (v := 1) hC dJ6_bitCount_0f7a4_2 rfl ?_
  refine z_iushr hC dJ6_bitCount_0f7a4_3 ?_
  refine z_ldcw hC kc_J6_265 dJ6_bitCount_0f7a4_4 ?_
  refine z_iand hC dJ6_bitCount_0f7a4_7 ?_
  refine z_isub hC dJ6_bitCount_0f7a4_8 ?_
  refine z_topi (fun v1 h2 => ?_)
  replace E := E v1 h2
  refine z_istore_n (lv' := [(0, .int v1)]) hC dJ6_bitCount_0f7a4_9 rfl (Nat.le_of_ble_eq_true rfl) rfl ?_
  refine z_iload_n hC dJ6_bitCount_0f7a4_10 rfl 0 rfl ?_
  refine z_ldcw hC kc_J6_266 dJ6_bitCount_0f7a4_11 ?_
  refine z_iand hC dJ6_bitCount_0f7a4_14 ?_
  refine z_iload_n hC dJ6_bitCount_0f7a4_15 rfl 0 rfl ?_
  refine z_iconst (v := 2) hC dJ6_bitCount_0f7a4_16 rfl ?_
  refine z_iushr hC dJ6_bitCount_0f7a4_17 ?_
  refine z_ldcw hC kc_J6_266 dJ6_bitCount_0f7a4_18 ?_
  refine z_iand hC dJ6_bitCount_0f7a4_21 ?_
  refine z_iadd hC dJ6_bitCount_0f7a4_22 ?_
  refine z_topi (fun v3 h4 => ?_)
  replace E := E v3 h4
  refine z_istore_n (lv' := [(0, .int v3)]) hC dJ6_bitCount_0f7a4_23 rfl (Nat.le_of_ble_eq_true rfl) rfl ?_
  refine z_iload_n hC dJ6_bitCount_0f7a4_24 rfl 0 rfl ?_
  refine z_iload_n hC dJ6_bitCount_0f7a4_25 rfl 0 rfl ?_
  refine z_iconst (v := 4) hC dJ6_bitCount_0f7a4_26 rfl ?_
  refine z_iushr hC dJ6_bitCount_0f7a4_27 ?_
  refine z_iadd hC dJ6_bitCount_0f7a4_28 ?_
  refine z_ldcw hC kc_J6_267 dJ6_bitCount_0f7a4_29 ?_
  refine z_iand hC dJ6_bitCount_0f7a4_32 ?_
  refine z_topi (fun v5 h6 => ?_)
  replace E := E v5 h6
  refine z_istore_n (lv' := [(0, .int v5)]) hC dJ6_bitCount_0f7a4_33 rfl (Nat.le_of_ble_eq_true rfl) rfl ?_
  refine z_iload_n hC dJ6_bitCount_0f7a4_34 rfl 0 rfl ?_
  refine z_iload_n hC dJ6_bitCount_0f7a4_35 rfl 0 rfl ?_
  refine z_bipush (v := 8) hC dJ6_bitCount_0f7a4_36 rfl ?_
  refine z_iushr hC dJ6_bitCount_0f7a4_38 ?_
  refine z_iadd hC dJ6_bitCount_0f7a4_39 ?_
  refine z_topi (fun v7 h8 => ?_)
  replace E := E v7 h8
  refine z_istore_n (lv' := [(0, .int v7)]) hC dJ6_bitCount_0f7a4_40 rfl (Nat.le_of_ble_eq_true rfl) rfl ?_
  refine z_iload_n hC dJ6_bitCount_0f7a4_41 rfl 0 rfl ?_
  refine z_iload_n hC dJ6_bitCount_0f7a4_42 rfl 0 rfl ?_
  refine z_bipush (v := 16) hC dJ6_bitCount_0f7a4_43 rfl ?_
  refine z_iushr hC dJ6_bitCount_0f7a4_45 ?_
  refine z_iadd hC dJ6_bitCount_0f7a4_46 ?_
  refine z_topi (fun v9 h10 => ?_)
  replace E := E v9 h10
  refine z_istore_n (lv' := [(0, .int v9)]) hC dJ6_bitCount_0f7a4_47 rfl (Nat.le_of_ble_eq_true rfl) rfl ?_
  refine z_iload_n hC dJ6_bitCount_0f7a4_48 rfl 0 rfl ?_
  refine z_bipush (v := 63) hC dJ6_bitCount_0f7a4_49 rfl ?_
  refine z_iand hC dJ6_bitCount_0f7a4_51 ?_
  exact z_iret hC dJ6_bitCount_0f7a4_52 (Nat.le_refl _) (Nat.le_refl _) ⟨_, rfl, rfl, rfl, E⟩
/-- how many bits are set, as the JDK counts them -/
def bitC (x : Int32) : Int32 :=
  let u := fun (y : Int32) (k : Int32) => (y.toUInt32 >>> (k.toUInt32 &&& Int32.toUInt32 31)).toInt32
  let a := x - (u x 1 &&& 1431655765)
  let b := (a &&& 858993459) + (u a 2 &&& 858993459)
  let c := (b + u b 4) &&& 252645135
  let d := c + u c 8
  (d + u d 16) &&& 63
theorem fJ6_bitC (x : Int32) (post : Int32 → Prop) (h : post (bitC x)) : fJ6_bitCount_0f7a4 x post := by
  unfold fJ6_bitCount_0f7a4
  intro a ha b hb c hc d hd e he
  subst ha; subst hb; subst hc; subst hd; subst he
  exact h
section ZJ
variable {p : Program} {l : Launch} {e : Env} {R : Room} {s : State} {m : MethodId} {args : Array Value} {below : List Frame} {meth : Method} {c : Code} {nL : Nat} {k n : Nat} {Q : State → Prop} {pc : Nat} {lv : List (Nat × Value)} {st : List Value}
variable {G : Gl} {cc : ByteArray} {own : String} {ret : Option FieldType} {A : Nat → Prop} {S S' S0 : Sh} {D D' : Dy} {a N : Nat} {Wp : Heap → List Loc → Prop}

theorem z_bitCount (hC : CX G cc own nL ret p s m args meth c) {idx : Nat} (h1 : Cond.methodLink own idx yJ6_bitCount_0f7a4 ∈ TB) (hR : 1 ≤ R.frames ∧ 30 ≤ R.locals) (hkn : k ≤ R.cells ∧ n ≤ R.slots) (hrm : (st.map fun v => v.category).sum ≤ 8) {x : Int32} (hd : decode cc pc = .ok (.invokestatic idx, 3)) (kz : Z p l e R s m args below meth c nL (WM G s A S D) k n Q (pc + 3) lv (.int (bitC x) :: st)) : Z p l e R s m args below meth c nL (WM G s A S D) k n Q pc lv (.int x :: st) := by
  refine z_callS (mc := 0) (ms := 0) (rest := st) (av := [.int x]) (na := 1) (nLy := 1) (h := 0) hC (ck_mk h1 tw_19 tw_654 ⟨by decide +kernel, by decide +kernel, by decide +kernel⟩ hR.1 (by omega)) tw_653 (ct_J6_bitCount_0f7a4 (fJ6_bitC x (fun r => r = bitC x) rfl)) rfl rfl hrm (by omega) hd ?_
  rintro _ _ _ ⟨r, rfl, rfl, rfl, rfl⟩
  exact kz
theorem va_S_mono {A B : Nat → Prop} {H0 H : Heap} {locs : List Loc} (h : va_S A H0 H locs) (hAB : ∀ q, A q → B q) : va_S B H0 H locs := ⟨h.1, fun q h1 h2 => h.2.1 q h1 (fun z => h2 (hAB q z)), fun l hl => hAB _ (h.2.2 l hl)⟩
theorem z_sgetV (hC : CX G cc own nL ret p s m args meth c) {sx idx : Nat} (hsx : sx < 7) (hl1 : Cond.fieldLink own idx "java/lang/String" "value" "[B" ∈ TB) (hd : decode cc pc = .ok (.getfield idx, 3)) (kz : Z p l e R s m args below meth c nL (WM G s A S D) k n Q (pc + 3) lv (.ref (G.2.2.2.2 sx) :: st)) : Z p l e R s m args below meth c nL (WM G s A S D) k n Q pc lv (.ref (G.2.2.2.1 sx) :: st) := by
  intro H locs hW ls hl
  obtain ⟨hx, hb, hml, hown, hts, hre, hlo, hG⟩ := hC
  exact vk_getf (A := fun q => G.1 ≤ q) hx hb (hG.2.1.1 sx hsx).2.2.1 (va_S_mono hW.2.2.2 hW.2.2.1) hown (hts _ hl1) (fun _ h => h) hd (kz H locs hW ls hl)
theorem z_sgetC (hC : CX G cc own nL ret p s m args meth c) {sx idx : Nat} (hsx : sx < 7) (hl1 : Cond.fieldLink own idx "java/lang/String" "coder" "B" ∈ TB) (hd : decode cc pc = .ok (.getfield idx, 3)) (kz : Z p l e R s m args below meth c nL (WM G s A S D) k n Q (pc + 3) lv (.int 0 :: st)) : Z p l e R s m args below meth c nL (WM G s A S D) k n Q pc lv (.ref (G.2.2.2.1 sx) :: st) := by
  intro H locs hW ls hl
  obtain ⟨hx, hb, hml, hown, hts, hre, hlo, hG⟩ := hC
  exact vk_getf (A := fun q => G.1 ≤ q) hx hb (hG.2.1.1 sx hsx).2.1 (va_S_mono hW.2.2.2 hW.2.2.1) hown (hts _ hl1) (fun _ h => h) hd (kz H locs hW ls hl)
theorem z_slenA (hC : CX G cc own nL ret p s m args meth c) {sx : Nat} (hsx : sx < 7) (hd : decode cc pc = .ok (.arraylength, 1)) (kz : Z p l e R s m args below meth c nL (WM G s A S D) k n Q (pc + 1) lv (.int (Int32.ofNat (wLen.getD sx 0)) :: st)) : Z p l e R s m args below meth c nL (WM G s A S D) k n Q pc lv (.ref (G.2.2.2.2 sx) :: st) := by
  intro H locs hW ls hl
  obtain ⟨hx, hb, hml, hown, hts, hre, hlo, hG⟩ := hC
  obtain ⟨cell, h1, h2, h3, h4, h5, h6, h7⟩ := (hG.2.1.1 sx hsx).2.2.2
  have hS := va_S_mono hW.2.2.2 hW.2.2.1
  exact W.alen hx hb (by rw [hS.2.1 _ (Array.getElem?_eq_some_iff.mp h1).1 h7]; exact h1) h2 h5 rfl rfl hd (kz H locs hW ls hl)
theorem z_sbald (hC : CX G cc own nL ret p s m args meth c) {sx : Nat} (hsx : sx < 7) {i : Int32} (hin : vp_in i (wLen.getD sx 0)) (hd : decode cc pc = .ok (.baload, 1)) (kz : Z p l e R s m args below meth c nL (WM G s A S D) k n Q (pc + 1) lv (.int ((wByt.getD sx []).getD i.toNatClampNeg 0) :: st)) : Z p l e R s m args below meth c nL (WM G s A S D) k n Q pc lv (.int i :: .ref (G.2.2.2.2 sx) :: st) := by
  intro H locs hW ls hl
  obtain ⟨hx, hb, hml, hown, hts, hre, hlo, hG⟩ := hC
  exact va_tb (A := fun q => G.1 ≤ q) hx hb (hG.2.1.1 sx hsx).2.2.2 (va_S_mono hW.2.2.2 hW.2.2.1) hin rfl hd (kz H locs hW ls hl)
theorem z_gsC (hC : CX G cc own nL ret p s m args meth c) {idx : Nat} (hl1 : Cond.fieldLink own idx "java/lang/String" "COMPACT_STRINGS" "Z" ∈ TB) (hd : decode cc pc = .ok (.getstatic idx, 3)) (kz : Z p l e R s m args below meth c nL (WM G s A S D) k n Q (pc + 3) lv (.int 1 :: st)) : Z p l e R s m args below meth c nL (WM G s A S D) k n Q pc lv st := by
  intro H locs hW ls hl
  obtain ⟨hx, hb, hml, hown, hts, hre, hlo, hG⟩ := hC
  exact va_gets (A := fun q => G.1 ≤ q) hx hb hG.2.2.2.2.2.2.1 (va_S_mono hW.2.2.2 hW.2.2.1) hown (hts _ hl1) (fun _ h => h) hd (kz H locs hW ls hl)
theorem z_gsF (hC : CX G cc own nL ret p s m args meth c) {idx : Nat} (hl1 : Cond.fieldLink own idx "jdk/internal/util/Preconditions" "SIOOBE_FORMATTER" "Ljava/util/function/BiFunction;" ∈ TB) (hd : decode cc pc = .ok (.getstatic idx, 3)) (kz : ∀ r : Option Nat, Z p l e R s m args below meth c nL (WM G s A S D) k n Q (pc + 3) lv (va_rf r :: st)) : Z p l e R s m args below meth c nL (WM G s A S D) k n Q pc lv st := by
  intro H locs hW ls hl
  obtain ⟨hx, hb, hml, hown, hts, hre, hlo, hG⟩ := hC
  rcases hG.2.2.2.2.2.2.2.1 with h | ⟨t, h⟩
  · exact va_gets (A := fun q => G.1 ≤ q) hx hb h (va_S_mono hW.2.2.2 hW.2.2.1) hown (hts _ hl1) (fun _ h => h) hd (kz none H locs hW ls hl)
  · exact va_gets (A := fun q => G.1 ≤ q) hx hb h (va_S_mono hW.2.2.2 hW.2.2.1) hown (hts _ hl1) (fun _ h => h) hd (kz (some t) H locs hW ls hl)
theorem z_i2c (hC : CX G cc own nL ret p s m args meth c) {x v : Int32} (hv : (x.toUInt32 % 65536).toInt32 = v) (hd : decode cc pc = .ok (.i2c, 1)) (kz : Z p l e R s m args below meth c nL Wp k n Q (pc + 1) lv (.int v :: st)) : Z p l e R s m args below meth c nL Wp k n Q pc lv (.int x :: st) := fun H locs hW ls hl => lv_i2c hC.1 hC.2.1 hd hv (kz H locs hW ls hl)
theorem z_nret {rt : FieldType} (hC : CX G cc own nL (some rt) p s m args meth c) {mc ms : Nat} {P : Option Value → Sh → Dy → Prop} {v : Int32} (hd : decode cc pc = .ok (.ireturn, 1)) (hv : narrow rt (.int v) = .int v) (hk : k ≤ mc) (hn : n ≤ ms) (hp : P (some (.int v)) S D) : Z p l e R s m args below meth c nL (WM G s (AS G S0) S D) k n (MQ below (QcP G S0 P) args s mc ms (AS G S0)) pc lv [.int v] := by
  obtain ⟨hx, hb, hml, hown, hts, hre, hlk, hG⟩ := hC
  exact z_ret hk hn hp fun H locs ls hq hf => W.zret hx hb hre hv hq hf hd hlk
/-- a virtual call on one of the seven texts -/
theorem z_callVS (hC : CX G cc own nL ret p s m args meth c) {idx na h nLy sx : Nat} {y : MethodName} {b : ByteArray} {rt : Option FieldType} {av rest : List Value} {P : Option Value → Sh → Dy → Prop} (hsx : sx < 7) (ck : CK R own idx y b nLy rt h na) (hy : y.cls = "java/lang/String") (hin : Cond.instanceMethod y ∈ TB) (hse : Cond.selects y.cls y y ∈ TB) (hM : Ct l G y b nLy rt h 0 0 S D (.ref (G.2.2.2.1 sx) :: av) P) (hlen : av.length = na) (hstk : st = av.reverse ++ .ref (G.2.2.2.1 sx) :: rest) (hrm : (rest.map fun v => v.category).sum ≤ 8) (hkn : k + 0 ≤ R.cells ∧ n + 0 ≤ R.slots) (hd : decode cc pc = .ok (.invokevirtual idx, 3))
    (kz : ∀ v S' D', P v S' D' → Z p l e R s m args below meth c nL (WM G s A S' D') (k + 0) (n + 0) Q (pc + 3) lv (v.toList ++ rest)) : Z p l e R s m args below meth c nL (WM G s A S D) k n Q pc lv st := by
  obtain ⟨hx, hb, hml, hown, hts, hre, hlk, hG⟩ := id hC
  refine z_call (av := (Value.ref (G.2.2.2.1 sx) :: av).toArray) hC (fun H locs hW ls hls => ?_) kz
  have hS := va_S_mono hW.2.2.2 hW.2.2.1
  obtain ⟨cell, h1, h2, h3⟩ := vk_recv (A := fun q => G.1 ≤ q) hG.2.1 hsx hS
  exact va_runV (C := y.cls) ⟨hx, hb, hml, hown, hts⟩ hM ⟨ck.callB hts, hts _ hin, hts _ hse⟩ ⟨(preS_ok hG hW).1, ⟨cell, h1, h2, by rw [hy]; exact h3⟩, (preS_ok hG hW).2⟩ rfl hlen hls hstk (lv_room hrm) hd hkn
end ZJ
set_option maxHeartbeats 4000000 in
set_option maxRecDepth 100000 in
theorem ct_J0_coder_7d493 {l : Launch} {G : Gl} {S : Sh} {D : Dy} {sx : Nat} (hsx : sx < 7) : Ct l G yJ0_coder_7d493 cJ0_coder_7d493 1 (some .byte) 0 0 0 S D [.ref (G.2.2.2.1 sx)] (PIr S D (fun r => r = 0)) := by
  refine z_enter (lv0 := [(0, .ref (G.2.2.2.1 sx))]) (by decide) (Nat.le_of_ble_eq_true rfl) rfl ?_
  intro p e s m args below meth c hC hnm
  refine z_gsC hC tw_350 dJ0_coder_7d493_0 ?_
  refine z_if_eq (tgt := 13) hC dJ0_coder_7d493_3 (by decide) (fun c1 => absurd c1 (by decide)) (fun _ => ?_)
  refine z_aload_n hC dJ0_coder_7d493_6 rfl 0 rfl ?_
  refine z_sgetC hC hsx tw_1668 dJ0_coder_7d493_7 ?_
  refine z_goto (tgt := 14) hC dJ0_coder_7d493_10 (by decide) ?_
  exact z_nret hC dJ0_coder_7d493_14 rfl (Nat.le_refl _) (Nat.le_refl _) ⟨_, rfl, rfl, rfl, rfl⟩
set_option maxHeartbeats 4000000 in
set_option maxRecDepth 100000 in
theorem ct_J0_isLatin1_aae02 {l : Launch} {G : Gl} {S : Sh} {D : Dy} {sx : Nat} (hsx : sx < 7) : Ct l G yJ0_isLatin1_aae02 cJ0_isLatin1_aae02 1 (some .boolean) 0 0 0 S D [.ref (G.2.2.2.1 sx)] (PIr S D (fun r => r = 1)) := by
  refine z_enter (lv0 := [(0, .ref (G.2.2.2.1 sx))]) (by decide) (Nat.le_of_ble_eq_true rfl) rfl ?_
  intro p e s m args below meth c hC hnm
  refine z_gsC hC tw_350 dJ0_isLatin1_aae02_0 ?_
  refine z_if_eq (tgt := 17) hC dJ0_isLatin1_aae02_3 (by decide) (fun c1 => absurd c1 (by decide)) (fun _ => ?_)
  refine z_aload_n hC dJ0_isLatin1_aae02_6 rfl 0 rfl ?_
  refine z_sgetC hC hsx tw_1668 dJ0_isLatin1_aae02_7 ?_
  refine z_if_ne (tgt := 17) hC dJ0_isLatin1_aae02_10 (by decide) (fun c1 => absurd rfl c1) (fun _ => ?_)
  refine z_iconst (v := 1) hC dJ0_isLatin1_aae02_13 rfl ?_
  refine z_goto (tgt := 18) hC dJ0_isLatin1_aae02_14 (by decide) ?_
  exact z_nret hC dJ0_isLatin1_aae02_18 rfl (Nat.le_refl _) (Nat.le_refl _) ⟨_, rfl, rfl, rfl, rfl⟩
theorem wLen_shr : ∀ i, i < 7 → Int32.ofNat (wLen.getD i 0) >>> ((0 : Int32) &&& 31) = Int32.ofNat (wLen.getD i 0) := by decide +kernel
set_option maxHeartbeats 4000000 in
set_option maxRecDepth 100000 in
theorem ct_J0_length_8abf5 {l : Launch} {G : Gl} {S : Sh} {D : Dy} {sx : Nat} (hsx : sx < 7) : Ct l G yJ0_length_8abf5 cJ0_length_8abf5 1 (some .int) 1 0 0 S D [.ref (G.2.2.2.1 sx)] (PIr S D (fun r => r = Int32.ofNat (wLen.getD sx 0))) := by
  refine z_enter (lv0 := [(0, .ref (G.2.2.2.1 sx))]) (by decide) (Nat.le_of_ble_eq_true rfl) rfl ?_
  intro p e s m args below meth c hC hnm
  refine z_aload_n hC dJ0_length_8abf5_0 rfl 0 rfl ?_
  refine z_sgetV hC hsx tw_1667 dJ0_length_8abf5_1 ?_
  refine z_slenA hC hsx dJ0_length_8abf5_4 ?_
  refine z_aload_n hC dJ0_length_8abf5_5 rfl 0 rfl ?_
  refine z_callVS (av := []) (rest := [.int (Int32.ofNat (wLen.getD sx 0))]) hC hsx (ck_mk tw_346 tw_8 tw_349 ⟨by decide +kernel, by decide +kernel, by decide +kernel⟩ (Nat.le_of_ble_eq_true rfl) (Nat.le_of_ble_eq_true rfl)) rfl tw_347 tw_348 (ct_J0_coder_7d493 hsx) rfl rfl (Nat.le_of_ble_eq_true rfl) ⟨Nat.le_refl _, Nat.le_refl _⟩ dJ0_length_8abf5_6 ?_
  rintro _ _ _ ⟨r, rfl, rfl, rfl, rfl⟩
  refine z_ishr hC dJ0_length_8abf5_9 ?_
  exact z_iret hC dJ0_length_8abf5_10 (Nat.le_refl _) (Nat.le_refl _) ⟨_, rfl, rfl, rfl, wLen_shr sx hsx⟩
set_option maxHeartbeats 4000000 in
set_option maxRecDepth 100000 in
theorem ct_J3_checkIndex_8e157 {l : Launch} {G : Gl} {S : Sh} {D : Dy} {a1 a2 : Int32} {r : Option Nat} (h1 : ¬ a1 < 0) (h2 : a1 < a2) : Ct l G yJ3_checkIndex_8e157 cJ3_checkIndex_8e157 3 (some .int) 0 0 0 S D [.int a1, .int a2, va_rf r] (PIr S D (fun _ => True)) := by
  refine z_enter (lv0 := [(0, .int a1), (1, .int a2), (2, va_rf r)]) (by decide) (by cases r <;> exact Nat.le_of_ble_eq_true rfl) (by cases r <;> rfl) ?_
  intro p e s m args below meth c hC hnm
  refine z_iload_n hC dJ3_checkIndex_8e157_0 rfl 0 rfl ?_
  refine z_if_lt (tgt := 9) hC dJ3_checkIndex_8e157_1 (by decide) (fun c1 => absurd c1 h1) (fun _ => ?_)
  refine z_iload_n hC dJ3_checkIndex_8e157_4 rfl 0 rfl ?_
  refine z_iload_n hC dJ3_checkIndex_8e157_5 rfl 1 rfl ?_
  refine z_icmp_lt (tgt := 16) hC dJ3_checkIndex_8e157_6 (by decide) (fun _ => ?_) (fun c1 => absurd h2 c1)
  refine z_iload_n hC dJ3_checkIndex_8e157_16 rfl 0 rfl ?_
  exact z_iret hC dJ3_checkIndex_8e157_17 (Nat.le_refl _) (Nat.le_refl _) ⟨_, rfl, rfl, rfl, trivial⟩
set_option maxHeartbeats 4000000 in
set_option maxRecDepth 100000 in
theorem ct_J0_checkIndex_df160 {l : Launch} {G : Gl} {S : Sh} {D : Dy} {a1 a2 : Int32} (h1 : ¬ a1 < 0) (h2 : a1 < a2) : Ct l G yJ0_checkIndex_df160 cJ0_checkIndex_df160 2 none 1 0 0 S D [.int a1, .int a2] (PVr S D True) := by
  refine z_enter (lv0 := [(0, .int a1), (1, .int a2)]) (by decide) (Nat.le_of_ble_eq_true rfl) rfl ?_
  intro p e s m args below meth c hC hnm
  refine z_iload_n hC dJ0_checkIndex_df160_0 rfl 0 rfl ?_
  refine z_iload_n hC dJ0_checkIndex_df160_1 rfl 1 rfl ?_
  refine z_gsF hC tw_366 dJ0_checkIndex_df160_2 (fun r => ?_)
  refine z_callS (na := 3) (rest := []) (av := [.int a1, .int a2, va_rf r]) hC (ck_mk tw_368 tw_10 tw_370 ⟨by decide +kernel, by decide +kernel, by decide +kernel⟩ (Nat.le_of_ble_eq_true rfl) (Nat.le_of_ble_eq_true rfl)) tw_369 (ct_J3_checkIndex_8e157 h1 h2) rfl rfl (Nat.le_of_ble_eq_true rfl) ⟨Nat.le_refl _, Nat.le_refl _⟩ dJ0_checkIndex_df160_5 ?_
  rintro _ _ _ ⟨q, rfl, rfl, rfl, -⟩
  refine z_pop (va := .int q) hC dJ0_checkIndex_df160_8 rfl ?_
  exact z_vret hC dJ0_checkIndex_df160_9 (Nat.le_refl _) (Nat.le_refl _) ⟨rfl, rfl, rfl, trivial⟩
theorem wByt_c : ∀ i, i < 7 → ∀ j, j < wLen.getD i 0 → ((((wByt.getD i []).getD j 0 &&& 255).toUInt32 % 65536).toInt32 = (wByt.getD i []).getD j 0 ∧ (((wByt.getD i []).getD j 0).toUInt32 % 65536).toInt32 = (wByt.getD i []).getD j 0) := by decide +kernel
theorem wLen_le : ∀ i, i < 7 → wLen.getD i 0 ≤ 5 := by decide +kernel
theorem in_lt {i : Int32} {sx : Nat} (hsx : sx < 7) (h : vp_in i (wLen.getD sx 0)) : ¬ i < 0 ∧ i < Int32.ofNat (wLen.getD sx 0) := by
  have hl := wLen_le sx hsx
  obtain ⟨j, hj, rfl⟩ := vp_in_of h (by omega)
  exact ⟨nI_pos (by omega), nI_lt hj (by omega)⟩
set_option maxHeartbeats 4000000 in
set_option maxRecDepth 100000 in
theorem ct_J1_charAt_3b067 {l : Launch} {G : Gl} {S : Sh} {D : Dy} {sx : Nat} (hsx : sx < 7) {a1 : Int32} (hin : vp_in a1 (wLen.getD sx 0)) : Ct l G yJ1_charAt_3b067 cJ1_charAt_3b067 2 (some .char) 2 0 0 S D [.ref (G.2.2.2.2 sx), .int a1] (PIr S D (fun r => r = (wByt.getD sx []).getD a1.toNatClampNeg 0)) := by
  refine z_enter (lv0 := [(0, .ref (G.2.2.2.2 sx)), (1, .int a1)]) (by decide) (Nat.le_of_ble_eq_true rfl) rfl ?_
  intro p e s m args below meth c hC hnm
  refine z_iload_n hC dJ1_charAt_3b067_0 rfl 1 rfl ?_
  refine z_aload_n hC dJ1_charAt_3b067_1 rfl 0 rfl ?_
  refine z_slenA hC hsx dJ1_charAt_3b067_2 ?_
  refine z_callS (na := 2) (rest := []) (av := [.int a1, .int (Int32.ofNat (wLen.getD sx 0))]) hC (ck_mk tw_363 tw_8 tw_365 ⟨by decide +kernel, by decide +kernel, by decide +kernel⟩ (Nat.le_of_ble_eq_true rfl) (Nat.le_of_ble_eq_true rfl)) tw_364 (ct_J0_checkIndex_df160 (in_lt hsx hin).1 (in_lt hsx hin).2) rfl rfl (Nat.le_of_ble_eq_true rfl) ⟨Nat.le_refl _, Nat.le_refl _⟩ dJ1_charAt_3b067_3 ?_
  rintro _ _ _ ⟨rfl, rfl, rfl, -⟩
  refine z_aload_n hC dJ1_charAt_3b067_6 rfl 0 rfl ?_
  refine z_iload_n hC dJ1_charAt_3b067_7 rfl 1 rfl ?_
  refine z_sbald hC hsx hin dJ1_charAt_3b067_8 ?_
  refine z_sipush (v := 255) hC dJ1_charAt_3b067_9 rfl ?_
  refine z_iand hC dJ1_charAt_3b067_12 ?_
  refine z_i2c hC (wByt_c sx hsx _ (vp_lt hin)).1 dJ1_charAt_3b067_13 ?_
  exact z_nret hC dJ1_charAt_3b067_14 (congrArg Value.int (wByt_c sx hsx _ (vp_lt hin)).2) (Nat.le_refl _) (Nat.le_refl _) ⟨_, rfl, rfl, rfl, rfl⟩
set_option maxHeartbeats 4000000 in
set_option maxRecDepth 100000 in
theorem ct_J0_charAt_5068e {l : Launch} {G : Gl} {S : Sh} {D : Dy} {sx : Nat} (hsx : sx < 7) {a1 : Int32} (hin : vp_in a1 (wLen.getD sx 0)) : Ct l G yJ0_charAt_5068e cJ0_charAt_5068e 2 (some .char) 3 0 0 S D [.ref (G.2.2.2.1 sx), .int a1] (PIr S D (fun r => r = (wByt.getD sx []).getD a1.toNatClampNeg 0)) := by
  refine z_enter (lv0 := [(0, .ref (G.2.2.2.1 sx)), (1, .int a1)]) (by decide) (Nat.le_of_ble_eq_true rfl) rfl ?_
  intro p e s m args below meth c hC hnm
  refine z_aload_n hC dJ0_charAt_5068e_0 rfl 0 rfl ?_
  refine z_callVS (av := []) (rest := []) hC hsx (ck_mk tw_356 tw_8 tw_359 ⟨by decide +kernel, by decide +kernel, by decide +kernel⟩ (Nat.le_of_ble_eq_true rfl) (Nat.le_of_ble_eq_true rfl)) rfl tw_357 tw_358 (ct_J0_isLatin1_aae02 hsx) rfl rfl (Nat.le_of_ble_eq_true rfl) ⟨Nat.le_refl _, Nat.le_refl _⟩ dJ0_charAt_5068e_1 ?_
  rintro _ _ _ ⟨r, rfl, rfl, rfl, rfl⟩
  refine z_if_eq (tgt := 16) hC dJ0_charAt_5068e_4 (by decide) (fun c1 => absurd c1 (by decide)) (fun _ => ?_)
  refine z_aload_n hC dJ0_charAt_5068e_7 rfl 0 rfl ?_
  refine z_sgetV hC hsx tw_1667 dJ0_charAt_5068e_8 ?_
  refine z_iload_n hC dJ0_charAt_5068e_11 rfl 1 rfl ?_
  refine z_callS (na := 2) (rest := []) (av := [.ref (G.2.2.2.2 sx), .int a1]) hC (ck_mk tw_360 tw_9 tw_362 ⟨by decide +kernel, by decide +kernel, by decide +kernel⟩ (Nat.le_of_ble_eq_true rfl) (Nat.le_of_ble_eq_true rfl)) tw_361 (ct_J1_charAt_3b067 hsx hin) rfl rfl (Nat.le_of_ble_eq_true rfl) ⟨Nat.le_refl _, Nat.le_refl _⟩ dJ0_charAt_5068e_12 ?_
  rintro _ _ _ ⟨r, rfl, rfl, rfl, rfl⟩
  exact z_nret hC dJ0_charAt_5068e_15 (congrArg Value.int (wByt_c sx hsx _ (vp_lt hin)).2) (Nat.le_refl _) (Nat.le_refl _) ⟨_, rfl, rfl, rfl, rfl⟩
section ZJ2
variable {p : Program} {l : Launch} {e : Env} {R : Room} {s : State} {m : MethodId} {args : Array Value} {below : List Frame} {meth : Method} {c : Code} {nL : Nat} {k n : Nat} {Q : State → Prop} {pc : Nat} {lv : List (Nat × Value)} {st : List Value}
variable {G : Gl} {cc : ByteArray} {own : String} {ret : Option FieldType} {A : Nat → Prop} {S S' S0 : Sh} {D D' : Dy} {a N : Nat} {Wp : Heap → List Loc → Prop}

theorem z_slen (hC : CX G cc own nL ret p s m args meth c) {sx idx : Nat} (hsx : sx < 7) (h1 : Cond.methodLink own idx yJ0_length_8abf5 ∈ TB) (hR : 2 ≤ R.frames ∧ 90 ≤ R.locals) (hkn : k ≤ R.cells ∧ n ≤ R.slots) (hrm : (st.map fun v => v.category).sum ≤ 8) (hd : decode cc pc = .ok (.invokevirtual idx, 3)) (kz : Z p l e R s m args below meth c nL (WM G s A S D) k n Q (pc + 3) lv (.int (Int32.ofNat (wLen.getD sx 0)) :: st)) : Z p l e R s m args below meth c nL (WM G s A S D) k n Q pc lv (.ref (G.2.2.2.1 sx) :: st) := by
  refine z_callVS (av := []) (rest := st) (nLy := 1) (h := 1) (na := 0) hC hsx (ck_mk h1 tw_8 tw_345 ⟨by decide +kernel, by decide +kernel, by decide +kernel⟩ hR.1 (by omega)) rfl tw_343 tw_344 (ct_J0_length_8abf5 hsx) rfl rfl hrm (by omega) hd ?_
  rintro _ _ _ ⟨r, rfl, rfl, rfl, rfl⟩
  exact kz
theorem z_schar (hC : CX G cc own nL ret p s m args meth c) {sx idx : Nat} (hsx : sx < 7) {i : Int32} (hin : vp_in i (wLen.getD sx 0)) (h1 : Cond.methodLink own idx yJ0_charAt_5068e ∈ TB) (hR : 4 ≤ R.frames ∧ 210 ≤ R.locals) (hkn : k ≤ R.cells ∧ n ≤ R.slots) (hrm : (st.map fun v => v.category).sum ≤ 8) (hd : decode cc pc = .ok (.invokevirtual idx, 3)) (kz : Z p l e R s m args below meth c nL (WM G s A S D) k n Q (pc + 3) lv (.int ((wByt.getD sx []).getD i.toNatClampNeg 0) :: st)) : Z p l e R s m args below meth c nL (WM G s A S D) k n Q pc lv (.int i :: .ref (G.2.2.2.1 sx) :: st) := by
  refine z_callVS (av := [.int i]) (rest := st) (nLy := 2) (h := 3) (na := 1) hC hsx (ck_mk h1 tw_8 tw_355 ⟨by decide +kernel, by decide +kernel, by decide +kernel⟩ hR.1 (by omega)) rfl tw_353 tw_354 (ct_J0_charAt_5068e hsx hin) rfl rfl hrm (by omega) hd ?_
  rintro _ _ _ ⟨r, rfl, rfl, rfl, rfl⟩
  exact kz
end ZJ2
