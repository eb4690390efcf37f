/-! the pure programs and their walks (laid by program out of the bytecode) -/
def instK (ci kd : Nat) : Int32 := if ci = 7 then (if kd = 1 ∨ kd = 2 ∨ kd = 3 ∨ kd = 4 then 1 else 0) else if mcls kd = ci then 1 else 0
section ZI
variable {p : Program} {l : Launch} {e : Env} {R : Room} {s : State} {m : MethodId} {args : Array Value} {below : List Frame} {meth : Method} {c : Code} {nL : Nat} {k n : Nat} {Q : State → Prop} {pc : Nat} {lv : List (Nat × Value)} {st : List Value}
variable {G : Gl} {cc : ByteArray} {own : String} {ret : Option FieldType} {A : Nat → Prop} {S S' S0 : Sh} {D D' : Dy} {a N : Nat} {Wp : Heap → List Loc → Prop}

theorem z_inst_X11_284 (hC : CX G cc RX11 nL ret p s m args meth c) {t kd : Nat} (hM : FMo S t kd) (hd : decode cc pc = .ok (.instanceof 284, 3)) (kz : Z p l e R s m args below meth c nL (WM G s A S D) k n Q (pc + 3) lv (.int (instK 7 kd) :: st)) : Z p l e R s m args below meth c nL (WM G s A S D) k n Q pc lv (.ref (G.1 + (t + 9)) :: st) := by
  have hk := hM.kd
  have hcl : Cond.classLink RX11 284 RX7 ∈ TB := tw_452
  obtain rfl | rfl | rfl | rfl | rfl | rfl : kd = 0 ∨ kd = 1 ∨ kd = 2 ∨ kd = 3 ∨ kd = 4 ∨ kd = 5 := by omega
  · exact z_instN (ci := 4) hC cf_4 (by decide) (kO hM) hcl (hC.2.2.2.2.2.2.2.2.2.2.1 ("WhyChosen$Model", "WhyChosen$Plain") (by decide)) hd kz
  · exact z_instS (ci := 7) hC cf_7 (by decide) (kO hM) hcl hd kz
  · exact z_instY (ci := 5) hC cf_5 (by decide) (kO hM) hcl (by decide) hd kz
  · exact z_instY (ci := 3) hC cf_3 (by decide) (kO hM) hcl (by decide) hd kz
  · exact z_instY (ci := 2) hC cf_2 (by decide) (kO hM) hcl (by decide) hd kz
  · exact z_instN (ci := 8) hC cf_8 (by decide) (kO hM) hcl (hC.2.2.2.2.2.2.2.2.2.2.1 ("WhyChosen$Rule", "WhyChosen$Plain") (by decide)) hd kz
theorem z_inst_X11_289 (hC : CX G cc RX11 nL ret p s m args meth c) {t kd : Nat} (hM : FMo S t kd) (hd : decode cc pc = .ok (.instanceof 289, 3)) (kz : Z p l e R s m args below meth c nL (WM G s A S D) k n Q (pc + 3) lv (.int (instK 5 kd) :: st)) : Z p l e R s m args below meth c nL (WM G s A S D) k n Q pc lv (.ref (G.1 + (t + 9)) :: st) := by
  have hk := hM.kd
  have hcl : Cond.classLink RX11 289 RX5 ∈ TB := tw_507
  obtain rfl | rfl | rfl | rfl | rfl | rfl : kd = 0 ∨ kd = 1 ∨ kd = 2 ∨ kd = 3 ∨ kd = 4 ∨ kd = 5 := by omega
  · exact z_instN (ci := 4) hC cf_4 (by decide) (kO hM) hcl (hC.2.2.2.2.2.2.2.2.2.2.1 ("WhyChosen$Model", "WhyChosen$Nested") (by decide)) hd kz
  · exact z_instN (ci := 7) hC cf_7 (by decide) (kO hM) hcl (hC.2.2.2.2.2.2.2.2.2.2.1 ("WhyChosen$Plain", "WhyChosen$Nested") (by decide)) hd kz
  · exact z_instS (ci := 5) hC cf_5 (by decide) (kO hM) hcl hd kz
  · exact z_instN (ci := 3) hC cf_3 (by decide) (kO hM) hcl (hC.2.2.2.2.2.2.2.2.2.2.1 ("WhyChosen$Mixed", "WhyChosen$Nested") (by decide)) hd kz
  · exact z_instN (ci := 2) hC cf_2 (by decide) (kO hM) hcl (hC.2.2.2.2.2.2.2.2.2.2.1 ("WhyChosen$Looked", "WhyChosen$Nested") (by decide)) hd kz
  · exact z_instN (ci := 8) hC cf_8 (by decide) (kO hM) hcl (hC.2.2.2.2.2.2.2.2.2.2.1 ("WhyChosen$Rule", "WhyChosen$Nested") (by decide)) hd kz
theorem z_inst_X11_292 (hC : CX G cc RX11 nL ret p s m args meth c) {t kd : Nat} (hM : FMo S t kd) (hd : decode cc pc = .ok (.instanceof 292, 3)) (kz : Z p l e R s m args below meth c nL (WM G s A S D) k n Q (pc + 3) lv (.int (instK 3 kd) :: st)) : Z p l e R s m args below meth c nL (WM G s A S D) k n Q pc lv (.ref (G.1 + (t + 9)) :: st) := by
  have hk := hM.kd
  have hcl : Cond.classLink RX11 292 RX3 ∈ TB := tw_526
  obtain rfl | rfl | rfl | rfl | rfl | rfl : kd = 0 ∨ kd = 1 ∨ kd = 2 ∨ kd = 3 ∨ kd = 4 ∨ kd = 5 := by omega
  · exact z_instN (ci := 4) hC cf_4 (by decide) (kO hM) hcl (hC.2.2.2.2.2.2.2.2.2.2.1 ("WhyChosen$Model", "WhyChosen$Mixed") (by decide)) hd kz
  · exact z_instN (ci := 7) hC cf_7 (by decide) (kO hM) hcl (hC.2.2.2.2.2.2.2.2.2.2.1 ("WhyChosen$Plain", "WhyChosen$Mixed") (by decide)) hd kz
  · exact z_instN (ci := 5) hC cf_5 (by decide) (kO hM) hcl (hC.2.2.2.2.2.2.2.2.2.2.1 ("WhyChosen$Nested", "WhyChosen$Mixed") (by decide)) hd kz
  · exact z_instS (ci := 3) hC cf_3 (by decide) (kO hM) hcl hd kz
  · exact z_instN (ci := 2) hC cf_2 (by decide) (kO hM) hcl (hC.2.2.2.2.2.2.2.2.2.2.1 ("WhyChosen$Looked", "WhyChosen$Mixed") (by decide)) hd kz
  · exact z_instN (ci := 8) hC cf_8 (by decide) (kO hM) hcl (hC.2.2.2.2.2.2.2.2.2.2.1 ("WhyChosen$Rule", "WhyChosen$Mixed") (by decide)) hd kz
theorem z_inst_X11_295 (hC : CX G cc RX11 nL ret p s m args meth c) {t kd : Nat} (hM : FMo S t kd) (hd : decode cc pc = .ok (.instanceof 295, 3)) (kz : Z p l e R s m args below meth c nL (WM G s A S D) k n Q (pc + 3) lv (.int (instK 2 kd) :: st)) : Z p l e R s m args below meth c nL (WM G s A S D) k n Q pc lv (.ref (G.1 + (t + 9)) :: st) := by
  have hk := hM.kd
  have hcl : Cond.classLink RX11 295 RX2 ∈ TB := tw_539
  obtain rfl | rfl | rfl | rfl | rfl | rfl : kd = 0 ∨ kd = 1 ∨ kd = 2 ∨ kd = 3 ∨ kd = 4 ∨ kd = 5 := by omega
  · exact z_instN (ci := 4) hC cf_4 (by decide) (kO hM) hcl (hC.2.2.2.2.2.2.2.2.2.2.1 ("WhyChosen$Model", "WhyChosen$Looked") (by decide)) hd kz
  · exact z_instN (ci := 7) hC cf_7 (by decide) (kO hM) hcl (hC.2.2.2.2.2.2.2.2.2.2.1 ("WhyChosen$Plain", "WhyChosen$Looked") (by decide)) hd kz
  · exact z_instN (ci := 5) hC cf_5 (by decide) (kO hM) hcl (hC.2.2.2.2.2.2.2.2.2.2.1 ("WhyChosen$Nested", "WhyChosen$Looked") (by decide)) hd kz
  · exact z_instN (ci := 3) hC cf_3 (by decide) (kO hM) hcl (hC.2.2.2.2.2.2.2.2.2.2.1 ("WhyChosen$Mixed", "WhyChosen$Looked") (by decide)) hd kz
  · exact z_instS (ci := 2) hC cf_2 (by decide) (kO hM) hcl hd kz
  · exact z_instN (ci := 8) hC cf_8 (by decide) (kO hM) hcl (hC.2.2.2.2.2.2.2.2.2.2.1 ("WhyChosen$Rule", "WhyChosen$Looked") (by decide)) hd kz
theorem z_inst_X11_298 (hC : CX G cc RX11 nL ret p s m args meth c) {t kd : Nat} (hM : FMo S t kd) (hd : decode cc pc = .ok (.instanceof 298, 3)) (kz : Z p l e R s m args below meth c nL (WM G s A S D) k n Q (pc + 3) lv (.int (instK 8 kd) :: st)) : Z p l e R s m args below meth c nL (WM G s A S D) k n Q pc lv (.ref (G.1 + (t + 9)) :: st) := by
  have hk := hM.kd
  have hcl : Cond.classLink RX11 298 RX8 ∈ TB := tw_552
  obtain rfl | rfl | rfl | rfl | rfl | rfl : kd = 0 ∨ kd = 1 ∨ kd = 2 ∨ kd = 3 ∨ kd = 4 ∨ kd = 5 := by omega
  · exact z_instN (ci := 4) hC cf_4 (by decide) (kO hM) hcl (hC.2.2.2.2.2.2.2.2.2.2.1 ("WhyChosen$Model", "WhyChosen$Rule") (by decide)) hd kz
  · exact z_instN (ci := 7) hC cf_7 (by decide) (kO hM) hcl (hC.2.2.2.2.2.2.2.2.2.2.1 ("WhyChosen$Plain", "WhyChosen$Rule") (by decide)) hd kz
  · exact z_instN (ci := 5) hC cf_5 (by decide) (kO hM) hcl (hC.2.2.2.2.2.2.2.2.2.2.1 ("WhyChosen$Nested", "WhyChosen$Rule") (by decide)) hd kz
  · exact z_instN (ci := 3) hC cf_3 (by decide) (kO hM) hcl (hC.2.2.2.2.2.2.2.2.2.2.1 ("WhyChosen$Mixed", "WhyChosen$Rule") (by decide)) hd kz
  · exact z_instN (ci := 2) hC cf_2 (by decide) (kO hM) hcl (hC.2.2.2.2.2.2.2.2.2.2.1 ("WhyChosen$Looked", "WhyChosen$Rule") (by decide)) hd kz
  · exact z_instS (ci := 8) hC cf_8 (by decide) (kO hM) hcl hd kz
end ZI
def fX0_add (a1 : Int32) (a2 : Int32) (a3 : Int32) (D : Dy) (post : Int32 → Dy → Prop) : Prop :=
  (((D.1 7 4) < (80 : Int32) → (vp_in (D.1 7 4) 80 ∧ (∀ D2 : Dy, D2 = sI D 8 ((D.1 7 4)).toNatClampNeg a1 → (vp_in (D2.1 7 4) 80 ∧ (∀ D4 : Dy, D4 = sI D2 9 ((D2.1 7 4)).toNatClampNeg a2 → (vp_in (D4.1 7 4) 80 ∧ (∀ D6 : Dy, D6 = sI D4 10 ((D4.1 7 4)).toNatClampNeg a3 → (vp_in (D6.1 7 4) 80 ∧ (∀ D8 : Dy, D8 = sI D6 11 ((D6.1 7 4)).toNatClampNeg (0 : Int32) → (∀ v10 : Int32, v10 = (D8.1 7 4) → (∀ D12 : Dy, D12 = sI D8 7 4 (v10 + (1 : Int32)) → post v10 D12))))))))))) ∧ (¬ (D.1 7 4) < (80 : Int32) → post (-4 : Int32) D))
set_option maxHeartbeats 4000000 in
set_option maxRecDepth 100000 in
theorem ct_X0_add {l : Launch} {G : Gl} {S : Sh} {D : Dy} {mdl : Nat → Option (Nat × Nat)} (hF : FX S mdl) {a1 : Int32} {a2 : Int32} {a3 : Int32} {post : Int32 → Dy → Prop} (E : fX0_add a1 a2 a3 D post) : Ct l G yX0_add cX0_add 4 (some .int) 0 0 0 S D [.ref (G.1 + 7), .int a1, .int a2, .int a3] (PI S post) := by
  refine z_enter (lv0 := [(0, .ref (G.1 + 7)), (1, .int a1), (2, .int a2), (3, .int a3)]) pl_0 (Nat.le_of_ble_eq_true rfl) rfl ?_
  intro p e s m args below meth c hC hnm
  unfold fX0_add at E
  refine z_aload_n hC dX0_add_0 rfl 0 rfl ?_
  refine z_get hC lf_X0_24_0 (kX_7 hF) dX0_add_1 (fV_int rfl) ?_
  refine z_bipush (v := 80) hC dX0_add_4 rfl ?_
  refine z_icmp_lt (tgt := 12) hC dX0_add_6 (by decide) (fun c1 => ?_) (fun c1 => ?_)
  · replace E := E.1 c1
    refine z_aload_n hC dX0_add_12 rfl 0 rfl ?_
    refine z_get hC lf_X0_9_0 (kX_7 hF) dX0_add_13 (fV_ref rfl (rX_7_0 hF)) ?_
    refine z_aload_n hC dX0_add_16 rfl 0 rfl ?_
    refine z_get hC lf_X0_24_0 (kX_7 hF) dX0_add_17 (fV_int rfl) ?_
    refine z_iload_n hC dX0_add_20 rfl 1 rfl ?_
    refine z_iast hC (kX_8 hF) (nX_8 hF) E.1 dX0_add_21 ?_
    replace E := E.2
    refine z_topD (fun D2 h3 => ?_)
    replace E := E D2 h3
    refine z_aload_n hC dX0_add_22 rfl 0 rfl ?_
    refine z_get hC lf_X0_15_0 (kX_7 hF) dX0_add_23 (fV_ref rfl (rX_7_1 hF)) ?_
    refine z_aload_n hC dX0_add_26 rfl 0 rfl ?_
    refine z_get hC lf_X0_24_0 (kX_7 hF) dX0_add_27 (fV_int rfl) ?_
    refine z_iload_n hC dX0_add_30 rfl 2 rfl ?_
    refine z_iast hC (kX_9 hF) (nX_9 hF) E.1 dX0_add_31 ?_
    replace E := E.2
    refine z_topD (fun D4 h5 => ?_)
    replace E := E D4 h5
    refine z_aload_n hC dX0_add_32 rfl 0 rfl ?_
    refine z_get hC lf_X0_18_0 (kX_7 hF) dX0_add_33 (fV_ref rfl (rX_7_2 hF)) ?_
    refine z_aload_n hC dX0_add_36 rfl 0 rfl ?_
    refine z_get hC lf_X0_24_0 (kX_7 hF) dX0_add_37 (fV_int rfl) ?_
    refine z_iload_n hC dX0_add_40 rfl 3 rfl ?_
    refine z_iast hC (kX_10 hF) (nX_10 hF) E.1 dX0_add_41 ?_
    replace E := E.2
    refine z_topD (fun D6 h7 => ?_)
    replace E := E D6 h7
    refine z_aload_n hC dX0_add_42 rfl 0 rfl ?_
    refine z_get hC lf_X0_21_0 (kX_7 hF) dX0_add_43 (fV_ref rfl (rX_7_3 hF)) ?_
    refine z_aload_n hC dX0_add_46 rfl 0 rfl ?_
    refine z_get hC lf_X0_24_0 (kX_7 hF) dX0_add_47 (fV_int rfl) ?_
    refine z_iconst (v := 0) hC dX0_add_50 rfl ?_
    refine z_iast hC (kX_11 hF) (nX_11 hF) E.1 dX0_add_51 ?_
    replace E := E.2
    refine z_topD (fun D8 h9 => ?_)
    replace E := E D8 h9
    refine z_aload_n hC dX0_add_52 rfl 0 rfl ?_
    refine z_dup hC dX0_add_53 rfl ?_
    refine z_get hC lf_X0_24_0 (kX_7 hF) dX0_add_54 (fV_int rfl) ?_
    refine z_topi (fun v10 h11 => ?_)
    replace E := E v10 h11
    refine z_dup_x1 hC dX0_add_57 rfl rfl ?_
    refine z_iconst (v := 1) hC dX0_add_58 rfl ?_
    refine z_iadd hC dX0_add_59 ?_
    refine z_puti hC lf_X0_24_0 rfl (kX_7 hF) dX0_add_60 ?_
    refine z_topD (fun D12 h13 => ?_)
    replace E := E D12 h13
    exact z_iret hC dX0_add_63 (Nat.le_refl _) (Nat.le_refl _) ⟨_, rfl, rfl, E⟩
  · replace E := E.2 c1
    refine z_bipush (v := -4) hC dX0_add_9 rfl ?_
    exact z_iret hC dX0_add_11 (Nat.le_refl _) (Nat.le_refl _) ⟨_, rfl, rfl, E⟩
def fX11_isIn (a1 : Int32) (a2 : Int32) (post : Int32 → Prop) : Prop :=
  ((((a2 >>> (a1 &&& 31)) &&& (1 : Int32)) = 0 → post (0 : Int32)) ∧ (¬ ((a2 >>> (a1 &&& 31)) &&& (1 : Int32)) = 0 → post (1 : Int32)))
set_option maxHeartbeats 4000000 in
set_option maxRecDepth 100000 in
theorem ct_X11_isIn {l : Launch} {G : Gl} {S : Sh} {D : Dy} {mdl : Nat → Option (Nat × Nat)} (hF : FX S mdl) {a1 : Int32} {a2 : Int32} {post : Int32 → Prop} (E : fX11_isIn a1 a2 post) : Ct l G yX11_isIn cX11_isIn 2 (some .boolean) 0 0 0 S D [.int a1, .int a2] (PIr S D post) := by
  refine z_enter (lv0 := [(0, .int a1), (1, .int a2)]) pl_11 (Nat.le_of_ble_eq_true rfl) rfl ?_
  intro p e s m args below meth c hC hnm
  unfold fX11_isIn at E
  refine z_iload_n hC dX11_isIn_0 rfl 1 rfl ?_
  refine z_iload_n hC dX11_isIn_1 rfl 0 rfl ?_
  refine z_ishr hC dX11_isIn_2 ?_
  refine z_iconst (v := 1) hC dX11_isIn_3 rfl ?_
  refine z_iand hC dX11_isIn_4 ?_
  refine z_if_eq (tgt := 12) hC dX11_isIn_5 (by decide) (fun c1 => ?_) (fun c1 => ?_)
  · replace E := E.1 c1
    refine z_iconst (v := 0) hC dX11_isIn_12 rfl ?_
    exact z_zret hC dX11_isIn_13 (Or.inl rfl) (Nat.le_refl _) (Nat.le_refl _) ⟨_, rfl, rfl, rfl, E⟩
  · replace E := E.2 c1
    refine z_iconst (v := 1) hC dX11_isIn_8 rfl ?_
    refine z_goto (tgt := 13) hC dX11_isIn_9 (by decide) ?_
    exact z_zret hC dX11_isIn_13 (Or.inr rfl) (Nat.le_refl _) (Nat.le_refl _) ⟨_, rfl, rfl, rfl, E⟩
def fX0_countWith (a1 : Int32) (a2 : Int32) (a3 : Int32) (a4 : Int32) (D : Dy) (post : Int32 → Prop) : Prop :=
  (LP2 (fun (rec3 : Int32 → Int32 → Prop) (v1 : Int32) (v2 : Int32) => (((D.1 7 4) ≤ v2 → post v1) ∧ (¬ (D.1 7 4) ≤ v2 → (vp_in v2 80 ∧ (JN (fun (v6 : Int32) => (JN (fun (v9 : Int32) => (∀ v12 : Int32, v12 = v2 + 1 → (rec3 v9 v12))) (fun K10 : Int32 → Prop => ((v6 = 0 → (K10 v1)) ∧ (¬ v6 = 0 → (JN ((∀ v17 : Int32, v17 = v1 + 1 → (K10 v17))) (fun K15 : Prop => ((a4 = 0 → K15) ∧ (¬ a4 = 0 → (vp_in v2 80 ∧ ((¬ (D.1 10 (v2).toNatClampNeg) = a1 → (K10 v1)) ∧ ((D.1 10 (v2).toNatClampNeg) = a1 → K15)))))))))))) (fun K7 : Int32 → Prop => (JN ((K7 (0 : Int32))) (fun K21 : Prop => ((¬ (D.1 11 (v2).toNatClampNeg) = 0 → K21) ∧ ((D.1 11 (v2).toNatClampNeg) = 0 → (vp_in v2 80 ∧ (fX11_isIn a1 (D.1 9 (v2).toNatClampNeg) (fun (v25 : Int32) => ((v25 = 0 → K21) ∧ (¬ v25 = 0 → (vp_in v2 80 ∧ (fX11_isIn a2 (D.1 9 (v2).toNatClampNeg) (fun (v31 : Int32) => ((¬ v31 = a3 → K21) ∧ (v31 = a3 → (K7 (1 : Int32)))))))))))))))))))))) FU (0 : Int32) (0 : Int32))
set_option maxHeartbeats 4000000 in
set_option maxRecDepth 100000 in
theorem ct_X0_countWith {l : Launch} {G : Gl} {S : Sh} {D : Dy} {mdl : Nat → Option (Nat × Nat)} (hF : FX S mdl) {a1 : Int32} {a2 : Int32} {a3 : Int32} {a4 : Int32} {post : Int32 → Prop} (E : fX0_countWith a1 a2 a3 a4 D post) : Ct l G yX0_countWith cX0_countWith 8 (some .int) 1 0 0 S D [.ref (G.1 + 7), .int a1, .int a2, .int a3, .int a4] (PIr S D post) := by
  refine z_enter (lv0 := [(0, .ref (G.1 + 7)), (1, .int a1), (2, .int a2), (3, .int a3), (4, .int a4)]) pl_0 (Nat.le_of_ble_eq_true rfl) rfl ?_
  intro p e s m args below meth c hC hnm
  unfold fX0_countWith at E
  refine z_iconst (v := 0) hC dX0_countWith_0 rfl ?_
  refine z_istore (lv' := [(5, .int (0 : Int32)), (0, .ref (G.1 + 7)), (1, .int a1), (2, .int a2), (3, .int a3), (4, .int a4)]) hC dX0_countWith_1 (Nat.le_of_ble_eq_true rfl) rfl ?_
  refine z_iconst (v := 0) hC dX0_countWith_3 rfl ?_
  refine z_istore (lv' := [(6, .int (0 : Int32)), (5, .int (0 : Int32)), (0, .ref (G.1 + 7)), (1, .int a1), (2, .int a2), (3, .int a3), (4, .int a4)]) hC dX0_countWith_4 (Nat.le_of_ble_eq_true rfl) rfl ?_
  refine z_sub [2, 3, 4, 5, 6, 1, 0] rfl ?_
  refine LP2_use (fun (v1 : Int32) (v2 : Int32) => ZM l G p e s m args below meth c 8 1 S (PIr S D post) S D 6 [(0, .ref (G.1 + 7)), (1, .int a1), (2, .int a2), (3, .int a3), (4, .int a4), (5, .int v1), (6, .int v2)] []) ?_ FU (0 : Int32) (0 : Int32) E
  intro rec3 hrec4 v1 v2 E
  refine z_iload hC dX0_countWith_6 6 rfl ?_
  refine z_aload_n hC dX0_countWith_8 rfl 0 rfl ?_
  refine z_get hC lf_X0_24_0 (kX_7 hF) dX0_countWith_9 (fV_int rfl) ?_
  refine z_icmp_ge (tgt := 91) hC dX0_countWith_12 (by decide) (fun c5 => ?_) (fun c5 => ?_)
  · replace E := E.1 c5
    refine z_iload hC dX0_countWith_91 5 rfl ?_
    exact z_iret hC dX0_countWith_93 (Nat.le_refl _) (Nat.le_refl _) ⟨_, rfl, rfl, rfl, E⟩
  · replace E := E.2 c5
    refine z_aload_n hC dX0_countWith_15 rfl 0 rfl ?_
    refine z_get hC lf_X0_21_0 (kX_7 hF) dX0_countWith_16 (fV_ref rfl (rX_7_3 hF)) ?_
    refine z_iload hC dX0_countWith_19 6 rfl ?_
    refine z_iald hC (kX_11 hF) (nX_11 hF) E.1 dX0_countWith_21 ?_
    replace E := E.2
    obtain ⟨K7, hK8, EE⟩ := JN_use E (fun K7 : Int32 → Prop => ∀ (v6 : Int32), K7 v6 → ZM l G p e s m args below meth c 8 1 S (PIr S D post) S D 59 [(0, .ref (G.1 + 7)), (1, .int a1), (2, .int a2), (3, .int a3), (4, .int a4), (5, .int v1), (6, .int v2)] [.int v6]) (by
      intro v6 E
      refine z_istore (lv' := [(7, .int v6), (0, .ref (G.1 + 7)), (1, .int a1), (2, .int a2), (3, .int a3), (4, .int a4), (5, .int v1), (6, .int v2)]) hC dX0_countWith_59 (Nat.le_of_ble_eq_true rfl) rfl ?_
      refine z_iload hC dX0_countWith_61 0 rfl ?_
      obtain ⟨K10, hK11, EE⟩ := JN_use E (fun K10 : Int32 → Prop => ∀ (v9 : Int32), K10 v9 → ZM l G p e s m args below meth c 8 1 S (PIr S D post) S D 85 [(0, .ref (G.1 + 7)), (1, .int a1), (2, .int a2), (3, .int a3), (4, .int a4), (5, .int v9), (6, .int v2)] []) (by
        intro v9 E
        obtain ⟨v12, h13⟩ : ∃ y : Int32, y = v2 + 1 := ⟨_, rfl⟩
        replace E := E v12 h13
        refine z_iinc (q := 6) (v := v12) (lv' := [(6, .int v12), (0, .ref (G.1 + 7)), (1, .int a1), (2, .int a2), (3, .int a3), (4, .int a4), (5, .int v9)]) hC dX0_countWith_85 rfl (by rw [h13]; rfl) (Nat.le_of_ble_eq_true rfl) rfl ?_
        refine z_goto (tgt := 6) hC dX0_countWith_88 (by decide) ?_
        refine z_sub [1, 2, 3, 4, 5, 6, 0] rfl ?_
        exact hrec4 v9 v12 E)
      replace E := EE
      clear EE
      refine z_if_eq (tgt := 85) hC dX0_countWith_63 (by decide) (fun c14 => ?_) (fun c14 => ?_)
      · replace E := E.1 c14
        refine z_sub [1, 2, 3, 4, 5, 6, 7] rfl ?_
        exact hK11 v1 E
      · replace E := E.2 c14
        refine z_iload hC dX0_countWith_66 5 rfl ?_
        obtain ⟨K15, hK16, EE⟩ := JN_use E (fun K15 : Prop => K15 → ZM l G p e s m args below meth c 8 1 S (PIr S D post) S D 82 [(0, .ref (G.1 + 7)), (1, .int a1), (2, .int a2), (3, .int a3), (4, .int a4), (5, .int v1), (6, .int v2)] []) (by
          intro E
          obtain ⟨v17, h18⟩ : ∃ y : Int32, y = v1 + 1 := ⟨_, rfl⟩
          replace E := E v17 h18
          refine z_iinc (q := 5) (v := v17) (lv' := [(5, .int v17), (0, .ref (G.1 + 7)), (1, .int a1), (2, .int a2), (3, .int a3), (4, .int a4), (6, .int v2)]) hC dX0_countWith_82 rfl (by rw [h18]; rfl) (Nat.le_of_ble_eq_true rfl) rfl ?_
          refine z_sub [1, 2, 3, 4, 5, 0, 6] rfl ?_
          exact hK11 v17 E)
        replace E := EE
        clear EE
        refine z_if_eq (tgt := 82) hC dX0_countWith_68 (by decide) (fun c19 => ?_) (fun c19 => ?_)
        · replace E := E.1 c19
          refine z_sub [1, 2, 3, 4, 5, 6, 7] rfl ?_
          exact hK16  E
        · replace E := E.2 c19
          refine z_aload_n hC dX0_countWith_71 rfl 1 rfl ?_
          refine z_get hC lf_X0_18_0 (kX_7 hF) dX0_countWith_72 (fV_ref rfl (rX_7_2 hF)) ?_
          refine z_iload hC dX0_countWith_75 7 rfl ?_
          refine z_iald hC (kX_10 hF) (nX_10 hF) E.1 dX0_countWith_77 ?_
          replace E := E.2
          refine z_iload_n hC dX0_countWith_78 rfl 2 rfl ?_
          refine z_icmp_ne (tgt := 85) hC dX0_countWith_79 (by decide) (fun c20 => ?_) (fun c20 => ?_)
          · replace E := E.1 c20
            refine z_sub [1, 2, 3, 4, 5, 6, 7] rfl ?_
            exact hK11 v1 E
          · replace E := E.2 c20
            refine z_sub [1, 2, 3, 4, 5, 6, 7] rfl ?_
            exact hK16  E)
    replace E := EE
    clear EE
    obtain ⟨K21, hK22, EE⟩ := JN_use E (fun K21 : Prop => K21 → ZM l G p e s m args below meth c 8 1 S (PIr S D post) S D 58 [(0, .ref (G.1 + 7)), (1, .int a1), (2, .int a2), (3, .int a3), (4, .int a4), (5, .int v1), (6, .int v2)] []) (by
      intro E
      refine z_iconst (v := 0) hC dX0_countWith_58 rfl ?_
      exact hK8 (0 : Int32) E)
    replace E := EE
    clear EE
    refine z_if_ne (tgt := 58) hC dX0_countWith_22 (by decide) (fun c23 => ?_) (fun c23 => ?_)
    · replace E := E.1 c23
      exact hK22  E
    · replace E := E.2 c23
      refine z_iload_n hC dX0_countWith_25 rfl 1 rfl ?_
      refine z_aload_n hC dX0_countWith_26 rfl 0 rfl ?_
      refine z_get hC lf_X0_15_0 (kX_7 hF) dX0_countWith_27 (fV_ref rfl (rX_7_1 hF)) ?_
      refine z_iload hC dX0_countWith_30 6 rfl ?_
      refine z_iald hC (kX_9 hF) (nX_9 hF) E.1 dX0_countWith_32 ?_
      replace E := E.2
      refine z_callSN (rest := []) hC lk_X0_28 in_X11_isIn cd_X11_isIn ds_X11_isIn ⟨Nat.le_of_ble_eq_true rfl, Nat.le_of_ble_eq_true rfl⟩ st_X11_isIn (ct_X11_isIn hF E) rfl rfl (Nat.le_of_ble_eq_true rfl) ⟨Nat.le_refl _, Nat.le_refl _⟩ dX0_countWith_33 ?_
      rintro _ _ _ ⟨v25, rfl, rfl, rfl, E⟩
      refine z_if_eq (tgt := 58) hC dX0_countWith_36 (by decide) (fun c29 => ?_) (fun c29 => ?_)
      · replace E := E.1 c29
        exact hK22  E
      · replace E := E.2 c29
        refine z_iload_n hC dX0_countWith_39 rfl 2 rfl ?_
        refine z_aload_n hC dX0_countWith_40 rfl 0 rfl ?_
        refine z_get hC lf_X0_15_0 (kX_7 hF) dX0_countWith_41 (fV_ref rfl (rX_7_1 hF)) ?_
        refine z_iload hC dX0_countWith_44 6 rfl ?_
        refine z_iald hC (kX_9 hF) (nX_9 hF) E.1 dX0_countWith_46 ?_
        replace E := E.2
        refine z_callSN (rest := []) hC lk_X0_28 in_X11_isIn cd_X11_isIn ds_X11_isIn ⟨Nat.le_of_ble_eq_true rfl, Nat.le_of_ble_eq_true rfl⟩ st_X11_isIn (ct_X11_isIn hF E) rfl rfl (Nat.le_of_ble_eq_true rfl) ⟨Nat.le_refl _, Nat.le_refl _⟩ dX0_countWith_47 ?_
        rintro _ _ _ ⟨v31, rfl, rfl, rfl, E⟩
        refine z_iload_n hC dX0_countWith_50 rfl 3 rfl ?_
        refine z_icmp_ne (tgt := 58) hC dX0_countWith_51 (by decide) (fun c35 => ?_) (fun c35 => ?_)
        · replace E := E.1 c35
          exact hK22  E
        · replace E := E.2 c35
          refine z_iconst (v := 1) hC dX0_countWith_54 rfl ?_
          refine z_goto (tgt := 59) hC dX0_countWith_55 (by decide) ?_
          exact hK8 (1 : Int32) E
def fX1_add (a1 : Int32) (a2 : Int32) (a3 : Int32) (D : Dy) (post : Int32 → Dy → Prop) : Prop :=
  (((D.1 1 3) < (6 : Int32) → (vp_in (D.1 1 3) 6 ∧ (∀ D2 : Dy, D2 = sI D 2 ((D.1 1 3)).toNatClampNeg a1 → (vp_in (D2.1 1 3) 6 ∧ (∀ D4 : Dy, D4 = sI D2 3 ((D2.1 1 3)).toNatClampNeg a2 → (vp_in (D4.1 1 3) 6 ∧ (∀ D6 : Dy, D6 = sI D4 4 ((D4.1 1 3)).toNatClampNeg a3 → (∀ v8 : Int32, v8 = (D6.1 1 3) → (∀ D10 : Dy, D10 = sI D6 1 3 (v8 + (1 : Int32)) → post v8 D10))))))))) ∧ (¬ (D.1 1 3) < (6 : Int32) → post (-4 : Int32) D))
set_option maxHeartbeats 4000000 in
set_option maxRecDepth 100000 in
theorem ct_X1_add {l : Launch} {G : Gl} {S : Sh} {D : Dy} {mdl : Nat → Option (Nat × Nat)} (hF : FX S mdl) {a1 : Int32} {a2 : Int32} {a3 : Int32} {post : Int32 → Dy → Prop} (E : fX1_add a1 a2 a3 D post) : Ct l G yX1_add cX1_add 4 (some .int) 0 0 0 S D [.ref (G.1 + 1), .int a1, .int a2, .int a3] (PI S post) := by
  refine z_enter (lv0 := [(0, .ref (G.1 + 1)), (1, .int a1), (2, .int a2), (3, .int a3)]) pl_1 (Nat.le_of_ble_eq_true rfl) rfl ?_
  intro p e s m args below meth c hC hnm
  unfold fX1_add at E
  refine z_aload_n hC dX1_add_0 rfl 0 rfl ?_
  refine z_get hC lf_X1_21_1 (kX_1 hF) dX1_add_1 (fV_int rfl) ?_
  refine z_bipush (v := 6) hC dX1_add_4 rfl ?_
  refine z_icmp_lt (tgt := 12) hC dX1_add_6 (by decide) (fun c1 => ?_) (fun c1 => ?_)
  · replace E := E.1 c1
    refine z_aload_n hC dX1_add_12 rfl 0 rfl ?_
    refine z_get hC lf_X1_9_1 (kX_1 hF) dX1_add_13 (fV_ref rfl (rX_1_0 hF)) ?_
    refine z_aload_n hC dX1_add_16 rfl 0 rfl ?_
    refine z_get hC lf_X1_21_1 (kX_1 hF) dX1_add_17 (fV_int rfl) ?_
    refine z_iload_n hC dX1_add_20 rfl 1 rfl ?_
    refine z_iast hC (kX_2 hF) (nX_2 hF) E.1 dX1_add_21 ?_
    replace E := E.2
    refine z_topD (fun D2 h3 => ?_)
    replace E := E D2 h3
    refine z_aload_n hC dX1_add_22 rfl 0 rfl ?_
    refine z_get hC lf_X1_15_1 (kX_1 hF) dX1_add_23 (fV_ref rfl (rX_1_1 hF)) ?_
    refine z_aload_n hC dX1_add_26 rfl 0 rfl ?_
    refine z_get hC lf_X1_21_1 (kX_1 hF) dX1_add_27 (fV_int rfl) ?_
    refine z_iload_n hC dX1_add_30 rfl 2 rfl ?_
    refine z_iast hC (kX_3 hF) (nX_3 hF) E.1 dX1_add_31 ?_
    replace E := E.2
    refine z_topD (fun D4 h5 => ?_)
    replace E := E D4 h5
    refine z_aload_n hC dX1_add_32 rfl 0 rfl ?_
    refine z_get hC lf_X1_18_1 (kX_1 hF) dX1_add_33 (fV_ref rfl (rX_1_2 hF)) ?_
    refine z_aload_n hC dX1_add_36 rfl 0 rfl ?_
    refine z_get hC lf_X1_21_1 (kX_1 hF) dX1_add_37 (fV_int rfl) ?_
    refine z_iload_n hC dX1_add_40 rfl 3 rfl ?_
    refine z_iast hC (kX_4 hF) (nX_4 hF) E.1 dX1_add_41 ?_
    replace E := E.2
    refine z_topD (fun D6 h7 => ?_)
    replace E := E D6 h7
    refine z_aload_n hC dX1_add_42 rfl 0 rfl ?_
    refine z_dup hC dX1_add_43 rfl ?_
    refine z_get hC lf_X1_21_1 (kX_1 hF) dX1_add_44 (fV_int rfl) ?_
    refine z_topi (fun v8 h9 => ?_)
    replace E := E v8 h9
    refine z_dup_x1 hC dX1_add_47 rfl rfl ?_
    refine z_iconst (v := 1) hC dX1_add_48 rfl ?_
    refine z_iadd hC dX1_add_49 ?_
    refine z_puti hC lf_X1_21_1 rfl (kX_1 hF) dX1_add_50 ?_
    refine z_topD (fun D10 h11 => ?_)
    replace E := E D10 h11
    exact z_iret hC dX1_add_53 (Nat.le_refl _) (Nat.le_refl _) ⟨_, rfl, rfl, E⟩
  · replace E := E.2 c1
    refine z_bipush (v := -4) hC dX1_add_9 rfl ?_
    exact z_iret hC dX1_add_11 (Nat.le_refl _) (Nat.le_refl _) ⟨_, rfl, rfl, E⟩
def fX1_cheapestOf (a1 : Int32) (D : Dy) (post : Int32 → Prop) : Prop :=
  (LP2 (fun (rec3 : Int32 → Int32 → Prop) (v1 : Int32) (v2 : Int32) => (((D.1 1 3) ≤ v2 → post v1) ∧ (¬ (D.1 1 3) ≤ v2 → (fX11_isIn v2 a1 (fun (v7 : Int32) => (JN (fun (v11 : Int32) => (∀ v14 : Int32, v14 = v2 + 1 → (rec3 v11 v14))) (fun K12 : Int32 → Prop => ((v7 = 0 → (K12 v1)) ∧ (¬ v7 = 0 → (JN ((K12 v2)) (fun K17 : Prop => ((v1 = (7 : Int32) → K17) ∧ (¬ v1 = (7 : Int32) → (vp_in v2 6 ∧ (vp_in v1 6 ∧ (((D.1 3 (v1).toNatClampNeg) ≤ (D.1 3 (v2).toNatClampNeg) → (K12 v1)) ∧ (¬ (D.1 3 (v1).toNatClampNeg) ≤ (D.1 3 (v2).toNatClampNeg) → K17))))))))))))))))) FU (7 : Int32) (0 : Int32))
set_option maxHeartbeats 4000000 in
set_option maxRecDepth 100000 in
theorem ct_X1_cheapestOf {l : Launch} {G : Gl} {S : Sh} {D : Dy} {mdl : Nat → Option (Nat × Nat)} (hF : FX S mdl) {a1 : Int32} {post : Int32 → Prop} (E : fX1_cheapestOf a1 D post) : Ct l G yX1_cheapestOf cX1_cheapestOf 4 (some .int) 1 0 0 S D [.ref (G.1 + 1), .int a1] (PIr S D post) := by
  refine z_enter (lv0 := [(0, .ref (G.1 + 1)), (1, .int a1)]) pl_1 (Nat.le_of_ble_eq_true rfl) rfl ?_
  intro p e s m args below meth c hC hnm
  unfold fX1_cheapestOf at E
  refine z_bipush (v := 7) hC dX1_cheapestOf_0 rfl ?_
  refine z_istore_n (lv' := [(2, .int (7 : Int32)), (0, .ref (G.1 + 1)), (1, .int a1)]) hC dX1_cheapestOf_2 rfl (Nat.le_of_ble_eq_true rfl) rfl ?_
  refine z_iconst (v := 0) hC dX1_cheapestOf_3 rfl ?_
  refine z_istore_n (lv' := [(3, .int (0 : Int32)), (2, .int (7 : Int32)), (0, .ref (G.1 + 1)), (1, .int a1)]) hC dX1_cheapestOf_4 rfl (Nat.le_of_ble_eq_true rfl) rfl ?_
  refine z_sub [2, 3, 1, 0] rfl ?_
  refine LP2_use (fun (v1 : Int32) (v2 : Int32) => ZM l G p e s m args below meth c 4 1 S (PIr S D post) S D 5 [(0, .ref (G.1 + 1)), (1, .int a1), (2, .int v1), (3, .int v2)] []) ?_ FU (7 : Int32) (0 : Int32) E
  intro rec3 hrec4 v1 v2 E
  refine z_iload_n hC dX1_cheapestOf_5 rfl 3 rfl ?_
  refine z_aload_n hC dX1_cheapestOf_6 rfl 0 rfl ?_
  refine z_get hC lf_X1_21_1 (kX_1 hF) dX1_cheapestOf_7 (fV_int rfl) ?_
  refine z_icmp_ge (tgt := 50) hC dX1_cheapestOf_10 (by decide) (fun c5 => ?_) (fun c5 => ?_)
  · replace E := E.1 c5
    refine z_iload_n hC dX1_cheapestOf_50 rfl 2 rfl ?_
    exact z_iret hC dX1_cheapestOf_51 (Nat.le_refl _) (Nat.le_refl _) ⟨_, rfl, rfl, rfl, E⟩
  · replace E := E.2 c5
    refine z_iload_n hC dX1_cheapestOf_13 rfl 3 rfl ?_
    refine z_iload_n hC dX1_cheapestOf_14 rfl 1 rfl ?_
    refine z_callSN (rest := []) hC lk_X1_39 in_X11_isIn cd_X11_isIn ds_X11_isIn ⟨Nat.le_of_ble_eq_true rfl, Nat.le_of_ble_eq_true rfl⟩ st_X11_isIn (ct_X11_isIn hF E) rfl rfl (Nat.le_of_ble_eq_true rfl) ⟨Nat.le_refl _, Nat.le_refl _⟩ dX1_cheapestOf_15 ?_
    rintro _ _ _ ⟨v7, rfl, rfl, rfl, E⟩
    obtain ⟨K12, hK13, EE⟩ := JN_use E (fun K12 : Int32 → Prop => ∀ (v11 : Int32), K12 v11 → ZM l G p e s m args below meth c 4 1 S (PIr S D post) S D 44 [(0, .ref (G.1 + 1)), (1, .int a1), (2, .int v11), (3, .int v2)] []) (by
      intro v11 E
      obtain ⟨v14, h15⟩ : ∃ y : Int32, y = v2 + 1 := ⟨_, rfl⟩
      replace E := E v14 h15
      refine z_iinc (q := 3) (v := v14) (lv' := [(3, .int v14), (0, .ref (G.1 + 1)), (1, .int a1), (2, .int v11)]) hC dX1_cheapestOf_44 rfl (by rw [h15]; rfl) (Nat.le_of_ble_eq_true rfl) rfl ?_
      refine z_goto (tgt := 5) hC dX1_cheapestOf_47 (by decide) ?_
      refine z_sub [1, 2, 3, 0] rfl ?_
      exact hrec4 v11 v14 E)
    replace E := EE
    clear EE
    refine z_if_eq (tgt := 44) hC dX1_cheapestOf_18 (by decide) (fun c16 => ?_) (fun c16 => ?_)
    · replace E := E.1 c16
      exact hK13 v1 E
    · replace E := E.2 c16
      refine z_iload_n hC dX1_cheapestOf_21 rfl 2 rfl ?_
      refine z_bipush (v := 7) hC dX1_cheapestOf_22 rfl ?_
      obtain ⟨K17, hK18, EE⟩ := JN_use E (fun K17 : Prop => K17 → ZM l G p e s m args below meth c 4 1 S (PIr S D post) S D 42 [(0, .ref (G.1 + 1)), (1, .int a1), (3, .int v2)] []) (by
        intro E
        refine z_iload_n hC dX1_cheapestOf_42 rfl 2 rfl ?_
        refine z_istore_n (lv' := [(2, .int v2), (0, .ref (G.1 + 1)), (1, .int a1), (3, .int v2)]) hC dX1_cheapestOf_43 rfl (Nat.le_of_ble_eq_true rfl) rfl ?_
        refine z_sub [1, 2, 0, 3] rfl ?_
        exact hK13 v2 E)
      replace E := EE
      clear EE
      refine z_icmp_eq (tgt := 42) hC dX1_cheapestOf_24 (by decide) (fun c19 => ?_) (fun c19 => ?_)
      · replace E := E.1 c19
        refine z_sub [0, 1, 3] rfl ?_
        exact hK18  E
      · replace E := E.2 c19
        refine z_aload_n hC dX1_cheapestOf_27 rfl 0 rfl ?_
        refine z_get hC lf_X1_15_1 (kX_1 hF) dX1_cheapestOf_28 (fV_ref rfl (rX_1_1 hF)) ?_
        refine z_iload_n hC dX1_cheapestOf_31 rfl 3 rfl ?_
        refine z_iald hC (kX_3 hF) (nX_3 hF) E.1 dX1_cheapestOf_32 ?_
        replace E := E.2
        refine z_aload_n hC dX1_cheapestOf_33 rfl 0 rfl ?_
        refine z_get hC lf_X1_15_1 (kX_1 hF) dX1_cheapestOf_34 (fV_ref rfl (rX_1_1 hF)) ?_
        refine z_iload_n hC dX1_cheapestOf_37 rfl 2 rfl ?_
        refine z_iald hC (kX_3 hF) (nX_3 hF) E.1 dX1_cheapestOf_38 ?_
        replace E := E.2
        refine z_icmp_ge (tgt := 44) hC dX1_cheapestOf_39 (by decide) (fun c20 => ?_) (fun c20 => ?_)
        · replace E := E.1 c20
          exact hK13 v1 E
        · replace E := E.2 c20
          refine z_sub [0, 1, 3] rfl ?_
          exact hK18  E
def fX11_within (a1 : Int32) (a2 : Int32) (post : Int32 → Prop) : Prop :=
  (JN (post (0 : Int32)) (fun K1 : Prop => ((a1 < 0 → K1) ∧ (¬ a1 < 0 → ((a2 ≤ a1 → K1) ∧ (¬ a2 ≤ a1 → post (1 : Int32)))))))
set_option maxHeartbeats 4000000 in
set_option maxRecDepth 100000 in
theorem ct_X11_within {l : Launch} {G : Gl} {S : Sh} {D : Dy} {mdl : Nat → Option (Nat × Nat)} (hF : FX S mdl) {a1 : Int32} {a2 : Int32} {post : Int32 → Prop} (E : fX11_within a1 a2 post) : Ct l G yX11_within cX11_within 2 (some .boolean) 0 0 0 S D [.int a1, .int a2] (PIr S D post) := by
  refine z_enter (lv0 := [(0, .int a1), (1, .int a2)]) pl_11 (Nat.le_of_ble_eq_true rfl) rfl ?_
  intro p e s m args below meth c hC hnm
  unfold fX11_within at E
  refine z_iload_n hC dX11_within_0 rfl 0 rfl ?_
  obtain ⟨K1, hK2, EE⟩ := JN_use E (fun K1 : Prop => K1 → ZM l G p e s m args below meth c 2 0 S (PIr S D post) S D 13 [] []) (by
    intro E
    refine z_iconst (v := 0) hC dX11_within_13 rfl ?_
    exact z_zret hC dX11_within_14 (Or.inl rfl) (Nat.le_refl _) (Nat.le_refl _) ⟨_, rfl, rfl, rfl, E⟩)
  replace E := EE
  clear EE
  refine z_if_lt (tgt := 13) hC dX11_within_1 (by decide) (fun c3 => ?_) (fun c3 => ?_)
  · replace E := E.1 c3
    refine z_sub [] rfl ?_
    exact hK2  E
  · replace E := E.2 c3
    refine z_iload_n hC dX11_within_4 rfl 0 rfl ?_
    refine z_iload_n hC dX11_within_5 rfl 1 rfl ?_
    refine z_icmp_ge (tgt := 13) hC dX11_within_6 (by decide) (fun c4 => ?_) (fun c4 => ?_)
    · replace E := E.1 c4
      refine z_sub [] rfl ?_
      exact hK2  E
    · replace E := E.2 c4
      refine z_iconst (v := 1) hC dX11_within_9 rfl ?_
      refine z_goto (tgt := 14) hC dX11_within_10 (by decide) ?_
      exact z_zret hC dX11_within_14 (Or.inr rfl) (Nat.le_refl _) (Nat.le_refl _) ⟨_, rfl, rfl, rfl, E⟩
def fX1_has (a1 : Int32) (D : Dy) (post : Int32 → Prop) : Prop :=
  (fX11_within a1 (D.1 1 3) (fun (v2 : Int32) => ((v2 = 0 ∨ v2 = 1) ∧ post v2)))
set_option maxHeartbeats 4000000 in
set_option maxRecDepth 100000 in
theorem ct_X1_has {l : Launch} {G : Gl} {S : Sh} {D : Dy} {mdl : Nat → Option (Nat × Nat)} (hF : FX S mdl) {a1 : Int32} {post : Int32 → Prop} (E : fX1_has a1 D post) : Ct l G yX1_has cX1_has 2 (some .boolean) 1 0 0 S D [.ref (G.1 + 1), .int a1] (PIr S D post) := by
  refine z_enter (lv0 := [(0, .ref (G.1 + 1)), (1, .int a1)]) pl_1 (Nat.le_of_ble_eq_true rfl) rfl ?_
  intro p e s m args below meth c hC hnm
  unfold fX1_has at E
  refine z_iload_n hC dX1_has_0 rfl 1 rfl ?_
  refine z_aload_n hC dX1_has_1 rfl 0 rfl ?_
  refine z_get hC lf_X1_21_1 (kX_1 hF) dX1_has_2 (fV_int rfl) ?_
  refine z_callSN (rest := []) hC lk_X1_25 in_X11_within cd_X11_within ds_X11_within ⟨Nat.le_of_ble_eq_true rfl, Nat.le_of_ble_eq_true rfl⟩ st_X11_within (ct_X11_within hF E) rfl rfl (Nat.le_of_ble_eq_true rfl) ⟨Nat.le_refl _, Nat.le_refl _⟩ dX1_has_5 ?_
  rintro _ _ _ ⟨v2, rfl, rfl, rfl, E⟩
  exact z_zret hC dX1_has_8 E.1 (Nat.le_refl _) (Nat.le_refl _) ⟨_, rfl, rfl, rfl, E.2⟩
def fX1_hasAll (a1 : Int32) (D : Dy) (post : Int32 → Prop) : Prop :=
  (JN (post (0 : Int32)) (fun K1 : Prop => ((a1 < 0 → K1) ∧ (¬ a1 < 0 → ((¬ (a1 >>> ((D.1 1 3) &&& 31)) = 0 → K1) ∧ ((a1 >>> ((D.1 1 3) &&& 31)) = 0 → post (1 : Int32)))))))
set_option maxHeartbeats 4000000 in
set_option maxRecDepth 100000 in
theorem ct_X1_hasAll {l : Launch} {G : Gl} {S : Sh} {D : Dy} {mdl : Nat → Option (Nat × Nat)} (hF : FX S mdl) {a1 : Int32} {post : Int32 → Prop} (E : fX1_hasAll a1 D post) : Ct l G yX1_hasAll cX1_hasAll 2 (some .boolean) 0 0 0 S D [.ref (G.1 + 1), .int a1] (PIr S D post) := by
  refine z_enter (lv0 := [(0, .ref (G.1 + 1)), (1, .int a1)]) pl_1 (Nat.le_of_ble_eq_true rfl) rfl ?_
  intro p e s m args below meth c hC hnm
  unfold fX1_hasAll at E
  refine z_iload_n hC dX1_hasAll_0 rfl 1 rfl ?_
  obtain ⟨K1, hK2, EE⟩ := JN_use E (fun K1 : Prop => K1 → ZM l G p e s m args below meth c 2 0 S (PIr S D post) S D 17 [] []) (by
    intro E
    refine z_iconst (v := 0) hC dX1_hasAll_17 rfl ?_
    exact z_zret hC dX1_hasAll_18 (Or.inl rfl) (Nat.le_refl _) (Nat.le_refl _) ⟨_, rfl, rfl, rfl, E⟩)
  replace E := EE
  clear EE
  refine z_if_lt (tgt := 17) hC dX1_hasAll_1 (by decide) (fun c3 => ?_) (fun c3 => ?_)
  · replace E := E.1 c3
    refine z_sub [] rfl ?_
    exact hK2  E
  · replace E := E.2 c3
    refine z_iload_n hC dX1_hasAll_4 rfl 1 rfl ?_
    refine z_aload_n hC dX1_hasAll_5 rfl 0 rfl ?_
    refine z_get hC lf_X1_21_1 (kX_1 hF) dX1_hasAll_6 (fV_int rfl) ?_
    refine z_ishr hC dX1_hasAll_9 ?_
    refine z_if_ne (tgt := 17) hC dX1_hasAll_10 (by decide) (fun c4 => ?_) (fun c4 => ?_)
    · replace E := E.1 c4
      refine z_sub [] rfl ?_
      exact hK2  E
    · replace E := E.2 c4
      refine z_iconst (v := 1) hC dX1_hasAll_13 rfl ?_
      refine z_goto (tgt := 18) hC dX1_hasAll_14 (by decide) ?_
      exact z_zret hC dX1_hasAll_18 (Or.inr rfl) (Nat.le_refl _) (Nat.le_refl _) ⟨_, rfl, rfl, rfl, E⟩
def fX1_hasSome (a1 : Int32) (D : Dy) (post : Int32 → Prop) : Prop :=
  (JN (post (0 : Int32)) (fun K1 : Prop => ((a1 = 0 → K1) ∧ (¬ a1 = 0 → (fX1_hasAll a1 D (fun (v5 : Int32) => ((v5 = 0 → K1) ∧ (¬ v5 = 0 → post (1 : Int32)))))))))
set_option maxHeartbeats 4000000 in
set_option maxRecDepth 100000 in
theorem ct_X1_hasSome {l : Launch} {G : Gl} {S : Sh} {D : Dy} {mdl : Nat → Option (Nat × Nat)} (hF : FX S mdl) {a1 : Int32} {post : Int32 → Prop} (E : fX1_hasSome a1 D post) : Ct l G yX1_hasSome cX1_hasSome 2 (some .boolean) 1 0 0 S D [.ref (G.1 + 1), .int a1] (PIr S D post) := by
  refine z_enter (lv0 := [(0, .ref (G.1 + 1)), (1, .int a1)]) pl_1 (Nat.le_of_ble_eq_true rfl) rfl ?_
  intro p e s m args below meth c hC hnm
  unfold fX1_hasSome at E
  refine z_iload_n hC dX1_hasSome_0 rfl 1 rfl ?_
  obtain ⟨K1, hK2, EE⟩ := JN_use E (fun K1 : Prop => K1 → ZM l G p e s m args below meth c 2 1 S (PIr S D post) S D 16 [] []) (by
    intro E
    refine z_iconst (v := 0) hC dX1_hasSome_16 rfl ?_
    exact z_zret hC dX1_hasSome_17 (Or.inl rfl) (Nat.le_refl _) (Nat.le_refl _) ⟨_, rfl, rfl, rfl, E⟩)
  replace E := EE
  clear EE
  refine z_if_eq (tgt := 16) hC dX1_hasSome_1 (by decide) (fun c3 => ?_) (fun c3 => ?_)
  · replace E := E.1 c3
    refine z_sub [] rfl ?_
    exact hK2  E
  · replace E := E.2 c3
    refine z_aload_n hC dX1_hasSome_4 rfl 0 rfl ?_
    refine z_iload_n hC dX1_hasSome_5 rfl 1 rfl ?_
    refine z_callV (ci := 1) (rest := []) hC (ck_mk lk_X1_29 in_X1_hasAll cd_X1_hasAll ds_X1_hasAll (Nat.le_of_ble_eq_true rfl) (Nat.le_of_ble_eq_true rfl)) iy_X1_hasAll sy_X1_hasAll cf_1 (by decide) (kX_1 hF) (ct_X1_hasAll hF E) rfl rfl (Nat.le_of_ble_eq_true rfl) ⟨Nat.le_refl _, Nat.le_refl _⟩ dX1_hasSome_6 ?_
    rintro _ _ _ ⟨v5, rfl, rfl, rfl, E⟩
    refine z_if_eq (tgt := 16) hC dX1_hasSome_9 (by decide) (fun c9 => ?_) (fun c9 => ?_)
    · replace E := E.1 c9
      refine z_sub [] rfl ?_
      exact hK2  E
    · replace E := E.2 c9
      refine z_iconst (v := 1) hC dX1_hasSome_12 rfl ?_
      refine z_goto (tgt := 17) hC dX1_hasSome_13 (by decide) ?_
      exact z_zret hC dX1_hasSome_17 (Or.inr rfl) (Nat.le_refl _) (Nat.le_refl _) ⟨_, rfl, rfl, rfl, E⟩
def fX1_outdoesAll (a1 : Int32) (a2 : Int32) (D : Dy) (post : Int32 → Prop) : Prop :=
  (LP1 (fun (rec2 : Int32 → Prop) (v1 : Int32) => (((D.1 1 3) ≤ v1 → post (1 : Int32)) ∧ (¬ (D.1 1 3) ≤ v1 → (fX11_isIn v1 a2 (fun (v6 : Int32) => (JN ((∀ v12 : Int32, v12 = v1 + 1 → (rec2 v12))) (fun K10 : Prop => ((¬ v6 = 0 → (vp_in v1 6 ∧ (vp_in a1 6 ∧ ((¬ ((D.1 2 (v1).toNatClampNeg) &&& ((D.1 2 (a1).toNatClampNeg) ^^^ (-1 : Int32))) = 0 → post (0 : Int32)) ∧ (((D.1 2 (v1).toNatClampNeg) &&& ((D.1 2 (a1).toNatClampNeg) ^^^ (-1 : Int32))) = 0 → (vp_in a1 6 ∧ (vp_in v1 6 ∧ (((D.1 3 (a1).toNatClampNeg) ≤ (D.1 3 (v1).toNatClampNeg) → K10) ∧ (¬ (D.1 3 (a1).toNatClampNeg) ≤ (D.1 3 (v1).toNatClampNeg) → post (0 : Int32)))))))))) ∧ (v6 = 0 → K10))))))))) FU (0 : Int32))
set_option maxHeartbeats 4000000 in
set_option maxRecDepth 100000 in
theorem ct_X1_outdoesAll {l : Launch} {G : Gl} {S : Sh} {D : Dy} {mdl : Nat → Option (Nat × Nat)} (hF : FX S mdl) {a1 : Int32} {a2 : Int32} {post : Int32 → Prop} (E : fX1_outdoesAll a1 a2 D post) : Ct l G yX1_outdoesAll cX1_outdoesAll 4 (some .boolean) 1 0 0 S D [.ref (G.1 + 1), .int a1, .int a2] (PIr S D post) := by
  refine z_enter (lv0 := [(0, .ref (G.1 + 1)), (1, .int a1), (2, .int a2)]) pl_1 (Nat.le_of_ble_eq_true rfl) rfl ?_
  intro p e s m args below meth c hC hnm
  unfold fX1_outdoesAll at E
  refine z_iconst (v := 0) hC dX1_outdoesAll_0 rfl ?_
  refine z_istore_n (lv' := [(3, .int (0 : Int32)), (0, .ref (G.1 + 1)), (1, .int a1), (2, .int a2)]) hC dX1_outdoesAll_1 rfl (Nat.le_of_ble_eq_true rfl) rfl ?_
  refine z_sub [1, 2, 3, 0] rfl ?_
  refine LP1_use (fun (v1 : Int32) => ZM l G p e s m args below meth c 4 1 S (PIr S D post) S D 2 [(0, .ref (G.1 + 1)), (1, .int a1), (2, .int a2), (3, .int v1)] []) ?_ FU (0 : Int32) E
  intro rec2 hrec3 v1 E
  refine z_iload_n hC dX1_outdoesAll_2 rfl 3 rfl ?_
  refine z_aload_n hC dX1_outdoesAll_3 rfl 0 rfl ?_
  refine z_get hC lf_X1_21_1 (kX_1 hF) dX1_outdoesAll_4 (fV_int rfl) ?_
  refine z_icmp_ge (tgt := 62) hC dX1_outdoesAll_7 (by decide) (fun c4 => ?_) (fun c4 => ?_)
  · replace E := E.1 c4
    refine z_iconst (v := 1) hC dX1_outdoesAll_62 rfl ?_
    exact z_zret hC dX1_outdoesAll_63 (Or.inr rfl) (Nat.le_refl _) (Nat.le_refl _) ⟨_, rfl, rfl, rfl, E⟩
  · replace E := E.2 c4
    refine z_iload_n hC dX1_outdoesAll_10 rfl 3 rfl ?_
    refine z_iload_n hC dX1_outdoesAll_11 rfl 2 rfl ?_
    refine z_callSN (rest := []) hC lk_X1_39 in_X11_isIn cd_X11_isIn ds_X11_isIn ⟨Nat.le_of_ble_eq_true rfl, Nat.le_of_ble_eq_true rfl⟩ st_X11_isIn (ct_X11_isIn hF E) rfl rfl (Nat.le_of_ble_eq_true rfl) ⟨Nat.le_refl _, Nat.le_refl _⟩ dX1_outdoesAll_12 ?_
    rintro _ _ _ ⟨v6, rfl, rfl, rfl, E⟩
    obtain ⟨K10, hK11, EE⟩ := JN_use E (fun K10 : Prop => K10 → ZM l G p e s m args below meth c 4 1 S (PIr S D post) S D 56 [(0, .ref (G.1 + 1)), (1, .int a1), (2, .int a2), (3, .int v1)] []) (by
      intro E
      obtain ⟨v12, h13⟩ : ∃ y : Int32, y = v1 + 1 := ⟨_, rfl⟩
      replace E := E v12 h13
      refine z_iinc (q := 3) (v := v12) (lv' := [(3, .int v12), (0, .ref (G.1 + 1)), (1, .int a1), (2, .int a2)]) hC dX1_outdoesAll_56 rfl (by rw [h13]; rfl) (Nat.le_of_ble_eq_true rfl) rfl ?_
      refine z_goto (tgt := 2) hC dX1_outdoesAll_59 (by decide) ?_
      refine z_sub [1, 2, 3, 0] rfl ?_
      exact hrec3 v12 E)
    replace E := EE
    clear EE
    refine z_if_ne (tgt := 21) hC dX1_outdoesAll_15 (by decide) (fun c14 => ?_) (fun c14 => ?_)
    · replace E := E.1 c14
      refine z_aload_n hC dX1_outdoesAll_21 rfl 0 rfl ?_
      refine z_get hC lf_X1_9_1 (kX_1 hF) dX1_outdoesAll_22 (fV_ref rfl (rX_1_0 hF)) ?_
      refine z_iload_n hC dX1_outdoesAll_25 rfl 3 rfl ?_
      refine z_iald hC (kX_2 hF) (nX_2 hF) E.1 dX1_outdoesAll_26 ?_
      replace E := E.2
      refine z_aload_n hC dX1_outdoesAll_27 rfl 0 rfl ?_
      refine z_get hC lf_X1_9_1 (kX_1 hF) dX1_outdoesAll_28 (fV_ref rfl (rX_1_0 hF)) ?_
      refine z_iload_n hC dX1_outdoesAll_31 rfl 1 rfl ?_
      refine z_iald hC (kX_2 hF) (nX_2 hF) E.1 dX1_outdoesAll_32 ?_
      replace E := E.2
      refine z_iconst (v := -1) hC dX1_outdoesAll_33 rfl ?_
      refine z_ixor hC dX1_outdoesAll_34 ?_
      refine z_iand hC dX1_outdoesAll_35 ?_
      refine z_if_ne (tgt := 54) hC dX1_outdoesAll_36 (by decide) (fun c15 => ?_) (fun c15 => ?_)
      · replace E := E.1 c15
        refine z_iconst (v := 0) hC dX1_outdoesAll_54 rfl ?_
        exact z_zret hC dX1_outdoesAll_55 (Or.inl rfl) (Nat.le_refl _) (Nat.le_refl _) ⟨_, rfl, rfl, rfl, E⟩
      · replace E := E.2 c15
        refine z_aload_n hC dX1_outdoesAll_39 rfl 0 rfl ?_
        refine z_get hC lf_X1_15_1 (kX_1 hF) dX1_outdoesAll_40 (fV_ref rfl (rX_1_1 hF)) ?_
        refine z_iload_n hC dX1_outdoesAll_43 rfl 1 rfl ?_
        refine z_iald hC (kX_3 hF) (nX_3 hF) E.1 dX1_outdoesAll_44 ?_
        replace E := E.2
        refine z_aload_n hC dX1_outdoesAll_45 rfl 0 rfl ?_
        refine z_get hC lf_X1_15_1 (kX_1 hF) dX1_outdoesAll_46 (fV_ref rfl (rX_1_1 hF)) ?_
        refine z_iload_n hC dX1_outdoesAll_49 rfl 3 rfl ?_
        refine z_iald hC (kX_3 hF) (nX_3 hF) E.1 dX1_outdoesAll_50 ?_
        replace E := E.2
        refine z_icmp_le (tgt := 56) hC dX1_outdoesAll_51 (by decide) (fun c16 => ?_) (fun c16 => ?_)
        · replace E := E.1 c16
          exact hK11  E
        · replace E := E.2 c16
          refine z_iconst (v := 0) hC dX1_outdoesAll_54 rfl ?_
          exact z_zret hC dX1_outdoesAll_55 (Or.inl rfl) (Nat.le_refl _) (Nat.le_refl _) ⟨_, rfl, rfl, rfl, E⟩
    · replace E := E.2 c14
      refine z_goto (tgt := 56) hC dX1_outdoesAll_18 (by decide) ?_
      exact hK11  E
def fX1_isSilly (a1 : Int32) (D : Dy) (post : Int32 → Prop) : Prop :=
  (∀ v1 : Int32, v1 = (bitC a1) → (((2 : Int32) ≤ v1 → (LP1 (fun (rec5 : Int32 → Prop) (v4 : Int32) => (((D.1 1 3) ≤ v4 → post (0 : Int32)) ∧ (¬ (D.1 1 3) ≤ v4 → (fX11_isIn v4 a1 (fun (v9 : Int32) => (JN ((∀ v15 : Int32, v15 = v4 + 1 → (rec5 v15))) (fun K13 : Prop => ((v9 = 0 → K13) ∧ (¬ v9 = 0 → (fX1_outdoesAll v4 a1 D (fun (v19 : Int32) => ((v19 = 0 → K13) ∧ (¬ v19 = 0 → post (1 : Int32)))))))))))))) FU (0 : Int32))) ∧ (¬ (2 : Int32) ≤ v1 → post (0 : Int32))))
set_option maxHeartbeats 4000000 in
set_option maxRecDepth 100000 in
theorem ct_X1_isSilly {l : Launch} {G : Gl} {S : Sh} {D : Dy} {mdl : Nat → Option (Nat × Nat)} (hF : FX S mdl) {a1 : Int32} {post : Int32 → Prop} (E : fX1_isSilly a1 D post) : Ct l G yX1_isSilly cX1_isSilly 3 (some .boolean) 2 0 0 S D [.ref (G.1 + 1), .int a1] (PIr S D post) := by
  refine z_enter (lv0 := [(0, .ref (G.1 + 1)), (1, .int a1)]) pl_1 (Nat.le_of_ble_eq_true rfl) rfl ?_
  intro p e s m args below meth c hC hnm
  unfold fX1_isSilly at E
  refine z_iload_n hC dX1_isSilly_0 rfl 1 rfl ?_
  refine z_bitCount hC lk_X1_33 ⟨Nat.le_of_ble_eq_true rfl, Nat.le_of_ble_eq_true rfl⟩ ⟨Nat.zero_le _, Nat.zero_le _⟩ (Nat.le_of_ble_eq_true rfl) dX1_isSilly_1 ?_
  refine z_topi (fun v1 h2 => ?_)
  replace E := E v1 h2
  refine z_iconst (v := 2) hC dX1_isSilly_4 rfl ?_
  refine z_icmp_ge (tgt := 10) hC dX1_isSilly_5 (by decide) (fun c3 => ?_) (fun c3 => ?_)
  · replace E := E.1 c3
    refine z_iconst (v := 0) hC dX1_isSilly_10 rfl ?_
    refine z_istore_n (lv' := [(2, .int (0 : Int32)), (0, .ref (G.1 + 1)), (1, .int a1)]) hC dX1_isSilly_11 rfl (Nat.le_of_ble_eq_true rfl) rfl ?_
    refine z_sub [1, 2, 0] rfl ?_
    refine LP1_use (fun (v4 : Int32) => ZM l G p e s m args below meth c 3 2 S (PIr S D post) S D 12 [(0, .ref (G.1 + 1)), (1, .int a1), (2, .int v4)] []) ?_ FU (0 : Int32) E
    intro rec5 hrec6 v4 E
    refine z_iload_n hC dX1_isSilly_12 rfl 2 rfl ?_
    refine z_aload_n hC dX1_isSilly_13 rfl 0 rfl ?_
    refine z_get hC lf_X1_21_1 (kX_1 hF) dX1_isSilly_14 (fV_int rfl) ?_
    refine z_icmp_ge (tgt := 45) hC dX1_isSilly_17 (by decide) (fun c7 => ?_) (fun c7 => ?_)
    · replace E := E.1 c7
      refine z_iconst (v := 0) hC dX1_isSilly_45 rfl ?_
      exact z_zret hC dX1_isSilly_46 (Or.inl rfl) (Nat.le_refl _) (Nat.le_refl _) ⟨_, rfl, rfl, rfl, E⟩
    · replace E := E.2 c7
      refine z_iload_n hC dX1_isSilly_20 rfl 2 rfl ?_
      refine z_iload_n hC dX1_isSilly_21 rfl 1 rfl ?_
      refine z_callSN (rest := []) hC lk_X1_39 in_X11_isIn cd_X11_isIn ds_X11_isIn ⟨Nat.le_of_ble_eq_true rfl, Nat.le_of_ble_eq_true rfl⟩ st_X11_isIn (ct_X11_isIn hF E) rfl rfl (Nat.le_of_ble_eq_true rfl) ⟨Nat.le_refl _, Nat.le_refl _⟩ dX1_isSilly_22 ?_
      rintro _ _ _ ⟨v9, rfl, rfl, rfl, E⟩
      obtain ⟨K13, hK14, EE⟩ := JN_use E (fun K13 : Prop => K13 → ZM l G p e s m args below meth c 3 2 S (PIr S D post) S D 39 [(0, .ref (G.1 + 1)), (1, .int a1), (2, .int v4)] []) (by
        intro E
        obtain ⟨v15, h16⟩ : ∃ y : Int32, y = v4 + 1 := ⟨_, rfl⟩
        replace E := E v15 h16
        refine z_iinc (q := 2) (v := v15) (lv' := [(2, .int v15), (0, .ref (G.1 + 1)), (1, .int a1)]) hC dX1_isSilly_39 rfl (by rw [h16]; rfl) (Nat.le_of_ble_eq_true rfl) rfl ?_
        refine z_goto (tgt := 12) hC dX1_isSilly_42 (by decide) ?_
        refine z_sub [1, 2, 0] rfl ?_
        exact hrec6 v15 E)
      replace E := EE
      clear EE
      refine z_if_eq (tgt := 39) hC dX1_isSilly_25 (by decide) (fun c17 => ?_) (fun c17 => ?_)
      · replace E := E.1 c17
        exact hK14  E
      · replace E := E.2 c17
        refine z_aload_n hC dX1_isSilly_28 rfl 0 rfl ?_
        refine z_iload_n hC dX1_isSilly_29 rfl 2 rfl ?_
        refine z_iload_n hC dX1_isSilly_30 rfl 1 rfl ?_
        refine z_callV (ci := 1) (rest := []) hC (ck_mk lk_X1_42 in_X1_outdoesAll cd_X1_outdoesAll ds_X1_outdoesAll (Nat.le_of_ble_eq_true rfl) (Nat.le_of_ble_eq_true rfl)) iy_X1_outdoesAll sy_X1_outdoesAll cf_1 (by decide) (kX_1 hF) (ct_X1_outdoesAll hF E) rfl rfl (Nat.le_of_ble_eq_true rfl) ⟨Nat.le_refl _, Nat.le_refl _⟩ dX1_isSilly_31 ?_
        rintro _ _ _ ⟨v19, rfl, rfl, rfl, E⟩
        refine z_if_eq (tgt := 39) hC dX1_isSilly_34 (by decide) (fun c23 => ?_) (fun c23 => ?_)
        · replace E := E.1 c23
          exact hK14  E
        · replace E := E.2 c23
          refine z_iconst (v := 1) hC dX1_isSilly_37 rfl ?_
          exact z_zret hC dX1_isSilly_38 (Or.inr rfl) (Nat.le_refl _) (Nat.le_refl _) ⟨_, rfl, rfl, rfl, E⟩
  · replace E := E.2 c3
    refine z_iconst (v := 0) hC dX1_isSilly_8 rfl ?_
    exact z_zret hC dX1_isSilly_9 (Or.inl rfl) (Nat.le_refl _) (Nat.le_refl _) ⟨_, rfl, rfl, rfl, E⟩
def fX1_mostMarkedOf (a1 : Int32) (D : Dy) (post : Int32 → Prop) : Prop :=
  (LP3 (fun (rec4 : Int32 → Int32 → Int32 → Prop) (v1 : Int32) (v2 : Int32) (v3 : Int32) => (((D.1 1 3) ≤ v3 → post v1) ∧ (¬ (D.1 1 3) ≤ v3 → (fX11_isIn v3 a1 (fun (v8 : Int32) => (JN (fun (v12 : Int32) (v13 : Int32) => (∀ v16 : Int32, v16 = v3 + 1 → (rec4 v12 v13 v16))) (fun K14 : Int32 → Int32 → Prop => ((v8 = 0 → (K14 v1 v2)) ∧ (¬ v8 = 0 → (vp_in v3 6 ∧ (∀ v19 : Int32, v19 = (bitC (D.1 2 (v3).toNatClampNeg)) → ((v19 ≤ v2 → (K14 v1 v2)) ∧ (¬ v19 ≤ v2 → (vp_in v3 6 ∧ (∀ v22 : Int32, v22 = (bitC (D.1 2 (v3).toNatClampNeg)) → (K14 v3 v22)))))))))))))))) FU (7 : Int32) (-1 : Int32) (0 : Int32))
set_option maxHeartbeats 4000000 in
set_option maxRecDepth 100000 in
theorem ct_X1_mostMarkedOf {l : Launch} {G : Gl} {S : Sh} {D : Dy} {mdl : Nat → Option (Nat × Nat)} (hF : FX S mdl) {a1 : Int32} {post : Int32 → Prop} (E : fX1_mostMarkedOf a1 D post) : Ct l G yX1_mostMarkedOf cX1_mostMarkedOf 5 (some .int) 1 0 0 S D [.ref (G.1 + 1), .int a1] (PIr S D post) := by
  refine z_enter (lv0 := [(0, .ref (G.1 + 1)), (1, .int a1)]) pl_1 (Nat.le_of_ble_eq_true rfl) rfl ?_
  intro p e s m args below meth c hC hnm
  unfold fX1_mostMarkedOf at E
  refine z_bipush (v := 7) hC dX1_mostMarkedOf_0 rfl ?_
  refine z_istore_n (lv' := [(2, .int (7 : Int32)), (0, .ref (G.1 + 1)), (1, .int a1)]) hC dX1_mostMarkedOf_2 rfl (Nat.le_of_ble_eq_true rfl) rfl ?_
  refine z_iconst (v := -1) hC dX1_mostMarkedOf_3 rfl ?_
  refine z_istore_n (lv' := [(3, .int (-1 : Int32)), (2, .int (7 : Int32)), (0, .ref (G.1 + 1)), (1, .int a1)]) hC dX1_mostMarkedOf_4 rfl (Nat.le_of_ble_eq_true rfl) rfl ?_
  refine z_iconst (v := 0) hC dX1_mostMarkedOf_5 rfl ?_
  refine z_istore (lv' := [(4, .int (0 : Int32)), (3, .int (-1 : Int32)), (2, .int (7 : Int32)), (0, .ref (G.1 + 1)), (1, .int a1)]) hC dX1_mostMarkedOf_6 (Nat.le_of_ble_eq_true rfl) rfl ?_
  refine z_sub [3, 4, 2, 1, 0] rfl ?_
  refine LP3_use (fun (v1 : Int32) (v2 : Int32) (v3 : Int32) => ZM l G p e s m args below meth c 5 1 S (PIr S D post) S D 8 [(0, .ref (G.1 + 1)), (1, .int a1), (2, .int v1), (3, .int v2), (4, .int v3)] []) ?_ FU (7 : Int32) (-1 : Int32) (0 : Int32) E
  intro rec4 hrec5 v1 v2 v3 E
  refine z_iload hC dX1_mostMarkedOf_8 4 rfl ?_
  refine z_aload_n hC dX1_mostMarkedOf_10 rfl 0 rfl ?_
  refine z_get hC lf_X1_21_1 (kX_1 hF) dX1_mostMarkedOf_11 (fV_int rfl) ?_
  refine z_icmp_ge (tgt := 60) hC dX1_mostMarkedOf_14 (by decide) (fun c6 => ?_) (fun c6 => ?_)
  · replace E := E.1 c6
    refine z_iload_n hC dX1_mostMarkedOf_60 rfl 2 rfl ?_
    exact z_iret hC dX1_mostMarkedOf_61 (Nat.le_refl _) (Nat.le_refl _) ⟨_, rfl, rfl, rfl, E⟩
  · replace E := E.2 c6
    refine z_iload hC dX1_mostMarkedOf_17 4 rfl ?_
    refine z_iload_n hC dX1_mostMarkedOf_19 rfl 1 rfl ?_
    refine z_callSN (rest := []) hC lk_X1_39 in_X11_isIn cd_X11_isIn ds_X11_isIn ⟨Nat.le_of_ble_eq_true rfl, Nat.le_of_ble_eq_true rfl⟩ st_X11_isIn (ct_X11_isIn hF E) rfl rfl (Nat.le_of_ble_eq_true rfl) ⟨Nat.le_refl _, Nat.le_refl _⟩ dX1_mostMarkedOf_20 ?_
    rintro _ _ _ ⟨v8, rfl, rfl, rfl, E⟩
    obtain ⟨K14, hK15, EE⟩ := JN_use E (fun K14 : Int32 → Int32 → Prop => ∀ (v12 : Int32) (v13 : Int32), K14 v12 v13 → ZM l G p e s m args below meth c 5 1 S (PIr S D post) S D 54 [(0, .ref (G.1 + 1)), (1, .int a1), (2, .int v12), (3, .int v13), (4, .int v3)] []) (by
      intro v12 v13 E
      obtain ⟨v16, h17⟩ : ∃ y : Int32, y = v3 + 1 := ⟨_, rfl⟩
      replace E := E v16 h17
      refine z_iinc (q := 4) (v := v16) (lv' := [(4, .int v16), (0, .ref (G.1 + 1)), (1, .int a1), (2, .int v12), (3, .int v13)]) hC dX1_mostMarkedOf_54 rfl (by rw [h17]; rfl) (Nat.le_of_ble_eq_true rfl) rfl ?_
      refine z_goto (tgt := 8) hC dX1_mostMarkedOf_57 (by decide) ?_
      refine z_sub [1, 2, 3, 4, 0] rfl ?_
      exact hrec5 v12 v13 v16 E)
    replace E := EE
    clear EE
    refine z_if_eq (tgt := 54) hC dX1_mostMarkedOf_23 (by decide) (fun c18 => ?_) (fun c18 => ?_)
    · replace E := E.1 c18
      exact hK15 v1 v2 E
    · replace E := E.2 c18
      refine z_aload_n hC dX1_mostMarkedOf_26 rfl 0 rfl ?_
      refine z_get hC lf_X1_9_1 (kX_1 hF) dX1_mostMarkedOf_27 (fV_ref rfl (rX_1_0 hF)) ?_
      refine z_iload hC dX1_mostMarkedOf_30 4 rfl ?_
      refine z_iald hC (kX_2 hF) (nX_2 hF) E.1 dX1_mostMarkedOf_32 ?_
      replace E := E.2
      refine z_bitCount hC lk_X1_33 ⟨Nat.le_of_ble_eq_true rfl, Nat.le_of_ble_eq_true rfl⟩ ⟨Nat.zero_le _, Nat.zero_le _⟩ (Nat.le_of_ble_eq_true rfl) dX1_mostMarkedOf_33 ?_
      refine z_topi (fun v19 h20 => ?_)
      replace E := E v19 h20
      refine z_iload_n hC dX1_mostMarkedOf_36 rfl 3 rfl ?_
      refine z_icmp_le (tgt := 54) hC dX1_mostMarkedOf_37 (by decide) (fun c21 => ?_) (fun c21 => ?_)
      · replace E := E.1 c21
        exact hK15 v1 v2 E
      · replace E := E.2 c21
        refine z_aload_n hC dX1_mostMarkedOf_40 rfl 0 rfl ?_
        refine z_get hC lf_X1_9_1 (kX_1 hF) dX1_mostMarkedOf_41 (fV_ref rfl (rX_1_0 hF)) ?_
        refine z_iload hC dX1_mostMarkedOf_44 4 rfl ?_
        refine z_iald hC (kX_2 hF) (nX_2 hF) E.1 dX1_mostMarkedOf_46 ?_
        replace E := E.2
        refine z_bitCount hC lk_X1_33 ⟨Nat.le_of_ble_eq_true rfl, Nat.le_of_ble_eq_true rfl⟩ ⟨Nat.zero_le _, Nat.zero_le _⟩ (Nat.le_of_ble_eq_true rfl) dX1_mostMarkedOf_47 ?_
        refine z_topi (fun v22 h23 => ?_)
        replace E := E v22 h23
        refine z_istore_n (lv' := [(3, .int v22), (0, .ref (G.1 + 1)), (1, .int a1), (2, .int v1), (4, .int v3)]) hC dX1_mostMarkedOf_50 rfl (Nat.le_of_ble_eq_true rfl) rfl ?_
        refine z_iload hC dX1_mostMarkedOf_51 4 rfl ?_
        refine z_istore_n (lv' := [(2, .int v3), (3, .int v22), (0, .ref (G.1 + 1)), (1, .int a1), (4, .int v3)]) hC dX1_mostMarkedOf_53 rfl (Nat.le_of_ble_eq_true rfl) rfl ?_
        refine z_sub [2, 3, 0, 1, 4] rfl ?_
        exact hK15 v3 v22 E
def fX1_passes (a1 : Int32) (a2 : Int32) (a3 : Int32) (D : Dy) (post : Int32 → Prop) : Prop :=
  ((a2 = (3 : Int32) → (vp_in a1 6 ∧ (fX11_isIn a3 (D.1 2 (a1).toNatClampNeg) (fun (v3 : Int32) => ((v3 = 0 ∨ v3 = 1) ∧ post v3))))) ∧ (¬ a2 = (3 : Int32) → ((a2 = (4 : Int32) → ((¬ a1 = a3 → post (0 : Int32)) ∧ (a1 = a3 → post (1 : Int32)))) ∧ (¬ a2 = (4 : Int32) → ((a2 = (5 : Int32) → (vp_in a1 6 ∧ ((¬ (D.1 4 (a1).toNatClampNeg) = a3 → post (0 : Int32)) ∧ ((D.1 4 (a1).toNatClampNeg) = a3 → post (1 : Int32))))) ∧ (¬ a2 = (5 : Int32) → ((a2 = (6 : Int32) → (vp_in a1 6 ∧ ((a3 ≤ (D.1 3 (a1).toNatClampNeg) → post (0 : Int32)) ∧ (¬ a3 ≤ (D.1 3 (a1).toNatClampNeg) → post (1 : Int32))))) ∧ (¬ a2 = (6 : Int32) → ((a2 = (7 : Int32) → (vp_in a1 6 ∧ ((¬ (D.1 3 (a1).toNatClampNeg) = a3 → post (0 : Int32)) ∧ ((D.1 3 (a1).toNatClampNeg) = a3 → post (1 : Int32))))) ∧ (¬ a2 = (7 : Int32) → (vp_in a1 6 ∧ (((D.1 3 (a1).toNatClampNeg) ≤ a3 → post (0 : Int32)) ∧ (¬ (D.1 3 (a1).toNatClampNeg) ≤ a3 → post (1 : Int32))))))))))))))
set_option maxHeartbeats 4000000 in
set_option maxRecDepth 100000 in
theorem ct_X1_passes {l : Launch} {G : Gl} {S : Sh} {D : Dy} {mdl : Nat → Option (Nat × Nat)} (hF : FX S mdl) {a1 : Int32} {a2 : Int32} {a3 : Int32} {post : Int32 → Prop} (E : fX1_passes a1 a2 a3 D post) : Ct l G yX1_passes cX1_passes 4 (some .boolean) 1 0 0 S D [.ref (G.1 + 1), .int a1, .int a2, .int a3] (PIr S D post) := by
  refine z_enter (lv0 := [(0, .ref (G.1 + 1)), (1, .int a1), (2, .int a2), (3, .int a3)]) pl_1 (Nat.le_of_ble_eq_true rfl) rfl ?_
  intro p e s m args below meth c hC hnm
  unfold fX1_passes at E
  refine z_iload_n hC dX1_passes_0 rfl 2 rfl ?_
  by_cases c1 : a2 = (3 : Int32)
  · replace E := E.1 c1
    refine z_tableIn (tgt := 36) (off := 35) hC dX1_passes_1 c1 (by decide) (by decide) ?_
    refine z_iload_n hC dX1_passes_36 rfl 3 rfl ?_
    refine z_aload_n hC dX1_passes_37 rfl 0 rfl ?_
    refine z_get hC lf_X1_9_1 (kX_1 hF) dX1_passes_38 (fV_ref rfl (rX_1_0 hF)) ?_
    refine z_iload_n hC dX1_passes_41 rfl 1 rfl ?_
    refine z_iald hC (kX_2 hF) (nX_2 hF) E.1 dX1_passes_42 ?_
    replace E := E.2
    refine z_callSN (rest := []) hC lk_X1_39 in_X11_isIn cd_X11_isIn ds_X11_isIn ⟨Nat.le_of_ble_eq_true rfl, Nat.le_of_ble_eq_true rfl⟩ st_X11_isIn (ct_X11_isIn hF E) rfl rfl (Nat.le_of_ble_eq_true rfl) ⟨Nat.le_refl _, Nat.le_refl _⟩ dX1_passes_43 ?_
    rintro _ _ _ ⟨v3, rfl, rfl, rfl, E⟩
    exact z_zret hC dX1_passes_46 E.1 (Nat.le_refl _) (Nat.le_refl _) ⟨_, rfl, rfl, rfl, E.2⟩
  replace E := E.2 c1
  by_cases c7 : a2 = (4 : Int32)
  · replace E := E.1 c7
    refine z_tableIn (tgt := 47) (off := 46) hC dX1_passes_1 c7 (by decide) (by decide) ?_
    refine z_iload_n hC dX1_passes_47 rfl 1 rfl ?_
    refine z_iload_n hC dX1_passes_48 rfl 3 rfl ?_
    refine z_icmp_ne (tgt := 56) hC dX1_passes_49 (by decide) (fun c8 => ?_) (fun c8 => ?_)
    · replace E := E.1 c8
      refine z_iconst (v := 0) hC dX1_passes_56 rfl ?_
      exact z_zret hC dX1_passes_57 (Or.inl rfl) (Nat.le_refl _) (Nat.le_refl _) ⟨_, rfl, rfl, rfl, E⟩
    · replace E := E.2 c8
      refine z_iconst (v := 1) hC dX1_passes_52 rfl ?_
      refine z_goto (tgt := 57) hC dX1_passes_53 (by decide) ?_
      exact z_zret hC dX1_passes_57 (Or.inr rfl) (Nat.le_refl _) (Nat.le_refl _) ⟨_, rfl, rfl, rfl, E⟩
  replace E := E.2 c7
  by_cases c9 : a2 = (5 : Int32)
  · replace E := E.1 c9
    refine z_tableIn (tgt := 58) (off := 57) hC dX1_passes_1 c9 (by decide) (by decide) ?_
    refine z_aload_n hC dX1_passes_58 rfl 0 rfl ?_
    refine z_get hC lf_X1_18_1 (kX_1 hF) dX1_passes_59 (fV_ref rfl (rX_1_2 hF)) ?_
    refine z_iload_n hC dX1_passes_62 rfl 1 rfl ?_
    refine z_iald hC (kX_4 hF) (nX_4 hF) E.1 dX1_passes_63 ?_
    replace E := E.2
    refine z_iload_n hC dX1_passes_64 rfl 3 rfl ?_
    refine z_icmp_ne (tgt := 72) hC dX1_passes_65 (by decide) (fun c10 => ?_) (fun c10 => ?_)
    · replace E := E.1 c10
      refine z_iconst (v := 0) hC dX1_passes_72 rfl ?_
      exact z_zret hC dX1_passes_73 (Or.inl rfl) (Nat.le_refl _) (Nat.le_refl _) ⟨_, rfl, rfl, rfl, E⟩
    · replace E := E.2 c10
      refine z_iconst (v := 1) hC dX1_passes_68 rfl ?_
      refine z_goto (tgt := 73) hC dX1_passes_69 (by decide) ?_
      exact z_zret hC dX1_passes_73 (Or.inr rfl) (Nat.le_refl _) (Nat.le_refl _) ⟨_, rfl, rfl, rfl, E⟩
  replace E := E.2 c9
  by_cases c11 : a2 = (6 : Int32)
  · replace E := E.1 c11
    refine z_tableIn (tgt := 74) (off := 73) hC dX1_passes_1 c11 (by decide) (by decide) ?_
    refine z_aload_n hC dX1_passes_74 rfl 0 rfl ?_
    refine z_get hC lf_X1_15_1 (kX_1 hF) dX1_passes_75 (fV_ref rfl (rX_1_1 hF)) ?_
    refine z_iload_n hC dX1_passes_78 rfl 1 rfl ?_
    refine z_iald hC (kX_3 hF) (nX_3 hF) E.1 dX1_passes_79 ?_
    replace E := E.2
    refine z_iload_n hC dX1_passes_80 rfl 3 rfl ?_
    refine z_icmp_ge (tgt := 88) hC dX1_passes_81 (by decide) (fun c12 => ?_) (fun c12 => ?_)
    · replace E := E.1 c12
      refine z_iconst (v := 0) hC dX1_passes_88 rfl ?_
      exact z_zret hC dX1_passes_89 (Or.inl rfl) (Nat.le_refl _) (Nat.le_refl _) ⟨_, rfl, rfl, rfl, E⟩
    · replace E := E.2 c12
      refine z_iconst (v := 1) hC dX1_passes_84 rfl ?_
      refine z_goto (tgt := 89) hC dX1_passes_85 (by decide) ?_
      exact z_zret hC dX1_passes_89 (Or.inr rfl) (Nat.le_refl _) (Nat.le_refl _) ⟨_, rfl, rfl, rfl, E⟩
  replace E := E.2 c11
  by_cases c13 : a2 = (7 : Int32)
  · replace E := E.1 c13
    refine z_tableIn (tgt := 90) (off := 89) hC dX1_passes_1 c13 (by decide) (by decide) ?_
    refine z_aload_n hC dX1_passes_90 rfl 0 rfl ?_
    refine z_get hC lf_X1_15_1 (kX_1 hF) dX1_passes_91 (fV_ref rfl (rX_1_1 hF)) ?_
    refine z_iload_n hC dX1_passes_94 rfl 1 rfl ?_
    refine z_iald hC (kX_3 hF) (nX_3 hF) E.1 dX1_passes_95 ?_
    replace E := E.2
    refine z_iload_n hC dX1_passes_96 rfl 3 rfl ?_
    refine z_icmp_ne (tgt := 104) hC dX1_passes_97 (by decide) (fun c14 => ?_) (fun c14 => ?_)
    · replace E := E.1 c14
      refine z_iconst (v := 0) hC dX1_passes_104 rfl ?_
      exact z_zret hC dX1_passes_105 (Or.inl rfl) (Nat.le_refl _) (Nat.le_refl _) ⟨_, rfl, rfl, rfl, E⟩
    · replace E := E.2 c14
      refine z_iconst (v := 1) hC dX1_passes_100 rfl ?_
      refine z_goto (tgt := 105) hC dX1_passes_101 (by decide) ?_
      exact z_zret hC dX1_passes_105 (Or.inr rfl) (Nat.le_refl _) (Nat.le_refl _) ⟨_, rfl, rfl, rfl, E⟩
  replace E := E.2 c13
  refine z_tableOut (tgt := 106) hC dX1_passes_1 (by have zc1 := sw_ne c1 (show (3 : Int32).toInt = 3 by decide); have zc7 := sw_ne c7 (show (4 : Int32).toInt = 4 by decide); have zc9 := sw_ne c9 (show (5 : Int32).toInt = 5 by decide); have zc11 := sw_ne c11 (show (6 : Int32).toInt = 6 by decide); have zc13 := sw_ne c13 (show (7 : Int32).toInt = 7 by decide); omega) (by decide) ?_
  refine z_aload_n hC dX1_passes_106 rfl 0 rfl ?_
  refine z_get hC lf_X1_15_1 (kX_1 hF) dX1_passes_107 (fV_ref rfl (rX_1_1 hF)) ?_
  refine z_iload_n hC dX1_passes_110 rfl 1 rfl ?_
  refine z_iald hC (kX_3 hF) (nX_3 hF) E.1 dX1_passes_111 ?_
  replace E := E.2
  refine z_iload_n hC dX1_passes_112 rfl 3 rfl ?_
  refine z_icmp_le (tgt := 120) hC dX1_passes_113 (by decide) (fun c15 => ?_) (fun c15 => ?_)
  · replace E := E.1 c15
    refine z_iconst (v := 0) hC dX1_passes_120 rfl ?_
    exact z_zret hC dX1_passes_121 (Or.inl rfl) (Nat.le_refl _) (Nat.le_refl _) ⟨_, rfl, rfl, rfl, E⟩
  · replace E := E.2 c15
    refine z_iconst (v := 1) hC dX1_passes_116 rfl ?_
    refine z_goto (tgt := 121) hC dX1_passes_117 (by decide) ?_
    exact z_zret hC dX1_passes_121 (Or.inr rfl) (Nat.le_refl _) (Nat.le_refl _) ⟨_, rfl, rfl, rfl, E⟩
def fX1_passing (a1 : Int32) (a2 : Int32) (D : Dy) (post : Int32 → Prop) : Prop :=
  (LP2 (fun (rec3 : Int32 → Int32 → Prop) (v1 : Int32) (v2 : Int32) => (((D.1 1 3) ≤ v2 → post v1) ∧ (¬ (D.1 1 3) ≤ v2 → (fX1_passes v2 a1 a2 D (fun (v7 : Int32) => (JN (fun (v11 : Int32) => (∀ v14 : Int32, v14 = v2 + 1 → (rec3 v11 v14))) (fun K12 : Int32 → Prop => ((v7 = 0 → (K12 v1)) ∧ (¬ v7 = 0 → (∀ v17 : Int32, v17 = (v1 ||| ((1 : Int32) <<< (v2 &&& 31))) → (K12 v17))))))))))) FU (0 : Int32) (0 : Int32))
set_option maxHeartbeats 4000000 in
set_option maxRecDepth 100000 in
theorem ct_X1_passing {l : Launch} {G : Gl} {S : Sh} {D : Dy} {mdl : Nat → Option (Nat × Nat)} (hF : FX S mdl) {a1 : Int32} {a2 : Int32} {post : Int32 → Prop} (E : fX1_passing a1 a2 D post) : Ct l G yX1_passing cX1_passing 5 (some .int) 2 0 0 S D [.ref (G.1 + 1), .int a1, .int a2] (PIr S D post) := by
  refine z_enter (lv0 := [(0, .ref (G.1 + 1)), (1, .int a1), (2, .int a2)]) pl_1 (Nat.le_of_ble_eq_true rfl) rfl ?_
  intro p e s m args below meth c hC hnm
  unfold fX1_passing at E
  refine z_iconst (v := 0) hC dX1_passing_0 rfl ?_
  refine z_istore_n (lv' := [(3, .int (0 : Int32)), (0, .ref (G.1 + 1)), (1, .int a1), (2, .int a2)]) hC dX1_passing_1 rfl (Nat.le_of_ble_eq_true rfl) rfl ?_
  refine z_iconst (v := 0) hC dX1_passing_2 rfl ?_
  refine z_istore (lv' := [(4, .int (0 : Int32)), (3, .int (0 : Int32)), (0, .ref (G.1 + 1)), (1, .int a1), (2, .int a2)]) hC dX1_passing_3 (Nat.le_of_ble_eq_true rfl) rfl ?_
  refine z_sub [2, 3, 4, 1, 0] rfl ?_
  refine LP2_use (fun (v1 : Int32) (v2 : Int32) => ZM l G p e s m args below meth c 5 2 S (PIr S D post) S D 5 [(0, .ref (G.1 + 1)), (1, .int a1), (2, .int a2), (3, .int v1), (4, .int v2)] []) ?_ FU (0 : Int32) (0 : Int32) E
  intro rec3 hrec4 v1 v2 E
  refine z_iload hC dX1_passing_5 4 rfl ?_
  refine z_aload_n hC dX1_passing_7 rfl 0 rfl ?_
  refine z_get hC lf_X1_21_1 (kX_1 hF) dX1_passing_8 (fV_int rfl) ?_
  refine z_icmp_ge (tgt := 38) hC dX1_passing_11 (by decide) (fun c5 => ?_) (fun c5 => ?_)
  · replace E := E.1 c5
    refine z_iload_n hC dX1_passing_38 rfl 3 rfl ?_
    exact z_iret hC dX1_passing_39 (Nat.le_refl _) (Nat.le_refl _) ⟨_, rfl, rfl, rfl, E⟩
  · replace E := E.2 c5
    refine z_aload_n hC dX1_passing_14 rfl 0 rfl ?_
    refine z_iload hC dX1_passing_15 4 rfl ?_
    refine z_iload_n hC dX1_passing_17 rfl 1 rfl ?_
    refine z_iload_n hC dX1_passing_18 rfl 2 rfl ?_
    refine z_callV (ci := 1) (rest := []) hC (ck_mk lk_X1_45 in_X1_passes cd_X1_passes ds_X1_passes (Nat.le_of_ble_eq_true rfl) (Nat.le_of_ble_eq_true rfl)) iy_X1_passes sy_X1_passes cf_1 (by decide) (kX_1 hF) (ct_X1_passes hF E) rfl rfl (Nat.le_of_ble_eq_true rfl) ⟨Nat.le_refl _, Nat.le_refl _⟩ dX1_passing_19 ?_
    rintro _ _ _ ⟨v7, rfl, rfl, rfl, E⟩
    obtain ⟨K12, hK13, EE⟩ := JN_use E (fun K12 : Int32 → Prop => ∀ (v11 : Int32), K12 v11 → ZM l G p e s m args below meth c 5 2 S (PIr S D post) S D 32 [(0, .ref (G.1 + 1)), (1, .int a1), (2, .int a2), (3, .int v11), (4, .int v2)] []) (by
      intro v11 E
      obtain ⟨v14, h15⟩ : ∃ y : Int32, y = v2 + 1 := ⟨_, rfl⟩
      replace E := E v14 h15
      refine z_iinc (q := 4) (v := v14) (lv' := [(4, .int v14), (0, .ref (G.1 + 1)), (1, .int a1), (2, .int a2), (3, .int v11)]) hC dX1_passing_32 rfl (by rw [h15]; rfl) (Nat.le_of_ble_eq_true rfl) rfl ?_
      refine z_goto (tgt := 5) hC dX1_passing_35 (by decide) ?_
      refine z_sub [1, 2, 3, 4, 0] rfl ?_
      exact hrec4 v11 v14 E)
    replace E := EE
    clear EE
    refine z_if_eq (tgt := 32) hC dX1_passing_22 (by decide) (fun c16 => ?_) (fun c16 => ?_)
    · replace E := E.1 c16
      exact hK13 v1 E
    · replace E := E.2 c16
      refine z_iload_n hC dX1_passing_25 rfl 3 rfl ?_
      refine z_iconst (v := 1) hC dX1_passing_26 rfl ?_
      refine z_iload hC dX1_passing_27 4 rfl ?_
      refine z_ishl hC dX1_passing_29 ?_
      refine z_ior hC dX1_passing_30 ?_
      refine z_topi (fun v17 h18 => ?_)
      replace E := E v17 h18
      refine z_istore_n (lv' := [(3, .int v17), (0, .ref (G.1 + 1)), (1, .int a1), (2, .int a2), (4, .int v2)]) hC dX1_passing_31 rfl (Nat.le_of_ble_eq_true rfl) rfl ?_
      refine z_sub [1, 2, 3, 0, 4] rfl ?_
      exact hK13 v17 E
def fX10_note (a1 : Int32) (D : Dy) (post : Dy → Prop) : Prop :=
  (JN (fun (D1 : Dy) => (∀ D4 : Dy, D4 = sI D1 22 1 ((D1.1 22 1) + (1 : Int32)) → post D4)) (fun K2 : Dy → Prop => (((20 : Int32) ≤ (D.1 22 1) → (K2 D)) ∧ (¬ (20 : Int32) ≤ (D.1 22 1) → (vp_in (D.1 22 1) 20 ∧ (∀ D7 : Dy, D7 = sI D 23 ((D.1 22 1)).toNatClampNeg a1 → (K2 D7)))))))
set_option maxHeartbeats 4000000 in
set_option maxRecDepth 100000 in
theorem ct_X10_note {l : Launch} {G : Gl} {S : Sh} {D : Dy} {mdl : Nat → Option (Nat × Nat)} (hF : FX S mdl) {a1 : Int32} {post : Dy → Prop} (E : fX10_note a1 D post) : Ct l G yX10_note cX10_note 2 none 0 0 0 S D [.ref (G.1 + 22), .int a1] (PV S post) := by
  refine z_enter (lv0 := [(0, .ref (G.1 + 22)), (1, .int a1)]) pl_10 (Nat.le_of_ble_eq_true rfl) rfl ?_
  intro p e s m args below meth c hC hnm
  unfold fX10_note at E
  refine z_aload_n hC dX10_note_0 rfl 0 rfl ?_
  refine z_get hC lf_X10_13_10 (kX_22 hF) dX10_note_1 (fV_int rfl) ?_
  refine z_bipush (v := 20) hC dX10_note_4 rfl ?_
  obtain ⟨K2, hK3, EE⟩ := JN_use E (fun K2 : Dy → Prop => ∀ (D1 : Dy), K2 D1 → ZM l G p e s m args below meth c 2 0 S (PV S post) S D1 19 [(0, .ref (G.1 + 22))] []) (by
    intro D1 E
    refine z_aload_n hC dX10_note_19 rfl 0 rfl ?_
    refine z_dup hC dX10_note_20 rfl ?_
    refine z_get hC lf_X10_13_10 (kX_22 hF) dX10_note_21 (fV_int rfl) ?_
    refine z_iconst (v := 1) hC dX10_note_24 rfl ?_
    refine z_iadd hC dX10_note_25 ?_
    refine z_puti hC lf_X10_13_10 rfl (kX_22 hF) dX10_note_26 ?_
    refine z_topD (fun D4 h5 => ?_)
    replace E := E D4 h5
    exact z_vret hC dX10_note_29 (Nat.le_refl _) (Nat.le_refl _) ⟨rfl, rfl, E⟩)
  replace E := EE
  clear EE
  refine z_icmp_ge (tgt := 19) hC dX10_note_6 (by decide) (fun c6 => ?_) (fun c6 => ?_)
  · replace E := E.1 c6
    refine z_sub [0] rfl ?_
    exact hK3 D E
  · replace E := E.2 c6
    refine z_aload_n hC dX10_note_9 rfl 0 rfl ?_
    refine z_get hC lf_X10_9_10 (kX_22 hF) dX10_note_10 (fV_ref rfl (rX_22_0 hF)) ?_
    refine z_aload_n hC dX10_note_13 rfl 0 rfl ?_
    refine z_get hC lf_X10_13_10 (kX_22 hF) dX10_note_14 (fV_int rfl) ?_
    refine z_iload_n hC dX10_note_17 rfl 1 rfl ?_
    refine z_iast hC (kX_23 hF) (nX_23 hF) E.1 dX10_note_18 ?_
    replace E := E.2
    refine z_topD (fun D7 h8 => ?_)
    replace E := E D7 h8
    refine z_sub [0] rfl ?_
    exact hK3 D7 E
def fX4_weighsBody (t : Nat) (kd : Nat) (a1 : Int32) (D : Dy) (post : Int32 → Dy → Prop) : Prop :=
  (fX10_note (10 : Int32) D (fun (D6 : Dy) => post (a1 + (D6.1 t 3)) D6))
set_option maxHeartbeats 4000000 in
set_option maxRecDepth 100000 in
theorem ct_X4_weighsBody {l : Launch} {G : Gl} {S : Sh} {D : Dy} {mdl : Nat → Option (Nat × Nat)} (hF : FX S mdl) {t : Nat} {kd : Nat} (hM : FMo S t kd) {a1 : Int32} {post : Int32 → Dy → Prop} (E : fX4_weighsBody t kd a1 D post) : Ct l G yX4_weighsBody cX4_weighsBody 3 (some .int) 1 0 0 S D [.ref (G.1 + (t + 9)), .int a1, .ref (G.1 + 22)] (PI S post) := by
  refine z_enter (lv0 := [(0, .ref (G.1 + (t + 9))), (1, .int a1), (2, .ref (G.1 + 22))]) pl_4 (Nat.le_of_ble_eq_true rfl) rfl ?_
  intro p e s m args below meth c hC hnm
  unfold fX4_weighsBody at E
  have hT := hM.ft
  refine z_aload_n hC dX4_weighsBody_0 rfl 2 rfl ?_
  refine z_bipush (v := 10) hC dX4_weighsBody_1 rfl ?_
  refine z_callV (ci := 10) (rest := []) hC (ck_mk lk_X4_92 in_X10_note cd_X10_note ds_X10_note (Nat.le_of_ble_eq_true rfl) (Nat.le_of_ble_eq_true rfl)) iy_X10_note sy_X10_note cf_10 (by decide) (kX_22 hF) (ct_X10_note hF E) rfl rfl (Nat.le_of_ble_eq_true rfl) ⟨Nat.le_refl _, Nat.le_refl _⟩ dX4_weighsBody_3 ?_
  rintro _ _ D6 ⟨rfl, rfl, E⟩
  refine z_iload_n hC dX4_weighsBody_6 rfl 1 rfl ?_
  refine z_aload_n hC dX4_weighsBody_7 rfl 0 rfl ?_
  refine z_get hC (lfm_X4_29 hM.kd) (kO hM) dX4_weighsBody_8 (fVm_2 hM) ?_
  refine z_get hC lf_X4_98_9 (kT_0 hT) dX4_weighsBody_11 (fV_int rfl) ?_
  refine z_iadd hC dX4_weighsBody_14 ?_
  exact z_iret hC dX4_weighsBody_15 (Nat.le_refl _) (Nat.le_refl _) ⟨_, rfl, rfl, E⟩
def fX5_weighsBody (t : Nat) (a1 : Int32) (D : Dy) (post : Int32 → Dy → Prop) : Prop :=
  (fX10_note (30 : Int32) D (fun (D6 : Dy) => (fX4_weighsBody t 2 (a1 * (3 : Int32)) D6 (fun (v7 : Int32) (D12 : Dy) => post v7 D12))))
set_option maxHeartbeats 4000000 in
set_option maxRecDepth 100000 in
theorem ct_X5_weighsBody {l : Launch} {G : Gl} {S : Sh} {D : Dy} {mdl : Nat → Option (Nat × Nat)} (hF : FX S mdl) {t : Nat} (hM : FMo S t 2) {a1 : Int32} {post : Int32 → Dy → Prop} (E : fX5_weighsBody t a1 D post) : Ct l G yX5_weighsBody cX5_weighsBody 3 (some .int) 2 0 0 S D [.ref (G.1 + (t + 9)), .int a1, .ref (G.1 + 22)] (PI S post) := by
  refine z_enter (lv0 := [(0, .ref (G.1 + (t + 9))), (1, .int a1), (2, .ref (G.1 + 22))]) pl_5 (Nat.le_of_ble_eq_true rfl) rfl ?_
  intro p e s m args below meth c hC hnm
  unfold fX5_weighsBody at E
  have hT := hM.ft
  refine z_aload_n hC dX5_weighsBody_0 rfl 2 rfl ?_
  refine z_bipush (v := 30) hC dX5_weighsBody_1 rfl ?_
  refine z_callV (ci := 10) (rest := []) hC (ck_mk lk_X5_55 in_X10_note cd_X10_note ds_X10_note (Nat.le_of_ble_eq_true rfl) (Nat.le_of_ble_eq_true rfl)) iy_X10_note sy_X10_note cf_10 (by decide) (kX_22 hF) (ct_X10_note hF E) rfl rfl (Nat.le_of_ble_eq_true rfl) ⟨Nat.le_refl _, Nat.le_refl _⟩ dX5_weighsBody_3 ?_
  rintro _ _ D6 ⟨rfl, rfl, E⟩
  refine z_aload_n hC dX5_weighsBody_6 rfl 0 rfl ?_
  refine z_iload_n hC dX5_weighsBody_7 rfl 1 rfl ?_
  refine z_iconst (v := 3) hC dX5_weighsBody_8 rfl ?_
  refine z_imul hC dX5_weighsBody_9 ?_
  refine z_aload_n hC dX5_weighsBody_10 rfl 2 rfl ?_
  obtain ⟨C, T, hci, hc13⟩ := cfm hM.kd
  refine z_callSX (rest := []) hC lk_X5_61 smx_X5_61 rfl sux_X5_61 suy_X5_61 iy_X4_weighsBody in_X4_weighsBody cd_X4_weighsBody (by decide) dn_X4_weighsBody ⟨Nat.le_of_ble_eq_true rfl, Nat.le_of_ble_eq_true rfl⟩ hci hc13 (kO hM) (ct_X4_weighsBody hF hM E) rfl rfl (Nat.le_of_ble_eq_true rfl) ⟨Nat.le_refl _, Nat.le_refl _⟩ dX5_weighsBody_11 ?_
  rintro _ _ D12 ⟨v7, rfl, rfl, E⟩
  exact z_iret hC dX5_weighsBody_14 (Nat.le_refl _) (Nat.le_refl _) ⟨_, rfl, rfl, E⟩
def fX8_weighsBody (t : Nat) (a1 : Int32) (D : Dy) (post : Int32 → Dy → Prop) : Prop :=
  (fX10_note (60 : Int32) D (fun (D6 : Dy) => (fX4_weighsBody t 5 a1 D6 (fun (v7 : Int32) (D12 : Dy) => post (v7 ^^^ (D12.1 (t + 9) 1)) D12))))
set_option maxHeartbeats 4000000 in
set_option maxRecDepth 100000 in
theorem ct_X8_weighsBody {l : Launch} {G : Gl} {S : Sh} {D : Dy} {mdl : Nat → Option (Nat × Nat)} (hF : FX S mdl) {t : Nat} (hM : FMo S t 5) {a1 : Int32} {post : Int32 → Dy → Prop} (E : fX8_weighsBody t a1 D post) : Ct l G yX8_weighsBody cX8_weighsBody 3 (some .int) 2 0 0 S D [.ref (G.1 + (t + 9)), .int a1, .ref (G.1 + 22)] (PI S post) := by
  refine z_enter (lv0 := [(0, .ref (G.1 + (t + 9))), (1, .int a1), (2, .ref (G.1 + 22))]) pl_8 (Nat.le_of_ble_eq_true rfl) rfl ?_
  intro p e s m args below meth c hC hnm
  unfold fX8_weighsBody at E
  have hT := hM.ft
  refine z_aload_n hC dX8_weighsBody_0 rfl 2 rfl ?_
  refine z_bipush (v := 60) hC dX8_weighsBody_1 rfl ?_
  refine z_callV (ci := 10) (rest := []) hC (ck_mk lk_X8_34 in_X10_note cd_X10_note ds_X10_note (Nat.le_of_ble_eq_true rfl) (Nat.le_of_ble_eq_true rfl)) iy_X10_note sy_X10_note cf_10 (by decide) (kX_22 hF) (ct_X10_note hF E) rfl rfl (Nat.le_of_ble_eq_true rfl) ⟨Nat.le_refl _, Nat.le_refl _⟩ dX8_weighsBody_3 ?_
  rintro _ _ D6 ⟨rfl, rfl, E⟩
  refine z_aload_n hC dX8_weighsBody_6 rfl 0 rfl ?_
  refine z_iload_n hC dX8_weighsBody_7 rfl 1 rfl ?_
  refine z_aload_n hC dX8_weighsBody_8 rfl 2 rfl ?_
  obtain ⟨C, T, hci, hc13⟩ := cfm hM.kd
  refine z_callSU (rest := []) hC lk_X8_40 sms_X4_weighsBody sup_X8_X4_weighsBody iy_X4_weighsBody in_X4_weighsBody cd_X4_weighsBody (by decide) dn_X4_weighsBody ⟨Nat.le_of_ble_eq_true rfl, Nat.le_of_ble_eq_true rfl⟩ hci hc13 (kO hM) (ct_X4_weighsBody hF hM E) rfl rfl (Nat.le_of_ble_eq_true rfl) ⟨Nat.le_refl _, Nat.le_refl _⟩ dX8_weighsBody_9 ?_
  rintro _ _ D12 ⟨v7, rfl, rfl, E⟩
  refine z_aload_n hC dX8_weighsBody_12 rfl 0 rfl ?_
  refine z_get hC (lfm_X8_44 hM.kd) (kO hM) dX8_weighsBody_13 (fVm_1 hM) ?_
  refine z_ixor hC dX8_weighsBody_16 ?_
  exact z_iret hC dX8_weighsBody_17 (Nat.le_refl _) (Nat.le_refl _) ⟨_, rfl, rfl, E⟩
def v_weighsBody (t kd : Nat) (a1 : Int32) (D : Dy) (post : Int32 → Dy → Prop) : Prop :=
  (kd = 0 → fX4_weighsBody t 0 a1 D post) ∧ (kd = 1 → fX4_weighsBody t 1 a1 D post) ∧ (kd = 2 → fX5_weighsBody t a1 D post) ∧ (kd = 3 → fX4_weighsBody t 3 a1 D post) ∧ (kd = 4 → fX4_weighsBody t 4 a1 D post) ∧ (kd = 5 → fX8_weighsBody t a1 D post)
theorem v_weighsBody_0 {t : Nat} {a1 : Int32} {D : Dy} {post : Int32 → Dy → Prop} (h : fX4_weighsBody t 0 a1 D post) : v_weighsBody t 0 a1 D post := ⟨fun _ => h, fun q => absurd q (by decide), fun q => absurd q (by decide), fun q => absurd q (by decide), fun q => absurd q (by decide), fun q => absurd q (by decide)⟩
theorem v_weighsBody_1 {t : Nat} {a1 : Int32} {D : Dy} {post : Int32 → Dy → Prop} (h : fX4_weighsBody t 1 a1 D post) : v_weighsBody t 1 a1 D post := ⟨fun q => absurd q (by decide), fun _ => h, fun q => absurd q (by decide), fun q => absurd q (by decide), fun q => absurd q (by decide), fun q => absurd q (by decide)⟩
theorem v_weighsBody_2 {t : Nat} {a1 : Int32} {D : Dy} {post : Int32 → Dy → Prop} (h : fX5_weighsBody t a1 D post) : v_weighsBody t 2 a1 D post := ⟨fun q => absurd q (by decide), fun q => absurd q (by decide), fun _ => h, fun q => absurd q (by decide), fun q => absurd q (by decide), fun q => absurd q (by decide)⟩
theorem v_weighsBody_3 {t : Nat} {a1 : Int32} {D : Dy} {post : Int32 → Dy → Prop} (h : fX4_weighsBody t 3 a1 D post) : v_weighsBody t 3 a1 D post := ⟨fun q => absurd q (by decide), fun q => absurd q (by decide), fun q => absurd q (by decide), fun _ => h, fun q => absurd q (by decide), fun q => absurd q (by decide)⟩
theorem v_weighsBody_4 {t : Nat} {a1 : Int32} {D : Dy} {post : Int32 → Dy → Prop} (h : fX4_weighsBody t 4 a1 D post) : v_weighsBody t 4 a1 D post := ⟨fun q => absurd q (by decide), fun q => absurd q (by decide), fun q => absurd q (by decide), fun q => absurd q (by decide), fun _ => h, fun q => absurd q (by decide)⟩
theorem v_weighsBody_5 {t : Nat} {a1 : Int32} {D : Dy} {post : Int32 → Dy → Prop} (h : fX8_weighsBody t a1 D post) : v_weighsBody t 5 a1 D post := ⟨fun q => absurd q (by decide), fun q => absurd q (by decide), fun q => absurd q (by decide), fun q => absurd q (by decide), fun q => absurd q (by decide), fun _ => h⟩
theorem cu_X4_101_0 : CU RX4 RX4 ⟨"WhyChosen$Model", "weighsBody", "(ILWhyChosen$Trace;)I"⟩ yX4_weighsBody := ⟨tw_951, tw_950, iy_X4_weighsBody, iy_X4_weighsBody, ⟨_, _, _, cd_X4_weighsBody⟩, by decide +kernel, by decide +kernel⟩
theorem cu_X4_101_1 : CU RX7 RX4 ⟨"WhyChosen$Model", "weighsBody", "(ILWhyChosen$Trace;)I"⟩ yX4_weighsBody := ⟨tw_951, tw_964, iy_X4_weighsBody, iy_X4_weighsBody, ⟨_, _, _, cd_X4_weighsBody⟩, by decide +kernel, by decide +kernel⟩
theorem cu_X4_101_2 : CU RX5 RX4 ⟨"WhyChosen$Model", "weighsBody", "(ILWhyChosen$Trace;)I"⟩ yX5_weighsBody := ⟨tw_951, tw_954, iy_X5_weighsBody, iy_X4_weighsBody, ⟨_, _, _, cd_X4_weighsBody⟩, by decide +kernel, by decide +kernel⟩
theorem cu_X4_101_3 : CU RX3 RX4 ⟨"WhyChosen$Model", "weighsBody", "(ILWhyChosen$Trace;)I"⟩ yX4_weighsBody := ⟨tw_951, tw_953, iy_X4_weighsBody, iy_X4_weighsBody, ⟨_, _, _, cd_X4_weighsBody⟩, by decide +kernel, by decide +kernel⟩
theorem cu_X4_101_4 : CU RX2 RX4 ⟨"WhyChosen$Model", "weighsBody", "(ILWhyChosen$Trace;)I"⟩ yX4_weighsBody := ⟨tw_951, tw_952, iy_X4_weighsBody, iy_X4_weighsBody, ⟨_, _, _, cd_X4_weighsBody⟩, by decide +kernel, by decide +kernel⟩
theorem cu_X4_101_5 : CU RX8 RX4 ⟨"WhyChosen$Model", "weighsBody", "(ILWhyChosen$Trace;)I"⟩ yX8_weighsBody := ⟨tw_951, tw_965, iy_X8_weighsBody, iy_X4_weighsBody, ⟨_, _, _, cd_X4_weighsBody⟩, by decide +kernel, by decide +kernel⟩
theorem lk_X4_101 : Cond.methodLink RX4 101 ⟨"WhyChosen$Model", "weighsBody", "(ILWhyChosen$Trace;)I"⟩ ∈ TB := tw_995
section ZVV
variable {p : Program} {l : Launch} {e : Env} {R : Room} {s : State} {m : MethodId} {args : Array Value} {below : List Frame} {meth : Method} {c : Code} {nL : Nat} {k n : Nat} {Q : State → Prop} {pc : Nat} {lv : List (Nat × Value)} {st : List Value}
variable {G : Gl} {cc : ByteArray} {own : String} {ret : Option FieldType} {A : Nat → Prop} {S S' S0 : Sh} {D D' : Dy} {a N : Nat} {Wp : Heap → List Loc → Prop}

set_option maxRecDepth 100000 in
theorem zv_X4_101 (hC : CX G cc RX4 nL ret p s m args meth c) {mdl : Nat → Option (Nat × Nat)} (hF : FX S mdl) {t kd : Nat} (hM : FMo S t kd) (hk : kd < 6) {a1 : Int32} {post : Int32 → Dy → Prop} (E : v_weighsBody t kd a1 D post) {rest : List Value} (hstk : st = List.reverse [.int a1, .ref (G.1 + 22)] ++ .ref (G.1 + (t + 9)) :: rest) (hrm : (rest.map fun v => v.category).sum ≤ 8) (hR : 2 + 1 ≤ R.frames ∧ 8 + (3 + 11) + 60 * 2 ≤ R.locals) (hkn : k + 0 ≤ R.cells ∧ n + 0 ≤ R.slots) (hd : decode cc pc = .ok (.invokevirtual 101, 3)) (kz : ∀ v S1 D1, (PI S post) v S1 D1 → Z p l e R s m args below meth c nL (WM G s A S1 D1) (k + 0) (n + 0) Q (pc + 3) lv (v.toList ++ rest)) : Z p l e R s m args below meth c nL (WM G s A S D) k n Q pc lv st := by
  obtain rfl | rfl | rfl | rfl | rfl | rfl : kd = 0 ∨ kd = 1 ∨ kd = 2 ∨ kd = 3 ∨ kd = 4 ∨ kd = 5 := by omega
  · exact z_callU (ci := 4) (C := RX4) (owner := RX4) (x := ⟨"WhyChosen$Model", "weighsBody", "(ILWhyChosen$Trace;)I"⟩) (av := [.int a1, .ref (G.1 + 22)]) hC lk_X4_101 in_X4_weighsBody cd_X4_weighsBody dn_X4_weighsBody (by omega) cu_X4_101_0 cf_4 (by decide) (kO hM) (ct_X4_weighsBody hF hM (E.1 rfl)) rfl hstk hrm hkn hd kz
  · exact z_callU (ci := 7) (C := RX7) (owner := RX4) (x := ⟨"WhyChosen$Model", "weighsBody", "(ILWhyChosen$Trace;)I"⟩) (av := [.int a1, .ref (G.1 + 22)]) hC lk_X4_101 in_X4_weighsBody cd_X4_weighsBody dn_X4_weighsBody (by omega) cu_X4_101_1 cf_7 (by decide) (kO hM) (ct_X4_weighsBody hF hM (E.2.1 rfl)) rfl hstk hrm hkn hd kz
  · exact z_callU (ci := 5) (C := RX5) (owner := RX4) (x := ⟨"WhyChosen$Model", "weighsBody", "(ILWhyChosen$Trace;)I"⟩) (av := [.int a1, .ref (G.1 + 22)]) hC lk_X4_101 in_X5_weighsBody cd_X5_weighsBody dn_X5_weighsBody (by omega) cu_X4_101_2 cf_5 (by decide) (kO hM) (ct_X5_weighsBody hF hM (E.2.2.1 rfl)) rfl hstk hrm hkn hd kz
  · exact z_callU (ci := 3) (C := RX3) (owner := RX4) (x := ⟨"WhyChosen$Model", "weighsBody", "(ILWhyChosen$Trace;)I"⟩) (av := [.int a1, .ref (G.1 + 22)]) hC lk_X4_101 in_X4_weighsBody cd_X4_weighsBody dn_X4_weighsBody (by omega) cu_X4_101_3 cf_3 (by decide) (kO hM) (ct_X4_weighsBody hF hM (E.2.2.2.1 rfl)) rfl hstk hrm hkn hd kz
  · exact z_callU (ci := 2) (C := RX2) (owner := RX4) (x := ⟨"WhyChosen$Model", "weighsBody", "(ILWhyChosen$Trace;)I"⟩) (av := [.int a1, .ref (G.1 + 22)]) hC lk_X4_101 in_X4_weighsBody cd_X4_weighsBody dn_X4_weighsBody (by omega) cu_X4_101_4 cf_2 (by decide) (kO hM) (ct_X4_weighsBody hF hM (E.2.2.2.2.1 rfl)) rfl hstk hrm hkn hd kz
  · exact z_callU (ci := 8) (C := RX8) (owner := RX4) (x := ⟨"WhyChosen$Model", "weighsBody", "(ILWhyChosen$Trace;)I"⟩) (av := [.int a1, .ref (G.1 + 22)]) hC lk_X4_101 in_X8_weighsBody cd_X8_weighsBody dn_X8_weighsBody (by omega) cu_X4_101_5 cf_8 (by decide) (kO hM) (ct_X8_weighsBody hF hM (E.2.2.2.2.2 rfl)) rfl hstk hrm hkn hd kz
end ZVV
def fX4_oddsBody (t : Nat) (kd : Nat) (a1 : Int32) (D : Dy) (post : Int32 → Dy → Prop) : Prop :=
  (fX10_note (11 : Int32) D (fun (D6 : Dy) => (v_weighsBody t kd a1 D6 (fun (v7 : Int32) (D12 : Dy) => post (v7 - (D12.1 (t + 9) 1)) D12))))
set_option maxHeartbeats 4000000 in
set_option maxRecDepth 100000 in
theorem ct_X4_oddsBody {l : Launch} {G : Gl} {S : Sh} {D : Dy} {mdl : Nat → Option (Nat × Nat)} (hF : FX S mdl) {t : Nat} {kd : Nat} (hM : FMo S t kd) {a1 : Int32} {post : Int32 → Dy → Prop} (E : fX4_oddsBody t kd a1 D post) : Ct l G yX4_oddsBody cX4_oddsBody 3 (some .int) 3 0 0 S D [.ref (G.1 + (t + 9)), .int a1, .ref (G.1 + 22)] (PI S post) := by
  refine z_enter (lv0 := [(0, .ref (G.1 + (t + 9))), (1, .int a1), (2, .ref (G.1 + 22))]) pl_4 (Nat.le_of_ble_eq_true rfl) rfl ?_
  intro p e s m args below meth c hC hnm
  unfold fX4_oddsBody at E
  have hT := hM.ft
  refine z_aload_n hC dX4_oddsBody_0 rfl 2 rfl ?_
  refine z_bipush (v := 11) hC dX4_oddsBody_1 rfl ?_
  refine z_callV (ci := 10) (rest := []) hC (ck_mk lk_X4_92 in_X10_note cd_X10_note ds_X10_note (Nat.le_of_ble_eq_true rfl) (Nat.le_of_ble_eq_true rfl)) iy_X10_note sy_X10_note cf_10 (by decide) (kX_22 hF) (ct_X10_note hF E) rfl rfl (Nat.le_of_ble_eq_true rfl) ⟨Nat.le_refl _, Nat.le_refl _⟩ dX4_oddsBody_3 ?_
  rintro _ _ D6 ⟨rfl, rfl, E⟩
  refine z_aload_n hC dX4_oddsBody_6 rfl 0 rfl ?_
  refine z_iload_n hC dX4_oddsBody_7 rfl 1 rfl ?_
  refine z_aload_n hC dX4_oddsBody_8 rfl 2 rfl ?_
  refine zv_X4_101 (rest := []) hC hF hM (by have := hM.kd; omega) E rfl (Nat.le_of_ble_eq_true rfl) ⟨Nat.le_of_ble_eq_true rfl, Nat.le_of_ble_eq_true rfl⟩ ⟨Nat.le_refl _, Nat.le_refl _⟩ dX4_oddsBody_9 ?_
  rintro _ _ D12 ⟨v7, rfl, rfl, E⟩
  refine z_aload_n hC dX4_oddsBody_12 rfl 0 rfl ?_
  refine z_get hC (lfm_X4_26 hM.kd) (kO hM) dX4_oddsBody_13 (fVm_1 hM) ?_
  refine z_isub hC dX4_oddsBody_16 ?_
  exact z_iret hC dX4_oddsBody_17 (Nat.le_refl _) (Nat.le_refl _) ⟨_, rfl, rfl, E⟩
def fX7_oddsBody (t : Nat) (kd : Nat) (a1 : Int32) (D : Dy) (post : Int32 → Dy → Prop) : Prop :=
  (fX10_note (20 : Int32) D (fun (D6 : Dy) => (fX4_oddsBody t kd a1 D6 (fun (v7 : Int32) (D12 : Dy) => post (v7 ^^^ (6 : Int32)) D12))))
set_option maxHeartbeats 4000000 in
set_option maxRecDepth 100000 in
theorem ct_X7_oddsBody {l : Launch} {G : Gl} {S : Sh} {D : Dy} {mdl : Nat → Option (Nat × Nat)} (hF : FX S mdl) {t : Nat} {kd : Nat} (hM : FMo S t kd) (hkd : kd = 1 ∨ kd = 2 ∨ kd = 3 ∨ kd = 4) {a1 : Int32} {post : Int32 → Dy → Prop} (E : fX7_oddsBody t kd a1 D post) : Ct l G yX7_oddsBody cX7_oddsBody 3 (some .int) 4 0 0 S D [.ref (G.1 + (t + 9)), .int a1, .ref (G.1 + 22)] (PI S post) := by
  refine z_enter (lv0 := [(0, .ref (G.1 + (t + 9))), (1, .int a1), (2, .ref (G.1 + 22))]) pl_7 (Nat.le_of_ble_eq_true rfl) rfl ?_
  intro p e s m args below meth c hC hnm
  unfold fX7_oddsBody at E
  have hT := hM.ft
  refine z_aload_n hC dX7_oddsBody_0 rfl 2 rfl ?_
  refine z_bipush (v := 20) hC dX7_oddsBody_1 rfl ?_
  refine z_callV (ci := 10) (rest := []) hC (ck_mk lk_X7_40 in_X10_note cd_X10_note ds_X10_note (Nat.le_of_ble_eq_true rfl) (Nat.le_of_ble_eq_true rfl)) iy_X10_note sy_X10_note cf_10 (by decide) (kX_22 hF) (ct_X10_note hF E) rfl rfl (Nat.le_of_ble_eq_true rfl) ⟨Nat.le_refl _, Nat.le_refl _⟩ dX7_oddsBody_3 ?_
  rintro _ _ D6 ⟨rfl, rfl, E⟩
  refine z_aload_n hC dX7_oddsBody_6 rfl 0 rfl ?_
  refine z_iload_n hC dX7_oddsBody_7 rfl 1 rfl ?_
  refine z_aload_n hC dX7_oddsBody_8 rfl 2 rfl ?_
  obtain ⟨C, T, hci, hc13⟩ := cfm hM.kd
  refine z_callSU (rest := []) hC lk_X7_46 sms_X4_oddsBody sup_X7_X4_oddsBody iy_X4_oddsBody in_X4_oddsBody cd_X4_oddsBody (by decide) dn_X4_oddsBody ⟨Nat.le_of_ble_eq_true rfl, Nat.le_of_ble_eq_true rfl⟩ hci hc13 (kO hM) (ct_X4_oddsBody hF hM E) rfl rfl (Nat.le_of_ble_eq_true rfl) ⟨Nat.le_refl _, Nat.le_refl _⟩ dX7_oddsBody_9 ?_
  rintro _ _ D12 ⟨v7, rfl, rfl, E⟩
  refine z_bipush (v := 6) hC dX7_oddsBody_12 rfl ?_
  refine z_ixor hC dX7_oddsBody_14 ?_
  exact z_iret hC dX7_oddsBody_15 (Nat.le_refl _) (Nat.le_refl _) ⟨_, rfl, rfl, E⟩
def fX2_oddsBody (t : Nat) (a1 : Int32) (D : Dy) (post : Int32 → Dy → Prop) : Prop :=
  (fX10_note (51 : Int32) D (fun (D6 : Dy) => (fX7_oddsBody t 4 a1 D6 (fun (v7 : Int32) (D12 : Dy) => (fX4_weighsBody t 4 (2 : Int32) D12 (fun (v13 : Int32) (D18 : Dy) => post (v7 + v13) D18))))))
set_option maxHeartbeats 4000000 in
set_option maxRecDepth 100000 in
theorem ct_X2_oddsBody {l : Launch} {G : Gl} {S : Sh} {D : Dy} {mdl : Nat → Option (Nat × Nat)} (hF : FX S mdl) {t : Nat} (hM : FMo S t 4) {a1 : Int32} {post : Int32 → Dy → Prop} (E : fX2_oddsBody t a1 D post) : Ct l G yX2_oddsBody cX2_oddsBody 3 (some .int) 5 0 0 S D [.ref (G.1 + (t + 9)), .int a1, .ref (G.1 + 22)] (PI S post) := by
  refine z_enter (lv0 := [(0, .ref (G.1 + (t + 9))), (1, .int a1), (2, .ref (G.1 + 22))]) pl_2 (Nat.le_of_ble_eq_true rfl) rfl ?_
  intro p e s m args below meth c hC hnm
  unfold fX2_oddsBody at E
  have hT := hM.ft
  refine z_aload_n hC dX2_oddsBody_0 rfl 2 rfl ?_
  refine z_bipush (v := 51) hC dX2_oddsBody_1 rfl ?_
  refine z_callV (ci := 10) (rest := []) hC (ck_mk lk_X2_33 in_X10_note cd_X10_note ds_X10_note (Nat.le_of_ble_eq_true rfl) (Nat.le_of_ble_eq_true rfl)) iy_X10_note sy_X10_note cf_10 (by decide) (kX_22 hF) (ct_X10_note hF E) rfl rfl (Nat.le_of_ble_eq_true rfl) ⟨Nat.le_refl _, Nat.le_refl _⟩ dX2_oddsBody_3 ?_
  rintro _ _ D6 ⟨rfl, rfl, E⟩
  refine z_aload_n hC dX2_oddsBody_6 rfl 0 rfl ?_
  refine z_iload_n hC dX2_oddsBody_7 rfl 1 rfl ?_
  refine z_aload_n hC dX2_oddsBody_8 rfl 2 rfl ?_
  obtain ⟨C, T, hci, hc13⟩ := cfm hM.kd
  refine z_callSU (rest := []) hC lk_X2_39 sms_X7_oddsBody sup_X2_X7_oddsBody iy_X7_oddsBody in_X7_oddsBody cd_X7_oddsBody (by decide) dn_X7_oddsBody ⟨Nat.le_of_ble_eq_true rfl, Nat.le_of_ble_eq_true rfl⟩ hci hc13 (kO hM) (ct_X7_oddsBody hF hM (by decide) E) rfl rfl (Nat.le_of_ble_eq_true rfl) ⟨Nat.le_refl _, Nat.le_refl _⟩ dX2_oddsBody_9 ?_
  rintro _ _ D12 ⟨v7, rfl, rfl, E⟩
  refine z_aload_n hC dX2_oddsBody_12 rfl 0 rfl ?_
  refine z_iconst (v := 2) hC dX2_oddsBody_13 rfl ?_
  refine z_aload_n hC dX2_oddsBody_14 rfl 2 rfl ?_
  obtain ⟨C, T, hci, hc13⟩ := cfm hM.kd
  refine z_callSX (rest := [.int v7]) hC lk_X2_43 smx_X2_43 rfl sux_X2_43 suy_X2_43 iy_X4_weighsBody in_X4_weighsBody cd_X4_weighsBody (by decide) dn_X4_weighsBody ⟨Nat.le_of_ble_eq_true rfl, Nat.le_of_ble_eq_true rfl⟩ hci hc13 (kO hM) (ct_X4_weighsBody hF hM E) rfl rfl (Nat.le_of_ble_eq_true rfl) ⟨Nat.le_refl _, Nat.le_refl _⟩ dX2_oddsBody_15 ?_
  rintro _ _ D18 ⟨v13, rfl, rfl, E⟩
  refine z_iadd hC dX2_oddsBody_18 ?_
  exact z_iret hC dX2_oddsBody_19 (Nat.le_refl _) (Nat.le_refl _) ⟨_, rfl, rfl, E⟩
def fX2_seenOf (t : Nat) (a2 : Int32) (D : Dy) (post : Int32 → Prop) : Prop :=
  (LP2 (fun (rec3 : Int32 → Int32 → Prop) (v1 : Int32) (v2 : Int32) => (JN (post (v1 &&& a2)) (fun K5 : Prop => (((D.1 t 8) ≤ v2 → K5) ∧ (¬ (D.1 t 8) ≤ v2 → ((v1 = a2 → K5) ∧ (¬ v1 = a2 → (fX1_mostMarkedOf (a2 &&& (v1 ^^^ (-1 : Int32))) D (fun (v9 : Int32) => (∀ v14 : Int32, v14 = (v1 ||| ((1 : Int32) <<< (v9 &&& 31))) → (∀ v16 : Int32, v16 = v2 + 1 → (rec3 v14 v16)))))))))))) FU (0 : Int32) (0 : Int32))
set_option maxHeartbeats 4000000 in
set_option maxRecDepth 100000 in
theorem ct_X2_seenOf {l : Launch} {G : Gl} {S : Sh} {D : Dy} {mdl : Nat → Option (Nat × Nat)} (hF : FX S mdl) {t : Nat} (hM : FMo S t 4) {a2 : Int32} {post : Int32 → Prop} (E : fX2_seenOf t a2 D post) : Ct l G yX2_seenOf cX2_seenOf 5 (some .int) 2 0 0 S D [.ref (G.1 + (t + 9)), .ref (G.1 + 1), .int a2] (PIr S D post) := by
  refine z_enter (lv0 := [(0, .ref (G.1 + (t + 9))), (1, .ref (G.1 + 1)), (2, .int a2)]) pl_2 (Nat.le_of_ble_eq_true rfl) rfl ?_
  intro p e s m args below meth c hC hnm
  unfold fX2_seenOf at E
  have hT := hM.ft
  refine z_iconst (v := 0) hC dX2_seenOf_0 rfl ?_
  refine z_istore_n (lv' := [(3, .int (0 : Int32)), (0, .ref (G.1 + (t + 9))), (1, .ref (G.1 + 1)), (2, .int a2)]) hC dX2_seenOf_1 rfl (Nat.le_of_ble_eq_true rfl) rfl ?_
  refine z_iconst (v := 0) hC dX2_seenOf_2 rfl ?_
  refine z_istore (lv' := [(4, .int (0 : Int32)), (3, .int (0 : Int32)), (0, .ref (G.1 + (t + 9))), (1, .ref (G.1 + 1)), (2, .int a2)]) hC dX2_seenOf_3 (Nat.le_of_ble_eq_true rfl) rfl ?_
  refine z_sub [2, 3, 4, 1, 0] rfl ?_
  refine LP2_use (fun (v1 : Int32) (v2 : Int32) => ZM l G p e s m args below meth c 5 2 S (PIr S D post) S D 5 [(0, .ref (G.1 + (t + 9))), (1, .ref (G.1 + 1)), (2, .int a2), (3, .int v1), (4, .int v2)] []) ?_ FU (0 : Int32) (0 : Int32) E
  intro rec3 hrec4 v1 v2 E
  refine z_iload hC dX2_seenOf_5 4 rfl ?_
  refine z_aload_n hC dX2_seenOf_7 rfl 0 rfl ?_
  refine z_get hC (lfm_X2_17 hM.kd) (kO hM) dX2_seenOf_8 (fVm_2 hM) ?_
  refine z_get hC lf_X2_21_9 (kT_0 hT) dX2_seenOf_11 (fV_int rfl) ?_
  obtain ⟨K5, hK6, EE⟩ := JN_use E (fun K5 : Prop => K5 → ZM l G p e s m args below meth c 5 2 S (PIr S D post) S D 42 [(2, .int a2), (3, .int v1)] []) (by
    intro E
    refine z_iload_n hC dX2_seenOf_42 rfl 1 rfl ?_
    refine z_iload_n hC dX2_seenOf_43 rfl 0 rfl ?_
    refine z_iand hC dX2_seenOf_44 ?_
    exact z_iret hC dX2_seenOf_45 (Nat.le_refl _) (Nat.le_refl _) ⟨_, rfl, rfl, rfl, E⟩)
  replace E := EE
  clear EE
  refine z_icmp_ge (tgt := 42) hC dX2_seenOf_14 (by decide) (fun c7 => ?_) (fun c7 => ?_)
  · replace E := E.1 c7
    refine z_sub [2, 3] rfl ?_
    exact hK6  E
  · replace E := E.2 c7
    refine z_iload_n hC dX2_seenOf_17 rfl 3 rfl ?_
    refine z_iload_n hC dX2_seenOf_18 rfl 2 rfl ?_
    refine z_icmp_eq (tgt := 42) hC dX2_seenOf_19 (by decide) (fun c8 => ?_) (fun c8 => ?_)
    · replace E := E.1 c8
      refine z_sub [2, 3] rfl ?_
      exact hK6  E
    · replace E := E.2 c8
      refine z_iload_n hC dX2_seenOf_22 rfl 3 rfl ?_
      refine z_iconst (v := 1) hC dX2_seenOf_23 rfl ?_
      refine z_aload_n hC dX2_seenOf_24 rfl 1 rfl ?_
      refine z_iload_n hC dX2_seenOf_25 rfl 2 rfl ?_
      refine z_iload_n hC dX2_seenOf_26 rfl 3 rfl ?_
      refine z_iconst (v := -1) hC dX2_seenOf_27 rfl ?_
      refine z_ixor hC dX2_seenOf_28 ?_
      refine z_iand hC dX2_seenOf_29 ?_
      refine z_callV (ci := 1) (rest := [.int (1 : Int32), .int v1]) hC (ck_mk lk_X2_27 in_X1_mostMarkedOf cd_X1_mostMarkedOf ds_X1_mostMarkedOf (Nat.le_of_ble_eq_true rfl) (Nat.le_of_ble_eq_true rfl)) iy_X1_mostMarkedOf sy_X1_mostMarkedOf cf_1 (by decide) (kX_1 hF) (ct_X1_mostMarkedOf hF E) rfl rfl (Nat.le_of_ble_eq_true rfl) ⟨Nat.le_refl _, Nat.le_refl _⟩ dX2_seenOf_30 ?_
      rintro _ _ _ ⟨v9, rfl, rfl, rfl, E⟩
      refine z_ishl hC dX2_seenOf_33 ?_
      refine z_ior hC dX2_seenOf_34 ?_
      refine z_topi (fun v14 h15 => ?_)
      replace E := E v14 h15
      refine z_istore_n (lv' := [(3, .int v14), (0, .ref (G.1 + (t + 9))), (1, .ref (G.1 + 1)), (2, .int a2), (4, .int v2)]) hC dX2_seenOf_35 rfl (Nat.le_of_ble_eq_true rfl) rfl ?_
      obtain ⟨v16, h17⟩ : ∃ y : Int32, y = v2 + 1 := ⟨_, rfl⟩
      replace E := E v16 h17
      refine z_iinc (q := 4) (v := v16) (lv' := [(4, .int v16), (3, .int v14), (0, .ref (G.1 + (t + 9))), (1, .ref (G.1 + 1)), (2, .int a2)]) hC dX2_seenOf_36 rfl (by rw [h17]; rfl) (Nat.le_of_ble_eq_true rfl) rfl ?_
      refine z_goto (tgt := 5) hC dX2_seenOf_39 (by decide) ?_
      refine z_sub [2, 3, 4, 1, 0] rfl ?_
      exact hrec4 v14 v16 E
def fX4_clearShares (t : Nat) (kd : Nat) (D : Dy) (post : Dy → Prop) : Prop :=
  (LP2 (fun (rec3 : Int32 → Dy → Prop) (v1 : Int32) (D2 : Dy) => (((8 : Int32) ≤ v1 → post D2) ∧ (¬ (8 : Int32) ≤ v1 → (vp_in v1 8 ∧ (∀ D6 : Dy, D6 = sL D2 (t + 11) (v1).toNatClampNeg (0 : Int64) → (vp_in v1 8 ∧ (∀ D8 : Dy, D8 = sL D6 (t + 12) (v1).toNatClampNeg (1 : Int64) → (∀ v10 : Int32, v10 = v1 + 1 → (rec3 v10 D8))))))))) FU (0 : Int32) D)
set_option maxHeartbeats 4000000 in
set_option maxRecDepth 100000 in
theorem ct_X4_clearShares {l : Launch} {G : Gl} {S : Sh} {D : Dy} {mdl : Nat → Option (Nat × Nat)} (hF : FX S mdl) {t : Nat} {kd : Nat} (hM : FMo S t kd)  {post : Dy → Prop} (E : fX4_clearShares t kd D post) : Ct l G yX4_clearShares cX4_clearShares 2 none 0 0 0 S D [.ref (G.1 + (t + 9))] (PV S post) := by
  refine z_enter (lv0 := [(0, .ref (G.1 + (t + 9)))]) pl_4 (Nat.le_of_ble_eq_true rfl) rfl ?_
  intro p e s m args below meth c hC hnm
  unfold fX4_clearShares at E
  have hT := hM.ft
  refine z_iconst (v := 0) hC dX4_clearShares_0 rfl ?_
  refine z_istore_n (lv' := [(1, .int (0 : Int32)), (0, .ref (G.1 + (t + 9)))]) hC dX4_clearShares_1 rfl (Nat.le_of_ble_eq_true rfl) rfl ?_
  refine z_sub [1, 0] rfl ?_
  refine LP2_use (fun (v1 : Int32) (D2 : Dy) => ZM l G p e s m args below meth c 2 0 S (PV S post) S D2 2 [(0, .ref (G.1 + (t + 9))), (1, .int v1)] []) ?_ FU (0 : Int32) D E
  intro rec3 hrec4 v1 D2 E
  refine z_iload_n hC dX4_clearShares_2 rfl 1 rfl ?_
  refine z_bipush (v := 8) hC dX4_clearShares_3 rfl ?_
  refine z_icmp_ge (tgt := 28) hC dX4_clearShares_5 (by decide) (fun c5 => ?_) (fun c5 => ?_)
  · replace E := E.1 c5
    exact z_vret hC dX4_clearShares_28 (Nat.le_refl _) (Nat.le_refl _) ⟨rfl, rfl, E⟩
  · replace E := E.2 c5
    refine z_aload_n hC dX4_clearShares_8 rfl 0 rfl ?_
    refine z_get hC (lfm_X4_15 hM.kd) (kO hM) dX4_clearShares_9 (fVm_4 hM) ?_
    refine z_iload_n hC dX4_clearShares_12 rfl 1 rfl ?_
    refine z_lconst (v := 0) hC dX4_clearShares_13 rfl ?_
    refine z_last hC (kO_11 hM) (nO_11 hM) E.1 dX4_clearShares_14 ?_
    replace E := E.2
    refine z_topD (fun D6 h7 => ?_)
    replace E := E D6 h7
    refine z_aload_n hC dX4_clearShares_15 rfl 0 rfl ?_
    refine z_get hC (lfm_X4_19 hM.kd) (kO hM) dX4_clearShares_16 (fVm_5 hM) ?_
    refine z_iload_n hC dX4_clearShares_19 rfl 1 rfl ?_
    refine z_lconst (v := 1) hC dX4_clearShares_20 rfl ?_
    refine z_last hC (kO_12 hM) (nO_12 hM) E.1 dX4_clearShares_21 ?_
    replace E := E.2
    refine z_topD (fun D8 h9 => ?_)
    replace E := E D8 h9
    obtain ⟨v10, h11⟩ : ∃ y : Int32, y = v1 + 1 := ⟨_, rfl⟩
    replace E := E v10 h11
    refine z_iinc (q := 1) (v := v10) (lv' := [(1, .int v10), (0, .ref (G.1 + (t + 9)))]) hC dX4_clearShares_22 rfl (by rw [h11]; rfl) (Nat.le_of_ble_eq_true rfl) rfl ?_
    refine z_goto (tgt := 2) hC dX4_clearShares_25 (by decide) ?_
    refine z_sub [1, 0] rfl ?_
    exact hrec4 v10 D8 E
def fX4_weighed (t : Nat) (kd : Nat) (a1 : Int32) (a2 : Int32) (D : Dy) (post : Int32 → Prop) : Prop :=
  (vp_in ((a2 * (8 : Int32)) + a1) 24 ∧ post (D.1 (t + 10) (((a2 * (8 : Int32)) + a1)).toNatClampNeg))
set_option maxHeartbeats 4000000 in
set_option maxRecDepth 100000 in
theorem ct_X4_weighed {l : Launch} {G : Gl} {S : Sh} {D : Dy} {mdl : Nat → Option (Nat × Nat)} (hF : FX S mdl) {t : Nat} {kd : Nat} (hM : FMo S t kd) {a1 : Int32} {a2 : Int32} {post : Int32 → Prop} (E : fX4_weighed t kd a1 a2 D post) : Ct l G yX4_weighed cX4_weighed 3 (some .int) 0 0 0 S D [.ref (G.1 + (t + 9)), .int a1, .int a2] (PIr S D post) := by
  refine z_enter (lv0 := [(0, .ref (G.1 + (t + 9))), (1, .int a1), (2, .int a2)]) pl_4 (Nat.le_of_ble_eq_true rfl) rfl ?_
  intro p e s m args below meth c hC hnm
  unfold fX4_weighed at E
  have hT := hM.ft
  refine z_aload_n hC dX4_weighed_0 rfl 0 rfl ?_
  refine z_get hC (lfm_X4_9 hM.kd) (kO hM) dX4_weighed_1 (fVm_3 hM) ?_
  refine z_iload_n hC dX4_weighed_4 rfl 2 rfl ?_
  refine z_bipush (v := 8) hC dX4_weighed_5 rfl ?_
  refine z_imul hC dX4_weighed_7 ?_
  refine z_iload_n hC dX4_weighed_8 rfl 1 rfl ?_
  refine z_iadd hC dX4_weighed_9 ?_
  refine z_iald hC (kO_10 hM) (nO_10 hM) E.1 dX4_weighed_10 ?_
  replace E := E.2
  exact z_iret hC dX4_weighed_11 (Nat.le_refl _) (Nat.le_refl _) ⟨_, rfl, rfl, rfl, E⟩
def v_weighed (t kd : Nat) (a1 : Int32) (a2 : Int32) (D : Dy) (post : Int32 → Prop) : Prop :=
  (kd = 0 → fX4_weighed t 0 a1 a2 D post) ∧ (kd = 1 → fX4_weighed t 1 a1 a2 D post) ∧ (kd = 2 → fX4_weighed t 2 a1 a2 D post) ∧ (kd = 3 → fX4_weighed t 3 a1 a2 D post) ∧ (kd = 4 → fX4_weighed t 4 a1 a2 D post) ∧ (kd = 5 → fX4_weighed t 5 a1 a2 D post)
theorem v_weighed_0 {t : Nat} {a1 : Int32} {a2 : Int32} {D : Dy} {post : Int32 → Prop} (h : fX4_weighed t 0 a1 a2 D post) : v_weighed t 0 a1 a2 D post := ⟨fun _ => h, fun q => absurd q (by decide), fun q => absurd q (by decide), fun q => absurd q (by decide), fun q => absurd q (by decide), fun q => absurd q (by decide)⟩
theorem v_weighed_1 {t : Nat} {a1 : Int32} {a2 : Int32} {D : Dy} {post : Int32 → Prop} (h : fX4_weighed t 1 a1 a2 D post) : v_weighed t 1 a1 a2 D post := ⟨fun q => absurd q (by decide), fun _ => h, fun q => absurd q (by decide), fun q => absurd q (by decide), fun q => absurd q (by decide), fun q => absurd q (by decide)⟩
theorem v_weighed_2 {t : Nat} {a1 : Int32} {a2 : Int32} {D : Dy} {post : Int32 → Prop} (h : fX4_weighed t 2 a1 a2 D post) : v_weighed t 2 a1 a2 D post := ⟨fun q => absurd q (by decide), fun q => absurd q (by decide), fun _ => h, fun q => absurd q (by decide), fun q => absurd q (by decide), fun q => absurd q (by decide)⟩
theorem v_weighed_3 {t : Nat} {a1 : Int32} {a2 : Int32} {D : Dy} {post : Int32 → Prop} (h : fX4_weighed t 3 a1 a2 D post) : v_weighed t 3 a1 a2 D post := ⟨fun q => absurd q (by decide), fun q => absurd q (by decide), fun q => absurd q (by decide), fun _ => h, fun q => absurd q (by decide), fun q => absurd q (by decide)⟩
theorem v_weighed_4 {t : Nat} {a1 : Int32} {a2 : Int32} {D : Dy} {post : Int32 → Prop} (h : fX4_weighed t 4 a1 a2 D post) : v_weighed t 4 a1 a2 D post := ⟨fun q => absurd q (by decide), fun q => absurd q (by decide), fun q => absurd q (by decide), fun q => absurd q (by decide), fun _ => h, fun q => absurd q (by decide)⟩
theorem v_weighed_5 {t : Nat} {a1 : Int32} {a2 : Int32} {D : Dy} {post : Int32 → Prop} (h : fX4_weighed t 5 a1 a2 D post) : v_weighed t 5 a1 a2 D post := ⟨fun q => absurd q (by decide), fun q => absurd q (by decide), fun q => absurd q (by decide), fun q => absurd q (by decide), fun q => absurd q (by decide), fun _ => h⟩
theorem cu_X4_78_0 : CU RX4 RX4 ⟨"WhyChosen$Model", "weighed", "(II)I"⟩ yX4_weighed := ⟨tw_1644, tw_1647, iy_X4_weighed, iy_X4_weighed, ⟨_, _, _, cd_X4_weighed⟩, by decide +kernel, by decide +kernel⟩
theorem cu_X4_78_1 : CU RX7 RX4 ⟨"WhyChosen$Model", "weighed", "(II)I"⟩ yX4_weighed := ⟨tw_1644, tw_1649, iy_X4_weighed, iy_X4_weighed, ⟨_, _, _, cd_X4_weighed⟩, by decide +kernel, by decide +kernel⟩
theorem cu_X4_78_2 : CU RX5 RX4 ⟨"WhyChosen$Model", "weighed", "(II)I"⟩ yX4_weighed := ⟨tw_1644, tw_1648, iy_X4_weighed, iy_X4_weighed, ⟨_, _, _, cd_X4_weighed⟩, by decide +kernel, by decide +kernel⟩
theorem cu_X4_78_3 : CU RX3 RX4 ⟨"WhyChosen$Model", "weighed", "(II)I"⟩ yX4_weighed := ⟨tw_1644, tw_1646, iy_X4_weighed, iy_X4_weighed, ⟨_, _, _, cd_X4_weighed⟩, by decide +kernel, by decide +kernel⟩
theorem cu_X4_78_4 : CU RX2 RX4 ⟨"WhyChosen$Model", "weighed", "(II)I"⟩ yX4_weighed := ⟨tw_1644, tw_1645, iy_X4_weighed, iy_X4_weighed, ⟨_, _, _, cd_X4_weighed⟩, by decide +kernel, by decide +kernel⟩
theorem cu_X4_78_5 : CU RX8 RX4 ⟨"WhyChosen$Model", "weighed", "(II)I"⟩ yX4_weighed := ⟨tw_1644, tw_1650, iy_X4_weighed, iy_X4_weighed, ⟨_, _, _, cd_X4_weighed⟩, by decide +kernel, by decide +kernel⟩
theorem lk_X4_78 : Cond.methodLink RX4 78 ⟨"WhyChosen$Model", "weighed", "(II)I"⟩ ∈ TB := tw_688
section ZVV
variable {p : Program} {l : Launch} {e : Env} {R : Room} {s : State} {m : MethodId} {args : Array Value} {below : List Frame} {meth : Method} {c : Code} {nL : Nat} {k n : Nat} {Q : State → Prop} {pc : Nat} {lv : List (Nat × Value)} {st : List Value}
variable {G : Gl} {cc : ByteArray} {own : String} {ret : Option FieldType} {A : Nat → Prop} {S S' S0 : Sh} {D D' : Dy} {a N : Nat} {Wp : Heap → List Loc → Prop}

set_option maxRecDepth 100000 in
theorem zv_X4_78 (hC : CX G cc RX4 nL ret p s m args meth c) {mdl : Nat → Option (Nat × Nat)} (hF : FX S mdl) {t kd : Nat} (hM : FMo S t kd) (hk : kd < 6) {a1 : Int32} {a2 : Int32} {post : Int32 → Prop} (E : v_weighed t kd a1 a2 D post) {rest : List Value} (hstk : st = List.reverse [.int a1, .int a2] ++ .ref (G.1 + (t + 9)) :: rest) (hrm : (rest.map fun v => v.category).sum ≤ 8) (hR : 0 + 1 ≤ R.frames ∧ 8 + (3 + 11) + 60 * 0 ≤ R.locals) (hkn : k + 0 ≤ R.cells ∧ n + 0 ≤ R.slots) (hd : decode cc pc = .ok (.invokevirtual 78, 3)) (kz : ∀ v S1 D1, (PIr S D post) v S1 D1 → Z p l e R s m args below meth c nL (WM G s A S1 D1) (k + 0) (n + 0) Q (pc + 3) lv (v.toList ++ rest)) : Z p l e R s m args below meth c nL (WM G s A S D) k n Q pc lv st := by
  obtain rfl | rfl | rfl | rfl | rfl | rfl : kd = 0 ∨ kd = 1 ∨ kd = 2 ∨ kd = 3 ∨ kd = 4 ∨ kd = 5 := by omega
  · exact z_callU (ci := 4) (C := RX4) (owner := RX4) (x := ⟨"WhyChosen$Model", "weighed", "(II)I"⟩) (av := [.int a1, .int a2]) hC lk_X4_78 in_X4_weighed cd_X4_weighed dn_X4_weighed (by omega) cu_X4_78_0 cf_4 (by decide) (kO hM) (ct_X4_weighed hF hM (E.1 rfl)) rfl hstk hrm hkn hd kz
  · exact z_callU (ci := 7) (C := RX7) (owner := RX4) (x := ⟨"WhyChosen$Model", "weighed", "(II)I"⟩) (av := [.int a1, .int a2]) hC lk_X4_78 in_X4_weighed cd_X4_weighed dn_X4_weighed (by omega) cu_X4_78_1 cf_7 (by decide) (kO hM) (ct_X4_weighed hF hM (E.2.1 rfl)) rfl hstk hrm hkn hd kz
  · exact z_callU (ci := 5) (C := RX5) (owner := RX4) (x := ⟨"WhyChosen$Model", "weighed", "(II)I"⟩) (av := [.int a1, .int a2]) hC lk_X4_78 in_X4_weighed cd_X4_weighed dn_X4_weighed (by omega) cu_X4_78_2 cf_5 (by decide) (kO hM) (ct_X4_weighed hF hM (E.2.2.1 rfl)) rfl hstk hrm hkn hd kz
  · exact z_callU (ci := 3) (C := RX3) (owner := RX4) (x := ⟨"WhyChosen$Model", "weighed", "(II)I"⟩) (av := [.int a1, .int a2]) hC lk_X4_78 in_X4_weighed cd_X4_weighed dn_X4_weighed (by omega) cu_X4_78_3 cf_3 (by decide) (kO hM) (ct_X4_weighed hF hM (E.2.2.2.1 rfl)) rfl hstk hrm hkn hd kz
  · exact z_callU (ci := 2) (C := RX2) (owner := RX4) (x := ⟨"WhyChosen$Model", "weighed", "(II)I"⟩) (av := [.int a1, .int a2]) hC lk_X4_78 in_X4_weighed cd_X4_weighed dn_X4_weighed (by omega) cu_X4_78_4 cf_2 (by decide) (kO hM) (ct_X4_weighed hF hM (E.2.2.2.2.1 rfl)) rfl hstk hrm hkn hd kz
  · exact z_callU (ci := 8) (C := RX8) (owner := RX4) (x := ⟨"WhyChosen$Model", "weighed", "(II)I"⟩) (av := [.int a1, .int a2]) hC lk_X4_78 in_X4_weighed cd_X4_weighed dn_X4_weighed (by omega) cu_X4_78_5 cf_8 (by decide) (kO hM) (ct_X4_weighed hF hM (E.2.2.2.2.2 rfl)) rfl hstk hrm hkn hd kz
end ZVV
def fX4_sumWeights (t : Nat) (kd : Nat) (a2 : Int32) (a3 : Int32) (D : Dy) (post : Int32 → Prop) : Prop :=
  (LP2 (fun (rec3 : Int32 → Int32 → Prop) (v1 : Int32) (v2 : Int32) => (((D.1 1 3) ≤ v2 → post v1) ∧ (¬ (D.1 1 3) ≤ v2 → (fX11_isIn v2 a2 (fun (v7 : Int32) => (JN (fun (v11 : Int32) => (∀ v14 : Int32, v14 = v2 + 1 → (rec3 v11 v14))) (fun K12 : Int32 → Prop => ((v7 = 0 → (K12 v1)) ∧ (¬ v7 = 0 → (v_weighed t kd v2 a3 D (fun (v17 : Int32) => (∀ v22 : Int32, v22 = (v1 + v17) → (K12 v22))))))))))))) FU (0 : Int32) (0 : Int32))
set_option maxHeartbeats 4000000 in
set_option maxRecDepth 100000 in
theorem ct_X4_sumWeights {l : Launch} {G : Gl} {S : Sh} {D : Dy} {mdl : Nat → Option (Nat × Nat)} (hF : FX S mdl) {t : Nat} {kd : Nat} (hM : FMo S t kd) (hkd : kd = 1 ∨ kd = 3 ∨ kd = 4) {a2 : Int32} {a3 : Int32} {post : Int32 → Prop} (E : fX4_sumWeights t kd a2 a3 D post) : Ct l G yX4_sumWeights cX4_sumWeights 6 (some .int) 1 0 0 S D [.ref (G.1 + (t + 9)), .ref (G.1 + 1), .int a2, .int a3] (PIr S D post) := by
  refine z_enter (lv0 := [(0, .ref (G.1 + (t + 9))), (1, .ref (G.1 + 1)), (2, .int a2), (3, .int a3)]) pl_4 (Nat.le_of_ble_eq_true rfl) rfl ?_
  intro p e s m args below meth c hC hnm
  unfold fX4_sumWeights at E
  have hT := hM.ft
  refine z_iconst (v := 0) hC dX4_sumWeights_0 rfl ?_
  refine z_istore (lv' := [(4, .int (0 : Int32)), (0, .ref (G.1 + (t + 9))), (1, .ref (G.1 + 1)), (2, .int a2), (3, .int a3)]) hC dX4_sumWeights_1 (Nat.le_of_ble_eq_true rfl) rfl ?_
  refine z_iconst (v := 0) hC dX4_sumWeights_3 rfl ?_
  refine z_istore (lv' := [(5, .int (0 : Int32)), (4, .int (0 : Int32)), (0, .ref (G.1 + (t + 9))), (1, .ref (G.1 + 1)), (2, .int a2), (3, .int a3)]) hC dX4_sumWeights_4 (Nat.le_of_ble_eq_true rfl) rfl ?_
  refine z_sub [2, 3, 4, 5, 1, 0] rfl ?_
  refine LP2_use (fun (v1 : Int32) (v2 : Int32) => ZM l G p e s m args below meth c 6 1 S (PIr S D post) S D 6 [(0, .ref (G.1 + (t + 9))), (1, .ref (G.1 + 1)), (2, .int a2), (3, .int a3), (4, .int v1), (5, .int v2)] []) ?_ FU (0 : Int32) (0 : Int32) E
  intro rec3 hrec4 v1 v2 E
  refine z_iload hC dX4_sumWeights_6 5 rfl ?_
  refine z_aload_n hC dX4_sumWeights_8 rfl 1 rfl ?_
  refine z_get hC lf_X4_71_1 (kX_1 hF) dX4_sumWeights_9 (fV_int rfl) ?_
  refine z_icmp_ge (tgt := 42) hC dX4_sumWeights_12 (by decide) (fun c5 => ?_) (fun c5 => ?_)
  · replace E := E.1 c5
    refine z_iload hC dX4_sumWeights_42 4 rfl ?_
    exact z_iret hC dX4_sumWeights_44 (Nat.le_refl _) (Nat.le_refl _) ⟨_, rfl, rfl, rfl, E⟩
  · replace E := E.2 c5
    refine z_iload hC dX4_sumWeights_15 5 rfl ?_
    refine z_iload_n hC dX4_sumWeights_17 rfl 2 rfl ?_
    refine z_callSN (rest := []) hC lk_X4_52 in_X11_isIn cd_X11_isIn ds_X11_isIn ⟨Nat.le_of_ble_eq_true rfl, Nat.le_of_ble_eq_true rfl⟩ st_X11_isIn (ct_X11_isIn hF E) rfl rfl (Nat.le_of_ble_eq_true rfl) ⟨Nat.le_refl _, Nat.le_refl _⟩ dX4_sumWeights_18 ?_
    rintro _ _ _ ⟨v7, rfl, rfl, rfl, E⟩
    obtain ⟨K12, hK13, EE⟩ := JN_use E (fun K12 : Int32 → Prop => ∀ (v11 : Int32), K12 v11 → ZM l G p e s m args below meth c 6 1 S (PIr S D post) S D 36 [(0, .ref (G.1 + (t + 9))), (1, .ref (G.1 + 1)), (2, .int a2), (3, .int a3), (4, .int v11), (5, .int v2)] []) (by
      intro v11 E
      obtain ⟨v14, h15⟩ : ∃ y : Int32, y = v2 + 1 := ⟨_, rfl⟩
      replace E := E v14 h15
      refine z_iinc (q := 5) (v := v14) (lv' := [(5, .int v14), (0, .ref (G.1 + (t + 9))), (1, .ref (G.1 + 1)), (2, .int a2), (3, .int a3), (4, .int v11)]) hC dX4_sumWeights_36 rfl (by rw [h15]; rfl) (Nat.le_of_ble_eq_true rfl) rfl ?_
      refine z_goto (tgt := 6) hC dX4_sumWeights_39 (by decide) ?_
      refine z_sub [1, 2, 3, 4, 5, 0] rfl ?_
      exact hrec4 v11 v14 E)
    replace E := EE
    clear EE
    refine z_if_eq (tgt := 36) hC dX4_sumWeights_21 (by decide) (fun c16 => ?_) (fun c16 => ?_)
    · replace E := E.1 c16
      exact hK13 v1 E
    · replace E := E.2 c16
      refine z_iload hC dX4_sumWeights_24 4 rfl ?_
      refine z_aload_n hC dX4_sumWeights_26 rfl 0 rfl ?_
      refine z_iload hC dX4_sumWeights_27 5 rfl ?_
      refine z_iload_n hC dX4_sumWeights_29 rfl 3 rfl ?_
      refine zv_X4_78 (rest := [.int v1]) hC hF hM (by have := hM.kd; omega) E rfl (Nat.le_of_ble_eq_true rfl) ⟨Nat.le_of_ble_eq_true rfl, Nat.le_of_ble_eq_true rfl⟩ ⟨Nat.le_refl _, Nat.le_refl _⟩ dX4_sumWeights_30 ?_
      rintro _ _ _ ⟨v17, rfl, rfl, rfl, E⟩
      refine z_iadd hC dX4_sumWeights_33 ?_
      refine z_topi (fun v22 h23 => ?_)
      replace E := E v22 h23
      refine z_istore (lv' := [(4, .int v22), (0, .ref (G.1 + (t + 9))), (1, .ref (G.1 + 1)), (2, .int a2), (3, .int a3), (5, .int v2)]) hC dX4_sumWeights_34 (Nat.le_of_ble_eq_true rfl) rfl ?_
      refine z_sub [1, 2, 3, 4, 0, 5] rfl ?_
      exact hK13 v22 E
def v_clearShares (t kd : Nat)  (D : Dy) (post : Dy → Prop) : Prop :=
  (kd = 0 → fX4_clearShares t 0 D post) ∧ (kd = 1 → fX4_clearShares t 1 D post) ∧ (kd = 2 → fX4_clearShares t 2 D post) ∧ (kd = 3 → fX4_clearShares t 3 D post) ∧ (kd = 4 → fX4_clearShares t 4 D post) ∧ (kd = 5 → fX4_clearShares t 5 D post)
theorem v_clearShares_0 {t : Nat}  {D : Dy} {post : Dy → Prop} (h : fX4_clearShares t 0 D post) : v_clearShares t 0 D post := ⟨fun _ => h, fun q => absurd q (by decide), fun q => absurd q (by decide), fun q => absurd q (by decide), fun q => absurd q (by decide), fun q => absurd q (by decide)⟩
theorem v_clearShares_1 {t : Nat}  {D : Dy} {post : Dy → Prop} (h : fX4_clearShares t 1 D post) : v_clearShares t 1 D post := ⟨fun q => absurd q (by decide), fun _ => h, fun q => absurd q (by decide), fun q => absurd q (by decide), fun q => absurd q (by decide), fun q => absurd q (by decide)⟩
theorem v_clearShares_2 {t : Nat}  {D : Dy} {post : Dy → Prop} (h : fX4_clearShares t 2 D post) : v_clearShares t 2 D post := ⟨fun q => absurd q (by decide), fun q => absurd q (by decide), fun _ => h, fun q => absurd q (by decide), fun q => absurd q (by decide), fun q => absurd q (by decide)⟩
theorem v_clearShares_3 {t : Nat}  {D : Dy} {post : Dy → Prop} (h : fX4_clearShares t 3 D post) : v_clearShares t 3 D post := ⟨fun q => absurd q (by decide), fun q => absurd q (by decide), fun q => absurd q (by decide), fun _ => h, fun q => absurd q (by decide), fun q => absurd q (by decide)⟩
theorem v_clearShares_4 {t : Nat}  {D : Dy} {post : Dy → Prop} (h : fX4_clearShares t 4 D post) : v_clearShares t 4 D post := ⟨fun q => absurd q (by decide), fun q => absurd q (by decide), fun q => absurd q (by decide), fun q => absurd q (by decide), fun _ => h, fun q => absurd q (by decide)⟩
theorem v_clearShares_5 {t : Nat}  {D : Dy} {post : Dy → Prop} (h : fX4_clearShares t 5 D post) : v_clearShares t 5 D post := ⟨fun q => absurd q (by decide), fun q => absurd q (by decide), fun q => absurd q (by decide), fun q => absurd q (by decide), fun q => absurd q (by decide), fun _ => h⟩
def v_sumWeights (t kd : Nat) (a2 : Int32) (a3 : Int32) (D : Dy) (post : Int32 → Prop) : Prop :=
  (kd = 0 → fX4_sumWeights t 0 a2 a3 D post) ∧ (kd = 1 → fX4_sumWeights t 1 a2 a3 D post) ∧ (kd = 2 → fX4_sumWeights t 2 a2 a3 D post) ∧ (kd = 3 → fX4_sumWeights t 3 a2 a3 D post) ∧ (kd = 4 → fX4_sumWeights t 4 a2 a3 D post) ∧ (kd = 5 → fX4_sumWeights t 5 a2 a3 D post)
theorem v_sumWeights_0 {t : Nat} {a2 : Int32} {a3 : Int32} {D : Dy} {post : Int32 → Prop} (h : fX4_sumWeights t 0 a2 a3 D post) : v_sumWeights t 0 a2 a3 D post := ⟨fun _ => h, fun q => absurd q (by decide), fun q => absurd q (by decide), fun q => absurd q (by decide), fun q => absurd q (by decide), fun q => absurd q (by decide)⟩
theorem v_sumWeights_1 {t : Nat} {a2 : Int32} {a3 : Int32} {D : Dy} {post : Int32 → Prop} (h : fX4_sumWeights t 1 a2 a3 D post) : v_sumWeights t 1 a2 a3 D post := ⟨fun q => absurd q (by decide), fun _ => h, fun q => absurd q (by decide), fun q => absurd q (by decide), fun q => absurd q (by decide), fun q => absurd q (by decide)⟩
theorem v_sumWeights_2 {t : Nat} {a2 : Int32} {a3 : Int32} {D : Dy} {post : Int32 → Prop} (h : fX4_sumWeights t 2 a2 a3 D post) : v_sumWeights t 2 a2 a3 D post := ⟨fun q => absurd q (by decide), fun q => absurd q (by decide), fun _ => h, fun q => absurd q (by decide), fun q => absurd q (by decide), fun q => absurd q (by decide)⟩
theorem v_sumWeights_3 {t : Nat} {a2 : Int32} {a3 : Int32} {D : Dy} {post : Int32 → Prop} (h : fX4_sumWeights t 3 a2 a3 D post) : v_sumWeights t 3 a2 a3 D post := ⟨fun q => absurd q (by decide), fun q => absurd q (by decide), fun q => absurd q (by decide), fun _ => h, fun q => absurd q (by decide), fun q => absurd q (by decide)⟩
theorem v_sumWeights_4 {t : Nat} {a2 : Int32} {a3 : Int32} {D : Dy} {post : Int32 → Prop} (h : fX4_sumWeights t 4 a2 a3 D post) : v_sumWeights t 4 a2 a3 D post := ⟨fun q => absurd q (by decide), fun q => absurd q (by decide), fun q => absurd q (by decide), fun q => absurd q (by decide), fun _ => h, fun q => absurd q (by decide)⟩
theorem v_sumWeights_5 {t : Nat} {a2 : Int32} {a3 : Int32} {D : Dy} {post : Int32 → Prop} (h : fX4_sumWeights t 5 a2 a3 D post) : v_sumWeights t 5 a2 a3 D post := ⟨fun q => absurd q (by decide), fun q => absurd q (by decide), fun q => absurd q (by decide), fun q => absurd q (by decide), fun q => absurd q (by decide), fun _ => h⟩
theorem cu_X7_9_1 : CU RX7 RX4 ⟨"WhyChosen$Plain", "clearShares", "()V"⟩ yX4_clearShares := ⟨tw_662, tw_667, iy_X4_clearShares, iy_X4_clearShares, ⟨_, _, _, cd_X4_clearShares⟩, by decide +kernel, by decide +kernel⟩
theorem cu_X7_9_3 : CU RX3 RX4 ⟨"WhyChosen$Plain", "clearShares", "()V"⟩ yX4_clearShares := ⟨tw_662, tw_665, iy_X4_clearShares, iy_X4_clearShares, ⟨_, _, _, cd_X4_clearShares⟩, by decide +kernel, by decide +kernel⟩
theorem cu_X7_9_4 : CU RX2 RX4 ⟨"WhyChosen$Plain", "clearShares", "()V"⟩ yX4_clearShares := ⟨tw_662, tw_664, iy_X4_clearShares, iy_X4_clearShares, ⟨_, _, _, cd_X4_clearShares⟩, by decide +kernel, by decide +kernel⟩
theorem lk_X7_9 : Cond.methodLink RX7 9 ⟨"WhyChosen$Plain", "clearShares", "()V"⟩ ∈ TB := tw_661
section ZVV
variable {p : Program} {l : Launch} {e : Env} {R : Room} {s : State} {m : MethodId} {args : Array Value} {below : List Frame} {meth : Method} {c : Code} {nL : Nat} {k n : Nat} {Q : State → Prop} {pc : Nat} {lv : List (Nat × Value)} {st : List Value}
variable {G : Gl} {cc : ByteArray} {own : String} {ret : Option FieldType} {A : Nat → Prop} {S S' S0 : Sh} {D D' : Dy} {a N : Nat} {Wp : Heap → List Loc → Prop}

set_option maxRecDepth 100000 in
theorem zv_X7_9 (hC : CX G cc RX7 nL ret p s m args meth c) {mdl : Nat → Option (Nat × Nat)} (hF : FX S mdl) {t kd : Nat} (hM : FMo S t kd) (hk : kd = 1 ∨ kd = 3 ∨ kd = 4)  {post : Dy → Prop} (E : v_clearShares t kd D post) {rest : List Value} (hstk : st = List.reverse [] ++ .ref (G.1 + (t + 9)) :: rest) (hrm : (rest.map fun v => v.category).sum ≤ 8) (hR : 0 + 1 ≤ R.frames ∧ 8 + (2 + 11) + 60 * 0 ≤ R.locals) (hkn : k + 0 ≤ R.cells ∧ n + 0 ≤ R.slots) (hd : decode cc pc = .ok (.invokevirtual 9, 3)) (kz : ∀ v S1 D1, (PV S post) v S1 D1 → Z p l e R s m args below meth c nL (WM G s A S1 D1) (k + 0) (n + 0) Q (pc + 3) lv (v.toList ++ rest)) : Z p l e R s m args below meth c nL (WM G s A S D) k n Q pc lv st := by
  obtain rfl | rfl | rfl := hk
  · exact z_callU (ci := 7) (C := RX7) (owner := RX4) (x := ⟨"WhyChosen$Plain", "clearShares", "()V"⟩) (av := []) hC lk_X7_9 in_X4_clearShares cd_X4_clearShares dn_X4_clearShares (by omega) cu_X7_9_1 cf_7 (by decide) (kO hM) (ct_X4_clearShares hF hM (E.2.1 rfl)) rfl hstk hrm hkn hd kz
  · exact z_callU (ci := 3) (C := RX3) (owner := RX4) (x := ⟨"WhyChosen$Plain", "clearShares", "()V"⟩) (av := []) hC lk_X7_9 in_X4_clearShares cd_X4_clearShares dn_X4_clearShares (by omega) cu_X7_9_3 cf_3 (by decide) (kO hM) (ct_X4_clearShares hF hM (E.2.2.2.1 rfl)) rfl hstk hrm hkn hd kz
  · exact z_callU (ci := 2) (C := RX2) (owner := RX4) (x := ⟨"WhyChosen$Plain", "clearShares", "()V"⟩) (av := []) hC lk_X7_9 in_X4_clearShares cd_X4_clearShares dn_X4_clearShares (by omega) cu_X7_9_4 cf_2 (by decide) (kO hM) (ct_X4_clearShares hF hM (E.2.2.2.2.1 rfl)) rfl hstk hrm hkn hd kz
end ZVV
theorem cu_X7_15_1 : CU RX7 RX4 ⟨"WhyChosen$Plain", "weighed", "(II)I"⟩ yX4_weighed := ⟨tw_671, tw_676, iy_X4_weighed, iy_X4_weighed, ⟨_, _, _, cd_X4_weighed⟩, by decide +kernel, by decide +kernel⟩
theorem cu_X7_15_3 : CU RX3 RX4 ⟨"WhyChosen$Plain", "weighed", "(II)I"⟩ yX4_weighed := ⟨tw_671, tw_674, iy_X4_weighed, iy_X4_weighed, ⟨_, _, _, cd_X4_weighed⟩, by decide +kernel, by decide +kernel⟩
theorem cu_X7_15_4 : CU RX2 RX4 ⟨"WhyChosen$Plain", "weighed", "(II)I"⟩ yX4_weighed := ⟨tw_671, tw_673, iy_X4_weighed, iy_X4_weighed, ⟨_, _, _, cd_X4_weighed⟩, by decide +kernel, by decide +kernel⟩
theorem lk_X7_15 : Cond.methodLink RX7 15 ⟨"WhyChosen$Plain", "weighed", "(II)I"⟩ ∈ TB := tw_670
section ZVV
variable {p : Program} {l : Launch} {e : Env} {R : Room} {s : State} {m : MethodId} {args : Array Value} {below : List Frame} {meth : Method} {c : Code} {nL : Nat} {k n : Nat} {Q : State → Prop} {pc : Nat} {lv : List (Nat × Value)} {st : List Value}
variable {G : Gl} {cc : ByteArray} {own : String} {ret : Option FieldType} {A : Nat → Prop} {S S' S0 : Sh} {D D' : Dy} {a N : Nat} {Wp : Heap → List Loc → Prop}

set_option maxRecDepth 100000 in
theorem zv_X7_15 (hC : CX G cc RX7 nL ret p s m args meth c) {mdl : Nat → Option (Nat × Nat)} (hF : FX S mdl) {t kd : Nat} (hM : FMo S t kd) (hk : kd = 1 ∨ kd = 3 ∨ kd = 4) {a1 : Int32} {a2 : Int32} {post : Int32 → Prop} (E : v_weighed t kd a1 a2 D post) {rest : List Value} (hstk : st = List.reverse [.int a1, .int a2] ++ .ref (G.1 + (t + 9)) :: rest) (hrm : (rest.map fun v => v.category).sum ≤ 8) (hR : 0 + 1 ≤ R.frames ∧ 8 + (3 + 11) + 60 * 0 ≤ R.locals) (hkn : k + 0 ≤ R.cells ∧ n + 0 ≤ R.slots) (hd : decode cc pc = .ok (.invokevirtual 15, 3)) (kz : ∀ v S1 D1, (PIr S D post) v S1 D1 → Z p l e R s m args below meth c nL (WM G s A S1 D1) (k + 0) (n + 0) Q (pc + 3) lv (v.toList ++ rest)) : Z p l e R s m args below meth c nL (WM G s A S D) k n Q pc lv st := by
  obtain rfl | rfl | rfl := hk
  · exact z_callU (ci := 7) (C := RX7) (owner := RX4) (x := ⟨"WhyChosen$Plain", "weighed", "(II)I"⟩) (av := [.int a1, .int a2]) hC lk_X7_15 in_X4_weighed cd_X4_weighed dn_X4_weighed (by omega) cu_X7_15_1 cf_7 (by decide) (kO hM) (ct_X4_weighed hF hM (E.2.1 rfl)) rfl hstk hrm hkn hd kz
  · exact z_callU (ci := 3) (C := RX3) (owner := RX4) (x := ⟨"WhyChosen$Plain", "weighed", "(II)I"⟩) (av := [.int a1, .int a2]) hC lk_X7_15 in_X4_weighed cd_X4_weighed dn_X4_weighed (by omega) cu_X7_15_3 cf_3 (by decide) (kO hM) (ct_X4_weighed hF hM (E.2.2.2.1 rfl)) rfl hstk hrm hkn hd kz
  · exact z_callU (ci := 2) (C := RX2) (owner := RX4) (x := ⟨"WhyChosen$Plain", "weighed", "(II)I"⟩) (av := [.int a1, .int a2]) hC lk_X7_15 in_X4_weighed cd_X4_weighed dn_X4_weighed (by omega) cu_X7_15_4 cf_2 (by decide) (kO hM) (ct_X4_weighed hF hM (E.2.2.2.2.1 rfl)) rfl hstk hrm hkn hd kz
end ZVV
theorem cu_X7_19_1 : CU RX7 RX4 ⟨"WhyChosen$Plain", "sumWeights", "(LWhyChosen$Goods;II)I"⟩ yX4_sumWeights := ⟨tw_680, tw_685, iy_X4_sumWeights, iy_X4_sumWeights, ⟨_, _, _, cd_X4_sumWeights⟩, by decide +kernel, by decide +kernel⟩
theorem cu_X7_19_3 : CU RX3 RX4 ⟨"WhyChosen$Plain", "sumWeights", "(LWhyChosen$Goods;II)I"⟩ yX4_sumWeights := ⟨tw_680, tw_683, iy_X4_sumWeights, iy_X4_sumWeights, ⟨_, _, _, cd_X4_sumWeights⟩, by decide +kernel, by decide +kernel⟩
theorem cu_X7_19_4 : CU RX2 RX4 ⟨"WhyChosen$Plain", "sumWeights", "(LWhyChosen$Goods;II)I"⟩ yX4_sumWeights := ⟨tw_680, tw_682, iy_X4_sumWeights, iy_X4_sumWeights, ⟨_, _, _, cd_X4_sumWeights⟩, by decide +kernel, by decide +kernel⟩
theorem lk_X7_19 : Cond.methodLink RX7 19 ⟨"WhyChosen$Plain", "sumWeights", "(LWhyChosen$Goods;II)I"⟩ ∈ TB := tw_679
section ZVV
variable {p : Program} {l : Launch} {e : Env} {R : Room} {s : State} {m : MethodId} {args : Array Value} {below : List Frame} {meth : Method} {c : Code} {nL : Nat} {k n : Nat} {Q : State → Prop} {pc : Nat} {lv : List (Nat × Value)} {st : List Value}
variable {G : Gl} {cc : ByteArray} {own : String} {ret : Option FieldType} {A : Nat → Prop} {S S' S0 : Sh} {D D' : Dy} {a N : Nat} {Wp : Heap → List Loc → Prop}

set_option maxRecDepth 100000 in
theorem zv_X7_19 (hC : CX G cc RX7 nL ret p s m args meth c) {mdl : Nat → Option (Nat × Nat)} (hF : FX S mdl) {t kd : Nat} (hM : FMo S t kd) (hk : kd = 1 ∨ kd = 3 ∨ kd = 4) {a2 : Int32} {a3 : Int32} {post : Int32 → Prop} (E : v_sumWeights t kd a2 a3 D post) {rest : List Value} (hstk : st = List.reverse [.ref (G.1 + 1), .int a2, .int a3] ++ .ref (G.1 + (t + 9)) :: rest) (hrm : (rest.map fun v => v.category).sum ≤ 8) (hR : 1 + 1 ≤ R.frames ∧ 8 + (6 + 11) + 60 * 1 ≤ R.locals) (hkn : k + 0 ≤ R.cells ∧ n + 0 ≤ R.slots) (hd : decode cc pc = .ok (.invokevirtual 19, 3)) (kz : ∀ v S1 D1, (PIr S D post) v S1 D1 → Z p l e R s m args below meth c nL (WM G s A S1 D1) (k + 0) (n + 0) Q (pc + 3) lv (v.toList ++ rest)) : Z p l e R s m args below meth c nL (WM G s A S D) k n Q pc lv st := by
  obtain rfl | rfl | rfl := hk
  · exact z_callU (ci := 7) (C := RX7) (owner := RX4) (x := ⟨"WhyChosen$Plain", "sumWeights", "(LWhyChosen$Goods;II)I"⟩) (av := [.ref (G.1 + 1), .int a2, .int a3]) hC lk_X7_19 in_X4_sumWeights cd_X4_sumWeights dn_X4_sumWeights (by omega) cu_X7_19_1 cf_7 (by decide) (kO hM) (ct_X4_sumWeights hF hM (by decide) (E.2.1 rfl)) rfl hstk hrm hkn hd kz
  · exact z_callU (ci := 3) (C := RX3) (owner := RX4) (x := ⟨"WhyChosen$Plain", "sumWeights", "(LWhyChosen$Goods;II)I"⟩) (av := [.ref (G.1 + 1), .int a2, .int a3]) hC lk_X7_19 in_X4_sumWeights cd_X4_sumWeights dn_X4_sumWeights (by omega) cu_X7_19_3 cf_3 (by decide) (kO hM) (ct_X4_sumWeights hF hM (by decide) (E.2.2.2.1 rfl)) rfl hstk hrm hkn hd kz
  · exact z_callU (ci := 2) (C := RX2) (owner := RX4) (x := ⟨"WhyChosen$Plain", "sumWeights", "(LWhyChosen$Goods;II)I"⟩) (av := [.ref (G.1 + 1), .int a2, .int a3]) hC lk_X7_19 in_X4_sumWeights cd_X4_sumWeights dn_X4_sumWeights (by omega) cu_X7_19_4 cf_2 (by decide) (kO hM) (ct_X4_sumWeights hF hM (by decide) (E.2.2.2.2.1 rfl)) rfl hstk hrm hkn hd kz
end ZVV
def fX7_share (t : Nat) (kd : Nat) (a2 : Int32) (a3 : Int32) (D : Dy) (post : Dy → Prop) : Prop :=
  (v_clearShares t kd D (fun (D6 : Dy) => (v_weighed t kd (7 : Int32) a3 D6 (fun (v7 : Int32) => (v_sumWeights t kd a2 a3 D6 (fun (v12 : Int32) => (∀ v17 : Int32, v17 = (v12 + v7) → (LP2 (fun (rec21 : Int32 → Dy → Prop) (v19 : Int32) (D20 : Dy) => (((D20.1 1 3) ≤ v19 → (vp_in (7 : Int32) 8 ∧ (∀ D24 : Dy, D24 = sL D20 (t + 11) ((7 : Int32)).toNatClampNeg (v7).toInt64 → (vp_in (7 : Int32) 8 ∧ (∀ D26 : Dy, D26 = sL D24 (t + 12) ((7 : Int32)).toNatClampNeg (v17).toInt64 → post D26))))) ∧ (¬ (D20.1 1 3) ≤ v19 → (fX11_isIn v19 a2 (fun (v29 : Int32) => (JN (fun (D33 : Dy) => (∀ v36 : Int32, v36 = v19 + 1 → (rec21 v36 D33))) (fun K34 : Dy → Prop => ((v29 = 0 → (K34 D20)) ∧ (¬ v29 = 0 → (v_weighed t kd v19 a3 D20 (fun (v39 : Int32) => (vp_in v19 8 ∧ (∀ D44 : Dy, D44 = sL D20 (t + 11) (v19).toNatClampNeg (v39).toInt64 → (vp_in v19 8 ∧ (∀ D46 : Dy, D46 = sL D44 (t + 12) (v19).toNatClampNeg (v17).toInt64 → (K34 D46)))))))))))))))) FU (0 : Int32) D6))))))))
set_option maxHeartbeats 4000000 in
set_option maxRecDepth 100000 in
theorem ct_X7_share {l : Launch} {G : Gl} {S : Sh} {D : Dy} {mdl : Nat → Option (Nat × Nat)} (hF : FX S mdl) {t : Nat} {kd : Nat} (hM : FMo S t kd) (hkd : kd = 1 ∨ kd = 3 ∨ kd = 4) {a2 : Int32} {a3 : Int32} {post : Dy → Prop} (E : fX7_share t kd a2 a3 D post) : Ct l G yX7_share cX7_share 7 none 2 0 0 S D [.ref (G.1 + (t + 9)), .ref (G.1 + 1), .int a2, .int a3] (PV S post) := by
  refine z_enter (lv0 := [(0, .ref (G.1 + (t + 9))), (1, .ref (G.1 + 1)), (2, .int a2), (3, .int a3)]) pl_7 (Nat.le_of_ble_eq_true rfl) rfl ?_
  intro p e s m args below meth c hC hnm
  unfold fX7_share at E
  have hT := hM.ft
  refine z_aload_n hC dX7_share_0 rfl 0 rfl ?_
  refine zv_X7_9 (rest := []) hC hF hM (by have := hM.kd; omega) E rfl (Nat.le_of_ble_eq_true rfl) ⟨Nat.le_of_ble_eq_true rfl, Nat.le_of_ble_eq_true rfl⟩ ⟨Nat.le_refl _, Nat.le_refl _⟩ dX7_share_1 ?_
  rintro _ _ D6 ⟨rfl, rfl, E⟩
  refine z_aload_n hC dX7_share_4 rfl 0 rfl ?_
  refine z_bipush (v := 7) hC dX7_share_5 rfl ?_
  refine z_iload_n hC dX7_share_7 rfl 3 rfl ?_
  refine zv_X7_15 (rest := []) hC hF hM (by have := hM.kd; omega) E rfl (Nat.le_of_ble_eq_true rfl) ⟨Nat.le_of_ble_eq_true rfl, Nat.le_of_ble_eq_true rfl⟩ ⟨Nat.le_refl _, Nat.le_refl _⟩ dX7_share_8 ?_
  rintro _ _ _ ⟨v7, rfl, rfl, rfl, E⟩
  refine z_istore (lv' := [(4, .int v7), (0, .ref (G.1 + (t + 9))), (1, .ref (G.1 + 1)), (2, .int a2), (3, .int a3)]) hC dX7_share_11 (Nat.le_of_ble_eq_true rfl) rfl ?_
  refine z_aload_n hC dX7_share_13 rfl 1 rfl ?_
  refine z_aload_n hC dX7_share_14 rfl 2 rfl ?_
  refine z_iload_n hC dX7_share_15 rfl 3 rfl ?_
  refine z_iload_n hC dX7_share_16 rfl 4 rfl ?_
  refine zv_X7_19 (rest := []) hC hF hM (by have := hM.kd; omega) E rfl (Nat.le_of_ble_eq_true rfl) ⟨Nat.le_of_ble_eq_true rfl, Nat.le_of_ble_eq_true rfl⟩ ⟨Nat.le_refl _, Nat.le_refl _⟩ dX7_share_17 ?_
  rintro _ _ _ ⟨v12, rfl, rfl, rfl, E⟩
  refine z_iload hC dX7_share_20 0 rfl ?_
  refine z_iadd hC dX7_share_22 ?_
  refine z_topi (fun v17 h18 => ?_)
  replace E := E v17 h18
  refine z_istore (lv' := [(5, .int v17), (4, .int v7), (0, .ref (G.1 + (t + 9))), (1, .ref (G.1 + 1)), (2, .int a2), (3, .int a3)]) hC dX7_share_23 (Nat.le_of_ble_eq_true rfl) rfl ?_
  refine z_iconst (v := 0) hC dX7_share_25 rfl ?_
  refine z_istore (lv' := [(6, .int (0 : Int32)), (5, .int v17), (4, .int v7), (0, .ref (G.1 + (t + 9))), (1, .ref (G.1 + 1)), (2, .int a2), (3, .int a3)]) hC dX7_share_26 (Nat.le_of_ble_eq_true rfl) rfl ?_
  refine z_sub [3, 4, 5, 6, 2, 1, 0] rfl ?_
  refine LP2_use (fun (v19 : Int32) (D20 : Dy) => ZM l G p e s m args below meth c 7 2 S (PV S post) S D20 28 [(0, .ref (G.1 + (t + 9))), (1, .ref (G.1 + 1)), (2, .int a2), (3, .int a3), (4, .int v7), (5, .int v17), (6, .int v19)] []) ?_ FU (0 : Int32) D6 E
  intro rec21 hrec22 v19 D20 E
  refine z_iload hC dX7_share_28 6 rfl ?_
  refine z_aload_n hC dX7_share_30 rfl 1 rfl ?_
  refine z_get hC lf_X7_23_1 (kX_1 hF) dX7_share_31 (fV_int rfl) ?_
  refine z_icmp_ge (tgt := 77) hC dX7_share_34 (by decide) (fun c23 => ?_) (fun c23 => ?_)
  · replace E := E.1 c23
    refine z_aload_n hC dX7_share_77 rfl 0 rfl ?_
    refine z_get hC (lfm_X7_33 hM.kd) (kO hM) dX7_share_78 (fVm_4 hM) ?_
    refine z_bipush (v := 7) hC dX7_share_81 rfl ?_
    refine z_iload hC dX7_share_83 4 rfl ?_
    refine z_i2l hC dX7_share_85 ?_
    refine z_last hC (kO_11 hM) (nO_11 hM) E.1 dX7_share_86 ?_
    replace E := E.2
    refine z_topD (fun D24 h25 => ?_)
    replace E := E D24 h25
    refine z_aload_n hC dX7_share_87 rfl 0 rfl ?_
    refine z_get hC (lfm_X7_37 hM.kd) (kO hM) dX7_share_88 (fVm_5 hM) ?_
    refine z_bipush (v := 7) hC dX7_share_91 rfl ?_
    refine z_iload hC dX7_share_93 5 rfl ?_
    refine z_i2l hC dX7_share_95 ?_
    refine z_last hC (kO_12 hM) (nO_12 hM) E.1 dX7_share_96 ?_
    replace E := E.2
    refine z_topD (fun D26 h27 => ?_)
    replace E := E D26 h27
    exact z_vret hC dX7_share_97 (Nat.le_refl _) (Nat.le_refl _) ⟨rfl, rfl, E⟩
  · replace E := E.2 c23
    refine z_iload hC dX7_share_37 6 rfl ?_
    refine z_iload_n hC dX7_share_39 rfl 2 rfl ?_
    refine z_callSN (rest := []) hC lk_X7_29 in_X11_isIn cd_X11_isIn ds_X11_isIn ⟨Nat.le_of_ble_eq_true rfl, Nat.le_of_ble_eq_true rfl⟩ st_X11_isIn (ct_X11_isIn hF E) rfl rfl (Nat.le_of_ble_eq_true rfl) ⟨Nat.le_refl _, Nat.le_refl _⟩ dX7_share_40 ?_
    rintro _ _ _ ⟨v29, rfl, rfl, rfl, E⟩
    obtain ⟨K34, hK35, EE⟩ := JN_use E (fun K34 : Dy → Prop => ∀ (D33 : Dy), K34 D33 → ZM l G p e s m args below meth c 7 2 S (PV S post) S D33 71 [(0, .ref (G.1 + (t + 9))), (1, .ref (G.1 + 1)), (2, .int a2), (3, .int a3), (4, .int v7), (5, .int v17), (6, .int v19)] []) (by
      intro D33 E
      obtain ⟨v36, h37⟩ : ∃ y : Int32, y = v19 + 1 := ⟨_, rfl⟩
      replace E := E v36 h37
      refine z_iinc (q := 6) (v := v36) (lv' := [(6, .int v36), (0, .ref (G.1 + (t + 9))), (1, .ref (G.1 + 1)), (2, .int a2), (3, .int a3), (4, .int v7), (5, .int v17)]) hC dX7_share_71 rfl (by rw [h37]; rfl) (Nat.le_of_ble_eq_true rfl) rfl ?_
      refine z_goto (tgt := 28) hC dX7_share_74 (by decide) ?_
      refine z_sub [1, 2, 3, 4, 5, 6, 0] rfl ?_
      exact hrec22 v36 D33 E)
    replace E := EE
    clear EE
    refine z_if_eq (tgt := 71) hC dX7_share_43 (by decide) (fun c38 => ?_) (fun c38 => ?_)
    · replace E := E.1 c38
      exact hK35 D20 E
    · replace E := E.2 c38
      refine z_aload_n hC dX7_share_46 rfl 0 rfl ?_
      refine z_get hC (lfm_X7_33 hM.kd) (kO hM) dX7_share_47 (fVm_4 hM) ?_
      refine z_iload hC dX7_share_50 6 rfl ?_
      refine z_aload_n hC dX7_share_52 rfl 0 rfl ?_
      refine z_iload hC dX7_share_53 6 rfl ?_
      refine z_iload_n hC dX7_share_55 rfl 3 rfl ?_
      refine zv_X7_15 (rest := [.int v19, .ref (G.1 + (t + 11))]) hC hF hM (by have := hM.kd; omega) E rfl (Nat.le_of_ble_eq_true rfl) ⟨Nat.le_of_ble_eq_true rfl, Nat.le_of_ble_eq_true rfl⟩ ⟨Nat.le_refl _, Nat.le_refl _⟩ dX7_share_56 ?_
      rintro _ _ _ ⟨v39, rfl, rfl, rfl, E⟩
      refine z_i2l hC dX7_share_59 ?_
      refine z_last hC (kO_11 hM) (nO_11 hM) E.1 dX7_share_60 ?_
      replace E := E.2
      refine z_topD (fun D44 h45 => ?_)
      replace E := E D44 h45
      refine z_aload_n hC dX7_share_61 rfl 0 rfl ?_
      refine z_get hC (lfm_X7_37 hM.kd) (kO hM) dX7_share_62 (fVm_5 hM) ?_
      refine z_iload hC dX7_share_65 6 rfl ?_
      refine z_iload hC dX7_share_67 5 rfl ?_
      refine z_i2l hC dX7_share_69 ?_
      refine z_last hC (kO_12 hM) (nO_12 hM) E.1 dX7_share_70 ?_
      replace E := E.2
      refine z_topD (fun D46 h47 => ?_)
      replace E := E D46 h47
      exact hK35 D46 E
def fX2_share (t : Nat) (a2 : Int32) (a3 : Int32) (D : Dy) (post : Dy → Prop) : Prop :=
  (fX2_seenOf t a2 D (fun (v1 : Int32) => (fX7_share t 4 v1 a3 D (fun (D11 : Dy) => post D11))))
set_option maxHeartbeats 4000000 in
set_option maxRecDepth 100000 in
theorem ct_X2_share {l : Launch} {G : Gl} {S : Sh} {D : Dy} {mdl : Nat → Option (Nat × Nat)} (hF : FX S mdl) {t : Nat} (hM : FMo S t 4) {a2 : Int32} {a3 : Int32} {post : Dy → Prop} (E : fX2_share t a2 a3 D post) : Ct l G yX2_share cX2_share 4 none 3 0 0 S D [.ref (G.1 + (t + 9)), .ref (G.1 + 1), .int a2, .int a3] (PV S post) := by
  refine z_enter (lv0 := [(0, .ref (G.1 + (t + 9))), (1, .ref (G.1 + 1)), (2, .int a2), (3, .int a3)]) pl_2 (Nat.le_of_ble_eq_true rfl) rfl ?_
  intro p e s m args below meth c hC hnm
  unfold fX2_share at E
  have hT := hM.ft
  refine z_aload_n hC dX2_share_0 rfl 0 rfl ?_
  refine z_aload_n hC dX2_share_1 rfl 1 rfl ?_
  refine z_aload_n hC dX2_share_2 rfl 0 rfl ?_
  refine z_aload_n hC dX2_share_3 rfl 1 rfl ?_
  refine z_iload_n hC dX2_share_4 rfl 2 rfl ?_
  refine z_callV (ci := 2) (rest := [.ref (G.1 + 1), .ref (G.1 + (t + 9))]) hC (ck_mk lk_X2_7 in_X2_seenOf cd_X2_seenOf ds_X2_seenOf (Nat.le_of_ble_eq_true rfl) (Nat.le_of_ble_eq_true rfl)) iy_X2_seenOf sy_X2_seenOf cf_2 (by decide) (kO hM) (ct_X2_seenOf hF hM E) rfl rfl (Nat.le_of_ble_eq_true rfl) ⟨Nat.le_refl _, Nat.le_refl _⟩ dX2_share_5 ?_
  rintro _ _ _ ⟨v1, rfl, rfl, rfl, E⟩
  refine z_iload_n hC dX2_share_8 rfl 3 rfl ?_
  obtain ⟨C, T, hci, hc13⟩ := cfm hM.kd
  refine z_callSU (rest := []) hC lk_X2_13 sms_X7_share sup_X2_X7_share iy_X7_share in_X7_share cd_X7_share (by decide) dn_X7_share ⟨Nat.le_of_ble_eq_true rfl, Nat.le_of_ble_eq_true rfl⟩ hci hc13 (kO hM) (ct_X7_share hF hM (by decide) E) rfl rfl (Nat.le_of_ble_eq_true rfl) ⟨Nat.le_refl _, Nat.le_refl _⟩ dX2_share_9 ?_
  rintro _ _ D11 ⟨rfl, rfl, E⟩
  exact z_vret hC dX2_share_12 (Nat.le_refl _) (Nat.le_refl _) ⟨rfl, rfl, E⟩
def fX3_oddsBody (t : Nat) (a1 : Int32) (D : Dy) (post : Int32 → Dy → Prop) : Prop :=
  (fX10_note (40 : Int32) D (fun (D6 : Dy) => (fX7_oddsBody t 3 a1 D6 (fun (v7 : Int32) (D12 : Dy) => post (-v7) D12))))
set_option maxHeartbeats 4000000 in
set_option maxRecDepth 100000 in
theorem ct_X3_oddsBody {l : Launch} {G : Gl} {S : Sh} {D : Dy} {mdl : Nat → Option (Nat × Nat)} (hF : FX S mdl) {t : Nat} (hM : FMo S t 3) {a1 : Int32} {post : Int32 → Dy → Prop} (E : fX3_oddsBody t a1 D post) : Ct l G yX3_oddsBody cX3_oddsBody 3 (some .int) 5 0 0 S D [.ref (G.1 + (t + 9)), .int a1, .ref (G.1 + 22)] (PI S post) := by
  refine z_enter (lv0 := [(0, .ref (G.1 + (t + 9))), (1, .int a1), (2, .ref (G.1 + 22))]) pl_3 (Nat.le_of_ble_eq_true rfl) rfl ?_
  intro p e s m args below meth c hC hnm
  unfold fX3_oddsBody at E
  have hT := hM.ft
  refine z_aload_n hC dX3_oddsBody_0 rfl 2 rfl ?_
  refine z_bipush (v := 40) hC dX3_oddsBody_1 rfl ?_
  refine z_callV (ci := 10) (rest := []) hC (ck_mk lk_X3_48 in_X10_note cd_X10_note ds_X10_note (Nat.le_of_ble_eq_true rfl) (Nat.le_of_ble_eq_true rfl)) iy_X10_note sy_X10_note cf_10 (by decide) (kX_22 hF) (ct_X10_note hF E) rfl rfl (Nat.le_of_ble_eq_true rfl) ⟨Nat.le_refl _, Nat.le_refl _⟩ dX3_oddsBody_3 ?_
  rintro _ _ D6 ⟨rfl, rfl, E⟩
  refine z_aload_n hC dX3_oddsBody_6 rfl 0 rfl ?_
  refine z_iload_n hC dX3_oddsBody_7 rfl 1 rfl ?_
  refine z_aload_n hC dX3_oddsBody_8 rfl 2 rfl ?_
  obtain ⟨C, T, hci, hc13⟩ := cfm hM.kd
  refine z_callSU (rest := []) hC lk_X3_54 sms_X7_oddsBody sup_X3_X7_oddsBody iy_X7_oddsBody in_X7_oddsBody cd_X7_oddsBody (by decide) dn_X7_oddsBody ⟨Nat.le_of_ble_eq_true rfl, Nat.le_of_ble_eq_true rfl⟩ hci hc13 (kO hM) (ct_X7_oddsBody hF hM (by decide) E) rfl rfl (Nat.le_of_ble_eq_true rfl) ⟨Nat.le_refl _, Nat.le_refl _⟩ dX3_oddsBody_9 ?_
  rintro _ _ D12 ⟨v7, rfl, rfl, E⟩
  refine z_ineg hC dX3_oddsBody_12 ?_
  exact z_iret hC dX3_oddsBody_13 (Nat.le_refl _) (Nat.le_refl _) ⟨_, rfl, rfl, E⟩
def v_oddsBody (t kd : Nat) (a1 : Int32) (D : Dy) (post : Int32 → Dy → Prop) : Prop :=
  (kd = 0 → fX4_oddsBody t 0 a1 D post) ∧ (kd = 1 → fX7_oddsBody t 1 a1 D post) ∧ (kd = 2 → fX7_oddsBody t 2 a1 D post) ∧ (kd = 3 → fX3_oddsBody t a1 D post) ∧ (kd = 4 → fX2_oddsBody t a1 D post) ∧ (kd = 5 → fX4_oddsBody t 5 a1 D post)
theorem v_oddsBody_0 {t : Nat} {a1 : Int32} {D : Dy} {post : Int32 → Dy → Prop} (h : fX4_oddsBody t 0 a1 D post) : v_oddsBody t 0 a1 D post := ⟨fun _ => h, fun q => absurd q (by decide), fun q => absurd q (by decide), fun q => absurd q (by decide), fun q => absurd q (by decide), fun q => absurd q (by decide)⟩
theorem v_oddsBody_1 {t : Nat} {a1 : Int32} {D : Dy} {post : Int32 → Dy → Prop} (h : fX7_oddsBody t 1 a1 D post) : v_oddsBody t 1 a1 D post := ⟨fun q => absurd q (by decide), fun _ => h, fun q => absurd q (by decide), fun q => absurd q (by decide), fun q => absurd q (by decide), fun q => absurd q (by decide)⟩
theorem v_oddsBody_2 {t : Nat} {a1 : Int32} {D : Dy} {post : Int32 → Dy → Prop} (h : fX7_oddsBody t 2 a1 D post) : v_oddsBody t 2 a1 D post := ⟨fun q => absurd q (by decide), fun q => absurd q (by decide), fun _ => h, fun q => absurd q (by decide), fun q => absurd q (by decide), fun q => absurd q (by decide)⟩
theorem v_oddsBody_3 {t : Nat} {a1 : Int32} {D : Dy} {post : Int32 → Dy → Prop} (h : fX3_oddsBody t a1 D post) : v_oddsBody t 3 a1 D post := ⟨fun q => absurd q (by decide), fun q => absurd q (by decide), fun q => absurd q (by decide), fun _ => h, fun q => absurd q (by decide), fun q => absurd q (by decide)⟩
theorem v_oddsBody_4 {t : Nat} {a1 : Int32} {D : Dy} {post : Int32 → Dy → Prop} (h : fX2_oddsBody t a1 D post) : v_oddsBody t 4 a1 D post := ⟨fun q => absurd q (by decide), fun q => absurd q (by decide), fun q => absurd q (by decide), fun q => absurd q (by decide), fun _ => h, fun q => absurd q (by decide)⟩
theorem v_oddsBody_5 {t : Nat} {a1 : Int32} {D : Dy} {post : Int32 → Dy → Prop} (h : fX4_oddsBody t 5 a1 D post) : v_oddsBody t 5 a1 D post := ⟨fun q => absurd q (by decide), fun q => absurd q (by decide), fun q => absurd q (by decide), fun q => absurd q (by decide), fun q => absurd q (by decide), fun _ => h⟩
theorem cu_X4_105_0 : CU RX4 RX4 ⟨"WhyChosen$Model", "oddsBody", "(ILWhyChosen$Trace;)I"⟩ yX4_oddsBody := ⟨tw_975, tw_974, iy_X4_oddsBody, iy_X4_oddsBody, ⟨_, _, _, cd_X4_oddsBody⟩, by decide +kernel, by decide +kernel⟩
theorem cu_X4_105_1 : CU RX7 RX4 ⟨"WhyChosen$Model", "oddsBody", "(ILWhyChosen$Trace;)I"⟩ yX7_oddsBody := ⟨tw_975, tw_992, iy_X7_oddsBody, iy_X4_oddsBody, ⟨_, _, _, cd_X4_oddsBody⟩, by decide +kernel, by decide +kernel⟩
theorem cu_X4_105_2 : CU RX5 RX4 ⟨"WhyChosen$Model", "oddsBody", "(ILWhyChosen$Trace;)I"⟩ yX7_oddsBody := ⟨tw_975, tw_991, iy_X7_oddsBody, iy_X4_oddsBody, ⟨_, _, _, cd_X4_oddsBody⟩, by decide +kernel, by decide +kernel⟩
theorem cu_X4_105_3 : CU RX3 RX4 ⟨"WhyChosen$Model", "oddsBody", "(ILWhyChosen$Trace;)I"⟩ yX3_oddsBody := ⟨tw_975, tw_986, iy_X3_oddsBody, iy_X4_oddsBody, ⟨_, _, _, cd_X4_oddsBody⟩, by decide +kernel, by decide +kernel⟩
theorem cu_X4_105_4 : CU RX2 RX4 ⟨"WhyChosen$Model", "oddsBody", "(ILWhyChosen$Trace;)I"⟩ yX2_oddsBody := ⟨tw_975, tw_976, iy_X2_oddsBody, iy_X4_oddsBody, ⟨_, _, _, cd_X4_oddsBody⟩, by decide +kernel, by decide +kernel⟩
theorem cu_X4_105_5 : CU RX8 RX4 ⟨"WhyChosen$Model", "oddsBody", "(ILWhyChosen$Trace;)I"⟩ yX4_oddsBody := ⟨tw_975, tw_993, iy_X4_oddsBody, iy_X4_oddsBody, ⟨_, _, _, cd_X4_oddsBody⟩, by decide +kernel, by decide +kernel⟩
theorem lk_X4_105 : Cond.methodLink RX4 105 ⟨"WhyChosen$Model", "oddsBody", "(ILWhyChosen$Trace;)I"⟩ ∈ TB := tw_1025
section ZVV
variable {p : Program} {l : Launch} {e : Env} {R : Room} {s : State} {m : MethodId} {args : Array Value} {below : List Frame} {meth : Method} {c : Code} {nL : Nat} {k n : Nat} {Q : State → Prop} {pc : Nat} {lv : List (Nat × Value)} {st : List Value}
variable {G : Gl} {cc : ByteArray} {own : String} {ret : Option FieldType} {A : Nat → Prop} {S S' S0 : Sh} {D D' : Dy} {a N : Nat} {Wp : Heap → List Loc → Prop}

set_option maxRecDepth 100000 in
theorem zv_X4_105 (hC : CX G cc RX4 nL ret p s m args meth c) {mdl : Nat → Option (Nat × Nat)} (hF : FX S mdl) {t kd : Nat} (hM : FMo S t kd) (hk : kd < 6) {a1 : Int32} {post : Int32 → Dy → Prop} (E : v_oddsBody t kd a1 D post) {rest : List Value} (hstk : st = List.reverse [.int a1, .ref (G.1 + 22)] ++ .ref (G.1 + (t + 9)) :: rest) (hrm : (rest.map fun v => v.category).sum ≤ 8) (hR : 5 + 1 ≤ R.frames ∧ 8 + (3 + 11) + 60 * 5 ≤ R.locals) (hkn : k + 0 ≤ R.cells ∧ n + 0 ≤ R.slots) (hd : decode cc pc = .ok (.invokevirtual 105, 3)) (kz : ∀ v S1 D1, (PI S post) v S1 D1 → Z p l e R s m args below meth c nL (WM G s A S1 D1) (k + 0) (n + 0) Q (pc + 3) lv (v.toList ++ rest)) : Z p l e R s m args below meth c nL (WM G s A S D) k n Q pc lv st := by
  obtain rfl | rfl | rfl | rfl | rfl | rfl : kd = 0 ∨ kd = 1 ∨ kd = 2 ∨ kd = 3 ∨ kd = 4 ∨ kd = 5 := by omega
  · exact z_callU (ci := 4) (C := RX4) (owner := RX4) (x := ⟨"WhyChosen$Model", "oddsBody", "(ILWhyChosen$Trace;)I"⟩) (av := [.int a1, .ref (G.1 + 22)]) hC lk_X4_105 in_X4_oddsBody cd_X4_oddsBody dn_X4_oddsBody (by omega) cu_X4_105_0 cf_4 (by decide) (kO hM) (ct_X4_oddsBody hF hM (E.1 rfl)) rfl hstk hrm hkn hd kz
  · exact z_callU (ci := 7) (C := RX7) (owner := RX4) (x := ⟨"WhyChosen$Model", "oddsBody", "(ILWhyChosen$Trace;)I"⟩) (av := [.int a1, .ref (G.1 + 22)]) hC lk_X4_105 in_X7_oddsBody cd_X7_oddsBody dn_X7_oddsBody (by omega) cu_X4_105_1 cf_7 (by decide) (kO hM) (ct_X7_oddsBody hF hM (by decide) (E.2.1 rfl)) rfl hstk hrm hkn hd kz
  · exact z_callU (ci := 5) (C := RX5) (owner := RX4) (x := ⟨"WhyChosen$Model", "oddsBody", "(ILWhyChosen$Trace;)I"⟩) (av := [.int a1, .ref (G.1 + 22)]) hC lk_X4_105 in_X7_oddsBody cd_X7_oddsBody dn_X7_oddsBody (by omega) cu_X4_105_2 cf_5 (by decide) (kO hM) (ct_X7_oddsBody hF hM (by decide) (E.2.2.1 rfl)) rfl hstk hrm hkn hd kz
  · exact z_callU (ci := 3) (C := RX3) (owner := RX4) (x := ⟨"WhyChosen$Model", "oddsBody", "(ILWhyChosen$Trace;)I"⟩) (av := [.int a1, .ref (G.1 + 22)]) hC lk_X4_105 in_X3_oddsBody cd_X3_oddsBody dn_X3_oddsBody (by omega) cu_X4_105_3 cf_3 (by decide) (kO hM) (ct_X3_oddsBody hF hM (E.2.2.2.1 rfl)) rfl hstk hrm hkn hd kz
  · exact z_callU (ci := 2) (C := RX2) (owner := RX4) (x := ⟨"WhyChosen$Model", "oddsBody", "(ILWhyChosen$Trace;)I"⟩) (av := [.int a1, .ref (G.1 + 22)]) hC lk_X4_105 in_X2_oddsBody cd_X2_oddsBody dn_X2_oddsBody (by omega) cu_X4_105_4 cf_2 (by decide) (kO hM) (ct_X2_oddsBody hF hM (E.2.2.2.2.1 rfl)) rfl hstk hrm hkn hd kz
  · exact z_callU (ci := 8) (C := RX8) (owner := RX4) (x := ⟨"WhyChosen$Model", "oddsBody", "(ILWhyChosen$Trace;)I"⟩) (av := [.int a1, .ref (G.1 + 22)]) hC lk_X4_105 in_X4_oddsBody cd_X4_oddsBody dn_X4_oddsBody (by omega) cu_X4_105_5 cf_8 (by decide) (kO hM) (ct_X4_oddsBody hF hM (E.2.2.2.2.2 rfl)) rfl hstk hrm hkn hd kz
end ZVV
def fX4_tellsBody (t : Nat) (kd : Nat) (a1 : Int32) (D : Dy) (post : Int32 → Dy → Prop) : Prop :=
  (fX10_note (12 : Int32) D (fun (D6 : Dy) => (v_oddsBody t kd a1 D6 (fun (v7 : Int32) (D12 : Dy) => post (v7 * (2 : Int32)) D12))))
set_option maxHeartbeats 4000000 in
set_option maxRecDepth 100000 in
theorem ct_X4_tellsBody {l : Launch} {G : Gl} {S : Sh} {D : Dy} {mdl : Nat → Option (Nat × Nat)} (hF : FX S mdl) {t : Nat} {kd : Nat} (hM : FMo S t kd) {a1 : Int32} {post : Int32 → Dy → Prop} (E : fX4_tellsBody t kd a1 D post) : Ct l G yX4_tellsBody cX4_tellsBody 3 (some .int) 6 0 0 S D [.ref (G.1 + (t + 9)), .int a1, .ref (G.1 + 22)] (PI S post) := by
  refine z_enter (lv0 := [(0, .ref (G.1 + (t + 9))), (1, .int a1), (2, .ref (G.1 + 22))]) pl_4 (Nat.le_of_ble_eq_true rfl) rfl ?_
  intro p e s m args below meth c hC hnm
  unfold fX4_tellsBody at E
  have hT := hM.ft
  refine z_aload_n hC dX4_tellsBody_0 rfl 2 rfl ?_
  refine z_bipush (v := 12) hC dX4_tellsBody_1 rfl ?_
  refine z_callV (ci := 10) (rest := []) hC (ck_mk lk_X4_92 in_X10_note cd_X10_note ds_X10_note (Nat.le_of_ble_eq_true rfl) (Nat.le_of_ble_eq_true rfl)) iy_X10_note sy_X10_note cf_10 (by decide) (kX_22 hF) (ct_X10_note hF E) rfl rfl (Nat.le_of_ble_eq_true rfl) ⟨Nat.le_refl _, Nat.le_refl _⟩ dX4_tellsBody_3 ?_
  rintro _ _ D6 ⟨rfl, rfl, E⟩
  refine z_aload_n hC dX4_tellsBody_6 rfl 0 rfl ?_
  refine z_iload_n hC dX4_tellsBody_7 rfl 1 rfl ?_
  refine z_aload_n hC dX4_tellsBody_8 rfl 2 rfl ?_
  refine zv_X4_105 (rest := []) hC hF hM (by have := hM.kd; omega) E rfl (Nat.le_of_ble_eq_true rfl) ⟨Nat.le_of_ble_eq_true rfl, Nat.le_of_ble_eq_true rfl⟩ ⟨Nat.le_refl _, Nat.le_refl _⟩ dX4_tellsBody_9 ?_
  rintro _ _ D12 ⟨v7, rfl, rfl, E⟩
  refine z_iconst (v := 2) hC dX4_tellsBody_12 rfl ?_
  refine z_imul hC dX4_tellsBody_13 ?_
  exact z_iret hC dX4_tellsBody_14 (Nat.le_refl _) (Nat.le_refl _) ⟨_, rfl, rfl, E⟩
def fX2_tellsBody (t : Nat) (a1 : Int32) (D : Dy) (post : Int32 → Dy → Prop) : Prop :=
  (fX10_note (50 : Int32) D (fun (D6 : Dy) => (fX4_tellsBody t 4 (a1 - (D6.1 t 3)) D6 (fun (v7 : Int32) (D12 : Dy) => post v7 D12))))
set_option maxHeartbeats 4000000 in
set_option maxRecDepth 100000 in
theorem ct_X2_tellsBody {l : Launch} {G : Gl} {S : Sh} {D : Dy} {mdl : Nat → Option (Nat × Nat)} (hF : FX S mdl) {t : Nat} (hM : FMo S t 4) {a1 : Int32} {post : Int32 → Dy → Prop} (E : fX2_tellsBody t a1 D post) : Ct l G yX2_tellsBody cX2_tellsBody 3 (some .int) 7 0 0 S D [.ref (G.1 + (t + 9)), .int a1, .ref (G.1 + 22)] (PI S post) := by
  refine z_enter (lv0 := [(0, .ref (G.1 + (t + 9))), (1, .int a1), (2, .ref (G.1 + 22))]) pl_2 (Nat.le_of_ble_eq_true rfl) rfl ?_
  intro p e s m args below meth c hC hnm
  unfold fX2_tellsBody at E
  have hT := hM.ft
  refine z_aload_n hC dX2_tellsBody_0 rfl 2 rfl ?_
  refine z_bipush (v := 50) hC dX2_tellsBody_1 rfl ?_
  refine z_callV (ci := 10) (rest := []) hC (ck_mk lk_X2_33 in_X10_note cd_X10_note ds_X10_note (Nat.le_of_ble_eq_true rfl) (Nat.le_of_ble_eq_true rfl)) iy_X10_note sy_X10_note cf_10 (by decide) (kX_22 hF) (ct_X10_note hF E) rfl rfl (Nat.le_of_ble_eq_true rfl) ⟨Nat.le_refl _, Nat.le_refl _⟩ dX2_tellsBody_3 ?_
  rintro _ _ D6 ⟨rfl, rfl, E⟩
  refine z_aload_n hC dX2_tellsBody_6 rfl 0 rfl ?_
  refine z_iload_n hC dX2_tellsBody_7 rfl 1 rfl ?_
  refine z_aload_n hC dX2_tellsBody_8 rfl 0 rfl ?_
  refine z_get hC (lfm_X2_17 hM.kd) (kO hM) dX2_tellsBody_9 (fVm_2 hM) ?_
  refine z_get hC lf_X2_46_9 (kT_0 hT) dX2_tellsBody_12 (fV_int rfl) ?_
  refine z_isub hC dX2_tellsBody_15 ?_
  refine z_aload_n hC dX2_tellsBody_16 rfl 2 rfl ?_
  obtain ⟨C, T, hci, hc13⟩ := cfm hM.kd
  refine z_callSX (rest := []) hC lk_X2_49 smx_X2_49 rfl sux_X2_49 suy_X2_49 iy_X4_tellsBody in_X4_tellsBody cd_X4_tellsBody (by decide) dn_X4_tellsBody ⟨Nat.le_of_ble_eq_true rfl, Nat.le_of_ble_eq_true rfl⟩ hci hc13 (kO hM) (ct_X4_tellsBody hF hM E) rfl rfl (Nat.le_of_ble_eq_true rfl) ⟨Nat.le_refl _, Nat.le_refl _⟩ dX2_tellsBody_17 ?_
  rintro _ _ D12 ⟨v7, rfl, rfl, E⟩
  exact z_iret hC dX2_tellsBody_20 (Nat.le_refl _) (Nat.le_refl _) ⟨_, rfl, rfl, E⟩
theorem cu_X3_25_3 : CU RX3 RX4 ⟨"WhyChosen$Mixed", "clearShares", "()V"⟩ yX4_clearShares := ⟨tw_695, tw_696, iy_X4_clearShares, iy_X4_clearShares, ⟨_, _, _, cd_X4_clearShares⟩, by decide +kernel, by decide +kernel⟩
theorem lk_X3_25 : Cond.methodLink RX3 25 ⟨"WhyChosen$Mixed", "clearShares", "()V"⟩ ∈ TB := tw_694
section ZVV
variable {p : Program} {l : Launch} {e : Env} {R : Room} {s : State} {m : MethodId} {args : Array Value} {below : List Frame} {meth : Method} {c : Code} {nL : Nat} {k n : Nat} {Q : State → Prop} {pc : Nat} {lv : List (Nat × Value)} {st : List Value}
variable {G : Gl} {cc : ByteArray} {own : String} {ret : Option FieldType} {A : Nat → Prop} {S S' S0 : Sh} {D D' : Dy} {a N : Nat} {Wp : Heap → List Loc → Prop}

set_option maxRecDepth 100000 in
theorem zv_X3_25 (hC : CX G cc RX3 nL ret p s m args meth c) {mdl : Nat → Option (Nat × Nat)} (hF : FX S mdl) {t : Nat} (hM : FMo S t 3)  {post : Dy → Prop} (E : v_clearShares t 3 D post) {rest : List Value} (hstk : st = List.reverse [] ++ .ref (G.1 + (t + 9)) :: rest) (hrm : (rest.map fun v => v.category).sum ≤ 8) (hR : 0 + 1 ≤ R.frames ∧ 8 + (2 + 11) + 60 * 0 ≤ R.locals) (hkn : k + 0 ≤ R.cells ∧ n + 0 ≤ R.slots) (hd : decode cc pc = .ok (.invokevirtual 25, 3)) (kz : ∀ v S1 D1, (PV S post) v S1 D1 → Z p l e R s m args below meth c nL (WM G s A S1 D1) (k + 0) (n + 0) Q (pc + 3) lv (v.toList ++ rest)) : Z p l e R s m args below meth c nL (WM G s A S D) k n Q pc lv st := by
  exact z_callU (ci := 3) (C := RX3) (owner := RX4) (x := ⟨"WhyChosen$Mixed", "clearShares", "()V"⟩) (av := []) hC lk_X3_25 in_X4_clearShares cd_X4_clearShares dn_X4_clearShares (by omega) cu_X3_25_3 cf_3 (by decide) (kO hM) (ct_X4_clearShares hF hM (E.2.2.2.1 rfl)) rfl hstk hrm hkn hd kz
end ZVV
theorem cu_X3_29_3 : CU RX3 RX4 ⟨"WhyChosen$Mixed", "sumWeights", "(LWhyChosen$Goods;II)I"⟩ yX4_sumWeights := ⟨tw_698, tw_699, iy_X4_sumWeights, iy_X4_sumWeights, ⟨_, _, _, cd_X4_sumWeights⟩, by decide +kernel, by decide +kernel⟩
theorem lk_X3_29 : Cond.methodLink RX3 29 ⟨"WhyChosen$Mixed", "sumWeights", "(LWhyChosen$Goods;II)I"⟩ ∈ TB := tw_697
section ZVV
variable {p : Program} {l : Launch} {e : Env} {R : Room} {s : State} {m : MethodId} {args : Array Value} {below : List Frame} {meth : Method} {c : Code} {nL : Nat} {k n : Nat} {Q : State → Prop} {pc : Nat} {lv : List (Nat × Value)} {st : List Value}
variable {G : Gl} {cc : ByteArray} {own : String} {ret : Option FieldType} {A : Nat → Prop} {S S' S0 : Sh} {D D' : Dy} {a N : Nat} {Wp : Heap → List Loc → Prop}

set_option maxRecDepth 100000 in
theorem zv_X3_29 (hC : CX G cc RX3 nL ret p s m args meth c) {mdl : Nat → Option (Nat × Nat)} (hF : FX S mdl) {t : Nat} (hM : FMo S t 3) {a2 : Int32} {a3 : Int32} {post : Int32 → Prop} (E : v_sumWeights t 3 a2 a3 D post) {rest : List Value} (hstk : st = List.reverse [.ref (G.1 + 1), .int a2, .int a3] ++ .ref (G.1 + (t + 9)) :: rest) (hrm : (rest.map fun v => v.category).sum ≤ 8) (hR : 1 + 1 ≤ R.frames ∧ 8 + (6 + 11) + 60 * 1 ≤ R.locals) (hkn : k + 0 ≤ R.cells ∧ n + 0 ≤ R.slots) (hd : decode cc pc = .ok (.invokevirtual 29, 3)) (kz : ∀ v S1 D1, (PIr S D post) v S1 D1 → Z p l e R s m args below meth c nL (WM G s A S1 D1) (k + 0) (n + 0) Q (pc + 3) lv (v.toList ++ rest)) : Z p l e R s m args below meth c nL (WM G s A S D) k n Q pc lv st := by
  exact z_callU (ci := 3) (C := RX3) (owner := RX4) (x := ⟨"WhyChosen$Mixed", "sumWeights", "(LWhyChosen$Goods;II)I"⟩) (av := [.ref (G.1 + 1), .int a2, .int a3]) hC lk_X3_29 in_X4_sumWeights cd_X4_sumWeights dn_X4_sumWeights (by omega) cu_X3_29_3 cf_3 (by decide) (kO hM) (ct_X4_sumWeights hF hM (by decide) (E.2.2.2.1 rfl)) rfl hstk hrm hkn hd kz
end ZVV
theorem cu_X3_33_3 : CU RX3 RX4 ⟨"WhyChosen$Mixed", "weighed", "(II)I"⟩ yX4_weighed := ⟨tw_701, tw_702, iy_X4_weighed, iy_X4_weighed, ⟨_, _, _, cd_X4_weighed⟩, by decide +kernel, by decide +kernel⟩
theorem lk_X3_33 : Cond.methodLink RX3 33 ⟨"WhyChosen$Mixed", "weighed", "(II)I"⟩ ∈ TB := tw_700
section ZVV
variable {p : Program} {l : Launch} {e : Env} {R : Room} {s : State} {m : MethodId} {args : Array Value} {below : List Frame} {meth : Method} {c : Code} {nL : Nat} {k n : Nat} {Q : State → Prop} {pc : Nat} {lv : List (Nat × Value)} {st : List Value}
variable {G : Gl} {cc : ByteArray} {own : String} {ret : Option FieldType} {A : Nat → Prop} {S S' S0 : Sh} {D D' : Dy} {a N : Nat} {Wp : Heap → List Loc → Prop}

set_option maxRecDepth 100000 in
theorem zv_X3_33 (hC : CX G cc RX3 nL ret p s m args meth c) {mdl : Nat → Option (Nat × Nat)} (hF : FX S mdl) {t : Nat} (hM : FMo S t 3) {a1 : Int32} {a2 : Int32} {post : Int32 → Prop} (E : v_weighed t 3 a1 a2 D post) {rest : List Value} (hstk : st = List.reverse [.int a1, .int a2] ++ .ref (G.1 + (t + 9)) :: rest) (hrm : (rest.map fun v => v.category).sum ≤ 8) (hR : 0 + 1 ≤ R.frames ∧ 8 + (3 + 11) + 60 * 0 ≤ R.locals) (hkn : k + 0 ≤ R.cells ∧ n + 0 ≤ R.slots) (hd : decode cc pc = .ok (.invokevirtual 33, 3)) (kz : ∀ v S1 D1, (PIr S D post) v S1 D1 → Z p l e R s m args below meth c nL (WM G s A S1 D1) (k + 0) (n + 0) Q (pc + 3) lv (v.toList ++ rest)) : Z p l e R s m args below meth c nL (WM G s A S D) k n Q pc lv st := by
  exact z_callU (ci := 3) (C := RX3) (owner := RX4) (x := ⟨"WhyChosen$Mixed", "weighed", "(II)I"⟩) (av := [.int a1, .int a2]) hC lk_X3_33 in_X4_weighed cd_X4_weighed dn_X4_weighed (by omega) cu_X3_33_3 cf_3 (by decide) (kO hM) (ct_X4_weighed hF hM (E.2.2.2.1 rfl)) rfl hstk hrm hkn hd kz
end ZVV
def fX3_share (t : Nat) (a2 : Int32) (a3 : Int32) (D : Dy) (post : Dy → Prop) : Prop :=
  (vp_in (0 : Int32) 3 ∧ (vp_in (1 : Int32) 3 ∧ (vp_in (2 : Int32) 3 ∧ (∀ w1 : Int64, w1 = ((((D.1 (t + 3) ((0 : Int32)).toNatClampNeg) + (D.1 (t + 3) ((1 : Int32)).toNatClampNeg)) + (D.1 (t + 3) ((2 : Int32)).toNatClampNeg))).toInt64 → ((¬ (lg_cmp w1 (0 : Int64)) = 0 → (v_clearShares t 3 D (fun (D9 : Dy) => (v_sumWeights t 3 a2 (0 : Int32) D9 (fun (v10 : Int32) => (v_weighed t 3 (7 : Int32) (0 : Int32) D9 (fun (v15 : Int32) => (∀ w20 : Int64, w20 = ((v10 + v15)).toInt64 → (v_sumWeights t 3 a2 (1 : Int32) D9 (fun (v22 : Int32) => (v_weighed t 3 (7 : Int32) (1 : Int32) D9 (fun (v27 : Int32) => (∀ w32 : Int64, w32 = ((v22 + v27)).toInt64 → (v_sumWeights t 3 a2 (2 : Int32) D9 (fun (v34 : Int32) => (v_weighed t 3 (7 : Int32) (2 : Int32) D9 (fun (v39 : Int32) => (∀ w44 : Int64, w44 = ((v34 + v39)).toInt64 → (vp_in (0 : Int32) 3 ∧ (∀ w46 : Int64, w46 = ((((D9.1 (t + 3) ((0 : Int32)).toNatClampNeg)).toInt64 * w32) * w44) → (vp_in (1 : Int32) 3 ∧ (∀ w48 : Int64, w48 = ((((D9.1 (t + 3) ((1 : Int32)).toNatClampNeg)).toInt64 * w20) * w44) → (vp_in (2 : Int32) 3 ∧ (∀ w50 : Int64, w50 = ((((D9.1 (t + 3) ((2 : Int32)).toNatClampNeg)).toInt64 * w20) * w32) → (LP2 (fun (rec54 : Int32 → Dy → Prop) (v52 : Int32) (D53 : Dy) => (((8 : Int32) ≤ v52 → post D53) ∧ (¬ (8 : Int32) ≤ v52 → (JN (fun (D57 : Dy) => (∀ v60 : Int32, v60 = v52 + 1 → (rec54 v60 D57))) (fun K58 : Dy → Prop => (JN ((v_weighed t 3 v52 (0 : Int32) D53 (fun (v64 : Int32) => (v_weighed t 3 v52 (1 : Int32) D53 (fun (v69 : Int32) => (v_weighed t 3 v52 (2 : Int32) D53 (fun (v74 : Int32) => (vp_in v52 8 ∧ (∀ D79 : Dy, D79 = sL D53 (t + 11) (v52).toNatClampNeg (((w46 * (v64).toInt64) + (w48 * (v69).toInt64)) + (w50 * (v74).toInt64)) → (vp_in v52 8 ∧ (∀ D81 : Dy, D81 = sL D79 (t + 12) (v52).toNatClampNeg (((w1 * w20) * w32) * w44) → (K58 D81)))))))))))) (fun K62 : Prop => ((v52 = (7 : Int32) → K62) ∧ (¬ v52 = (7 : Int32) → (fX11_isIn v52 a2 (fun (v85 : Int32) => ((v85 = 0 → (K58 D53)) ∧ (¬ v85 = 0 → K62))))))))))))) FU (0 : Int32) D9))))))))))))))))))))))))) ∧ ((lg_cmp w1 (0 : Int64)) = 0 → (fX7_share t 3 a2 a3 D (fun (D95 : Dy) => post D95))))))))
set_option maxHeartbeats 4000000 in
set_option maxRecDepth 100000 in
theorem ct_X3_share {l : Launch} {G : Gl} {S : Sh} {D : Dy} {mdl : Nat → Option (Nat × Nat)} (hF : FX S mdl) {t : Nat} (hM : FMo S t 3) {a2 : Int32} {a3 : Int32} {post : Dy → Prop} (E : fX3_share t a2 a3 D post) : Ct l G yX3_share cX3_share 19 none 3 0 0 S D [.ref (G.1 + (t + 9)), .ref (G.1 + 1), .int a2, .int a3] (PV S post) := by
  refine z_enter (lv0 := [(0, .ref (G.1 + (t + 9))), (1, .ref (G.1 + 1)), (2, .int a2), (3, .int a3)]) pl_3 (Nat.le_of_ble_eq_true rfl) rfl ?_
  intro p e s m args below meth c hC hnm
  unfold fX3_share at E
  have hT := hM.ft
  refine z_aload_n hC dX3_share_0 rfl 0 rfl ?_
  refine z_get hC (lfm_X3_9 hM.kd) (kO hM) dX3_share_1 (fVm_2 hM) ?_
  refine z_get hC lf_X3_15_9 (kT_0 hT) dX3_share_4 (fV_ref rfl (rT_9 hT)) ?_
  refine z_iconst (v := 0) hC dX3_share_7 rfl ?_
  refine z_iald hC (kT_3 hT) (nT_3 hT) E.1 dX3_share_8 ?_
  replace E := E.2
  refine z_aload_n hC dX3_share_9 rfl 0 rfl ?_
  refine z_get hC (lfm_X3_9 hM.kd) (kO hM) dX3_share_10 (fVm_2 hM) ?_
  refine z_get hC lf_X3_15_9 (kT_0 hT) dX3_share_13 (fV_ref rfl (rT_9 hT)) ?_
  refine z_iconst (v := 1) hC dX3_share_16 rfl ?_
  refine z_iald hC (kT_3 hT) (nT_3 hT) E.1 dX3_share_17 ?_
  replace E := E.2
  refine z_iadd hC dX3_share_18 ?_
  refine z_aload_n hC dX3_share_19 rfl 0 rfl ?_
  refine z_get hC (lfm_X3_9 hM.kd) (kO hM) dX3_share_20 (fVm_2 hM) ?_
  refine z_get hC lf_X3_15_9 (kT_0 hT) dX3_share_23 (fV_ref rfl (rT_9 hT)) ?_
  refine z_iconst (v := 2) hC dX3_share_26 rfl ?_
  refine z_iald hC (kT_3 hT) (nT_3 hT) E.1 dX3_share_27 ?_
  replace E := E.2
  refine z_iadd hC dX3_share_28 ?_
  refine z_i2l hC dX3_share_29 ?_
  refine z_topl (fun w1 h2 => ?_)
  replace E := E w1 h2
  refine z_lstore (lv' := [(4, .long w1), (0, .ref (G.1 + (t + 9))), (1, .ref (G.1 + 1)), (2, .int a2), (3, .int a3)]) hC dX3_share_30 (Nat.le_of_ble_eq_true rfl) rfl ?_
  refine z_lload hC dX3_share_32 0 rfl ?_
  refine z_lconst (v := 0) hC dX3_share_34 rfl ?_
  refine z_lcmp hC dX3_share_35 ?_
  refine z_if_ne (tgt := 47) hC dX3_share_36 (by decide) (fun c3 => ?_) (fun c3 => ?_)
  · replace E := E.1 c3
    refine z_aload_n hC dX3_share_47 rfl 1 rfl ?_
    refine zv_X3_25 (rest := []) hC hF hM E rfl (Nat.le_of_ble_eq_true rfl) ⟨Nat.le_of_ble_eq_true rfl, Nat.le_of_ble_eq_true rfl⟩ ⟨Nat.le_refl _, Nat.le_refl _⟩ dX3_share_48 ?_
    rintro _ _ D9 ⟨rfl, rfl, E⟩
    refine z_aload_n hC dX3_share_51 rfl 1 rfl ?_
    refine z_aload_n hC dX3_share_52 rfl 2 rfl ?_
    refine z_iload_n hC dX3_share_53 rfl 3 rfl ?_
    refine z_iconst (v := 0) hC dX3_share_54 rfl ?_
    refine zv_X3_29 (rest := []) hC hF hM E rfl (Nat.le_of_ble_eq_true rfl) ⟨Nat.le_of_ble_eq_true rfl, Nat.le_of_ble_eq_true rfl⟩ ⟨Nat.le_refl _, Nat.le_refl _⟩ dX3_share_55 ?_
    rintro _ _ _ ⟨v10, rfl, rfl, rfl, E⟩
    refine z_aload_n hC dX3_share_58 rfl 1 rfl ?_
    refine z_bipush (v := 7) hC dX3_share_59 rfl ?_
    refine z_iconst (v := 0) hC dX3_share_61 rfl ?_
    refine zv_X3_33 (rest := [.int v10]) hC hF hM E rfl (Nat.le_of_ble_eq_true rfl) ⟨Nat.le_of_ble_eq_true rfl, Nat.le_of_ble_eq_true rfl⟩ ⟨Nat.le_refl _, Nat.le_refl _⟩ dX3_share_62 ?_
    rintro _ _ _ ⟨v15, rfl, rfl, rfl, E⟩
    refine z_iadd hC dX3_share_65 ?_
    refine z_i2l hC dX3_share_66 ?_
    refine z_topl (fun w20 h21 => ?_)
    replace E := E w20 h21
    refine z_lstore (lv' := [(6, .long w20), (4, .long w1), (0, .ref (G.1 + (t + 9))), (1, .ref (G.1 + 1)), (2, .int a2), (3, .int a3)]) hC dX3_share_67 (Nat.le_of_ble_eq_true rfl) rfl ?_
    refine z_aload_n hC dX3_share_69 rfl 2 rfl ?_
    refine z_aload_n hC dX3_share_70 rfl 3 rfl ?_
    refine z_iload_n hC dX3_share_71 rfl 4 rfl ?_
    refine z_iconst (v := 1) hC dX3_share_72 rfl ?_
    refine zv_X3_29 (rest := []) hC hF hM E rfl (Nat.le_of_ble_eq_true rfl) ⟨Nat.le_of_ble_eq_true rfl, Nat.le_of_ble_eq_true rfl⟩ ⟨Nat.le_refl _, Nat.le_refl _⟩ dX3_share_73 ?_
    rintro _ _ _ ⟨v22, rfl, rfl, rfl, E⟩
    refine z_aload_n hC dX3_share_76 rfl 2 rfl ?_
    refine z_bipush (v := 7) hC dX3_share_77 rfl ?_
    refine z_iconst (v := 1) hC dX3_share_79 rfl ?_
    refine zv_X3_33 (rest := [.int v22]) hC hF hM E rfl (Nat.le_of_ble_eq_true rfl) ⟨Nat.le_of_ble_eq_true rfl, Nat.le_of_ble_eq_true rfl⟩ ⟨Nat.le_refl _, Nat.le_refl _⟩ dX3_share_80 ?_
    rintro _ _ _ ⟨v27, rfl, rfl, rfl, E⟩
    refine z_iadd hC dX3_share_83 ?_
    refine z_i2l hC dX3_share_84 ?_
    refine z_topl (fun w32 h33 => ?_)
    replace E := E w32 h33
    refine z_lstore (lv' := [(8, .long w32), (6, .long w20), (4, .long w1), (0, .ref (G.1 + (t + 9))), (1, .ref (G.1 + 1)), (2, .int a2), (3, .int a3)]) hC dX3_share_85 (Nat.le_of_ble_eq_true rfl) rfl ?_
    refine z_aload_n hC dX3_share_87 rfl 3 rfl ?_
    refine z_aload_n hC dX3_share_88 rfl 4 rfl ?_
    refine z_iload_n hC dX3_share_89 rfl 5 rfl ?_
    refine z_iconst (v := 2) hC dX3_share_90 rfl ?_
    refine zv_X3_29 (rest := []) hC hF hM E rfl (Nat.le_of_ble_eq_true rfl) ⟨Nat.le_of_ble_eq_true rfl, Nat.le_of_ble_eq_true rfl⟩ ⟨Nat.le_refl _, Nat.le_refl _⟩ dX3_share_91 ?_
    rintro _ _ _ ⟨v34, rfl, rfl, rfl, E⟩
    refine z_aload_n hC dX3_share_94 rfl 3 rfl ?_
    refine z_bipush (v := 7) hC dX3_share_95 rfl ?_
    refine z_iconst (v := 2) hC dX3_share_97 rfl ?_
    refine zv_X3_33 (rest := [.int v34]) hC hF hM E rfl (Nat.le_of_ble_eq_true rfl) ⟨Nat.le_of_ble_eq_true rfl, Nat.le_of_ble_eq_true rfl⟩ ⟨Nat.le_refl _, Nat.le_refl _⟩ dX3_share_98 ?_
    rintro _ _ _ ⟨v39, rfl, rfl, rfl, E⟩
    refine z_iadd hC dX3_share_101 ?_
    refine z_i2l hC dX3_share_102 ?_
    refine z_topl (fun w44 h45 => ?_)
    replace E := E w44 h45
    refine z_lstore (lv' := [(10, .long w44), (8, .long w32), (6, .long w20), (4, .long w1), (0, .ref (G.1 + (t + 9))), (1, .ref (G.1 + 1)), (2, .int a2), (3, .int a3)]) hC dX3_share_103 (Nat.le_of_ble_eq_true rfl) rfl ?_
    refine z_aload_n hC dX3_share_105 rfl 4 rfl ?_
    refine z_get hC (lfm_X3_9 hM.kd) (kO hM) dX3_share_106 (fVm_2 hM) ?_
    refine z_get hC lf_X3_15_9 (kT_0 hT) dX3_share_109 (fV_ref rfl (rT_9 hT)) ?_
    refine z_iconst (v := 0) hC dX3_share_112 rfl ?_
    refine z_iald hC (kT_3 hT) (nT_3 hT) E.1 dX3_share_113 ?_
    replace E := E.2
    refine z_i2l hC dX3_share_114 ?_
    refine z_lload hC dX3_share_115 1 rfl ?_
    refine z_lmul hC dX3_share_117 ?_
    refine z_lload hC dX3_share_118 0 rfl ?_
    refine z_lmul hC dX3_share_120 ?_
    refine z_topl (fun w46 h47 => ?_)
    replace E := E w46 h47
    refine z_lstore (lv' := [(12, .long w46), (10, .long w44), (8, .long w32), (6, .long w20), (4, .long w1), (0, .ref (G.1 + (t + 9))), (1, .ref (G.1 + 1)), (2, .int a2), (3, .int a3)]) hC dX3_share_121 (Nat.le_of_ble_eq_true rfl) rfl ?_
    refine z_aload_n hC dX3_share_123 rfl 5 rfl ?_
    refine z_get hC (lfm_X3_9 hM.kd) (kO hM) dX3_share_124 (fVm_2 hM) ?_
    refine z_get hC lf_X3_15_9 (kT_0 hT) dX3_share_127 (fV_ref rfl (rT_9 hT)) ?_
    refine z_iconst (v := 1) hC dX3_share_130 rfl ?_
    refine z_iald hC (kT_3 hT) (nT_3 hT) E.1 dX3_share_131 ?_
    replace E := E.2
    refine z_i2l hC dX3_share_132 ?_
    refine z_lload hC dX3_share_133 3 rfl ?_
    refine z_lmul hC dX3_share_135 ?_
    refine z_lload hC dX3_share_136 1 rfl ?_
    refine z_lmul hC dX3_share_138 ?_
    refine z_topl (fun w48 h49 => ?_)
    replace E := E w48 h49
    refine z_lstore (lv' := [(14, .long w48), (12, .long w46), (10, .long w44), (8, .long w32), (6, .long w20), (4, .long w1), (0, .ref (G.1 + (t + 9))), (1, .ref (G.1 + 1)), (2, .int a2), (3, .int a3)]) hC dX3_share_139 (Nat.le_of_ble_eq_true rfl) rfl ?_
    refine z_aload_n hC dX3_share_141 rfl 6 rfl ?_
    refine z_get hC (lfm_X3_9 hM.kd) (kO hM) dX3_share_142 (fVm_2 hM) ?_
    refine z_get hC lf_X3_15_9 (kT_0 hT) dX3_share_145 (fV_ref rfl (rT_9 hT)) ?_
    refine z_iconst (v := 2) hC dX3_share_148 rfl ?_
    refine z_iald hC (kT_3 hT) (nT_3 hT) E.1 dX3_share_149 ?_
    replace E := E.2
    refine z_i2l hC dX3_share_150 ?_
    refine z_lload hC dX3_share_151 4 rfl ?_
    refine z_lmul hC dX3_share_153 ?_
    refine z_lload hC dX3_share_154 3 rfl ?_
    refine z_lmul hC dX3_share_156 ?_
    refine z_topl (fun w50 h51 => ?_)
    replace E := E w50 h51
    refine z_lstore (lv' := [(16, .long w50), (14, .long w48), (12, .long w46), (10, .long w44), (8, .long w32), (6, .long w20), (4, .long w1), (0, .ref (G.1 + (t + 9))), (1, .ref (G.1 + 1)), (2, .int a2), (3, .int a3)]) hC dX3_share_157 (Nat.le_of_ble_eq_true rfl) rfl ?_
    refine z_iconst (v := 0) hC dX3_share_159 rfl ?_
    refine z_istore (lv' := [(18, .int (0 : Int32)), (16, .long w50), (14, .long w48), (12, .long w46), (10, .long w44), (8, .long w32), (6, .long w20), (4, .long w1), (0, .ref (G.1 + (t + 9))), (1, .ref (G.1 + 1)), (2, .int a2), (3, .int a3)]) hC dX3_share_160 (Nat.le_of_ble_eq_true rfl) rfl ?_
    refine z_sub [8, 10, 7, 6, 5, 4, 3, 2, 1, 0] rfl ?_
    refine LP2_use (fun (v52 : Int32) (D53 : Dy) => ZM l G p e s m args below meth c 19 3 S (PV S post) S D53 162 [(0, .ref (G.1 + (t + 9))), (2, .int a2), (4, .long w1), (6, .long w20), (8, .long w32), (10, .long w44), (12, .long w46), (14, .long w48), (16, .long w50), (18, .int v52)] []) ?_ FU (0 : Int32) D9 E
    intro rec54 hrec55 v52 D53 E
    refine z_iload hC dX3_share_162 9 rfl ?_
    refine z_bipush (v := 8) hC dX3_share_164 rfl ?_
    refine z_icmp_ge (tgt := 251) hC dX3_share_166 (by decide) (fun c56 => ?_) (fun c56 => ?_)
    · replace E := E.1 c56
      exact z_vret hC dX3_share_251 (Nat.le_refl _) (Nat.le_refl _) ⟨rfl, rfl, E⟩
    · replace E := E.2 c56
      refine z_iload hC dX3_share_169 9 rfl ?_
      refine z_bipush (v := 7) hC dX3_share_171 rfl ?_
      obtain ⟨K58, hK59, EE⟩ := JN_use E (fun K58 : Dy → Prop => ∀ (D57 : Dy), K58 D57 → ZM l G p e s m args below meth c 19 3 S (PV S post) S D57 245 [(0, .ref (G.1 + (t + 9))), (2, .int a2), (4, .long w1), (6, .long w20), (8, .long w32), (10, .long w44), (12, .long w46), (14, .long w48), (16, .long w50), (18, .int v52)] []) (by
        intro D57 E
        obtain ⟨v60, h61⟩ : ∃ y : Int32, y = v52 + 1 := ⟨_, rfl⟩
        replace E := E v60 h61
        refine z_iinc (q := 9) (v := v60) (lv' := [(18, .int v60), (0, .ref (G.1 + (t + 9))), (2, .int a2), (4, .long w1), (6, .long w20), (8, .long w32), (10, .long w44), (12, .long w46), (14, .long w48), (16, .long w50)]) hC dX3_share_245 rfl (by rw [h61]; rfl) (Nat.le_of_ble_eq_true rfl) rfl ?_
        refine z_goto (tgt := 162) hC dX3_share_248 (by decide) ?_
        refine z_sub [1, 2, 3, 4, 5, 6, 7, 8, 9, 0] rfl ?_
        exact hrec55 v60 D57 E)
      replace E := EE
      clear EE
      obtain ⟨K62, hK63, EE⟩ := JN_use E (fun K62 : Prop => K62 → ZM l G p e s m args below meth c 19 3 S (PV S post) S D53 185 [(0, .ref (G.1 + (t + 9))), (2, .int a2), (4, .long w1), (6, .long w20), (8, .long w32), (10, .long w44), (12, .long w46), (14, .long w48), (16, .long w50), (18, .int v52)] []) (by
        intro E
        refine z_aload_n hC dX3_share_185 rfl 0 rfl ?_
        refine z_get hC (lfm_X3_41 hM.kd) (kO hM) dX3_share_186 (fVm_4 hM) ?_
        refine z_iload hC dX3_share_189 9 rfl ?_
        refine z_lload hC dX3_share_191 6 rfl ?_
        refine z_aload_n hC dX3_share_193 rfl 0 rfl ?_
        refine z_iload hC dX3_share_194 9 rfl ?_
        refine z_iconst (v := 0) hC dX3_share_196 rfl ?_
        refine zv_X3_33 (rest := [.long w46, .int v52, .ref (G.1 + (t + 11))]) hC hF hM E rfl (Nat.le_of_ble_eq_true rfl) ⟨Nat.le_of_ble_eq_true rfl, Nat.le_of_ble_eq_true rfl⟩ ⟨Nat.le_refl _, Nat.le_refl _⟩ dX3_share_197 ?_
        rintro _ _ _ ⟨v64, rfl, rfl, rfl, E⟩
        refine z_i2l hC dX3_share_200 ?_
        refine z_lmul hC dX3_share_201 ?_
        refine z_lload hC dX3_share_202 7 rfl ?_
        refine z_aload_n hC dX3_share_204 rfl 0 rfl ?_
        refine z_iload hC dX3_share_205 9 rfl ?_
        refine z_iconst (v := 1) hC dX3_share_207 rfl ?_
        refine zv_X3_33 (rest := [.long w48, .long (w46 * (v64).toInt64), .int v52, .ref (G.1 + (t + 11))]) hC hF hM E rfl (Nat.le_of_ble_eq_true rfl) ⟨Nat.le_of_ble_eq_true rfl, Nat.le_of_ble_eq_true rfl⟩ ⟨Nat.le_refl _, Nat.le_refl _⟩ dX3_share_208 ?_
        rintro _ _ _ ⟨v69, rfl, rfl, rfl, E⟩
        refine z_i2l hC dX3_share_211 ?_
        refine z_lmul hC dX3_share_212 ?_
        refine z_ladd hC dX3_share_213 ?_
        refine z_lload hC dX3_share_214 8 rfl ?_
        refine z_aload_n hC dX3_share_216 rfl 0 rfl ?_
        refine z_iload hC dX3_share_217 9 rfl ?_
        refine z_iconst (v := 2) hC dX3_share_219 rfl ?_
        refine zv_X3_33 (rest := [.long w50, .long ((w46 * (v64).toInt64) + (w48 * (v69).toInt64)), .int v52, .ref (G.1 + (t + 11))]) hC hF hM E rfl (Nat.le_of_ble_eq_true rfl) ⟨Nat.le_of_ble_eq_true rfl, Nat.le_of_ble_eq_true rfl⟩ ⟨Nat.le_refl _, Nat.le_refl _⟩ dX3_share_220 ?_
        rintro _ _ _ ⟨v74, rfl, rfl, rfl, E⟩
        refine z_i2l hC dX3_share_223 ?_
        refine z_lmul hC dX3_share_224 ?_
        refine z_ladd hC dX3_share_225 ?_
        refine z_last hC (kO_11 hM) (nO_11 hM) E.1 dX3_share_226 ?_
        replace E := E.2
        refine z_topD (fun D79 h80 => ?_)
        replace E := E D79 h80
        refine z_aload_n hC dX3_share_227 rfl 0 rfl ?_
        refine z_get hC (lfm_X3_45 hM.kd) (kO hM) dX3_share_228 (fVm_5 hM) ?_
        refine z_iload hC dX3_share_231 9 rfl ?_
        refine z_lload hC dX3_share_233 2 rfl ?_
        refine z_lload hC dX3_share_235 3 rfl ?_
        refine z_lmul hC dX3_share_237 ?_
        refine z_lload hC dX3_share_238 4 rfl ?_
        refine z_lmul hC dX3_share_240 ?_
        refine z_lload hC dX3_share_241 5 rfl ?_
        refine z_lmul hC dX3_share_243 ?_
        refine z_last hC (kO_12 hM) (nO_12 hM) E.1 dX3_share_244 ?_
        replace E := E.2
        refine z_topD (fun D81 h82 => ?_)
        replace E := E D81 h82
        exact hK59 D81 E)
      replace E := EE
      clear EE
      refine z_icmp_eq (tgt := 185) hC dX3_share_173 (by decide) (fun c83 => ?_) (fun c83 => ?_)
      · replace E := E.1 c83
        exact hK63  E
      · replace E := E.2 c83
        refine z_iload hC dX3_share_176 9 rfl ?_
        refine z_iload_n hC dX3_share_178 rfl 1 rfl ?_
        refine z_callSN (rest := []) hC lk_X3_37 in_X11_isIn cd_X11_isIn ds_X11_isIn ⟨Nat.le_of_ble_eq_true rfl, Nat.le_of_ble_eq_true rfl⟩ st_X11_isIn (ct_X11_isIn hF E) rfl rfl (Nat.le_of_ble_eq_true rfl) ⟨Nat.le_refl _, Nat.le_refl _⟩ dX3_share_179 ?_
        rintro _ _ _ ⟨v85, rfl, rfl, rfl, E⟩
        refine z_if_eq (tgt := 245) hC dX3_share_182 (by decide) (fun c89 => ?_) (fun c89 => ?_)
        · replace E := E.1 c89
          exact hK59 D53 E
        · replace E := E.2 c89
          exact hK63  E
  · replace E := E.2 c3
    refine z_aload_n hC dX3_share_39 rfl 1 rfl ?_
    refine z_aload_n hC dX3_share_40 rfl 2 rfl ?_
    refine z_iload_n hC dX3_share_41 rfl 3 rfl ?_
    refine z_iload_n hC dX3_share_42 rfl 4 rfl ?_
    obtain ⟨C, T, hci, hc13⟩ := cfm hM.kd
    refine z_callSU (rest := []) hC lk_X3_21 sms_X7_share sup_X3_X7_share iy_X7_share in_X7_share cd_X7_share (by decide) dn_X7_share ⟨Nat.le_of_ble_eq_true rfl, Nat.le_of_ble_eq_true rfl⟩ hci hc13 (kO hM) (ct_X7_share hF hM (by decide) E) rfl rfl (Nat.le_of_ble_eq_true rfl) ⟨Nat.le_refl _, Nat.le_refl _⟩ dX3_share_43 ?_
    rintro _ _ D95 ⟨rfl, rfl, E⟩
    exact z_vret hC dX3_share_46 (Nat.le_refl _) (Nat.le_refl _) ⟨rfl, rfl, E⟩
def fX4_greatestWeight (t : Nat) (kd : Nat) (a2 : Int32) (a3 : Int32) (D : Dy) (post : Int32 → Prop) : Prop :=
  (LP2 (fun (rec3 : Int32 → Int32 → Prop) (v1 : Int32) (v2 : Int32) => (((D.1 1 3) ≤ v2 → post v1) ∧ (¬ (D.1 1 3) ≤ v2 → (fX11_isIn v2 a2 (fun (v7 : Int32) => (JN (fun (v11 : Int32) => (∀ v14 : Int32, v14 = v2 + 1 → (rec3 v11 v14))) (fun K12 : Int32 → Prop => ((v7 = 0 → (K12 v1)) ∧ (¬ v7 = 0 → (v_weighed t kd v2 a3 D (fun (v17 : Int32) => (∀ v22 : Int32, v22 = (if v1 < v17 then v17 else v1) → (K12 v22))))))))))))) FU (0 : Int32) (0 : Int32))
set_option maxHeartbeats 4000000 in
set_option maxRecDepth 100000 in
theorem ct_X4_greatestWeight {l : Launch} {G : Gl} {S : Sh} {D : Dy} {mdl : Nat → Option (Nat × Nat)} (hF : FX S mdl) {t : Nat} {kd : Nat} (hM : FMo S t kd) {a2 : Int32} {a3 : Int32} {post : Int32 → Prop} (E : fX4_greatestWeight t kd a2 a3 D post) : Ct l G yX4_greatestWeight cX4_greatestWeight 6 (some .int) 1 0 0 S D [.ref (G.1 + (t + 9)), .ref (G.1 + 1), .int a2, .int a3] (PIr S D post) := by
  refine z_enter (lv0 := [(0, .ref (G.1 + (t + 9))), (1, .ref (G.1 + 1)), (2, .int a2), (3, .int a3)]) pl_4 (Nat.le_of_ble_eq_true rfl) rfl ?_
  intro p e s m args below meth c hC hnm
  unfold fX4_greatestWeight at E
  have hT := hM.ft
  refine z_iconst (v := 0) hC dX4_greatestWeight_0 rfl ?_
  refine z_istore (lv' := [(4, .int (0 : Int32)), (0, .ref (G.1 + (t + 9))), (1, .ref (G.1 + 1)), (2, .int a2), (3, .int a3)]) hC dX4_greatestWeight_1 (Nat.le_of_ble_eq_true rfl) rfl ?_
  refine z_iconst (v := 0) hC dX4_greatestWeight_3 rfl ?_
  refine z_istore (lv' := [(5, .int (0 : Int32)), (4, .int (0 : Int32)), (0, .ref (G.1 + (t + 9))), (1, .ref (G.1 + 1)), (2, .int a2), (3, .int a3)]) hC dX4_greatestWeight_4 (Nat.le_of_ble_eq_true rfl) rfl ?_
  refine z_sub [2, 3, 4, 5, 1, 0] rfl ?_
  refine LP2_use (fun (v1 : Int32) (v2 : Int32) => ZM l G p e s m args below meth c 6 1 S (PIr S D post) S D 6 [(0, .ref (G.1 + (t + 9))), (1, .ref (G.1 + 1)), (2, .int a2), (3, .int a3), (4, .int v1), (5, .int v2)] []) ?_ FU (0 : Int32) (0 : Int32) E
  intro rec3 hrec4 v1 v2 E
  refine z_iload hC dX4_greatestWeight_6 5 rfl ?_
  refine z_aload_n hC dX4_greatestWeight_8 rfl 1 rfl ?_
  refine z_get hC lf_X4_71_1 (kX_1 hF) dX4_greatestWeight_9 (fV_int rfl) ?_
  refine z_icmp_ge (tgt := 44) hC dX4_greatestWeight_12 (by decide) (fun c5 => ?_) (fun c5 => ?_)
  · replace E := E.1 c5
    refine z_iload hC dX4_greatestWeight_44 4 rfl ?_
    exact z_iret hC dX4_greatestWeight_46 (Nat.le_refl _) (Nat.le_refl _) ⟨_, rfl, rfl, rfl, E⟩
  · replace E := E.2 c5
    refine z_iload hC dX4_greatestWeight_15 5 rfl ?_
    refine z_iload_n hC dX4_greatestWeight_17 rfl 2 rfl ?_
    refine z_callSN (rest := []) hC lk_X4_52 in_X11_isIn cd_X11_isIn ds_X11_isIn ⟨Nat.le_of_ble_eq_true rfl, Nat.le_of_ble_eq_true rfl⟩ st_X11_isIn (ct_X11_isIn hF E) rfl rfl (Nat.le_of_ble_eq_true rfl) ⟨Nat.le_refl _, Nat.le_refl _⟩ dX4_greatestWeight_18 ?_
    rintro _ _ _ ⟨v7, rfl, rfl, rfl, E⟩
    obtain ⟨K12, hK13, EE⟩ := JN_use E (fun K12 : Int32 → Prop => ∀ (v11 : Int32), K12 v11 → ZM l G p e s m args below meth c 6 1 S (PIr S D post) S D 38 [(0, .ref (G.1 + (t + 9))), (1, .ref (G.1 + 1)), (2, .int a2), (3, .int a3), (4, .int v11), (5, .int v2)] []) (by
      intro v11 E
      obtain ⟨v14, h15⟩ : ∃ y : Int32, y = v2 + 1 := ⟨_, rfl⟩
      replace E := E v14 h15
      refine z_iinc (q := 5) (v := v14) (lv' := [(5, .int v14), (0, .ref (G.1 + (t + 9))), (1, .ref (G.1 + 1)), (2, .int a2), (3, .int a3), (4, .int v11)]) hC dX4_greatestWeight_38 rfl (by rw [h15]; rfl) (Nat.le_of_ble_eq_true rfl) rfl ?_
      refine z_goto (tgt := 6) hC dX4_greatestWeight_41 (by decide) ?_
      refine z_sub [1, 2, 3, 4, 5, 0] rfl ?_
      exact hrec4 v11 v14 E)
    replace E := EE
    clear EE
    refine z_if_eq (tgt := 38) hC dX4_greatestWeight_21 (by decide) (fun c16 => ?_) (fun c16 => ?_)
    · replace E := E.1 c16
      exact hK13 v1 E
    · replace E := E.2 c16
      refine z_iload hC dX4_greatestWeight_24 4 rfl ?_
      refine z_aload_n hC dX4_greatestWeight_26 rfl 0 rfl ?_
      refine z_iload hC dX4_greatestWeight_27 5 rfl ?_
      refine z_iload_n hC dX4_greatestWeight_29 rfl 3 rfl ?_
      refine zv_X4_78 (rest := [.int v1]) hC hF hM (by have := hM.kd; omega) E rfl (Nat.le_of_ble_eq_true rfl) ⟨Nat.le_of_ble_eq_true rfl, Nat.le_of_ble_eq_true rfl⟩ ⟨Nat.le_refl _, Nat.le_refl _⟩ dX4_greatestWeight_30 ?_
      rintro _ _ _ ⟨v17, rfl, rfl, rfl, E⟩
      refine z_mmax hC lk_X4_65 sm_max im_Math cm_max ⟨Nat.le_of_ble_eq_true rfl, Nat.le_of_ble_eq_true rfl⟩ ⟨Nat.zero_le _, Nat.zero_le _⟩ (Nat.le_of_ble_eq_true rfl) dX4_greatestWeight_33 ?_
      refine z_topi (fun v22 h23 => ?_)
      replace E := E v22 h23
      refine z_istore (lv' := [(4, .int v22), (0, .ref (G.1 + (t + 9))), (1, .ref (G.1 + 1)), (2, .int a2), (3, .int a3), (5, .int v2)]) hC dX4_greatestWeight_36 (Nat.le_of_ble_eq_true rfl) rfl ?_
      refine z_sub [1, 2, 3, 4, 0, 5] rfl ?_
      exact hK13 v22 E
def fX4_isBeaten (t : Nat) (kd : Nat) (a1 : Int32) (D : Dy) (post : Int32 → Prop) : Prop :=
  (LP1 (fun (rec2 : Int32 → Prop) (v1 : Int32) => (((8 : Int32) ≤ v1 → post (0 : Int32)) ∧ (¬ (8 : Int32) ≤ v1 → (vp_in v1 8 ∧ (vp_in a1 8 ∧ (vp_in a1 8 ∧ (vp_in v1 8 ∧ (((lg_cmp ((D.2 (t + 11) (v1).toNatClampNeg) * (D.2 (t + 12) (a1).toNatClampNeg)) ((D.2 (t + 11) (a1).toNatClampNeg) * (D.2 (t + 12) (v1).toNatClampNeg))) ≤ 0 → (∀ v6 : Int32, v6 = v1 + 1 → (rec2 v6))) ∧ (¬ (lg_cmp ((D.2 (t + 11) (v1).toNatClampNeg) * (D.2 (t + 12) (a1).toNatClampNeg)) ((D.2 (t + 11) (a1).toNatClampNeg) * (D.2 (t + 12) (v1).toNatClampNeg))) ≤ 0 → post (1 : Int32)))))))))) FU (0 : Int32))
set_option maxHeartbeats 4000000 in
set_option maxRecDepth 100000 in
theorem ct_X4_isBeaten {l : Launch} {G : Gl} {S : Sh} {D : Dy} {mdl : Nat → Option (Nat × Nat)} (hF : FX S mdl) {t : Nat} {kd : Nat} (hM : FMo S t kd) {a1 : Int32} {post : Int32 → Prop} (E : fX4_isBeaten t kd a1 D post) : Ct l G yX4_isBeaten cX4_isBeaten 3 (some .boolean) 0 0 0 S D [.ref (G.1 + (t + 9)), .int a1] (PIr S D post) := by
  refine z_enter (lv0 := [(0, .ref (G.1 + (t + 9))), (1, .int a1)]) pl_4 (Nat.le_of_ble_eq_true rfl) rfl ?_
  intro p e s m args below meth c hC hnm
  unfold fX4_isBeaten at E
  have hT := hM.ft
  refine z_iconst (v := 0) hC dX4_isBeaten_0 rfl ?_
  refine z_istore_n (lv' := [(2, .int (0 : Int32)), (0, .ref (G.1 + (t + 9))), (1, .int a1)]) hC dX4_isBeaten_1 rfl (Nat.le_of_ble_eq_true rfl) rfl ?_
  refine z_sub [1, 2, 0] rfl ?_
  refine LP1_use (fun (v1 : Int32) => ZM l G p e s m args below meth c 3 0 S (PIr S D post) S D 2 [(0, .ref (G.1 + (t + 9))), (1, .int a1), (2, .int v1)] []) ?_ FU (0 : Int32) E
  intro rec2 hrec3 v1 E
  refine z_iload_n hC dX4_isBeaten_2 rfl 2 rfl ?_
  refine z_bipush (v := 8) hC dX4_isBeaten_3 rfl ?_
  refine z_icmp_ge (tgt := 46) hC dX4_isBeaten_5 (by decide) (fun c4 => ?_) (fun c4 => ?_)
  · replace E := E.1 c4
    refine z_iconst (v := 0) hC dX4_isBeaten_46 rfl ?_
    exact z_zret hC dX4_isBeaten_47 (Or.inl rfl) (Nat.le_refl _) (Nat.le_refl _) ⟨_, rfl, rfl, rfl, E⟩
  · replace E := E.2 c4
    refine z_aload_n hC dX4_isBeaten_8 rfl 0 rfl ?_
    refine z_get hC (lfm_X4_15 hM.kd) (kO hM) dX4_isBeaten_9 (fVm_4 hM) ?_
    refine z_iload_n hC dX4_isBeaten_12 rfl 2 rfl ?_
    refine z_lald hC (kO_11 hM) (nO_11 hM) E.1 dX4_isBeaten_13 ?_
    replace E := E.2
    refine z_aload_n hC dX4_isBeaten_14 rfl 0 rfl ?_
    refine z_get hC (lfm_X4_19 hM.kd) (kO hM) dX4_isBeaten_15 (fVm_5 hM) ?_
    refine z_iload_n hC dX4_isBeaten_18 rfl 1 rfl ?_
    refine z_lald hC (kO_12 hM) (nO_12 hM) E.1 dX4_isBeaten_19 ?_
    replace E := E.2
    refine z_lmul hC dX4_isBeaten_20 ?_
    refine z_aload_n hC dX4_isBeaten_21 rfl 0 rfl ?_
    refine z_get hC (lfm_X4_15 hM.kd) (kO hM) dX4_isBeaten_22 (fVm_4 hM) ?_
    refine z_iload_n hC dX4_isBeaten_25 rfl 1 rfl ?_
    refine z_lald hC (kO_11 hM) (nO_11 hM) E.1 dX4_isBeaten_26 ?_
    replace E := E.2
    refine z_aload_n hC dX4_isBeaten_27 rfl 0 rfl ?_
    refine z_get hC (lfm_X4_19 hM.kd) (kO hM) dX4_isBeaten_28 (fVm_5 hM) ?_
    refine z_iload_n hC dX4_isBeaten_31 rfl 2 rfl ?_
    refine z_lald hC (kO_12 hM) (nO_12 hM) E.1 dX4_isBeaten_32 ?_
    replace E := E.2
    refine z_lmul hC dX4_isBeaten_33 ?_
    refine z_lcmp hC dX4_isBeaten_34 ?_
    refine z_if_le (tgt := 40) hC dX4_isBeaten_35 (by decide) (fun c5 => ?_) (fun c5 => ?_)
    · replace E := E.1 c5
      obtain ⟨v6, h7⟩ : ∃ y : Int32, y = v1 + 1 := ⟨_, rfl⟩
      replace E := E v6 h7
      refine z_iinc (q := 2) (v := v6) (lv' := [(2, .int v6), (0, .ref (G.1 + (t + 9))), (1, .int a1)]) hC dX4_isBeaten_40 rfl (by rw [h7]; rfl) (Nat.le_of_ble_eq_true rfl) rfl ?_
      refine z_goto (tgt := 2) hC dX4_isBeaten_43 (by decide) ?_
      refine z_sub [1, 2, 0] rfl ?_
      exact hrec3 v6 E
    · replace E := E.2 c5
      refine z_iconst (v := 1) hC dX4_isBeaten_38 rfl ?_
      exact z_zret hC dX4_isBeaten_39 (Or.inr rfl) (Nat.le_refl _) (Nat.le_refl _) ⟨_, rfl, rfl, rfl, E⟩
def fX4_weightOf (t : Nat) (kd : Nat) (a2 : Int32) (a3 : Int32) (D : Dy) (post : Int32 → Prop) : Prop :=
  ((¬ a2 = (7 : Int32) → (vp_in a2 6 ∧ (∀ v2 : Int32, v2 = (D.1 (t + 1) (a2).toNatClampNeg) → (LP2 (fun (rec6 : Int32 → Int32 → Prop) (v4 : Int32) (v5 : Int32) => (((8 : Int32) ≤ v5 → (vp_in a2 6 ∧ (∀ v9 : Int32, v9 = (v4 - (((D.1 t 6) * (D.1 3 (a2).toNatClampNeg)) / (10 : Int32))) → (∀ v11 : Int32, v11 = (if (1 : Int32) < v9 then v9 else (1 : Int32)) → (JN (fun (v13 : Int32) => (∀ v16 : Int32, v16 = (if (50 : Int32) < v13 then (50 : Int32) else v13) → post v16)) (fun K14 : Int32 → Prop => ((¬ (a2 - a2 / (3 : Int32) * (3 : Int32)) = a3 → (K14 v11)) ∧ ((a2 - a2 / (3 : Int32) * (3 : Int32)) = a3 → (vp_in a3 3 ∧ (∀ v19 : Int32, v19 = (D.1 (t + 4) (a3).toNatClampNeg) → (∀ v21 : Int32, v21 = (if (1 : Int32) < v19 then v19 else (1 : Int32)) → (∀ v23 : Int32, v23 = (v11 * v21) → (K14 v23))))))))))))) ∧ (¬ (8 : Int32) ≤ v5 → (vp_in a2 6 ∧ (fX11_isIn v5 (D.1 2 (a2).toNatClampNeg) (fun (v26 : Int32) => (JN (fun (v30 : Int32) => (∀ v33 : Int32, v33 = v5 + 1 → (rec6 v30 v33))) (fun K31 : Int32 → Prop => ((v26 = 0 → (K31 v4)) ∧ (¬ v26 = 0 → (vp_in v5 8 ∧ (∀ v36 : Int32, v36 = (v4 + (D.1 (t + 2) (v5).toNatClampNeg)) → (K31 v36))))))))))))) FU v2 (0 : Int32))))) ∧ (a2 = (7 : Int32) → (∀ v38 : Int32, v38 = (D.1 t 7) → (∀ v40 : Int32, v40 = (if (50 : Int32) < v38 then (50 : Int32) else v38) → post v40))))
set_option maxHeartbeats 4000000 in
set_option maxRecDepth 100000 in
theorem ct_X4_weightOf {l : Launch} {G : Gl} {S : Sh} {D : Dy} {mdl : Nat → Option (Nat × Nat)} (hF : FX S mdl) {t : Nat} {kd : Nat} (hM : FMo S t kd) {a2 : Int32} {a3 : Int32} {post : Int32 → Prop} (E : fX4_weightOf t kd a2 a3 D post) : Ct l G yX4_weightOf cX4_weightOf 6 (some .int) 1 0 0 S D [.ref (G.1 + (t + 9)), .ref (G.1 + 1), .int a2, .int a3] (PIr S D post) := by
  refine z_enter (lv0 := [(0, .ref (G.1 + (t + 9))), (1, .ref (G.1 + 1)), (2, .int a2), (3, .int a3)]) pl_4 (Nat.le_of_ble_eq_true rfl) rfl ?_
  intro p e s m args below meth c hC hnm
  unfold fX4_weightOf at E
  have hT := hM.ft
  refine z_iload_n hC dX4_weightOf_0 rfl 2 rfl ?_
  refine z_bipush (v := 7) hC dX4_weightOf_1 rfl ?_
  refine z_icmp_ne (tgt := 19) hC dX4_weightOf_3 (by decide) (fun c1 => ?_) (fun c1 => ?_)
  · replace E := E.1 c1
    refine z_aload_n hC dX4_weightOf_19 rfl 0 rfl ?_
    refine z_get hC (lfm_X4_29 hM.kd) (kO hM) dX4_weightOf_20 (fVm_2 hM) ?_
    refine z_get hC lf_X4_44_9 (kT_0 hT) dX4_weightOf_23 (fV_ref rfl (rT_4 hT)) ?_
    refine z_iload_n hC dX4_weightOf_26 rfl 2 rfl ?_
    refine z_iald hC (kT_1 hT) (nT_1 hT) E.1 dX4_weightOf_27 ?_
    replace E := E.2
    refine z_topi (fun v2 h3 => ?_)
    replace E := E v2 h3
    refine z_istore (lv' := [(4, .int v2), (0, .ref (G.1 + (t + 9))), (1, .ref (G.1 + 1)), (2, .int a2), (3, .int a3)]) hC dX4_weightOf_28 (Nat.le_of_ble_eq_true rfl) rfl ?_
    refine z_iconst (v := 0) hC dX4_weightOf_30 rfl ?_
    refine z_istore (lv' := [(5, .int (0 : Int32)), (4, .int v2), (0, .ref (G.1 + (t + 9))), (1, .ref (G.1 + 1)), (2, .int a2), (3, .int a3)]) hC dX4_weightOf_31 (Nat.le_of_ble_eq_true rfl) rfl ?_
    refine z_sub [2, 3, 4, 5, 1, 0] rfl ?_
    refine LP2_use (fun (v4 : Int32) (v5 : Int32) => ZM l G p e s m args below meth c 6 1 S (PIr S D post) S D 33 [(0, .ref (G.1 + (t + 9))), (1, .ref (G.1 + 1)), (2, .int a2), (3, .int a3), (4, .int v4), (5, .int v5)] []) ?_ FU v2 (0 : Int32) E
    intro rec6 hrec7 v4 v5 E
    refine z_iload hC dX4_weightOf_33 5 rfl ?_
    refine z_bipush (v := 8) hC dX4_weightOf_35 rfl ?_
    refine z_icmp_ge (tgt := 75) hC dX4_weightOf_37 (by decide) (fun c8 => ?_) (fun c8 => ?_)
    · replace E := E.1 c8
      refine z_iconst (v := 1) hC dX4_weightOf_75 rfl ?_
      refine z_iload hC dX4_weightOf_76 4 rfl ?_
      refine z_aload_n hC dX4_weightOf_78 rfl 0 rfl ?_
      refine z_get hC (lfm_X4_29 hM.kd) (kO hM) dX4_weightOf_79 (fVm_2 hM) ?_
      refine z_get hC lf_X4_59_9 (kT_0 hT) dX4_weightOf_82 (fV_int rfl) ?_
      refine z_aload_n hC dX4_weightOf_85 rfl 1 rfl ?_
      refine z_get hC lf_X4_62_1 (kX_1 hF) dX4_weightOf_86 (fV_ref rfl (rX_1_1 hF)) ?_
      refine z_iload_n hC dX4_weightOf_89 rfl 2 rfl ?_
      refine z_iald hC (kX_3 hF) (nX_3 hF) E.1 dX4_weightOf_90 ?_
      replace E := E.2
      refine z_imul hC dX4_weightOf_91 ?_
      refine z_bipush (v := 10) hC dX4_weightOf_92 rfl ?_
      refine z_idiv hC dX4_weightOf_94 (by decide) ?_
      refine z_isub hC dX4_weightOf_95 ?_
      refine z_topi (fun v9 h10 => ?_)
      replace E := E v9 h10
      refine z_mmax hC lk_X4_65 sm_max im_Math cm_max ⟨Nat.le_of_ble_eq_true rfl, Nat.le_of_ble_eq_true rfl⟩ ⟨Nat.zero_le _, Nat.zero_le _⟩ (Nat.le_of_ble_eq_true rfl) dX4_weightOf_96 ?_
      refine z_topi (fun v11 h12 => ?_)
      replace E := E v11 h12
      refine z_istore (lv' := [(4, .int v11), (0, .ref (G.1 + (t + 9))), (1, .ref (G.1 + 1)), (2, .int a2), (3, .int a3), (5, .int v5)]) hC dX4_weightOf_99 (Nat.le_of_ble_eq_true rfl) rfl ?_
      refine z_iload_n hC dX4_weightOf_101 rfl 3 rfl ?_
      refine z_iconst (v := 3) hC dX4_weightOf_102 rfl ?_
      refine z_irem hC dX4_weightOf_103 (by decide) ?_
      refine z_iload_n hC dX4_weightOf_104 rfl 4 rfl ?_
      obtain ⟨K14, hK15, EE⟩ := JN_use E (fun K14 : Int32 → Prop => ∀ (v13 : Int32), K14 v13 → ZM l G p e s m args below meth c 6 1 S (PIr S D post) S D 126 [(4, .int v13)] []) (by
        intro v13 E
        refine z_iload hC dX4_weightOf_126 0 rfl ?_
        refine z_bipush (v := 50) hC dX4_weightOf_128 rfl ?_
        refine z_mmin hC lk_X4_38 sm_min im_Math cm_min ⟨Nat.le_of_ble_eq_true rfl, Nat.le_of_ble_eq_true rfl⟩ ⟨Nat.zero_le _, Nat.zero_le _⟩ (Nat.le_of_ble_eq_true rfl) dX4_weightOf_130 ?_
        refine z_topi (fun v16 h17 => ?_)
        replace E := E v16 h17
        exact z_iret hC dX4_weightOf_133 (Nat.le_refl _) (Nat.le_refl _) ⟨_, rfl, rfl, rfl, E⟩)
      replace E := EE
      clear EE
      refine z_icmp_ne (tgt := 126) hC dX4_weightOf_105 (by decide) (fun c18 => ?_) (fun c18 => ?_)
      · replace E := E.1 c18
        refine z_sub [0] rfl ?_
        exact hK15 v11 E
      · replace E := E.2 c18
        refine z_iload hC dX4_weightOf_108 0 rfl ?_
        refine z_iconst (v := 1) hC dX4_weightOf_110 rfl ?_
        refine z_aload_n hC dX4_weightOf_111 rfl 1 rfl ?_
        refine z_get hC (lfm_X4_29 hM.kd) (kO hM) dX4_weightOf_112 (fVm_2 hM) ?_
        refine z_get hC lf_X4_68_9 (kT_0 hT) dX4_weightOf_115 (fV_ref rfl (rT_10 hT)) ?_
        refine z_iload_n hC dX4_weightOf_118 rfl 4 rfl ?_
        refine z_iald hC (kT_4 hT) (nT_4 hT) E.1 dX4_weightOf_119 ?_
        replace E := E.2
        refine z_topi (fun v19 h20 => ?_)
        replace E := E v19 h20
        refine z_mmax hC lk_X4_65 sm_max im_Math cm_max ⟨Nat.le_of_ble_eq_true rfl, Nat.le_of_ble_eq_true rfl⟩ ⟨Nat.zero_le _, Nat.zero_le _⟩ (Nat.le_of_ble_eq_true rfl) dX4_weightOf_120 ?_
        refine z_topi (fun v21 h22 => ?_)
        replace E := E v21 h22
        refine z_imul hC dX4_weightOf_123 ?_
        refine z_topi (fun v23 h24 => ?_)
        replace E := E v23 h24
        refine z_istore (lv' := [(4, .int v23), (0, .ref (G.1 + (t + 9))), (1, .ref (G.1 + 1)), (2, .int a2), (3, .int a3), (5, .int v5)]) hC dX4_weightOf_124 (Nat.le_of_ble_eq_true rfl) rfl ?_
        refine z_sub [0] rfl ?_
        exact hK15 v23 E
    · replace E := E.2 c8
      refine z_iload hC dX4_weightOf_40 5 rfl ?_
      refine z_aload_n hC dX4_weightOf_42 rfl 1 rfl ?_
      refine z_get hC lf_X4_47_1 (kX_1 hF) dX4_weightOf_43 (fV_ref rfl (rX_1_0 hF)) ?_
      refine z_iload_n hC dX4_weightOf_46 rfl 2 rfl ?_
      refine z_iald hC (kX_2 hF) (nX_2 hF) E.1 dX4_weightOf_47 ?_
      replace E := E.2
      refine z_callSN (rest := []) hC lk_X4_52 in_X11_isIn cd_X11_isIn ds_X11_isIn ⟨Nat.le_of_ble_eq_true rfl, Nat.le_of_ble_eq_true rfl⟩ st_X11_isIn (ct_X11_isIn hF E) rfl rfl (Nat.le_of_ble_eq_true rfl) ⟨Nat.le_refl _, Nat.le_refl _⟩ dX4_weightOf_48 ?_
      rintro _ _ _ ⟨v26, rfl, rfl, rfl, E⟩
      obtain ⟨K31, hK32, EE⟩ := JN_use E (fun K31 : Int32 → Prop => ∀ (v30 : Int32), K31 v30 → ZM l G p e s m args below meth c 6 1 S (PIr S D post) S D 69 [(0, .ref (G.1 + (t + 9))), (1, .ref (G.1 + 1)), (2, .int a2), (3, .int a3), (4, .int v30), (5, .int v5)] []) (by
        intro v30 E
        obtain ⟨v33, h34⟩ : ∃ y : Int32, y = v5 + 1 := ⟨_, rfl⟩
        replace E := E v33 h34
        refine z_iinc (q := 5) (v := v33) (lv' := [(5, .int v33), (0, .ref (G.1 + (t + 9))), (1, .ref (G.1 + 1)), (2, .int a2), (3, .int a3), (4, .int v30)]) hC dX4_weightOf_69 rfl (by rw [h34]; rfl) (Nat.le_of_ble_eq_true rfl) rfl ?_
        refine z_goto (tgt := 33) hC dX4_weightOf_72 (by decide) ?_
        refine z_sub [1, 2, 3, 4, 5, 0] rfl ?_
        exact hrec7 v30 v33 E)
      replace E := EE
      clear EE
      refine z_if_eq (tgt := 69) hC dX4_weightOf_51 (by decide) (fun c35 => ?_) (fun c35 => ?_)
      · replace E := E.1 c35
        exact hK32 v4 E
      · replace E := E.2 c35
        refine z_iload hC dX4_weightOf_54 4 rfl ?_
        refine z_aload_n hC dX4_weightOf_56 rfl 0 rfl ?_
        refine z_get hC (lfm_X4_29 hM.kd) (kO hM) dX4_weightOf_57 (fVm_2 hM) ?_
        refine z_get hC lf_X4_56_9 (kT_0 hT) dX4_weightOf_60 (fV_ref rfl (rT_5 hT)) ?_
        refine z_iload hC dX4_weightOf_63 5 rfl ?_
        refine z_iald hC (kT_2 hT) (nT_2 hT) E.1 dX4_weightOf_65 ?_
        replace E := E.2
        refine z_iadd hC dX4_weightOf_66 ?_
        refine z_topi (fun v36 h37 => ?_)
        replace E := E v36 h37
        refine z_istore (lv' := [(4, .int v36), (0, .ref (G.1 + (t + 9))), (1, .ref (G.1 + 1)), (2, .int a2), (3, .int a3), (5, .int v5)]) hC dX4_weightOf_67 (Nat.le_of_ble_eq_true rfl) rfl ?_
        refine z_sub [1, 2, 3, 4, 0, 5] rfl ?_
        exact hK32 v36 E
  · replace E := E.2 c1
    refine z_aload_n hC dX4_weightOf_6 rfl 0 rfl ?_
    refine z_get hC (lfm_X4_29 hM.kd) (kO hM) dX4_weightOf_7 (fVm_2 hM) ?_
    refine z_get hC lf_X4_33_9 (kT_0 hT) dX4_weightOf_10 (fV_int rfl) ?_
    refine z_bipush (v := 50) hC dX4_weightOf_13 rfl ?_
    obtain ⟨v38, h39⟩ : ∃ y : Int32, y = (D.1 t 7) := ⟨_, rfl⟩
    replace E := E v38 h39
    rw [← h39]
    refine z_mmin hC lk_X4_38 sm_min im_Math cm_min ⟨Nat.le_of_ble_eq_true rfl, Nat.le_of_ble_eq_true rfl⟩ ⟨Nat.zero_le _, Nat.zero_le _⟩ (Nat.le_of_ble_eq_true rfl) dX4_weightOf_15 ?_
    refine z_topi (fun v40 h41 => ?_)
    replace E := E v40 h41
    exact z_iret hC dX4_weightOf_18 (Nat.le_refl _) (Nat.le_refl _) ⟨_, rfl, rfl, rfl, E⟩
def v_weightOf (t kd : Nat) (a2 : Int32) (a3 : Int32) (D : Dy) (post : Int32 → Prop) : Prop :=
  (kd = 0 → fX4_weightOf t 0 a2 a3 D post) ∧ (kd = 1 → fX4_weightOf t 1 a2 a3 D post) ∧ (kd = 2 → fX4_weightOf t 2 a2 a3 D post) ∧ (kd = 3 → fX4_weightOf t 3 a2 a3 D post) ∧ (kd = 4 → fX4_weightOf t 4 a2 a3 D post) ∧ (kd = 5 → fX4_weightOf t 5 a2 a3 D post)
theorem v_weightOf_0 {t : Nat} {a2 : Int32} {a3 : Int32} {D : Dy} {post : Int32 → Prop} (h : fX4_weightOf t 0 a2 a3 D post) : v_weightOf t 0 a2 a3 D post := ⟨fun _ => h, fun q => absurd q (by decide), fun q => absurd q (by decide), fun q => absurd q (by decide), fun q => absurd q (by decide), fun q => absurd q (by decide)⟩
theorem v_weightOf_1 {t : Nat} {a2 : Int32} {a3 : Int32} {D : Dy} {post : Int32 → Prop} (h : fX4_weightOf t 1 a2 a3 D post) : v_weightOf t 1 a2 a3 D post := ⟨fun q => absurd q (by decide), fun _ => h, fun q => absurd q (by decide), fun q => absurd q (by decide), fun q => absurd q (by decide), fun q => absurd q (by decide)⟩
theorem v_weightOf_2 {t : Nat} {a2 : Int32} {a3 : Int32} {D : Dy} {post : Int32 → Prop} (h : fX4_weightOf t 2 a2 a3 D post) : v_weightOf t 2 a2 a3 D post := ⟨fun q => absurd q (by decide), fun q => absurd q (by decide), fun _ => h, fun q => absurd q (by decide), fun q => absurd q (by decide), fun q => absurd q (by decide)⟩
theorem v_weightOf_3 {t : Nat} {a2 : Int32} {a3 : Int32} {D : Dy} {post : Int32 → Prop} (h : fX4_weightOf t 3 a2 a3 D post) : v_weightOf t 3 a2 a3 D post := ⟨fun q => absurd q (by decide), fun q => absurd q (by decide), fun q => absurd q (by decide), fun _ => h, fun q => absurd q (by decide), fun q => absurd q (by decide)⟩
theorem v_weightOf_4 {t : Nat} {a2 : Int32} {a3 : Int32} {D : Dy} {post : Int32 → Prop} (h : fX4_weightOf t 4 a2 a3 D post) : v_weightOf t 4 a2 a3 D post := ⟨fun q => absurd q (by decide), fun q => absurd q (by decide), fun q => absurd q (by decide), fun q => absurd q (by decide), fun _ => h, fun q => absurd q (by decide)⟩
theorem v_weightOf_5 {t : Nat} {a2 : Int32} {a3 : Int32} {D : Dy} {post : Int32 → Prop} (h : fX4_weightOf t 5 a2 a3 D post) : v_weightOf t 5 a2 a3 D post := ⟨fun q => absurd q (by decide), fun q => absurd q (by decide), fun q => absurd q (by decide), fun q => absurd q (by decide), fun q => absurd q (by decide), fun _ => h⟩
theorem cu_X4_74_0 : CU RX4 RX4 ⟨"WhyChosen$Model", "weightOf", "(LWhyChosen$Goods;II)I"⟩ yX4_weightOf := ⟨tw_589, tw_588, iy_X4_weightOf, iy_X4_weightOf, ⟨_, _, _, cd_X4_weightOf⟩, by decide +kernel, by decide +kernel⟩
theorem cu_X4_74_1 : CU RX7 RX4 ⟨"WhyChosen$Model", "weightOf", "(LWhyChosen$Goods;II)I"⟩ yX4_weightOf := ⟨tw_589, tw_593, iy_X4_weightOf, iy_X4_weightOf, ⟨_, _, _, cd_X4_weightOf⟩, by decide +kernel, by decide +kernel⟩
theorem cu_X4_74_2 : CU RX5 RX4 ⟨"WhyChosen$Model", "weightOf", "(LWhyChosen$Goods;II)I"⟩ yX4_weightOf := ⟨tw_589, tw_592, iy_X4_weightOf, iy_X4_weightOf, ⟨_, _, _, cd_X4_weightOf⟩, by decide +kernel, by decide +kernel⟩
theorem cu_X4_74_3 : CU RX3 RX4 ⟨"WhyChosen$Model", "weightOf", "(LWhyChosen$Goods;II)I"⟩ yX4_weightOf := ⟨tw_589, tw_591, iy_X4_weightOf, iy_X4_weightOf, ⟨_, _, _, cd_X4_weightOf⟩, by decide +kernel, by decide +kernel⟩
theorem cu_X4_74_4 : CU RX2 RX4 ⟨"WhyChosen$Model", "weightOf", "(LWhyChosen$Goods;II)I"⟩ yX4_weightOf := ⟨tw_589, tw_590, iy_X4_weightOf, iy_X4_weightOf, ⟨_, _, _, cd_X4_weightOf⟩, by decide +kernel, by decide +kernel⟩
theorem cu_X4_74_5 : CU RX8 RX4 ⟨"WhyChosen$Model", "weightOf", "(LWhyChosen$Goods;II)I"⟩ yX4_weightOf := ⟨tw_589, tw_594, iy_X4_weightOf, iy_X4_weightOf, ⟨_, _, _, cd_X4_weightOf⟩, by decide +kernel, by decide +kernel⟩
theorem lk_X4_74 : Cond.methodLink RX4 74 ⟨"WhyChosen$Model", "weightOf", "(LWhyChosen$Goods;II)I"⟩ ∈ TB := tw_636
section ZVV
variable {p : Program} {l : Launch} {e : Env} {R : Room} {s : State} {m : MethodId} {args : Array Value} {below : List Frame} {meth : Method} {c : Code} {nL : Nat} {k n : Nat} {Q : State → Prop} {pc : Nat} {lv : List (Nat × Value)} {st : List Value}
variable {G : Gl} {cc : ByteArray} {own : String} {ret : Option FieldType} {A : Nat → Prop} {S S' S0 : Sh} {D D' : Dy} {a N : Nat} {Wp : Heap → List Loc → Prop}

set_option maxRecDepth 100000 in
theorem zv_X4_74 (hC : CX G cc RX4 nL ret p s m args meth c) {mdl : Nat → Option (Nat × Nat)} (hF : FX S mdl) {t kd : Nat} (hM : FMo S t kd) (hk : kd < 6) {a2 : Int32} {a3 : Int32} {post : Int32 → Prop} (E : v_weightOf t kd a2 a3 D post) {rest : List Value} (hstk : st = List.reverse [.ref (G.1 + 1), .int a2, .int a3] ++ .ref (G.1 + (t + 9)) :: rest) (hrm : (rest.map fun v => v.category).sum ≤ 8) (hR : 1 + 1 ≤ R.frames ∧ 8 + (6 + 11) + 60 * 1 ≤ R.locals) (hkn : k + 0 ≤ R.cells ∧ n + 0 ≤ R.slots) (hd : decode cc pc = .ok (.invokevirtual 74, 3)) (kz : ∀ v S1 D1, (PIr S D post) v S1 D1 → Z p l e R s m args below meth c nL (WM G s A S1 D1) (k + 0) (n + 0) Q (pc + 3) lv (v.toList ++ rest)) : Z p l e R s m args below meth c nL (WM G s A S D) k n Q pc lv st := by
  obtain rfl | rfl | rfl | rfl | rfl | rfl : kd = 0 ∨ kd = 1 ∨ kd = 2 ∨ kd = 3 ∨ kd = 4 ∨ kd = 5 := by omega
  · exact z_callU (ci := 4) (C := RX4) (owner := RX4) (x := ⟨"WhyChosen$Model", "weightOf", "(LWhyChosen$Goods;II)I"⟩) (av := [.ref (G.1 + 1), .int a2, .int a3]) hC lk_X4_74 in_X4_weightOf cd_X4_weightOf dn_X4_weightOf (by omega) cu_X4_74_0 cf_4 (by decide) (kO hM) (ct_X4_weightOf hF hM (E.1 rfl)) rfl hstk hrm hkn hd kz
  · exact z_callU (ci := 7) (C := RX7) (owner := RX4) (x := ⟨"WhyChosen$Model", "weightOf", "(LWhyChosen$Goods;II)I"⟩) (av := [.ref (G.1 + 1), .int a2, .int a3]) hC lk_X4_74 in_X4_weightOf cd_X4_weightOf dn_X4_weightOf (by omega) cu_X4_74_1 cf_7 (by decide) (kO hM) (ct_X4_weightOf hF hM (E.2.1 rfl)) rfl hstk hrm hkn hd kz
  · exact z_callU (ci := 5) (C := RX5) (owner := RX4) (x := ⟨"WhyChosen$Model", "weightOf", "(LWhyChosen$Goods;II)I"⟩) (av := [.ref (G.1 + 1), .int a2, .int a3]) hC lk_X4_74 in_X4_weightOf cd_X4_weightOf dn_X4_weightOf (by omega) cu_X4_74_2 cf_5 (by decide) (kO hM) (ct_X4_weightOf hF hM (E.2.2.1 rfl)) rfl hstk hrm hkn hd kz
  · exact z_callU (ci := 3) (C := RX3) (owner := RX4) (x := ⟨"WhyChosen$Model", "weightOf", "(LWhyChosen$Goods;II)I"⟩) (av := [.ref (G.1 + 1), .int a2, .int a3]) hC lk_X4_74 in_X4_weightOf cd_X4_weightOf dn_X4_weightOf (by omega) cu_X4_74_3 cf_3 (by decide) (kO hM) (ct_X4_weightOf hF hM (E.2.2.2.1 rfl)) rfl hstk hrm hkn hd kz
  · exact z_callU (ci := 2) (C := RX2) (owner := RX4) (x := ⟨"WhyChosen$Model", "weightOf", "(LWhyChosen$Goods;II)I"⟩) (av := [.ref (G.1 + 1), .int a2, .int a3]) hC lk_X4_74 in_X4_weightOf cd_X4_weightOf dn_X4_weightOf (by omega) cu_X4_74_4 cf_2 (by decide) (kO hM) (ct_X4_weightOf hF hM (E.2.2.2.2.1 rfl)) rfl hstk hrm hkn hd kz
  · exact z_callU (ci := 8) (C := RX8) (owner := RX4) (x := ⟨"WhyChosen$Model", "weightOf", "(LWhyChosen$Goods;II)I"⟩) (av := [.ref (G.1 + 1), .int a2, .int a3]) hC lk_X4_74 in_X4_weightOf cd_X4_weightOf dn_X4_weightOf (by omega) cu_X4_74_5 cf_8 (by decide) (kO hM) (ct_X4_weightOf hF hM (E.2.2.2.2.2 rfl)) rfl hstk hrm hkn hd kz
end ZVV
def fX4_prepare (t : Nat) (kd : Nat) (D : Dy) (post : Dy → Prop) : Prop :=
  (LP2 (fun (rec3 : Int32 → Dy → Prop) (v1 : Int32) (D2 : Dy) => (((3 : Int32) ≤ v1 → post D2) ∧ (¬ (3 : Int32) ≤ v1 → (LP2 (fun (rec8 : Int32 → Dy → Prop) (v6 : Int32) (D7 : Dy) => (((D7.1 1 3) ≤ v6 → (v_weightOf t kd (7 : Int32) v1 D7 (fun (v11 : Int32) => (vp_in ((v1 * (8 : Int32)) + (7 : Int32)) 24 ∧ (∀ D16 : Dy, D16 = sI D7 (t + 10) (((v1 * (8 : Int32)) + (7 : Int32))).toNatClampNeg v11 → (∀ v18 : Int32, v18 = v1 + 1 → (rec3 v18 D16))))))) ∧ (¬ (D7.1 1 3) ≤ v6 → (v_weightOf t kd v6 v1 D7 (fun (v20 : Int32) => (vp_in ((v1 * (8 : Int32)) + v6) 24 ∧ (∀ D25 : Dy, D25 = sI D7 (t + 10) (((v1 * (8 : Int32)) + v6)).toNatClampNeg v20 → (∀ v27 : Int32, v27 = v6 + 1 → (rec8 v27 D25))))))))) FU (0 : Int32) D2)))) FU (0 : Int32) D)
set_option maxHeartbeats 4000000 in
set_option maxRecDepth 100000 in
theorem ct_X4_prepare {l : Launch} {G : Gl} {S : Sh} {D : Dy} {mdl : Nat → Option (Nat × Nat)} (hF : FX S mdl) {t : Nat} {kd : Nat} (hM : FMo S t kd)  {post : Dy → Prop} (E : fX4_prepare t kd D post) : Ct l G yX4_prepare cX4_prepare 4 none 2 0 0 S D [.ref (G.1 + (t + 9)), .ref (G.1 + 1)] (PV S post) := by
  refine z_enter (lv0 := [(0, .ref (G.1 + (t + 9))), (1, .ref (G.1 + 1))]) pl_4 (Nat.le_of_ble_eq_true rfl) rfl ?_
  intro p e s m args below meth c hC hnm
  unfold fX4_prepare at E
  have hT := hM.ft
  refine z_iconst (v := 0) hC dX4_prepare_0 rfl ?_
  refine z_istore_n (lv' := [(2, .int (0 : Int32)), (0, .ref (G.1 + (t + 9))), (1, .ref (G.1 + 1))]) hC dX4_prepare_1 rfl (Nat.le_of_ble_eq_true rfl) rfl ?_
  refine z_sub [1, 2, 0] rfl ?_
  refine LP2_use (fun (v1 : Int32) (D2 : Dy) => ZM l G p e s m args below meth c 4 2 S (PV S post) S D2 2 [(0, .ref (G.1 + (t + 9))), (1, .ref (G.1 + 1)), (2, .int v1)] []) ?_ FU (0 : Int32) D E
  intro rec3 hrec4 v1 D2 E
  refine z_iload_n hC dX4_prepare_2 rfl 2 rfl ?_
  refine z_iconst (v := 3) hC dX4_prepare_3 rfl ?_
  refine z_icmp_ge (tgt := 67) hC dX4_prepare_4 (by decide) (fun c5 => ?_) (fun c5 => ?_)
  · replace E := E.1 c5
    exact z_vret hC dX4_prepare_67 (Nat.le_refl _) (Nat.le_refl _) ⟨rfl, rfl, E⟩
  · replace E := E.2 c5
    refine z_iconst (v := 0) hC dX4_prepare_7 rfl ?_
    refine z_istore_n (lv' := [(3, .int (0 : Int32)), (0, .ref (G.1 + (t + 9))), (1, .ref (G.1 + 1)), (2, .int v1)]) hC dX4_prepare_8 rfl (Nat.le_of_ble_eq_true rfl) rfl ?_
    refine z_sub [1, 2, 3, 0] rfl ?_
    refine LP2_use (fun (v6 : Int32) (D7 : Dy) => ZM l G p e s m args below meth c 4 2 S (PV S post) S D7 9 [(0, .ref (G.1 + (t + 9))), (1, .ref (G.1 + 1)), (2, .int v1), (3, .int v6)] []) ?_ FU (0 : Int32) D2 E
    intro rec8 hrec9 v6 D7 E
    refine z_iload_n hC dX4_prepare_9 rfl 3 rfl ?_
    refine z_aload_n hC dX4_prepare_10 rfl 1 rfl ?_
    refine z_get hC lf_X4_71_1 (kX_1 hF) dX4_prepare_11 (fV_int rfl) ?_
    refine z_icmp_ge (tgt := 41) hC dX4_prepare_14 (by decide) (fun c10 => ?_) (fun c10 => ?_)
    · replace E := E.1 c10
      refine z_aload_n hC dX4_prepare_41 rfl 0 rfl ?_
      refine z_get hC (lfm_X4_9 hM.kd) (kO hM) dX4_prepare_42 (fVm_3 hM) ?_
      refine z_iload_n hC dX4_prepare_45 rfl 2 rfl ?_
      refine z_bipush (v := 8) hC dX4_prepare_46 rfl ?_
      refine z_imul hC dX4_prepare_48 ?_
      refine z_bipush (v := 7) hC dX4_prepare_49 rfl ?_
      refine z_iadd hC dX4_prepare_51 ?_
      refine z_aload_n hC dX4_prepare_52 rfl 0 rfl ?_
      refine z_aload_n hC dX4_prepare_53 rfl 1 rfl ?_
      refine z_bipush (v := 7) hC dX4_prepare_54 rfl ?_
      refine z_iload_n hC dX4_prepare_56 rfl 2 rfl ?_
      refine zv_X4_74 (rest := [.int ((v1 * (8 : Int32)) + (7 : Int32)), .ref (G.1 + (t + 10))]) hC hF hM (by have := hM.kd; omega) E rfl (Nat.le_of_ble_eq_true rfl) ⟨Nat.le_of_ble_eq_true rfl, Nat.le_of_ble_eq_true rfl⟩ ⟨Nat.le_refl _, Nat.le_refl _⟩ dX4_prepare_57 ?_
      rintro _ _ _ ⟨v11, rfl, rfl, rfl, E⟩
      refine z_iast hC (kO_10 hM) (nO_10 hM) E.1 dX4_prepare_60 ?_
      replace E := E.2
      refine z_topD (fun D16 h17 => ?_)
      replace E := E D16 h17
      obtain ⟨v18, h19⟩ : ∃ y : Int32, y = v1 + 1 := ⟨_, rfl⟩
      replace E := E v18 h19
      refine z_iinc (q := 2) (v := v18) (lv' := [(2, .int v18), (0, .ref (G.1 + (t + 9))), (1, .ref (G.1 + 1)), (3, .int v6)]) hC dX4_prepare_61 rfl (by rw [h19]; rfl) (Nat.le_of_ble_eq_true rfl) rfl ?_
      refine z_goto (tgt := 2) hC dX4_prepare_64 (by decide) ?_
      refine z_sub [1, 2, 0] rfl ?_
      exact hrec4 v18 D16 E
    · replace E := E.2 c10
      refine z_aload_n hC dX4_prepare_17 rfl 0 rfl ?_
      refine z_get hC (lfm_X4_9 hM.kd) (kO hM) dX4_prepare_18 (fVm_3 hM) ?_
      refine z_iload_n hC dX4_prepare_21 rfl 2 rfl ?_
      refine z_bipush (v := 8) hC dX4_prepare_22 rfl ?_
      refine z_imul hC dX4_prepare_24 ?_
      refine z_iload_n hC dX4_prepare_25 rfl 3 rfl ?_
      refine z_iadd hC dX4_prepare_26 ?_
      refine z_aload_n hC dX4_prepare_27 rfl 0 rfl ?_
      refine z_aload_n hC dX4_prepare_28 rfl 1 rfl ?_
      refine z_iload_n hC dX4_prepare_29 rfl 3 rfl ?_
      refine z_iload_n hC dX4_prepare_30 rfl 2 rfl ?_
      refine zv_X4_74 (rest := [.int ((v1 * (8 : Int32)) + v6), .ref (G.1 + (t + 10))]) hC hF hM (by have := hM.kd; omega) E rfl (Nat.le_of_ble_eq_true rfl) ⟨Nat.le_of_ble_eq_true rfl, Nat.le_of_ble_eq_true rfl⟩ ⟨Nat.le_refl _, Nat.le_refl _⟩ dX4_prepare_31 ?_
      rintro _ _ _ ⟨v20, rfl, rfl, rfl, E⟩
      refine z_iast hC (kO_10 hM) (nO_10 hM) E.1 dX4_prepare_34 ?_
      replace E := E.2
      refine z_topD (fun D25 h26 => ?_)
      replace E := E D25 h26
      obtain ⟨v27, h28⟩ : ∃ y : Int32, y = v6 + 1 := ⟨_, rfl⟩
      replace E := E v27 h28
      refine z_iinc (q := 3) (v := v27) (lv' := [(3, .int v27), (0, .ref (G.1 + (t + 9))), (1, .ref (G.1 + 1)), (2, .int v1)]) hC dX4_prepare_35 rfl (by rw [h28]; rfl) (Nat.le_of_ble_eq_true rfl) rfl ?_
      refine z_goto (tgt := 9) hC dX4_prepare_38 (by decide) ?_
      refine z_sub [1, 2, 3, 0] rfl ?_
      exact hrec9 v27 D25 E
theorem cu_X4_83_0 : CU RX4 RX4 ⟨"WhyChosen$Model", "clearShares", "()V"⟩ yX4_clearShares := ⟨tw_1651, tw_1654, iy_X4_clearShares, iy_X4_clearShares, ⟨_, _, _, cd_X4_clearShares⟩, by decide +kernel, by decide +kernel⟩
theorem lk_X4_83 : Cond.methodLink RX4 83 ⟨"WhyChosen$Model", "clearShares", "()V"⟩ ∈ TB := tw_735
section ZVV
variable {p : Program} {l : Launch} {e : Env} {R : Room} {s : State} {m : MethodId} {args : Array Value} {below : List Frame} {meth : Method} {c : Code} {nL : Nat} {k n : Nat} {Q : State → Prop} {pc : Nat} {lv : List (Nat × Value)} {st : List Value}
variable {G : Gl} {cc : ByteArray} {own : String} {ret : Option FieldType} {A : Nat → Prop} {S S' S0 : Sh} {D D' : Dy} {a N : Nat} {Wp : Heap → List Loc → Prop}

set_option maxRecDepth 100000 in
theorem zv_X4_83 (hC : CX G cc RX4 nL ret p s m args meth c) {mdl : Nat → Option (Nat × Nat)} (hF : FX S mdl) {t : Nat} (hM : FMo S t 0)  {post : Dy → Prop} (E : v_clearShares t 0 D post) {rest : List Value} (hstk : st = List.reverse [] ++ .ref (G.1 + (t + 9)) :: rest) (hrm : (rest.map fun v => v.category).sum ≤ 8) (hR : 0 + 1 ≤ R.frames ∧ 8 + (2 + 11) + 60 * 0 ≤ R.locals) (hkn : k + 0 ≤ R.cells ∧ n + 0 ≤ R.slots) (hd : decode cc pc = .ok (.invokevirtual 83, 3)) (kz : ∀ v S1 D1, (PV S post) v S1 D1 → Z p l e R s m args below meth c nL (WM G s A S1 D1) (k + 0) (n + 0) Q (pc + 3) lv (v.toList ++ rest)) : Z p l e R s m args below meth c nL (WM G s A S D) k n Q pc lv st := by
  exact z_callU (ci := 4) (C := RX4) (owner := RX4) (x := ⟨"WhyChosen$Model", "clearShares", "()V"⟩) (av := []) hC lk_X4_83 in_X4_clearShares cd_X4_clearShares dn_X4_clearShares (by omega) cu_X4_83_0 cf_4 (by decide) (kO hM) (ct_X4_clearShares hF hM (E.1 rfl)) rfl hstk hrm hkn hd kz
end ZVV
def fX4_share (t : Nat) (a2 : Int32) (a3 : Int32) (D : Dy) (post : Dy → Prop) : Prop :=
  (v_clearShares t 0 D (fun (D6 : Dy) => (LP2 (fun (rec9 : Int32 → Dy → Prop) (v7 : Int32) (D8 : Dy) => (((D8.1 1 3) ≤ v7 → post D8) ∧ (¬ (D8.1 1 3) ≤ v7 → (fX11_isIn v7 a2 (fun (v13 : Int32) => (JN (fun (D17 : Dy) => (∀ v20 : Int32, v20 = v7 + 1 → (rec9 v20 D17))) (fun K18 : Dy → Prop => ((v13 = 0 → (K18 D8)) ∧ (¬ v13 = 0 → (vp_in v7 8 ∧ (∀ D23 : Dy, D23 = sL D8 (t + 11) (v7).toNatClampNeg (1 : Int64) → (∀ v25 : Int32, v25 = (bitC a2) → (vp_in v7 8 ∧ (∀ D27 : Dy, D27 = sL D23 (t + 12) (v7).toNatClampNeg (v25).toInt64 → (K18 D27))))))))))))))) FU (0 : Int32) D6)))
set_option maxHeartbeats 4000000 in
set_option maxRecDepth 100000 in
theorem ct_X4_share {l : Launch} {G : Gl} {S : Sh} {D : Dy} {mdl : Nat → Option (Nat × Nat)} (hF : FX S mdl) {t : Nat} (hM : FMo S t 0) {a2 : Int32} {a3 : Int32} {post : Dy → Prop} (E : fX4_share t a2 a3 D post) : Ct l G yX4_share cX4_share 5 none 1 0 0 S D [.ref (G.1 + (t + 9)), .ref (G.1 + 1), .int a2, .int a3] (PV S post) := by
  refine z_enter (lv0 := [(0, .ref (G.1 + (t + 9))), (1, .ref (G.1 + 1)), (2, .int a2), (3, .int a3)]) pl_4 (Nat.le_of_ble_eq_true rfl) rfl ?_
  intro p e s m args below meth c hC hnm
  unfold fX4_share at E
  have hT := hM.ft
  refine z_aload_n hC dX4_share_0 rfl 0 rfl ?_
  refine zv_X4_83 (rest := []) hC hF hM E rfl (Nat.le_of_ble_eq_true rfl) ⟨Nat.le_of_ble_eq_true rfl, Nat.le_of_ble_eq_true rfl⟩ ⟨Nat.le_refl _, Nat.le_refl _⟩ dX4_share_1 ?_
  rintro _ _ D6 ⟨rfl, rfl, E⟩
  refine z_iconst (v := 0) hC dX4_share_4 rfl ?_
  refine z_istore (lv' := [(4, .int (0 : Int32)), (0, .ref (G.1 + (t + 9))), (1, .ref (G.1 + 1)), (2, .int a2), (3, .int a3)]) hC dX4_share_5 (Nat.le_of_ble_eq_true rfl) rfl ?_
  refine z_sub [1, 2, 3, 0] rfl ?_
  refine LP2_use (fun (v7 : Int32) (D8 : Dy) => ZM l G p e s m args below meth c 5 1 S (PV S post) S D8 7 [(0, .ref (G.1 + (t + 9))), (1, .ref (G.1 + 1)), (2, .int a2), (4, .int v7)] []) ?_ FU (0 : Int32) D6 E
  intro rec9 hrec10 v7 D8 E
  refine z_iload hC dX4_share_7 3 rfl ?_
  refine z_aload_n hC dX4_share_9 rfl 1 rfl ?_
  refine z_get hC lf_X4_71_1 (kX_1 hF) dX4_share_10 (fV_int rfl) ?_
  refine z_icmp_ge (tgt := 51) hC dX4_share_13 (by decide) (fun c11 => ?_) (fun c11 => ?_)
  · replace E := E.1 c11
    exact z_vret hC dX4_share_51 (Nat.le_refl _) (Nat.le_refl _) ⟨rfl, rfl, E⟩
  · replace E := E.2 c11
    refine z_iload hC dX4_share_16 3 rfl ?_
    refine z_iload_n hC dX4_share_18 rfl 2 rfl ?_
    refine z_callSN (rest := []) hC lk_X4_52 in_X11_isIn cd_X11_isIn ds_X11_isIn ⟨Nat.le_of_ble_eq_true rfl, Nat.le_of_ble_eq_true rfl⟩ st_X11_isIn (ct_X11_isIn hF E) rfl rfl (Nat.le_of_ble_eq_true rfl) ⟨Nat.le_refl _, Nat.le_refl _⟩ dX4_share_19 ?_
    rintro _ _ _ ⟨v13, rfl, rfl, rfl, E⟩
    obtain ⟨K18, hK19, EE⟩ := JN_use E (fun K18 : Dy → Prop => ∀ (D17 : Dy), K18 D17 → ZM l G p e s m args below meth c 5 1 S (PV S post) S D17 45 [(0, .ref (G.1 + (t + 9))), (1, .ref (G.1 + 1)), (2, .int a2), (4, .int v7)] []) (by
      intro D17 E
      obtain ⟨v20, h21⟩ : ∃ y : Int32, y = v7 + 1 := ⟨_, rfl⟩
      replace E := E v20 h21
      refine z_iinc (q := 3) (v := v20) (lv' := [(4, .int v20), (0, .ref (G.1 + (t + 9))), (1, .ref (G.1 + 1)), (2, .int a2)]) hC dX4_share_45 rfl (by rw [h21]; rfl) (Nat.le_of_ble_eq_true rfl) rfl ?_
      refine z_goto (tgt := 7) hC dX4_share_48 (by decide) ?_
      refine z_sub [1, 2, 3, 0] rfl ?_
      exact hrec10 v20 D17 E)
    replace E := EE
    clear EE
    refine z_if_eq (tgt := 45) hC dX4_share_22 (by decide) (fun c22 => ?_) (fun c22 => ?_)
    · replace E := E.1 c22
      exact hK19 D8 E
    · replace E := E.2 c22
      refine z_aload_n hC dX4_share_25 rfl 0 rfl ?_
      refine z_get hC (lfm_X4_15 hM.kd) (kO hM) dX4_share_26 (fVm_4 hM) ?_
      refine z_iload hC dX4_share_29 3 rfl ?_
      refine z_lconst (v := 1) hC dX4_share_31 rfl ?_
      refine z_last hC (kO_11 hM) (nO_11 hM) E.1 dX4_share_32 ?_
      replace E := E.2
      refine z_topD (fun D23 h24 => ?_)
      replace E := E D23 h24
      refine z_aload_n hC dX4_share_33 rfl 0 rfl ?_
      refine z_get hC (lfm_X4_19 hM.kd) (kO hM) dX4_share_34 (fVm_5 hM) ?_
      refine z_iload hC dX4_share_37 3 rfl ?_
      refine z_iload_n hC dX4_share_39 rfl 2 rfl ?_
      refine z_bitCount hC lk_X4_86 ⟨Nat.le_of_ble_eq_true rfl, Nat.le_of_ble_eq_true rfl⟩ ⟨Nat.zero_le _, Nat.zero_le _⟩ (Nat.le_of_ble_eq_true rfl) dX4_share_40 ?_
      refine z_topi (fun v25 h26 => ?_)
      replace E := E v25 h26
      refine z_i2l hC dX4_share_43 ?_
      refine z_last hC (kO_12 hM) (nO_12 hM) E.1 dX4_share_44 ?_
      replace E := E.2
      refine z_topD (fun D27 h28 => ?_)
      replace E := E D27 h28
      exact hK19 D27 E
def fX4_thousandths (t : Nat) (kd : Nat) (a1 : Int32) (D : Dy) (post : Int32 → Prop) : Prop :=
  (vp_in a1 8 ∧ ((0 < (lg_cmp (D.2 (t + 12) (a1).toNatClampNeg) (0 : Int64)) → (vp_in a1 8 ∧ (vp_in a1 8 ∧ (¬ (D.2 (t + 12) (a1).toNatClampNeg) = 0 ∧ post ((((1000 : Int64) * (D.2 (t + 11) (a1).toNatClampNeg)) / (D.2 (t + 12) (a1).toNatClampNeg))).toInt32)))) ∧ (¬ 0 < (lg_cmp (D.2 (t + 12) (a1).toNatClampNeg) (0 : Int64)) → post (0 : Int32))))
set_option maxHeartbeats 4000000 in
set_option maxRecDepth 100000 in
theorem ct_X4_thousandths {l : Launch} {G : Gl} {S : Sh} {D : Dy} {mdl : Nat → Option (Nat × Nat)} (hF : FX S mdl) {t : Nat} {kd : Nat} (hM : FMo S t kd) {a1 : Int32} {post : Int32 → Prop} (E : fX4_thousandths t kd a1 D post) : Ct l G yX4_thousandths cX4_thousandths 2 (some .int) 0 0 0 S D [.ref (G.1 + (t + 9)), .int a1] (PIr S D post) := by
  refine z_enter (lv0 := [(0, .ref (G.1 + (t + 9))), (1, .int a1)]) pl_4 (Nat.le_of_ble_eq_true rfl) rfl ?_
  intro p e s m args below meth c hC hnm
  unfold fX4_thousandths at E
  have hT := hM.ft
  refine z_aload_n hC dX4_thousandths_0 rfl 0 rfl ?_
  refine z_get hC (lfm_X4_19 hM.kd) (kO hM) dX4_thousandths_1 (fVm_5 hM) ?_
  refine z_iload_n hC dX4_thousandths_4 rfl 1 rfl ?_
  refine z_lald hC (kO_12 hM) (nO_12 hM) E.1 dX4_thousandths_5 ?_
  replace E := E.2
  refine z_lconst (v := 0) hC dX4_thousandths_6 rfl ?_
  refine z_lcmp hC dX4_thousandths_7 ?_
  refine z_if_gt (tgt := 15) hC dX4_thousandths_8 (by decide) (fun c1 => ?_) (fun c1 => ?_)
  · replace E := E.1 c1
    refine z_ldc2 hC kl_X4_81 dX4_thousandths_15 ?_
    refine z_aload_n hC dX4_thousandths_18 rfl 0 rfl ?_
    refine z_get hC (lfm_X4_15 hM.kd) (kO hM) dX4_thousandths_19 (fVm_4 hM) ?_
    refine z_iload_n hC dX4_thousandths_22 rfl 1 rfl ?_
    refine z_lald hC (kO_11 hM) (nO_11 hM) E.1 dX4_thousandths_23 ?_
    replace E := E.2
    refine z_lmul hC dX4_thousandths_24 ?_
    refine z_aload_n hC dX4_thousandths_25 rfl 0 rfl ?_
    refine z_get hC (lfm_X4_19 hM.kd) (kO hM) dX4_thousandths_26 (fVm_5 hM) ?_
    refine z_iload_n hC dX4_thousandths_29 rfl 1 rfl ?_
    refine z_lald hC (kO_12 hM) (nO_12 hM) E.1 dX4_thousandths_30 ?_
    replace E := E.2
    have q0 := E.1
    replace E := E.2
    refine z_ldiv hC dX4_thousandths_31 q0 ?_
    refine z_l2i hC dX4_thousandths_32 ?_
    exact z_iret hC dX4_thousandths_33 (Nat.le_refl _) (Nat.le_refl _) ⟨_, rfl, rfl, rfl, E⟩
  · replace E := E.2 c1
    refine z_iconst (v := 0) hC dX4_thousandths_11 rfl ?_
    refine z_goto (tgt := 33) hC dX4_thousandths_12 (by decide) ?_
    exact z_iret hC dX4_thousandths_33 (Nat.le_refl _) (Nat.le_refl _) ⟨_, rfl, rfl, rfl, E⟩
theorem cu_X5_26_2 : CU RX5 RX4 ⟨"WhyChosen$Nested", "weighed", "(II)I"⟩ yX4_weighed := ⟨tw_716, tw_717, iy_X4_weighed, iy_X4_weighed, ⟨_, _, _, cd_X4_weighed⟩, by decide +kernel, by decide +kernel⟩
theorem lk_X5_26 : Cond.methodLink RX5 26 ⟨"WhyChosen$Nested", "weighed", "(II)I"⟩ ∈ TB := tw_715
section ZVV
variable {p : Program} {l : Launch} {e : Env} {R : Room} {s : State} {m : MethodId} {args : Array Value} {below : List Frame} {meth : Method} {c : Code} {nL : Nat} {k n : Nat} {Q : State → Prop} {pc : Nat} {lv : List (Nat × Value)} {st : List Value}
variable {G : Gl} {cc : ByteArray} {own : String} {ret : Option FieldType} {A : Nat → Prop} {S S' S0 : Sh} {D D' : Dy} {a N : Nat} {Wp : Heap → List Loc → Prop}

set_option maxRecDepth 100000 in
theorem zv_X5_26 (hC : CX G cc RX5 nL ret p s m args meth c) {mdl : Nat → Option (Nat × Nat)} (hF : FX S mdl) {t : Nat} (hM : FMo S t 2) {a1 : Int32} {a2 : Int32} {post : Int32 → Prop} (E : v_weighed t 2 a1 a2 D post) {rest : List Value} (hstk : st = List.reverse [.int a1, .int a2] ++ .ref (G.1 + (t + 9)) :: rest) (hrm : (rest.map fun v => v.category).sum ≤ 8) (hR : 0 + 1 ≤ R.frames ∧ 8 + (3 + 11) + 60 * 0 ≤ R.locals) (hkn : k + 0 ≤ R.cells ∧ n + 0 ≤ R.slots) (hd : decode cc pc = .ok (.invokevirtual 26, 3)) (kz : ∀ v S1 D1, (PIr S D post) v S1 D1 → Z p l e R s m args below meth c nL (WM G s A S1 D1) (k + 0) (n + 0) Q (pc + 3) lv (v.toList ++ rest)) : Z p l e R s m args below meth c nL (WM G s A S D) k n Q pc lv st := by
  exact z_callU (ci := 5) (C := RX5) (owner := RX4) (x := ⟨"WhyChosen$Nested", "weighed", "(II)I"⟩) (av := [.int a1, .int a2]) hC lk_X5_26 in_X4_weighed cd_X4_weighed dn_X4_weighed (by omega) cu_X5_26_2 cf_5 (by decide) (kO hM) (ct_X4_weighed hF hM (E.2.2.1 rfl)) rfl hstk hrm hkn hd kz
end ZVV
def fX5_gatherNests (t : Nat) (a2 : Int32) (a3 : Int32) (D : Dy) (post : Dy → Prop) : Prop :=
  (LP2 (fun (rec3 : Int32 → Dy → Prop) (v1 : Int32) (D2 : Dy) => (((4 : Int32) ≤ v1 → (LP2 (fun (rec8 : Int32 → Dy → Prop) (v6 : Int32) (D7 : Dy) => (((D7.1 1 3) ≤ v6 → post D7) ∧ (¬ (D7.1 1 3) ≤ v6 → (fX11_isIn v6 a2 (fun (v12 : Int32) => (JN (fun (D16 : Dy) => (∀ v19 : Int32, v19 = v6 + 1 → (rec8 v19 D16))) (fun K17 : Dy → Prop => ((v12 = 0 → (K17 D7)) ∧ (¬ v12 = 0 → (vp_in v6 6 ∧ (∀ v22 : Int32, v22 = (D7.1 4 (v6).toNatClampNeg) → (vp_in v22 4 ∧ (v_weighed t 2 v6 a3 D7 (fun (v24 : Int32) => (∀ v29 : Int32, v29 = (D7.1 (t + 13) (v22).toNatClampNeg) → (∀ v31 : Int32, v31 = (if v29 < v24 then v24 else v29) → (vp_in v22 4 ∧ (∀ D33 : Dy, D33 = sI D7 (t + 13) (v22).toNatClampNeg v31 → (vp_in v22 4 ∧ (v_weighed t 2 v6 a3 D33 (fun (v35 : Int32) => (vp_in v22 4 ∧ (∀ D40 : Dy, D40 = sI D33 (t + 14) (v22).toNatClampNeg ((D33.1 (t + 14) (v22).toNatClampNeg) + v35) → (K17 D40)))))))))))))))))))))))) FU (0 : Int32) D2)) ∧ (¬ (4 : Int32) ≤ v1 → (vp_in v1 4 ∧ (∀ D42 : Dy, D42 = sI D2 (t + 13) (v1).toNatClampNeg (0 : Int32) → (vp_in v1 4 ∧ (∀ D44 : Dy, D44 = sI D42 (t + 14) (v1).toNatClampNeg (0 : Int32) → (∀ v46 : Int32, v46 = v1 + 1 → (rec3 v46 D44))))))))) FU (0 : Int32) D)
set_option maxHeartbeats 4000000 in
set_option maxRecDepth 100000 in
theorem ct_X5_gatherNests {l : Launch} {G : Gl} {S : Sh} {D : Dy} {mdl : Nat → Option (Nat × Nat)} (hF : FX S mdl) {t : Nat} (hM : FMo S t 2) {a2 : Int32} {a3 : Int32} {post : Dy → Prop} (E : fX5_gatherNests t a2 a3 D post) : Ct l G yX5_gatherNests cX5_gatherNests 6 none 1 0 0 S D [.ref (G.1 + (t + 9)), .ref (G.1 + 1), .int a2, .int a3] (PV S post) := by
  refine z_enter (lv0 := [(0, .ref (G.1 + (t + 9))), (1, .ref (G.1 + 1)), (2, .int a2), (3, .int a3)]) pl_5 (Nat.le_of_ble_eq_true rfl) rfl ?_
  intro p e s m args below meth c hC hnm
  unfold fX5_gatherNests at E
  have hT := hM.ft
  refine z_iconst (v := 0) hC dX5_gatherNests_0 rfl ?_
  refine z_istore (lv' := [(4, .int (0 : Int32)), (0, .ref (G.1 + (t + 9))), (1, .ref (G.1 + 1)), (2, .int a2), (3, .int a3)]) hC dX5_gatherNests_1 (Nat.le_of_ble_eq_true rfl) rfl ?_
  refine z_sub [1, 2, 3, 4, 0] rfl ?_
  refine LP2_use (fun (v1 : Int32) (D2 : Dy) => ZM l G p e s m args below meth c 6 1 S (PV S post) S D2 3 [(0, .ref (G.1 + (t + 9))), (1, .ref (G.1 + 1)), (2, .int a2), (3, .int a3), (4, .int v1)] []) ?_ FU (0 : Int32) D E
  intro rec3 hrec4 v1 D2 E
  refine z_iload hC dX5_gatherNests_3 4 rfl ?_
  refine z_iconst (v := 4) hC dX5_gatherNests_5 rfl ?_
  refine z_icmp_ge (tgt := 31) hC dX5_gatherNests_6 (by decide) (fun c5 => ?_) (fun c5 => ?_)
  · replace E := E.1 c5
    refine z_iconst (v := 0) hC dX5_gatherNests_31 rfl ?_
    refine z_istore (lv' := [(4, .int (0 : Int32)), (0, .ref (G.1 + (t + 9))), (1, .ref (G.1 + 1)), (2, .int a2), (3, .int a3)]) hC dX5_gatherNests_32 (Nat.le_of_ble_eq_true rfl) rfl ?_
    refine z_sub [1, 2, 3, 4, 0] rfl ?_
    refine LP2_use (fun (v6 : Int32) (D7 : Dy) => ZM l G p e s m args below meth c 6 1 S (PV S post) S D7 34 [(0, .ref (G.1 + (t + 9))), (1, .ref (G.1 + 1)), (2, .int a2), (3, .int a3), (4, .int v6)] []) ?_ FU (0 : Int32) D2 E
    intro rec8 hrec9 v6 D7 E
    refine z_iload hC dX5_gatherNests_34 4 rfl ?_
    refine z_aload_n hC dX5_gatherNests_36 rfl 1 rfl ?_
    refine z_get hC lf_X5_30_1 (kX_1 hF) dX5_gatherNests_37 (fV_int rfl) ?_
    refine z_icmp_ge (tgt := 108) hC dX5_gatherNests_40 (by decide) (fun c10 => ?_) (fun c10 => ?_)
    · replace E := E.1 c10
      exact z_vret hC dX5_gatherNests_108 (Nat.le_refl _) (Nat.le_refl _) ⟨rfl, rfl, E⟩
    · replace E := E.2 c10
      refine z_iload hC dX5_gatherNests_43 4 rfl ?_
      refine z_iload_n hC dX5_gatherNests_45 rfl 2 rfl ?_
      refine z_callSN (rest := []) hC lk_X5_36 in_X11_isIn cd_X11_isIn ds_X11_isIn ⟨Nat.le_of_ble_eq_true rfl, Nat.le_of_ble_eq_true rfl⟩ st_X11_isIn (ct_X11_isIn hF E) rfl rfl (Nat.le_of_ble_eq_true rfl) ⟨Nat.le_refl _, Nat.le_refl _⟩ dX5_gatherNests_46 ?_
      rintro _ _ _ ⟨v12, rfl, rfl, rfl, E⟩
      obtain ⟨K17, hK18, EE⟩ := JN_use E (fun K17 : Dy → Prop => ∀ (D16 : Dy), K17 D16 → ZM l G p e s m args below meth c 6 1 S (PV S post) S D16 102 [(0, .ref (G.1 + (t + 9))), (1, .ref (G.1 + 1)), (2, .int a2), (3, .int a3), (4, .int v6)] []) (by
        intro D16 E
        obtain ⟨v19, h20⟩ : ∃ y : Int32, y = v6 + 1 := ⟨_, rfl⟩
        replace E := E v19 h20
        refine z_iinc (q := 4) (v := v19) (lv' := [(4, .int v19), (0, .ref (G.1 + (t + 9))), (1, .ref (G.1 + 1)), (2, .int a2), (3, .int a3)]) hC dX5_gatherNests_102 rfl (by rw [h20]; rfl) (Nat.le_of_ble_eq_true rfl) rfl ?_
        refine z_goto (tgt := 34) hC dX5_gatherNests_105 (by decide) ?_
        refine z_sub [1, 2, 3, 4, 0] rfl ?_
        exact hrec9 v19 D16 E)
      replace E := EE
      clear EE
      refine z_if_eq (tgt := 102) hC dX5_gatherNests_49 (by decide) (fun c21 => ?_) (fun c21 => ?_)
      · replace E := E.1 c21
        exact hK18 D7 E
      · replace E := E.2 c21
        refine z_aload_n hC dX5_gatherNests_52 rfl 1 rfl ?_
        refine z_get hC lf_X5_40_1 (kX_1 hF) dX5_gatherNests_53 (fV_ref rfl (rX_1_2 hF)) ?_
        refine z_iload hC dX5_gatherNests_56 4 rfl ?_
        refine z_iald hC (kX_4 hF) (nX_4 hF) E.1 dX5_gatherNests_58 ?_
        replace E := E.2
        refine z_topi (fun v22 h23 => ?_)
        replace E := E v22 h23
        refine z_istore (lv' := [(5, .int v22), (0, .ref (G.1 + (t + 9))), (1, .ref (G.1 + 1)), (2, .int a2), (3, .int a3), (4, .int v6)]) hC dX5_gatherNests_59 (Nat.le_of_ble_eq_true rfl) rfl ?_
        refine z_aload_n hC dX5_gatherNests_61 rfl 1 rfl ?_
        refine z_get hC (lfm_X5_9 hM.kd) (kO hM) dX5_gatherNests_62 (fVm_6 hM) ?_
        refine z_iload hC dX5_gatherNests_65 0 rfl ?_
        refine z_aload_n hC dX5_gatherNests_67 rfl 1 rfl ?_
        refine z_get hC (lfm_X5_9 hM.kd) (kO hM) dX5_gatherNests_68 (fVm_6 hM) ?_
        refine z_iload hC dX5_gatherNests_71 0 rfl ?_
        refine z_iald hC (kO_13 hM) (nO_13 hM) E.1 dX5_gatherNests_73 ?_
        replace E := E.2
        refine z_aload_n hC dX5_gatherNests_74 rfl 1 rfl ?_
        refine z_iload hC dX5_gatherNests_75 5 rfl ?_
        refine z_iload_n hC dX5_gatherNests_77 rfl 4 rfl ?_
        refine zv_X5_26 (rest := [.int (D7.1 (t + 13) (v22).toNatClampNeg), .int v22, .ref (G.1 + (t + 13))]) hC hF hM E rfl (Nat.le_of_ble_eq_true rfl) ⟨Nat.le_of_ble_eq_true rfl, Nat.le_of_ble_eq_true rfl⟩ ⟨Nat.le_refl _, Nat.le_refl _⟩ dX5_gatherNests_78 ?_
        rintro _ _ _ ⟨v24, rfl, rfl, rfl, E⟩
        obtain ⟨v29, h30⟩ : ∃ y : Int32, y = (D7.1 (t + 13) (v22).toNatClampNeg) := ⟨_, rfl⟩
        replace E := E v29 h30
        rw [← h30]
        refine z_mmax hC lk_X5_50 sm_max im_Math cm_max ⟨Nat.le_of_ble_eq_true rfl, Nat.le_of_ble_eq_true rfl⟩ ⟨Nat.zero_le _, Nat.zero_le _⟩ (Nat.le_of_ble_eq_true rfl) dX5_gatherNests_81 ?_
        refine z_topi (fun v31 h32 => ?_)
        replace E := E v31 h32
        refine z_iast hC (kO_13 hM) (nO_13 hM) E.1 dX5_gatherNests_84 ?_
        replace E := E.2
        refine z_topD (fun D33 h34 => ?_)
        replace E := E D33 h34
        refine z_aload_n hC dX5_gatherNests_85 rfl 1 rfl ?_
        refine z_get hC (lfm_X5_15 hM.kd) (kO hM) dX5_gatherNests_86 (fVm_7 hM) ?_
        refine z_iload hC dX5_gatherNests_89 0 rfl ?_
        refine z_dup2 hC dX5_gatherNests_91 rfl rfl ?_
        refine z_iald hC (kO_14 hM) (nO_14 hM) E.1 dX5_gatherNests_92 ?_
        replace E := E.2
        refine z_aload_n hC dX5_gatherNests_93 rfl 1 rfl ?_
        refine z_iload hC dX5_gatherNests_94 5 rfl ?_
        refine z_iload_n hC dX5_gatherNests_96 rfl 4 rfl ?_
        refine zv_X5_26 (rest := [.int (D33.1 (t + 14) (v22).toNatClampNeg), .int v22, .ref (G.1 + (t + 14))]) hC hF hM E rfl (Nat.le_of_ble_eq_true rfl) ⟨Nat.le_of_ble_eq_true rfl, Nat.le_of_ble_eq_true rfl⟩ ⟨Nat.le_refl _, Nat.le_refl _⟩ dX5_gatherNests_97 ?_
        rintro _ _ _ ⟨v35, rfl, rfl, rfl, E⟩
        refine z_iadd hC dX5_gatherNests_100 ?_
        refine z_iast hC (kO_14 hM) (nO_14 hM) E.1 dX5_gatherNests_101 ?_
        replace E := E.2
        refine z_topD (fun D40 h41 => ?_)
        replace E := E D40 h41
        refine z_sub [1, 2, 3, 4, 5] rfl ?_
        exact hK18 D40 E
  · replace E := E.2 c5
    refine z_aload_n hC dX5_gatherNests_9 rfl 0 rfl ?_
    refine z_get hC (lfm_X5_9 hM.kd) (kO hM) dX5_gatherNests_10 (fVm_6 hM) ?_
    refine z_iload hC dX5_gatherNests_13 4 rfl ?_
    refine z_iconst (v := 0) hC dX5_gatherNests_15 rfl ?_
    refine z_iast hC (kO_13 hM) (nO_13 hM) E.1 dX5_gatherNests_16 ?_
    replace E := E.2
    refine z_topD (fun D42 h43 => ?_)
    replace E := E D42 h43
    refine z_aload_n hC dX5_gatherNests_17 rfl 0 rfl ?_
    refine z_get hC (lfm_X5_15 hM.kd) (kO hM) dX5_gatherNests_18 (fVm_7 hM) ?_
    refine z_iload hC dX5_gatherNests_21 4 rfl ?_
    refine z_iconst (v := 0) hC dX5_gatherNests_23 rfl ?_
    refine z_iast hC (kO_14 hM) (nO_14 hM) E.1 dX5_gatherNests_24 ?_
    replace E := E.2
    refine z_topD (fun D44 h45 => ?_)
    replace E := E D44 h45
    obtain ⟨v46, h47⟩ : ∃ y : Int32, y = v1 + 1 := ⟨_, rfl⟩
    replace E := E v46 h47
    refine z_iinc (q := 4) (v := v46) (lv' := [(4, .int v46), (0, .ref (G.1 + (t + 9))), (1, .ref (G.1 + 1)), (2, .int a2), (3, .int a3)]) hC dX5_gatherNests_25 rfl (by rw [h47]; rfl) (Nat.le_of_ble_eq_true rfl) rfl ?_
    refine z_goto (tgt := 3) hC dX5_gatherNests_28 (by decide) ?_
    refine z_sub [1, 2, 3, 4, 0] rfl ?_
    exact hrec4 v46 D44 E
theorem cu_X5_18_2 : CU RX5 RX4 ⟨"WhyChosen$Nested", "clearShares", "()V"⟩ yX4_clearShares := ⟨tw_708, tw_709, iy_X4_clearShares, iy_X4_clearShares, ⟨_, _, _, cd_X4_clearShares⟩, by decide +kernel, by decide +kernel⟩
theorem lk_X5_18 : Cond.methodLink RX5 18 ⟨"WhyChosen$Nested", "clearShares", "()V"⟩ ∈ TB := tw_707
section ZVV
variable {p : Program} {l : Launch} {e : Env} {R : Room} {s : State} {m : MethodId} {args : Array Value} {below : List Frame} {meth : Method} {c : Code} {nL : Nat} {k n : Nat} {Q : State → Prop} {pc : Nat} {lv : List (Nat × Value)} {st : List Value}
variable {G : Gl} {cc : ByteArray} {own : String} {ret : Option FieldType} {A : Nat → Prop} {S S' S0 : Sh} {D D' : Dy} {a N : Nat} {Wp : Heap → List Loc → Prop}

set_option maxRecDepth 100000 in
theorem zv_X5_18 (hC : CX G cc RX5 nL ret p s m args meth c) {mdl : Nat → Option (Nat × Nat)} (hF : FX S mdl) {t : Nat} (hM : FMo S t 2)  {post : Dy → Prop} (E : v_clearShares t 2 D post) {rest : List Value} (hstk : st = List.reverse [] ++ .ref (G.1 + (t + 9)) :: rest) (hrm : (rest.map fun v => v.category).sum ≤ 8) (hR : 0 + 1 ≤ R.frames ∧ 8 + (2 + 11) + 60 * 0 ≤ R.locals) (hkn : k + 0 ≤ R.cells ∧ n + 0 ≤ R.slots) (hd : decode cc pc = .ok (.invokevirtual 18, 3)) (kz : ∀ v S1 D1, (PV S post) v S1 D1 → Z p l e R s m args below meth c nL (WM G s A S1 D1) (k + 0) (n + 0) Q (pc + 3) lv (v.toList ++ rest)) : Z p l e R s m args below meth c nL (WM G s A S D) k n Q pc lv st := by
  exact z_callU (ci := 5) (C := RX5) (owner := RX4) (x := ⟨"WhyChosen$Nested", "clearShares", "()V"⟩) (av := []) hC lk_X5_18 in_X4_clearShares cd_X4_clearShares dn_X4_clearShares (by omega) cu_X5_18_2 cf_5 (by decide) (kO hM) (ct_X4_clearShares hF hM (E.2.2.1 rfl)) rfl hstk hrm hkn hd kz
end ZVV
def fX5_share (t : Nat) (a2 : Int32) (a3 : Int32) (D : Dy) (post : Dy → Prop) : Prop :=
  (v_clearShares t 2 D (fun (D6 : Dy) => (fX5_gatherNests t a2 a3 D6 (fun (D12 : Dy) => (v_weighed t 2 (7 : Int32) a3 D12 (fun (v13 : Int32) => (LP2 (fun (rec20 : Int32 → Int32 → Prop) (v18 : Int32) (v19 : Int32) => (((4 : Int32) ≤ v19 → (LP2 (fun (rec25 : Int32 → Dy → Prop) (v23 : Int32) (D24 : Dy) => (((D24.1 1 3) ≤ v23 → (vp_in (7 : Int32) 8 ∧ (∀ D28 : Dy, D28 = sL D24 (t + 11) ((7 : Int32)).toNatClampNeg (v13).toInt64 → (vp_in (7 : Int32) 8 ∧ (∀ D30 : Dy, D30 = sL D28 (t + 12) ((7 : Int32)).toNatClampNeg (v18).toInt64 → post D30))))) ∧ (¬ (D24.1 1 3) ≤ v23 → (fX11_isIn v23 a2 (fun (v33 : Int32) => (JN (fun (D37 : Dy) => (∀ v40 : Int32, v40 = v23 + 1 → (rec25 v40 D37))) (fun K38 : Dy → Prop => ((v33 = 0 → (K38 D24)) ∧ (¬ v33 = 0 → (vp_in v23 6 ∧ (∀ v43 : Int32, v43 = (D24.1 4 (v23).toNatClampNeg) → (vp_in v43 4 ∧ (v_weighed t 2 v23 a3 D24 (fun (v45 : Int32) => (vp_in v23 8 ∧ (∀ D50 : Dy, D50 = sL D24 (t + 11) (v23).toNatClampNeg (((D24.1 (t + 13) (v43).toNatClampNeg) * v45)).toInt64 → (vp_in v43 4 ∧ (vp_in v23 8 ∧ (∀ D52 : Dy, D52 = sL D50 (t + 12) (v23).toNatClampNeg ((v18 * (D50.1 (t + 14) (v43).toNatClampNeg))).toInt64 → (K38 D52)))))))))))))))))))) FU (0 : Int32) D12)) ∧ (¬ (4 : Int32) ≤ v19 → (vp_in v19 4 ∧ (∀ v54 : Int32, v54 = (v18 + (D12.1 (t + 13) (v19).toNatClampNeg)) → (∀ v56 : Int32, v56 = v19 + 1 → (rec20 v54 v56))))))) FU v13 (0 : Int32))))))))
set_option maxHeartbeats 4000000 in
set_option maxRecDepth 100000 in
theorem ct_X5_share {l : Launch} {G : Gl} {S : Sh} {D : Dy} {mdl : Nat → Option (Nat × Nat)} (hF : FX S mdl) {t : Nat} (hM : FMo S t 2) {a2 : Int32} {a3 : Int32} {post : Dy → Prop} (E : fX5_share t a2 a3 D post) : Ct l G yX5_share cX5_share 8 none 2 0 0 S D [.ref (G.1 + (t + 9)), .ref (G.1 + 1), .int a2, .int a3] (PV S post) := by
  refine z_enter (lv0 := [(0, .ref (G.1 + (t + 9))), (1, .ref (G.1 + 1)), (2, .int a2), (3, .int a3)]) pl_5 (Nat.le_of_ble_eq_true rfl) rfl ?_
  intro p e s m args below meth c hC hnm
  unfold fX5_share at E
  have hT := hM.ft
  refine z_aload_n hC dX5_share_0 rfl 0 rfl ?_
  refine zv_X5_18 (rest := []) hC hF hM E rfl (Nat.le_of_ble_eq_true rfl) ⟨Nat.le_of_ble_eq_true rfl, Nat.le_of_ble_eq_true rfl⟩ ⟨Nat.le_refl _, Nat.le_refl _⟩ dX5_share_1 ?_
  rintro _ _ D6 ⟨rfl, rfl, E⟩
  refine z_aload_n hC dX5_share_4 rfl 0 rfl ?_
  refine z_aload_n hC dX5_share_5 rfl 1 rfl ?_
  refine z_iload_n hC dX5_share_6 rfl 2 rfl ?_
  refine z_iload_n hC dX5_share_7 rfl 3 rfl ?_
  refine z_callV (ci := 5) (rest := []) hC (ck_mk lk_X5_22 in_X5_gatherNests cd_X5_gatherNests ds_X5_gatherNests (Nat.le_of_ble_eq_true rfl) (Nat.le_of_ble_eq_true rfl)) iy_X5_gatherNests sy_X5_gatherNests cf_5 (by decide) (kO hM) (ct_X5_gatherNests hF hM E) rfl rfl (Nat.le_of_ble_eq_true rfl) ⟨Nat.le_refl _, Nat.le_refl _⟩ dX5_share_8 ?_
  rintro _ _ D12 ⟨rfl, rfl, E⟩
  refine z_aload_n hC dX5_share_11 rfl 0 rfl ?_
  refine z_bipush (v := 7) hC dX5_share_12 rfl ?_
  refine z_iload_n hC dX5_share_14 rfl 3 rfl ?_
  refine zv_X5_26 (rest := []) hC hF hM E rfl (Nat.le_of_ble_eq_true rfl) ⟨Nat.le_of_ble_eq_true rfl, Nat.le_of_ble_eq_true rfl⟩ ⟨Nat.le_refl _, Nat.le_refl _⟩ dX5_share_15 ?_
  rintro _ _ _ ⟨v13, rfl, rfl, rfl, E⟩
  refine z_istore (lv' := [(4, .int v13), (0, .ref (G.1 + (t + 9))), (1, .ref (G.1 + 1)), (2, .int a2), (3, .int a3)]) hC dX5_share_18 (Nat.le_of_ble_eq_true rfl) rfl ?_
  refine z_iload hC dX5_share_20 0 rfl ?_
  refine z_istore (lv' := [(5, .int v13), (4, .int v13), (0, .ref (G.1 + (t + 9))), (1, .ref (G.1 + 1)), (2, .int a2), (3, .int a3)]) hC dX5_share_22 (Nat.le_of_ble_eq_true rfl) rfl ?_
  refine z_iconst (v := 0) hC dX5_share_24 rfl ?_
  refine z_istore (lv' := [(6, .int (0 : Int32)), (5, .int v13), (4, .int v13), (0, .ref (G.1 + (t + 9))), (1, .ref (G.1 + 1)), (2, .int a2), (3, .int a3)]) hC dX5_share_25 (Nat.le_of_ble_eq_true rfl) rfl ?_
  refine z_sub [3, 4, 5, 6, 2, 1, 0] rfl ?_
  refine LP2_use (fun (v18 : Int32) (v19 : Int32) => ZM l G p e s m args below meth c 8 2 S (PV S post) S D12 27 [(0, .ref (G.1 + (t + 9))), (1, .ref (G.1 + 1)), (2, .int a2), (3, .int a3), (4, .int v13), (5, .int v18), (6, .int v19)] []) ?_ FU v13 (0 : Int32) E
  intro rec20 hrec21 v18 v19 E
  refine z_iload hC dX5_share_27 6 rfl ?_
  refine z_iconst (v := 4) hC dX5_share_29 rfl ?_
  refine z_icmp_ge (tgt := 51) hC dX5_share_30 (by decide) (fun c22 => ?_) (fun c22 => ?_)
  · replace E := E.1 c22
    refine z_iconst (v := 0) hC dX5_share_51 rfl ?_
    refine z_istore (lv' := [(6, .int (0 : Int32)), (0, .ref (G.1 + (t + 9))), (1, .ref (G.1 + 1)), (2, .int a2), (3, .int a3), (4, .int v13), (5, .int v18)]) hC dX5_share_52 (Nat.le_of_ble_eq_true rfl) rfl ?_
    refine z_sub [1, 2, 3, 4, 5, 6, 0] rfl ?_
    refine LP2_use (fun (v23 : Int32) (D24 : Dy) => ZM l G p e s m args below meth c 8 2 S (PV S post) S D24 54 [(0, .ref (G.1 + (t + 9))), (1, .ref (G.1 + 1)), (2, .int a2), (3, .int a3), (4, .int v13), (5, .int v18), (6, .int v23)] []) ?_ FU (0 : Int32) D12 E
    intro rec25 hrec26 v23 D24 E
    refine z_iload hC dX5_share_54 6 rfl ?_
    refine z_aload_n hC dX5_share_56 rfl 1 rfl ?_
    refine z_get hC lf_X5_30_1 (kX_1 hF) dX5_share_57 (fV_int rfl) ?_
    refine z_icmp_ge (tgt := 128) hC dX5_share_60 (by decide) (fun c27 => ?_) (fun c27 => ?_)
    · replace E := E.1 c27
      refine z_aload_n hC dX5_share_128 rfl 0 rfl ?_
      refine z_get hC (lfm_X5_43 hM.kd) (kO hM) dX5_share_129 (fVm_4 hM) ?_
      refine z_bipush (v := 7) hC dX5_share_132 rfl ?_
      refine z_iload hC dX5_share_134 4 rfl ?_
      refine z_i2l hC dX5_share_136 ?_
      refine z_last hC (kO_11 hM) (nO_11 hM) E.1 dX5_share_137 ?_
      replace E := E.2
      refine z_topD (fun D28 h29 => ?_)
      replace E := E D28 h29
      refine z_aload_n hC dX5_share_138 rfl 0 rfl ?_
      refine z_get hC (lfm_X5_47 hM.kd) (kO hM) dX5_share_139 (fVm_5 hM) ?_
      refine z_bipush (v := 7) hC dX5_share_142 rfl ?_
      refine z_iload hC dX5_share_144 5 rfl ?_
      refine z_i2l hC dX5_share_146 ?_
      refine z_last hC (kO_12 hM) (nO_12 hM) E.1 dX5_share_147 ?_
      replace E := E.2
      refine z_topD (fun D30 h31 => ?_)
      replace E := E D30 h31
      exact z_vret hC dX5_share_148 (Nat.le_refl _) (Nat.le_refl _) ⟨rfl, rfl, E⟩
    · replace E := E.2 c27
      refine z_iload hC dX5_share_63 6 rfl ?_
      refine z_iload_n hC dX5_share_65 rfl 2 rfl ?_
      refine z_callSN (rest := []) hC lk_X5_36 in_X11_isIn cd_X11_isIn ds_X11_isIn ⟨Nat.le_of_ble_eq_true rfl, Nat.le_of_ble_eq_true rfl⟩ st_X11_isIn (ct_X11_isIn hF E) rfl rfl (Nat.le_of_ble_eq_true rfl) ⟨Nat.le_refl _, Nat.le_refl _⟩ dX5_share_66 ?_
      rintro _ _ _ ⟨v33, rfl, rfl, rfl, E⟩
      obtain ⟨K38, hK39, EE⟩ := JN_use E (fun K38 : Dy → Prop => ∀ (D37 : Dy), K38 D37 → ZM l G p e s m args below meth c 8 2 S (PV S post) S D37 122 [(0, .ref (G.1 + (t + 9))), (1, .ref (G.1 + 1)), (2, .int a2), (3, .int a3), (4, .int v13), (5, .int v18), (6, .int v23)] []) (by
        intro D37 E
        obtain ⟨v40, h41⟩ : ∃ y : Int32, y = v23 + 1 := ⟨_, rfl⟩
        replace E := E v40 h41
        refine z_iinc (q := 6) (v := v40) (lv' := [(6, .int v40), (0, .ref (G.1 + (t + 9))), (1, .ref (G.1 + 1)), (2, .int a2), (3, .int a3), (4, .int v13), (5, .int v18)]) hC dX5_share_122 rfl (by rw [h41]; rfl) (Nat.le_of_ble_eq_true rfl) rfl ?_
        refine z_goto (tgt := 54) hC dX5_share_125 (by decide) ?_
        refine z_sub [1, 2, 3, 4, 5, 6, 0] rfl ?_
        exact hrec26 v40 D37 E)
      replace E := EE
      clear EE
      refine z_if_eq (tgt := 122) hC dX5_share_69 (by decide) (fun c42 => ?_) (fun c42 => ?_)
      · replace E := E.1 c42
        exact hK39 D24 E
      · replace E := E.2 c42
        refine z_aload_n hC dX5_share_72 rfl 1 rfl ?_
        refine z_get hC lf_X5_40_1 (kX_1 hF) dX5_share_73 (fV_ref rfl (rX_1_2 hF)) ?_
        refine z_iload hC dX5_share_76 6 rfl ?_
        refine z_iald hC (kX_4 hF) (nX_4 hF) E.1 dX5_share_78 ?_
        replace E := E.2
        refine z_topi (fun v43 h44 => ?_)
        replace E := E v43 h44
        refine z_istore (lv' := [(7, .int v43), (0, .ref (G.1 + (t + 9))), (1, .ref (G.1 + 1)), (2, .int a2), (3, .int a3), (4, .int v13), (5, .int v18), (6, .int v23)]) hC dX5_share_79 (Nat.le_of_ble_eq_true rfl) rfl ?_
        refine z_aload_n hC dX5_share_81 rfl 1 rfl ?_
        refine z_get hC (lfm_X5_43 hM.kd) (kO hM) dX5_share_82 (fVm_4 hM) ?_
        refine z_iload hC dX5_share_85 7 rfl ?_
        refine z_aload_n hC dX5_share_87 rfl 1 rfl ?_
        refine z_get hC (lfm_X5_9 hM.kd) (kO hM) dX5_share_88 (fVm_6 hM) ?_
        refine z_iload hC dX5_share_91 0 rfl ?_
        refine z_iald hC (kO_13 hM) (nO_13 hM) E.1 dX5_share_93 ?_
        replace E := E.2
        refine z_aload_n hC dX5_share_94 rfl 1 rfl ?_
        refine z_iload hC dX5_share_95 7 rfl ?_
        refine z_iload_n hC dX5_share_97 rfl 4 rfl ?_
        refine zv_X5_26 (rest := [.int (D24.1 (t + 13) (v43).toNatClampNeg), .int v23, .ref (G.1 + (t + 11))]) hC hF hM E rfl (Nat.le_of_ble_eq_true rfl) ⟨Nat.le_of_ble_eq_true rfl, Nat.le_of_ble_eq_true rfl⟩ ⟨Nat.le_refl _, Nat.le_refl _⟩ dX5_share_98 ?_
        rintro _ _ _ ⟨v45, rfl, rfl, rfl, E⟩
        refine z_imul hC dX5_share_101 ?_
        refine z_i2l hC dX5_share_102 ?_
        refine z_last hC (kO_11 hM) (nO_11 hM) E.1 dX5_share_103 ?_
        replace E := E.2
        refine z_topD (fun D50 h51 => ?_)
        replace E := E D50 h51
        refine z_aload_n hC dX5_share_104 rfl 1 rfl ?_
        refine z_get hC (lfm_X5_47 hM.kd) (kO hM) dX5_share_105 (fVm_5 hM) ?_
        refine z_iload hC dX5_share_108 7 rfl ?_
        refine z_iload hC dX5_share_110 6 rfl ?_
        refine z_aload_n hC dX5_share_112 rfl 1 rfl ?_
        refine z_get hC (lfm_X5_15 hM.kd) (kO hM) dX5_share_113 (fVm_7 hM) ?_
        refine z_iload hC dX5_share_116 0 rfl ?_
        refine z_iald hC (kO_14 hM) (nO_14 hM) E.1 dX5_share_118 ?_
        replace E := E.2
        refine z_imul hC dX5_share_119 ?_
        refine z_i2l hC dX5_share_120 ?_
        refine z_last hC (kO_12 hM) (nO_12 hM) E.1 dX5_share_121 ?_
        replace E := E.2
        refine z_topD (fun D52 h53 => ?_)
        replace E := E D52 h53
        refine z_sub [1, 2, 3, 4, 5, 6, 7] rfl ?_
        exact hK39 D52 E
  · replace E := E.2 c22
    refine z_iload hC dX5_share_33 5 rfl ?_
    refine z_aload_n hC dX5_share_35 rfl 0 rfl ?_
    refine z_get hC (lfm_X5_9 hM.kd) (kO hM) dX5_share_36 (fVm_6 hM) ?_
    refine z_iload hC dX5_share_39 6 rfl ?_
    refine z_iald hC (kO_13 hM) (nO_13 hM) E.1 dX5_share_41 ?_
    replace E := E.2
    refine z_iadd hC dX5_share_42 ?_
    refine z_topi (fun v54 h55 => ?_)
    replace E := E v54 h55
    refine z_istore (lv' := [(5, .int v54), (0, .ref (G.1 + (t + 9))), (1, .ref (G.1 + 1)), (2, .int a2), (3, .int a3), (4, .int v13), (6, .int v19)]) hC dX5_share_43 (Nat.le_of_ble_eq_true rfl) rfl ?_
    obtain ⟨v56, h57⟩ : ∃ y : Int32, y = v19 + 1 := ⟨_, rfl⟩
    replace E := E v56 h57
    refine z_iinc (q := 6) (v := v56) (lv' := [(6, .int v56), (5, .int v54), (0, .ref (G.1 + (t + 9))), (1, .ref (G.1 + 1)), (2, .int a2), (3, .int a3), (4, .int v13)]) hC dX5_share_45 rfl (by rw [h57]; rfl) (Nat.le_of_ble_eq_true rfl) rfl ?_
    refine z_goto (tgt := 27) hC dX5_share_48 (by decide) ?_
    refine z_sub [2, 3, 4, 5, 6, 1, 0] rfl ?_
    exact hrec21 v54 v56 E
theorem cu_X5_68_2 : CU RX5 RX7 ⟨"WhyChosen$Nested", "oddsBody", "(ILWhyChosen$Trace;)I"⟩ yX7_oddsBody := ⟨tw_1012, tw_1014, iy_X7_oddsBody, iy_X7_oddsBody, ⟨_, _, _, cd_X7_oddsBody⟩, by decide +kernel, by decide +kernel⟩
theorem lk_X5_68 : Cond.methodLink RX5 68 ⟨"WhyChosen$Nested", "oddsBody", "(ILWhyChosen$Trace;)I"⟩ ∈ TB := tw_1011
section ZVV
variable {p : Program} {l : Launch} {e : Env} {R : Room} {s : State} {m : MethodId} {args : Array Value} {below : List Frame} {meth : Method} {c : Code} {nL : Nat} {k n : Nat} {Q : State → Prop} {pc : Nat} {lv : List (Nat × Value)} {st : List Value}
variable {G : Gl} {cc : ByteArray} {own : String} {ret : Option FieldType} {A : Nat → Prop} {S S' S0 : Sh} {D D' : Dy} {a N : Nat} {Wp : Heap → List Loc → Prop}

set_option maxRecDepth 100000 in
theorem zv_X5_68 (hC : CX G cc RX5 nL ret p s m args meth c) {mdl : Nat → Option (Nat × Nat)} (hF : FX S mdl) {t : Nat} (hM : FMo S t 2) {a1 : Int32} {post : Int32 → Dy → Prop} (E : v_oddsBody t 2 a1 D post) {rest : List Value} (hstk : st = List.reverse [.int a1, .ref (G.1 + 22)] ++ .ref (G.1 + (t + 9)) :: rest) (hrm : (rest.map fun v => v.category).sum ≤ 8) (hR : 4 + 1 ≤ R.frames ∧ 8 + (3 + 11) + 60 * 4 ≤ R.locals) (hkn : k + 0 ≤ R.cells ∧ n + 0 ≤ R.slots) (hd : decode cc pc = .ok (.invokevirtual 68, 3)) (kz : ∀ v S1 D1, (PI S post) v S1 D1 → Z p l e R s m args below meth c nL (WM G s A S1 D1) (k + 0) (n + 0) Q (pc + 3) lv (v.toList ++ rest)) : Z p l e R s m args below meth c nL (WM G s A S D) k n Q pc lv st := by
  exact z_callU (ci := 5) (C := RX5) (owner := RX7) (x := ⟨"WhyChosen$Nested", "oddsBody", "(ILWhyChosen$Trace;)I"⟩) (av := [.int a1, .ref (G.1 + 22)]) hC lk_X5_68 in_X7_oddsBody cd_X7_oddsBody dn_X7_oddsBody (by omega) cu_X5_68_2 cf_5 (by decide) (kO hM) (ct_X7_oddsBody hF hM (by decide) (E.2.2.1 rfl)) rfl hstk hrm hkn hd kz
end ZVV
def fX5_tellsBody (t : Nat) (a1 : Int32) (D : Dy) (post : Int32 → Dy → Prop) : Prop :=
  (fX10_note (31 : Int32) D (fun (D6 : Dy) => (fX4_tellsBody t 2 a1 D6 (fun (v7 : Int32) (D12 : Dy) => (v_oddsBody t 2 (1 : Int32) D12 (fun (v13 : Int32) (D18 : Dy) => post (v7 + v13) D18))))))
set_option maxHeartbeats 4000000 in
set_option maxRecDepth 100000 in
theorem ct_X5_tellsBody {l : Launch} {G : Gl} {S : Sh} {D : Dy} {mdl : Nat → Option (Nat × Nat)} (hF : FX S mdl) {t : Nat} (hM : FMo S t 2) {a1 : Int32} {post : Int32 → Dy → Prop} (E : fX5_tellsBody t a1 D post) : Ct l G yX5_tellsBody cX5_tellsBody 3 (some .int) 7 0 0 S D [.ref (G.1 + (t + 9)), .int a1, .ref (G.1 + 22)] (PI S post) := by
  refine z_enter (lv0 := [(0, .ref (G.1 + (t + 9))), (1, .int a1), (2, .ref (G.1 + 22))]) pl_5 (Nat.le_of_ble_eq_true rfl) rfl ?_
  intro p e s m args below meth c hC hnm
  unfold fX5_tellsBody at E
  have hT := hM.ft
  refine z_aload_n hC dX5_tellsBody_0 rfl 2 rfl ?_
  refine z_bipush (v := 31) hC dX5_tellsBody_1 rfl ?_
  refine z_callV (ci := 10) (rest := []) hC (ck_mk lk_X5_55 in_X10_note cd_X10_note ds_X10_note (Nat.le_of_ble_eq_true rfl) (Nat.le_of_ble_eq_true rfl)) iy_X10_note sy_X10_note cf_10 (by decide) (kX_22 hF) (ct_X10_note hF E) rfl rfl (Nat.le_of_ble_eq_true rfl) ⟨Nat.le_refl _, Nat.le_refl _⟩ dX5_tellsBody_3 ?_
  rintro _ _ D6 ⟨rfl, rfl, E⟩
  refine z_aload_n hC dX5_tellsBody_6 rfl 0 rfl ?_
  refine z_iload_n hC dX5_tellsBody_7 rfl 1 rfl ?_
  refine z_aload_n hC dX5_tellsBody_8 rfl 2 rfl ?_
  obtain ⟨C, T, hci, hc13⟩ := cfm hM.kd
  refine z_callSX (rest := []) hC lk_X5_65 smx_X5_65 rfl sux_X5_65 suy_X5_65 iy_X4_tellsBody in_X4_tellsBody cd_X4_tellsBody (by decide) dn_X4_tellsBody ⟨Nat.le_of_ble_eq_true rfl, Nat.le_of_ble_eq_true rfl⟩ hci hc13 (kO hM) (ct_X4_tellsBody hF hM E) rfl rfl (Nat.le_of_ble_eq_true rfl) ⟨Nat.le_refl _, Nat.le_refl _⟩ dX5_tellsBody_9 ?_
  rintro _ _ D12 ⟨v7, rfl, rfl, E⟩
  refine z_aload_n hC dX5_tellsBody_12 rfl 0 rfl ?_
  refine z_iconst (v := 1) hC dX5_tellsBody_13 rfl ?_
  refine z_aload_n hC dX5_tellsBody_14 rfl 2 rfl ?_
  refine zv_X5_68 (rest := [.int v7]) hC hF hM E rfl (Nat.le_of_ble_eq_true rfl) ⟨Nat.le_of_ble_eq_true rfl, Nat.le_of_ble_eq_true rfl⟩ ⟨Nat.le_refl _, Nat.le_refl _⟩ dX5_tellsBody_15 ?_
  rintro _ _ D18 ⟨v13, rfl, rfl, E⟩
  refine z_iadd hC dX5_tellsBody_18 ?_
  exact z_iret hC dX5_tellsBody_19 (Nat.le_refl _) (Nat.le_refl _) ⟨_, rfl, rfl, E⟩
def fX6_clear (a1 : Int32) (D : Dy) (post : Dy → Prop) : Prop :=
  (∀ D1 : Dy, D1 = sI D 14 0 (a1 + (1 : Int32)) → (∀ D3 : Dy, D3 = sI D1 14 4 (0 : Int32) → (LP2 (fun (rec7 : Int32 → Dy → Prop) (v5 : Int32) (D6 : Dy) => (((7 : Int32) ≤ v5 → post D6) ∧ (¬ (7 : Int32) ≤ v5 → (vp_in v5 7 ∧ (∀ D10 : Dy, D10 = sI D6 15 (v5).toNatClampNeg (0 : Int32) → (∀ v12 : Int32, v12 = v5 + 1 → (rec7 v12 D10))))))) FU (0 : Int32) D3)))
set_option maxHeartbeats 4000000 in
set_option maxRecDepth 100000 in
theorem ct_X6_clear {l : Launch} {G : Gl} {S : Sh} {D : Dy} {mdl : Nat → Option (Nat × Nat)} (hF : FX S mdl) {a1 : Int32} {post : Dy → Prop} (E : fX6_clear a1 D post) : Ct l G yX6_clear cX6_clear 3 none 0 0 0 S D [.ref (G.1 + 14), .int a1] (PV S post) := by
  refine z_enter (lv0 := [(0, .ref (G.1 + 14)), (1, .int a1)]) pl_6 (Nat.le_of_ble_eq_true rfl) rfl ?_
  intro p e s m args below meth c hC hnm
  unfold fX6_clear at E
  refine z_aload_n hC dX6_clear_0 rfl 0 rfl ?_
  refine z_iload_n hC dX6_clear_1 rfl 1 rfl ?_
  refine z_iconst (v := 1) hC dX6_clear_2 rfl ?_
  refine z_iadd hC dX6_clear_3 ?_
  refine z_puti hC lf_X6_9_6 rfl (kX_14 hF) dX6_clear_4 ?_
  refine z_topD (fun D1 h2 => ?_)
  replace E := E D1 h2
  refine z_aload_n hC dX6_clear_7 rfl 0 rfl ?_
  refine z_iconst (v := 0) hC dX6_clear_8 rfl ?_
  refine z_puti hC lf_X6_34_6 rfl (kX_14 hF) dX6_clear_9 ?_
  refine z_topD (fun D3 h4 => ?_)
  replace E := E D3 h4
  refine z_iconst (v := 0) hC dX6_clear_12 rfl ?_
  refine z_istore_n (lv' := [(2, .int (0 : Int32)), (0, .ref (G.1 + 14)), (1, .int a1)]) hC dX6_clear_13 rfl (Nat.le_of_ble_eq_true rfl) rfl ?_
  refine z_sub [1, 0] rfl ?_
  refine LP2_use (fun (v5 : Int32) (D6 : Dy) => ZM l G p e s m args below meth c 3 0 S (PV S post) S D6 14 [(0, .ref (G.1 + 14)), (2, .int v5)] []) ?_ FU (0 : Int32) D3 E
  intro rec7 hrec8 v5 D6 E
  refine z_iload_n hC dX6_clear_14 rfl 1 rfl ?_
  refine z_bipush (v := 7) hC dX6_clear_15 rfl ?_
  refine z_icmp_ge (tgt := 33) hC dX6_clear_17 (by decide) (fun c9 => ?_) (fun c9 => ?_)
  · replace E := E.1 c9
    exact z_vret hC dX6_clear_33 (Nat.le_refl _) (Nat.le_refl _) ⟨rfl, rfl, E⟩
  · replace E := E.2 c9
    refine z_aload_n hC dX6_clear_20 rfl 0 rfl ?_
    refine z_get hC lf_X6_15_6 (kX_14 hF) dX6_clear_21 (fV_ref rfl (rX_14_1 hF)) ?_
    refine z_iload_n hC dX6_clear_24 rfl 1 rfl ?_
    refine z_iconst (v := 0) hC dX6_clear_25 rfl ?_
    refine z_iast hC (kX_15 hF) (nX_15 hF) E.1 dX6_clear_26 ?_
    replace E := E.2
    refine z_topD (fun D10 h11 => ?_)
    replace E := E D10 h11
    obtain ⟨v12, h13⟩ : ∃ y : Int32, y = v5 + 1 := ⟨_, rfl⟩
    replace E := E v12 h13
    refine z_iinc (q := 1) (v := v12) (lv' := [(2, .int v12), (0, .ref (G.1 + 14))]) hC dX6_clear_27 rfl (by rw [h13]; rfl) (Nat.le_of_ble_eq_true rfl) rfl ?_
    refine z_goto (tgt := 14) hC dX6_clear_30 (by decide) ?_
    refine z_sub [1, 0] rfl ?_
    exact hrec8 v12 D10 E
def fX6_mayFollow (a1 : Int32) (a2 : Int32) (D : Dy) (post : Int32 → Prop) : Prop :=
  (fX11_isIn a1 a2 (fun (v2 : Int32) => (JN (post (0 : Int32)) (fun K6 : Prop => ((¬ v2 = 0 → K6) ∧ (v2 = 0 → (vp_in a1 7 ∧ ((¬ ((D.1 15 (a1).toNatClampNeg) &&& (a2 ^^^ (-1 : Int32))) = 0 → K6) ∧ (((D.1 15 (a1).toNatClampNeg) &&& (a2 ^^^ (-1 : Int32))) = 0 → post (1 : Int32))))))))))
set_option maxHeartbeats 4000000 in
set_option maxRecDepth 100000 in
theorem ct_X6_mayFollow {l : Launch} {G : Gl} {S : Sh} {D : Dy} {mdl : Nat → Option (Nat × Nat)} (hF : FX S mdl) {a1 : Int32} {a2 : Int32} {post : Int32 → Prop} (E : fX6_mayFollow a1 a2 D post) : Ct l G yX6_mayFollow cX6_mayFollow 3 (some .boolean) 1 0 0 S D [.ref (G.1 + 14), .int a1, .int a2] (PIr S D post) := by
  refine z_enter (lv0 := [(0, .ref (G.1 + 14)), (1, .int a1), (2, .int a2)]) pl_6 (Nat.le_of_ble_eq_true rfl) rfl ?_
  intro p e s m args below meth c hC hnm
  unfold fX6_mayFollow at E
  refine z_iload_n hC dX6_mayFollow_0 rfl 1 rfl ?_
  refine z_iload_n hC dX6_mayFollow_1 rfl 2 rfl ?_
  refine z_callSN (rest := []) hC lk_X6_41 in_X11_isIn cd_X11_isIn ds_X11_isIn ⟨Nat.le_of_ble_eq_true rfl, Nat.le_of_ble_eq_true rfl⟩ st_X11_isIn (ct_X11_isIn hF E) rfl rfl (Nat.le_of_ble_eq_true rfl) ⟨Nat.le_refl _, Nat.le_refl _⟩ dX6_mayFollow_2 ?_
  rintro _ _ _ ⟨v2, rfl, rfl, rfl, E⟩
  obtain ⟨K6, hK7, EE⟩ := JN_use E (fun K6 : Prop => K6 → ZM l G p e s m args below meth c 3 1 S (PIr S D post) S D 25 [] []) (by
    intro E
    refine z_iconst (v := 0) hC dX6_mayFollow_25 rfl ?_
    exact z_zret hC dX6_mayFollow_26 (Or.inl rfl) (Nat.le_refl _) (Nat.le_refl _) ⟨_, rfl, rfl, rfl, E⟩)
  replace E := EE
  clear EE
  refine z_if_ne (tgt := 25) hC dX6_mayFollow_5 (by decide) (fun c8 => ?_) (fun c8 => ?_)
  · replace E := E.1 c8
    refine z_sub [] rfl ?_
    exact hK7  E
  · replace E := E.2 c8
    refine z_aload_n hC dX6_mayFollow_8 rfl 0 rfl ?_
    refine z_get hC lf_X6_15_6 (kX_14 hF) dX6_mayFollow_9 (fV_ref rfl (rX_14_1 hF)) ?_
    refine z_iload_n hC dX6_mayFollow_12 rfl 1 rfl ?_
    refine z_iald hC (kX_15 hF) (nX_15 hF) E.1 dX6_mayFollow_13 ?_
    replace E := E.2
    refine z_iload_n hC dX6_mayFollow_14 rfl 2 rfl ?_
    refine z_iconst (v := -1) hC dX6_mayFollow_15 rfl ?_
    refine z_ixor hC dX6_mayFollow_16 ?_
    refine z_iand hC dX6_mayFollow_17 ?_
    refine z_if_ne (tgt := 25) hC dX6_mayFollow_18 (by decide) (fun c9 => ?_) (fun c9 => ?_)
    · replace E := E.1 c9
      refine z_sub [] rfl ?_
      exact hK7  E
    · replace E := E.2 c9
      refine z_iconst (v := 1) hC dX6_mayFollow_21 rfl ?_
      refine z_goto (tgt := 26) hC dX6_mayFollow_22 (by decide) ?_
      exact z_zret hC dX6_mayFollow_26 (Or.inr rfl) (Nat.le_refl _) (Nat.le_refl _) ⟨_, rfl, rfl, rfl, E⟩
def fX6_countRests (a1 : Int32) (D : Dy) (post : Dy → Prop) : Prop :=
  (vp_in a1 128 ∧ (∀ D1 : Dy, D1 = sI D 19 (a1).toNatClampNeg (1 : Int32) → (∀ v3 : Int32, v3 = (a1 - (1 : Int32)) → (LP2 (fun (rec7 : Int32 → Dy → Prop) (v5 : Int32) (D6 : Dy) => ((v5 < 0 → post D6) ∧ (¬ v5 < 0 → (vp_in v5 128 ∧ (∀ D10 : Dy, D10 = sI D6 19 (v5).toNatClampNeg (0 : Int32) → (LP2 (fun (rec14 : Int32 → Dy → Prop) (v12 : Int32) (D13 : Dy) => (JN ((∀ v18 : Int32, v18 = v5 + (-1) → (rec7 v18 D13))) (fun K16 : Prop => (((D13.1 14 0) ≤ v12 → K16) ∧ (¬ (D13.1 14 0) ≤ v12 → (vp_in v5 128 ∧ (((D13.1 18 (v5).toNatClampNeg) ≤ 0 → K16) ∧ (¬ (D13.1 18 (v5).toNatClampNeg) ≤ 0 → (fX6_mayFollow v12 v5 D13 (fun (v23 : Int32) => (JN (fun (D27 : Dy) => (∀ v30 : Int32, v30 = v12 + 1 → (rec14 v30 D27))) (fun K28 : Dy → Prop => ((v23 = 0 → (K28 D13)) ∧ (¬ v23 = 0 → (vp_in v5 128 ∧ (vp_in (v5 ||| ((1 : Int32) <<< (v12 &&& 31))) 128 ∧ (vp_in v5 128 ∧ (∀ D33 : Dy, D33 = sI D13 19 (v5).toNatClampNeg ((D13.1 19 (v5).toNatClampNeg) + (D13.1 19 ((v5 ||| ((1 : Int32) <<< (v12 &&& 31)))).toNatClampNeg)) → (K28 D33))))))))))))))))))) FU (0 : Int32) D10)))))) FU v3 D1))))
set_option maxHeartbeats 4000000 in
set_option maxRecDepth 100000 in
theorem ct_X6_countRests {l : Launch} {G : Gl} {S : Sh} {D : Dy} {mdl : Nat → Option (Nat × Nat)} (hF : FX S mdl) {a1 : Int32} {post : Dy → Prop} (E : fX6_countRests a1 D post) : Ct l G yX6_countRests cX6_countRests 4 none 2 0 0 S D [.ref (G.1 + 14), .int a1] (PV S post) := by
  refine z_enter (lv0 := [(0, .ref (G.1 + 14)), (1, .int a1)]) pl_6 (Nat.le_of_ble_eq_true rfl) rfl ?_
  intro p e s m args below meth c hC hnm
  unfold fX6_countRests at E
  refine z_aload_n hC dX6_countRests_0 rfl 0 rfl ?_
  refine z_get hC lf_X6_28_6 (kX_14 hF) dX6_countRests_1 (fV_ref rfl (rX_14_6 hF)) ?_
  refine z_iload_n hC dX6_countRests_4 rfl 1 rfl ?_
  refine z_iconst (v := 1) hC dX6_countRests_5 rfl ?_
  refine z_iast hC (kX_19 hF) (nX_19 hF) E.1 dX6_countRests_6 ?_
  replace E := E.2
  refine z_topD (fun D1 h2 => ?_)
  replace E := E D1 h2
  refine z_iload_n hC dX6_countRests_7 rfl 1 rfl ?_
  refine z_iconst (v := 1) hC dX6_countRests_8 rfl ?_
  refine z_isub hC dX6_countRests_9 ?_
  refine z_topi (fun v3 h4 => ?_)
  replace E := E v3 h4
  refine z_istore_n (lv' := [(2, .int v3), (0, .ref (G.1 + 14)), (1, .int a1)]) hC dX6_countRests_10 rfl (Nat.le_of_ble_eq_true rfl) rfl ?_
  refine z_sub [1, 0] rfl ?_
  refine LP2_use (fun (v5 : Int32) (D6 : Dy) => ZM l G p e s m args below meth c 4 2 S (PV S post) S D6 11 [(0, .ref (G.1 + 14)), (2, .int v5)] []) ?_ FU v3 D1 E
  intro rec7 hrec8 v5 D6 E
  refine z_iload_n hC dX6_countRests_11 rfl 1 rfl ?_
  refine z_if_lt (tgt := 81) hC dX6_countRests_12 (by decide) (fun c9 => ?_) (fun c9 => ?_)
  · replace E := E.1 c9
    exact z_vret hC dX6_countRests_81 (Nat.le_refl _) (Nat.le_refl _) ⟨rfl, rfl, E⟩
  · replace E := E.2 c9
    refine z_aload_n hC dX6_countRests_15 rfl 0 rfl ?_
    refine z_get hC lf_X6_28_6 (kX_14 hF) dX6_countRests_16 (fV_ref rfl (rX_14_6 hF)) ?_
    refine z_iload_n hC dX6_countRests_19 rfl 1 rfl ?_
    refine z_iconst (v := 0) hC dX6_countRests_20 rfl ?_
    refine z_iast hC (kX_19 hF) (nX_19 hF) E.1 dX6_countRests_21 ?_
    replace E := E.2
    refine z_topD (fun D10 h11 => ?_)
    replace E := E D10 h11
    refine z_iconst (v := 0) hC dX6_countRests_22 rfl ?_
    refine z_istore_n (lv' := [(3, .int (0 : Int32)), (0, .ref (G.1 + 14)), (2, .int v5)]) hC dX6_countRests_23 rfl (Nat.le_of_ble_eq_true rfl) rfl ?_
    refine z_sub [1, 2, 0] rfl ?_
    refine LP2_use (fun (v12 : Int32) (D13 : Dy) => ZM l G p e s m args below meth c 4 2 S (PV S post) S D13 24 [(0, .ref (G.1 + 14)), (2, .int v5), (3, .int v12)] []) ?_ FU (0 : Int32) D10 E
    intro rec14 hrec15 v12 D13 E
    refine z_iload_n hC dX6_countRests_24 rfl 2 rfl ?_
    refine z_aload_n hC dX6_countRests_25 rfl 0 rfl ?_
    refine z_get hC lf_X6_9_6 (kX_14 hF) dX6_countRests_26 (fV_int rfl) ?_
    obtain ⟨K16, hK17, EE⟩ := JN_use E (fun K16 : Prop => K16 → ZM l G p e s m args below meth c 4 2 S (PV S post) S D13 75 [(0, .ref (G.1 + 14)), (2, .int v5)] []) (by
      intro E
      obtain ⟨v18, h19⟩ : ∃ y : Int32, y = v5 + (-1) := ⟨_, rfl⟩
      replace E := E v18 h19
      refine z_iinc (q := 1) (v := v18) (lv' := [(2, .int v18), (0, .ref (G.1 + 14))]) hC dX6_countRests_75 rfl (by rw [h19]; rfl) (Nat.le_of_ble_eq_true rfl) rfl ?_
      refine z_goto (tgt := 11) hC dX6_countRests_78 (by decide) ?_
      refine z_sub [1, 0] rfl ?_
      exact hrec8 v18 D13 E)
    replace E := EE
    clear EE
    refine z_icmp_ge (tgt := 75) hC dX6_countRests_29 (by decide) (fun c20 => ?_) (fun c20 => ?_)
    · replace E := E.1 c20
      refine z_sub [0, 1] rfl ?_
      exact hK17  E
    · replace E := E.2 c20
      refine z_aload_n hC dX6_countRests_32 rfl 0 rfl ?_
      refine z_get hC lf_X6_25_6 (kX_14 hF) dX6_countRests_33 (fV_ref rfl (rX_14_5 hF)) ?_
      refine z_iload_n hC dX6_countRests_36 rfl 1 rfl ?_
      refine z_iald hC (kX_18 hF) (nX_18 hF) E.1 dX6_countRests_37 ?_
      replace E := E.2
      refine z_if_le (tgt := 75) hC dX6_countRests_38 (by decide) (fun c21 => ?_) (fun c21 => ?_)
      · replace E := E.1 c21
        refine z_sub [0, 1] rfl ?_
        exact hK17  E
      · replace E := E.2 c21
        refine z_aload_n hC dX6_countRests_41 rfl 0 rfl ?_
        refine z_iload_n hC dX6_countRests_42 rfl 2 rfl ?_
        refine z_iload_n hC dX6_countRests_43 rfl 1 rfl ?_
        refine z_callV (ci := 6) (rest := []) hC (ck_mk lk_X6_45 in_X6_mayFollow cd_X6_mayFollow ds_X6_mayFollow (Nat.le_of_ble_eq_true rfl) (Nat.le_of_ble_eq_true rfl)) iy_X6_mayFollow sy_X6_mayFollow cf_6 (by decide) (kX_14 hF) (ct_X6_mayFollow hF E) rfl rfl (Nat.le_of_ble_eq_true rfl) ⟨Nat.le_refl _, Nat.le_refl _⟩ dX6_countRests_44 ?_
        rintro _ _ _ ⟨v23, rfl, rfl, rfl, E⟩
        obtain ⟨K28, hK29, EE⟩ := JN_use E (fun K28 : Dy → Prop => ∀ (D27 : Dy), K28 D27 → ZM l G p e s m args below meth c 4 2 S (PV S post) S D27 69 [(0, .ref (G.1 + 14)), (2, .int v5), (3, .int v12)] []) (by
          intro D27 E
          obtain ⟨v30, h31⟩ : ∃ y : Int32, y = v12 + 1 := ⟨_, rfl⟩
          replace E := E v30 h31
          refine z_iinc (q := 2) (v := v30) (lv' := [(3, .int v30), (0, .ref (G.1 + 14)), (2, .int v5)]) hC dX6_countRests_69 rfl (by rw [h31]; rfl) (Nat.le_of_ble_eq_true rfl) rfl ?_
          refine z_goto (tgt := 24) hC dX6_countRests_72 (by decide) ?_
          refine z_sub [1, 2, 0] rfl ?_
          exact hrec15 v30 D27 E)
        replace E := EE
        clear EE
        refine z_if_eq (tgt := 69) hC dX6_countRests_47 (by decide) (fun c32 => ?_) (fun c32 => ?_)
        · replace E := E.1 c32
          exact hK29 D13 E
        · replace E := E.2 c32
          refine z_aload_n hC dX6_countRests_50 rfl 0 rfl ?_
          refine z_get hC lf_X6_28_6 (kX_14 hF) dX6_countRests_51 (fV_ref rfl (rX_14_6 hF)) ?_
          refine z_iload_n hC dX6_countRests_54 rfl 1 rfl ?_
          refine z_dup2 hC dX6_countRests_55 rfl rfl ?_
          refine z_iald hC (kX_19 hF) (nX_19 hF) E.1 dX6_countRests_56 ?_
          replace E := E.2
          refine z_aload_n hC dX6_countRests_57 rfl 0 rfl ?_
          refine z_get hC lf_X6_28_6 (kX_14 hF) dX6_countRests_58 (fV_ref rfl (rX_14_6 hF)) ?_
          refine z_iload_n hC dX6_countRests_61 rfl 1 rfl ?_
          refine z_iconst (v := 1) hC dX6_countRests_62 rfl ?_
          refine z_iload_n hC dX6_countRests_63 rfl 2 rfl ?_
          refine z_ishl hC dX6_countRests_64 ?_
          refine z_ior hC dX6_countRests_65 ?_
          refine z_iald hC (kX_19 hF) (nX_19 hF) E.1 dX6_countRests_66 ?_
          replace E := E.2
          refine z_iadd hC dX6_countRests_67 ?_
          refine z_iast hC (kX_19 hF) (nX_19 hF) E.1 dX6_countRests_68 ?_
          replace E := E.2
          refine z_topD (fun D33 h34 => ?_)
          replace E := E D33 h34
          exact hK29 D33 E
def fX6_countAgreeing  (D : Dy) (post : Int32 → Dy → Prop) : Prop :=
  (∀ v1 : Int32, v1 = (((1 : Int32) <<< ((D.1 14 0) &&& 31)) - (1 : Int32)) → (LP2 (fun (rec5 : Int32 → Dy → Prop) (v3 : Int32) (D4 : Dy) => ((v1 < v3 → (vp_in (0 : Int32) 128 ∧ (∀ D8 : Dy, D8 = sI D4 18 ((0 : Int32)).toNatClampNeg (1 : Int32) → (LP2 (fun (rec12 : Int32 → Dy → Prop) (v10 : Int32) (D11 : Dy) => ((v1 ≤ v10 → (fX6_countRests v1 D11 (fun (D20 : Dy) => (vp_in v1 128 ∧ post (D20.1 18 (v1).toNatClampNeg) D20)))) ∧ (¬ v1 ≤ v10 → (LP2 (fun (rec23 : Int32 → Dy → Prop) (v21 : Int32) (D22 : Dy) => (JN ((∀ v27 : Int32, v27 = v10 + 1 → (rec12 v27 D22))) (fun K25 : Prop => (((D22.1 14 0) ≤ v21 → K25) ∧ (¬ (D22.1 14 0) ≤ v21 → (vp_in v10 128 ∧ (((D22.1 18 (v10).toNatClampNeg) ≤ 0 → K25) ∧ (¬ (D22.1 18 (v10).toNatClampNeg) ≤ 0 → (fX6_mayFollow v21 v10 D22 (fun (v32 : Int32) => (JN (fun (D36 : Dy) => (∀ v39 : Int32, v39 = v21 + 1 → (rec23 v39 D36))) (fun K37 : Dy → Prop => ((v32 = 0 → (K37 D22)) ∧ (¬ v32 = 0 → (∀ v42 : Int32, v42 = (v10 ||| ((1 : Int32) <<< (v21 &&& 31))) → (vp_in v42 128 ∧ (vp_in v10 128 ∧ (vp_in v42 128 ∧ (∀ D44 : Dy, D44 = sI D22 18 (v42).toNatClampNeg ((D22.1 18 (v42).toNatClampNeg) + (D22.1 18 (v10).toNatClampNeg)) → (K37 D44)))))))))))))))))))) FU (0 : Int32) D11)))) FU (0 : Int32) D8)))) ∧ (¬ v1 < v3 → (vp_in v3 128 ∧ (∀ D46 : Dy, D46 = sI D4 18 (v3).toNatClampNeg (0 : Int32) → (∀ v48 : Int32, v48 = v3 + 1 → (rec5 v48 D46))))))) FU (0 : Int32) D))
