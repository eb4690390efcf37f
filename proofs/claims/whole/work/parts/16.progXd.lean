theorem cu_X11_137_0 : CU RX4 RX4 ⟨"WhyChosen$Model", "weightOf", "(LWhyChosen$Goods;II)I"⟩ yX4_weightOf := ⟨tw_589, tw_588, iy_X4_weightOf, iy_X4_weightOf, ⟨_, _, _, cd_X4_weightOf⟩, by decide +kernel, by decide +kernel⟩
theorem cu_X11_137_1 : CU RX7 RX4 ⟨"WhyChosen$Model", "weightOf", "(LWhyChosen$Goods;II)I"⟩ yX4_weightOf := ⟨tw_589, tw_593, iy_X4_weightOf, iy_X4_weightOf, ⟨_, _, _, cd_X4_weightOf⟩, by decide +kernel, by decide +kernel⟩
theorem cu_X11_137_2 : CU RX5 RX4 ⟨"WhyChosen$Model", "weightOf", "(LWhyChosen$Goods;II)I"⟩ yX4_weightOf := ⟨tw_589, tw_592, iy_X4_weightOf, iy_X4_weightOf, ⟨_, _, _, cd_X4_weightOf⟩, by decide +kernel, by decide +kernel⟩
theorem cu_X11_137_3 : CU RX3 RX4 ⟨"WhyChosen$Model", "weightOf", "(LWhyChosen$Goods;II)I"⟩ yX4_weightOf := ⟨tw_589, tw_591, iy_X4_weightOf, iy_X4_weightOf, ⟨_, _, _, cd_X4_weightOf⟩, by decide +kernel, by decide +kernel⟩
theorem cu_X11_137_4 : CU RX2 RX4 ⟨"WhyChosen$Model", "weightOf", "(LWhyChosen$Goods;II)I"⟩ yX4_weightOf := ⟨tw_589, tw_590, iy_X4_weightOf, iy_X4_weightOf, ⟨_, _, _, cd_X4_weightOf⟩, by decide +kernel, by decide +kernel⟩
theorem cu_X11_137_5 : CU RX8 RX4 ⟨"WhyChosen$Model", "weightOf", "(LWhyChosen$Goods;II)I"⟩ yX4_weightOf := ⟨tw_589, tw_594, iy_X4_weightOf, iy_X4_weightOf, ⟨_, _, _, cd_X4_weightOf⟩, by decide +kernel, by decide +kernel⟩
theorem lk_X11_137 : Cond.methodLink RX11 137 ⟨"WhyChosen$Model", "weightOf", "(LWhyChosen$Goods;II)I"⟩ ∈ TB := tw_586
section ZVV
variable {p : Program} {l : Launch} {e : Env} {R : Room} {s : State} {m : MethodId} {args : Array Value} {below : List Frame} {meth : Method} {c : Code} {nL : Nat} {k n : Nat} {Q : State → Prop} {pc : Nat} {lv : List (Nat × Value)} {st : List Value}
variable {G : Gl} {cc : ByteArray} {own : String} {ret : Option FieldType} {A : Nat → Prop} {S S' S0 : Sh} {D D' : Dy} {a N : Nat} {Wp : Heap → List Loc → Prop}

set_option maxRecDepth 100000 in
theorem zv_X11_137 (hC : CX G cc RX11 nL ret p s m args meth c) {mdl : Nat → Option (Nat × Nat)} (hF : FX S mdl) {t kd : Nat} (hM : FMo S t kd) (hk : kd < 6) {a2 : Int32} {a3 : Int32} {post : Int32 → Prop} (E : v_weightOf t kd a2 a3 D post) {rest : List Value} (hstk : st = List.reverse [.ref (G.1 + 1), .int a2, .int a3] ++ .ref (G.1 + (t + 9)) :: rest) (hrm : (rest.map fun v => v.category).sum ≤ 8) (hR : 1 + 1 ≤ R.frames ∧ 8 + (6 + 11) + 60 * 1 ≤ R.locals) (hkn : k + 0 ≤ R.cells ∧ n + 0 ≤ R.slots) (hd : decode cc pc = .ok (.invokevirtual 137, 3)) (kz : ∀ v S1 D1, (PIr S D post) v S1 D1 → Z p l e R s m args below meth c nL (WM G s A S1 D1) (k + 0) (n + 0) Q (pc + 3) lv (v.toList ++ rest)) : Z p l e R s m args below meth c nL (WM G s A S D) k n Q pc lv st := by
  obtain rfl | rfl | rfl | rfl | rfl | rfl : kd = 0 ∨ kd = 1 ∨ kd = 2 ∨ kd = 3 ∨ kd = 4 ∨ kd = 5 := by omega
  · exact z_callU (ci := 4) (C := RX4) (owner := RX4) (x := ⟨"WhyChosen$Model", "weightOf", "(LWhyChosen$Goods;II)I"⟩) (av := [.ref (G.1 + 1), .int a2, .int a3]) hC lk_X11_137 in_X4_weightOf cd_X4_weightOf dn_X4_weightOf (by omega) cu_X11_137_0 cf_4 (by decide) (kO hM) (ct_X4_weightOf hF hM (E.1 rfl)) rfl hstk hrm hkn hd kz
  · exact z_callU (ci := 7) (C := RX7) (owner := RX4) (x := ⟨"WhyChosen$Model", "weightOf", "(LWhyChosen$Goods;II)I"⟩) (av := [.ref (G.1 + 1), .int a2, .int a3]) hC lk_X11_137 in_X4_weightOf cd_X4_weightOf dn_X4_weightOf (by omega) cu_X11_137_1 cf_7 (by decide) (kO hM) (ct_X4_weightOf hF hM (E.2.1 rfl)) rfl hstk hrm hkn hd kz
  · exact z_callU (ci := 5) (C := RX5) (owner := RX4) (x := ⟨"WhyChosen$Model", "weightOf", "(LWhyChosen$Goods;II)I"⟩) (av := [.ref (G.1 + 1), .int a2, .int a3]) hC lk_X11_137 in_X4_weightOf cd_X4_weightOf dn_X4_weightOf (by omega) cu_X11_137_2 cf_5 (by decide) (kO hM) (ct_X4_weightOf hF hM (E.2.2.1 rfl)) rfl hstk hrm hkn hd kz
  · exact z_callU (ci := 3) (C := RX3) (owner := RX4) (x := ⟨"WhyChosen$Model", "weightOf", "(LWhyChosen$Goods;II)I"⟩) (av := [.ref (G.1 + 1), .int a2, .int a3]) hC lk_X11_137 in_X4_weightOf cd_X4_weightOf dn_X4_weightOf (by omega) cu_X11_137_3 cf_3 (by decide) (kO hM) (ct_X4_weightOf hF hM (E.2.2.2.1 rfl)) rfl hstk hrm hkn hd kz
  · exact z_callU (ci := 2) (C := RX2) (owner := RX4) (x := ⟨"WhyChosen$Model", "weightOf", "(LWhyChosen$Goods;II)I"⟩) (av := [.ref (G.1 + 1), .int a2, .int a3]) hC lk_X11_137 in_X4_weightOf cd_X4_weightOf dn_X4_weightOf (by omega) cu_X11_137_4 cf_2 (by decide) (kO hM) (ct_X4_weightOf hF hM (E.2.2.2.2.1 rfl)) rfl hstk hrm hkn hd kz
  · exact z_callU (ci := 8) (C := RX8) (owner := RX4) (x := ⟨"WhyChosen$Model", "weightOf", "(LWhyChosen$Goods;II)I"⟩) (av := [.ref (G.1 + 1), .int a2, .int a3]) hC lk_X11_137 in_X4_weightOf cd_X4_weightOf dn_X4_weightOf (by omega) cu_X11_137_5 cf_8 (by decide) (kO hM) (ct_X4_weightOf hF hM (E.2.2.2.2.2 rfl)) rfl hstk hrm hkn hd kz
end ZVV
def fX11_weight (mdl : Nat → Option (Nat × Nat)) (a1 : Int32) (a2 : Int32) (a3 : Int32) (D : Dy) (post : Int32 → Prop) : Prop :=
  (fX11_modelAt mdl a1 D (fun (r4 : Option (Nat × Nat)) => ((r4 = none → post (-1 : Int32)) ∧ (∀ t kd : Nat, r4 = some (t, kd) → (fX11_isOption a2 D (fun (v8 : Int32) => ((v8 = 0 → post (-1 : Int32)) ∧ (¬ v8 = 0 → (fX11_within a3 (3 : Int32) (fun (v14 : Int32) => ((¬ v14 = 0 → (v_weightOf t kd a2 a3 D (fun (v19 : Int32) => post v19))) ∧ (v14 = 0 → post (-1 : Int32)))))))))))))
set_option maxHeartbeats 4000000 in
set_option maxRecDepth 100000 in
theorem ct_X11_weight {l : Launch} {G : Gl} {S : Sh} {D : Dy} {mdl : Nat → Option (Nat × Nat)} (hF : FX S mdl) {a1 : Int32} {a2 : Int32} {a3 : Int32} {post : Int32 → Prop} (E : fX11_weight mdl a1 a2 a3 D post) : Ct l G yX11_weight cX11_weight 5 (some .int) 3 0 0 S D [.ref (G.1 + 0), .int a1, .int a2, .int a3] (PIr S D post) := by
  refine z_enter (lv0 := [(0, .ref (G.1 + 0)), (1, .int a1), (2, .int a2), (3, .int a3)]) pl_11 (Nat.le_of_ble_eq_true rfl) rfl ?_
  intro p e s m args below meth c hC hnm
  unfold fX11_weight at E
  refine z_aload_n hC dX11_weight_0 rfl 0 rfl ?_
  refine z_iload_n hC dX11_weight_1 rfl 1 rfl ?_
  refine z_callV (ci := 11) (rest := []) hC (ck_mk lk_X11_130 in_X11_modelAt cd_X11_modelAt ds_X11_modelAt (Nat.le_of_ble_eq_true rfl) (Nat.le_of_ble_eq_true rfl)) iy_X11_modelAt sy_X11_modelAt cf_11 (by decide) (kX_0 hF) (ct_X11_modelAt hF E) rfl rfl (Nat.le_of_ble_eq_true rfl) ⟨Nat.le_refl _, Nat.le_refl _⟩ dX11_weight_2 ?_
  rintro _ _ _ ⟨r4, rfl, rfl, rfl, hq_r4, E⟩
  refine z_astoreq (lv' := [(4, va_rf (mq G r4)), (0, .ref (G.1 + 0)), (1, .int a1), (2, .int a2), (3, .int a3)]) hC dX11_weight_5 (Nat.le_of_ble_eq_true rfl) rfl ?_
  refine z_aloadq hC dX11_weight_7 0 rfl ?_
  refine z_ifnullM (tgt := 28) hC hq_r4 dX11_weight_9 (by decide) ?_ ?_
  · intro c6
    replace E := E.1 c6
    refine z_iconst (v := -1) hC dX11_weight_28 rfl ?_
    exact z_iret hC dX11_weight_29 (Nat.le_refl _) (Nat.le_refl _) ⟨_, rfl, rfl, rfl, E⟩
  · intro t kd hM c6
    replace E := E.2 t kd c6
    subst c6
    have hT := hM.ft
    refine z_aload_n hC dX11_weight_12 rfl 1 rfl ?_
    refine z_iload_n hC dX11_weight_13 rfl 3 rfl ?_
    refine z_callV (ci := 11) (rest := []) hC (ck_mk lk_X11_134 in_X11_isOption cd_X11_isOption ds_X11_isOption (Nat.le_of_ble_eq_true rfl) (Nat.le_of_ble_eq_true rfl)) iy_X11_isOption sy_X11_isOption cf_11 (by decide) (kX_0 hF) (ct_X11_isOption hF E) rfl rfl (Nat.le_of_ble_eq_true rfl) ⟨Nat.le_refl _, Nat.le_refl _⟩ dX11_weight_14 ?_
    rintro _ _ _ ⟨v8, rfl, rfl, rfl, E⟩
    refine z_if_eq (tgt := 28) hC dX11_weight_17 (by decide) (fun c12 => ?_) (fun c12 => ?_)
    · replace E := E.1 c12
      refine z_iconst (v := -1) hC dX11_weight_28 rfl ?_
      exact z_iret hC dX11_weight_29 (Nat.le_refl _) (Nat.le_refl _) ⟨_, rfl, rfl, rfl, E⟩
    · replace E := E.2 c12
      refine z_iload_n hC dX11_weight_20 rfl 4 rfl ?_
      refine z_iconst (v := 3) hC dX11_weight_21 rfl ?_
      refine z_callS (rest := []) hC (ck_mk lk_X11_69 in_X11_within cd_X11_within ds_X11_within (Nat.le_of_ble_eq_true rfl) (Nat.le_of_ble_eq_true rfl)) st_X11_within (ct_X11_within hF E) rfl rfl (Nat.le_of_ble_eq_true rfl) ⟨Nat.le_refl _, Nat.le_refl _⟩ dX11_weight_22 ?_
      rintro _ _ _ ⟨v14, rfl, rfl, rfl, E⟩
      refine z_if_ne (tgt := 30) hC dX11_weight_25 (by decide) (fun c18 => ?_) (fun c18 => ?_)
      · replace E := E.1 c18
        refine z_aload hC dX11_weight_30 0 rfl ?_
        refine z_aload_n hC dX11_weight_32 rfl 1 rfl ?_
        refine z_get hC lf_X11_12_11 (kX_0 hF) dX11_weight_33 (fV_ref rfl (rX_0_0 hF)) ?_
        refine z_iload_n hC dX11_weight_36 rfl 3 rfl ?_
        refine z_iload_n hC dX11_weight_37 rfl 4 rfl ?_
        refine zv_X11_137 (rest := []) hC hF hM (by have := hM.kd; omega) E rfl (Nat.le_of_ble_eq_true rfl) ⟨Nat.le_of_ble_eq_true rfl, Nat.le_of_ble_eq_true rfl⟩ ⟨Nat.le_refl _, Nat.le_refl _⟩ dX11_weight_38 ?_
        rintro _ _ _ ⟨v19, rfl, rfl, rfl, E⟩
        exact z_iret hC dX11_weight_41 (Nat.le_refl _) (Nat.le_refl _) ⟨_, rfl, rfl, rfl, E⟩
      · replace E := E.2 c18
        refine z_iconst (v := -1) hC dX11_weight_28 rfl ?_
        exact z_iret hC dX11_weight_29 (Nat.le_refl _) (Nat.le_refl _) ⟨_, rfl, rfl, rfl, E⟩
def fX11_which (mdl : Nat → Option (Nat × Nat)) (a1 : Int32) (a2 : Int32) (D : Dy) (post : Int32 → Dy → Prop) : Prop :=
  (fX11_modelAt mdl a1 D (fun (r4 : Option (Nat × Nat)) => ((r4 = none → post (-1 : Int32) D) ∧ (∀ t kd : Nat, r4 = some (t, kd) → (fX11_modelAt mdl a2 D (fun (r10 : Option (Nat × Nat)) => ((r10 = none → post (-1 : Int32) D) ∧ (∀ t kd : Nat, r10 = some (t, kd) → ((a1 ≤ a2 → (LP5 (fun (rec19 : Int32 → Int32 → Int32 → Int32 → Dy → Prop) (v14 : Int32) (v15 : Int32) (v16 : Int32) (v17 : Int32) (D18 : Dy) => ((a2 < v17 → post v14 D18) ∧ (¬ a2 < v17 → (fX11_modelAt mdl v17 D18 (fun (r25 : Option (Nat × Nat)) => (JN (fun (v27 : Int32) (v28 : Int32) (v29 : Int32) (D30 : Dy) => (∀ v33 : Int32, v33 = v17 + 1 → (rec19 v27 v28 v29 v33 D30))) (fun K31 : Int32 → Int32 → Int32 → Dy → Prop => ((r25 = none → (K31 v14 v15 v16 D18)) ∧ (∀ t kd : Nat, r25 = some (t, kd) → (fX11_scoreOf t kd (1 : Int32) D18 (fun (v36 : Int32) (D41 : Dy) => (fX11_missesOf t kd (1 : Int32) D41 (fun (v42 : Int32) (D47 : Dy) => (JN ((K31 v17 v36 v42 D47)) (fun K48 : Prop => ((v15 < v36 → K48) ∧ (¬ v15 < v36 → ((¬ v36 = v15 → (K31 v14 v15 v16 D47)) ∧ (v36 = v15 → ((v16 ≤ v42 → (K31 v14 v15 v16 D47)) ∧ (¬ v16 ≤ v42 → K48))))))))))))))))))))) FU a1 (-1 : Int32) (0 : Int32) a1 D)) ∧ (¬ a1 ≤ a2 → post (-1 : Int32) D))))))))))
set_option maxHeartbeats 4000000 in
set_option maxRecDepth 100000 in
theorem ct_X11_which {l : Launch} {G : Gl} {S : Sh} {D : Dy} {mdl : Nat → Option (Nat × Nat)} (hF : FX S mdl) {a1 : Int32} {a2 : Int32} {post : Int32 → Dy → Prop} (E : fX11_which mdl a1 a2 D post) : Ct l G yX11_which cX11_which 10 (some .int) 7 0 0 S D [.ref (G.1 + 0), .int a1, .int a2] (PI S post) := by
  refine z_enter (lv0 := [(0, .ref (G.1 + 0)), (1, .int a1), (2, .int a2)]) pl_11 (Nat.le_of_ble_eq_true rfl) rfl ?_
  intro p e s m args below meth c hC hnm
  unfold fX11_which at E
  refine z_aload_n hC dX11_which_0 rfl 0 rfl ?_
  refine z_iload_n hC dX11_which_1 rfl 1 rfl ?_
  refine z_callV (ci := 11) (rest := []) hC (ck_mk lk_X11_130 in_X11_modelAt cd_X11_modelAt ds_X11_modelAt (Nat.le_of_ble_eq_true rfl) (Nat.le_of_ble_eq_true rfl)) iy_X11_modelAt sy_X11_modelAt cf_11 (by decide) (kX_0 hF) (ct_X11_modelAt hF E) rfl rfl (Nat.le_of_ble_eq_true rfl) ⟨Nat.le_refl _, Nat.le_refl _⟩ dX11_which_2 ?_
  rintro _ _ _ ⟨r4, rfl, rfl, rfl, hq_r4, E⟩
  refine z_ifnullM (tgt := 21) hC hq_r4 dX11_which_5 (by decide) ?_ ?_
  · intro c6
    replace E := E.1 c6
    refine z_iconst (v := -1) hC dX11_which_21 rfl ?_
    exact z_iret hC dX11_which_22 (Nat.le_refl _) (Nat.le_refl _) ⟨_, rfl, rfl, E⟩
  · intro t kd hM c6
    replace E := E.2 t kd c6
    subst c6
    have hT := hM.ft
    refine z_aload_n hC dX11_which_8 rfl 0 rfl ?_
    refine z_iload_n hC dX11_which_9 rfl 2 rfl ?_
    refine z_callV (ci := 11) (rest := []) hC (ck_mk lk_X11_130 in_X11_modelAt cd_X11_modelAt ds_X11_modelAt (Nat.le_of_ble_eq_true rfl) (Nat.le_of_ble_eq_true rfl)) iy_X11_modelAt sy_X11_modelAt cf_11 (by decide) (kX_0 hF) (ct_X11_modelAt hF E) rfl rfl (Nat.le_of_ble_eq_true rfl) ⟨Nat.le_refl _, Nat.le_refl _⟩ dX11_which_10 ?_
    rintro _ _ _ ⟨r10, rfl, rfl, rfl, hq_r10, E⟩
    refine z_ifnullM (tgt := 21) hC hq_r10 dX11_which_13 (by decide) ?_ ?_
    · intro c12
      replace E := E.1 c12
      refine z_iconst (v := -1) hC dX11_which_21 rfl ?_
      exact z_iret hC dX11_which_22 (Nat.le_refl _) (Nat.le_refl _) ⟨_, rfl, rfl, E⟩
    · intro t kd hM c12
      replace E := E.2 t kd c12
      subst c12
      have hT := hM.ft
      refine z_iload_n hC dX11_which_16 rfl 1 rfl ?_
      refine z_iload_n hC dX11_which_17 rfl 2 rfl ?_
      refine z_icmp_le (tgt := 23) hC dX11_which_18 (by decide) (fun c13 => ?_) (fun c13 => ?_)
      · replace E := E.1 c13
        refine z_iload_n hC dX11_which_23 rfl 1 rfl ?_
        refine z_istore_n (lv' := [(3, .int a1), (0, .ref (G.1 + 0)), (1, .int a1), (2, .int a2)]) hC dX11_which_24 rfl (Nat.le_of_ble_eq_true rfl) rfl ?_
        refine z_iconst (v := -1) hC dX11_which_25 rfl ?_
        refine z_istore (lv' := [(4, .int (-1 : Int32)), (3, .int a1), (0, .ref (G.1 + 0)), (1, .int a1), (2, .int a2)]) hC dX11_which_26 (Nat.le_of_ble_eq_true rfl) rfl ?_
        refine z_iconst (v := 0) hC dX11_which_28 rfl ?_
        refine z_istore (lv' := [(5, .int (0 : Int32)), (4, .int (-1 : Int32)), (3, .int a1), (0, .ref (G.1 + 0)), (1, .int a1), (2, .int a2)]) hC dX11_which_29 (Nat.le_of_ble_eq_true rfl) rfl ?_
        refine z_iload_n hC dX11_which_31 rfl 4 rfl ?_
        refine z_istore (lv' := [(6, .int a1), (5, .int (0 : Int32)), (4, .int (-1 : Int32)), (3, .int a1), (0, .ref (G.1 + 0)), (1, .int a1), (2, .int a2)]) hC dX11_which_32 (Nat.le_of_ble_eq_true rfl) rfl ?_
        refine z_sub [4, 6, 3, 2, 1, 0] rfl ?_
        refine LP5_use (fun (v14 : Int32) (v15 : Int32) (v16 : Int32) (v17 : Int32) (D18 : Dy) => ZM l G p e s m args below meth c 10 7 S (PI S post) S D18 34 [(0, .ref (G.1 + 0)), (2, .int a2), (3, .int v14), (4, .int v15), (5, .int v16), (6, .int v17)] []) ?_ FU a1 (-1 : Int32) (0 : Int32) a1 D E
        intro rec19 hrec20 v14 v15 v16 v17 D18 E
        refine z_iload hC dX11_which_34 5 rfl ?_
        refine z_iload_n hC dX11_which_36 rfl 1 rfl ?_
        refine z_icmp_gt (tgt := 112) hC dX11_which_37 (by decide) (fun c21 => ?_) (fun c21 => ?_)
        · replace E := E.1 c21
          refine z_iload_n hC dX11_which_112 rfl 2 rfl ?_
          exact z_iret hC dX11_which_113 (Nat.le_refl _) (Nat.le_refl _) ⟨_, rfl, rfl, E⟩
        · replace E := E.2 c21
          refine z_aload_n hC dX11_which_40 rfl 0 rfl ?_
          refine z_iload hC dX11_which_41 5 rfl ?_
          refine z_callV (ci := 11) (rest := []) hC (ck_mk lk_X11_130 in_X11_modelAt cd_X11_modelAt ds_X11_modelAt (Nat.le_of_ble_eq_true rfl) (Nat.le_of_ble_eq_true rfl)) iy_X11_modelAt sy_X11_modelAt cf_11 (by decide) (kX_0 hF) (ct_X11_modelAt hF E) rfl rfl (Nat.le_of_ble_eq_true rfl) ⟨Nat.le_refl _, Nat.le_refl _⟩ dX11_which_43 ?_
          rintro _ _ _ ⟨r25, rfl, rfl, rfl, hq_r25, E⟩
          refine z_astoreq (lv' := [(7, va_rf (mq G r25)), (0, .ref (G.1 + 0)), (2, .int a2), (3, .int v14), (4, .int v15), (5, .int v16), (6, .int v17)]) hC dX11_which_46 (Nat.le_of_ble_eq_true rfl) rfl ?_
          refine z_aloadq hC dX11_which_48 0 rfl ?_
          obtain ⟨K31, hK32, EE⟩ := JN_use E (fun K31 : Int32 → Int32 → Int32 → Dy → Prop => ∀ (v27 : Int32) (v28 : Int32) (v29 : Int32) (D30 : Dy), K31 v27 v28 v29 D30 → ZM l G p e s m args below meth c 10 7 S (PI S post) S D30 106 [(0, .ref (G.1 + 0)), (2, .int a2), (3, .int v27), (4, .int v28), (5, .int v29), (6, .int v17)] []) (by
            intro v27 v28 v29 D30 E
            obtain ⟨v33, h34⟩ : ∃ y : Int32, y = v17 + 1 := ⟨_, rfl⟩
            replace E := E v33 h34
            refine z_iinc (q := 5) (v := v33) (lv' := [(6, .int v33), (0, .ref (G.1 + 0)), (2, .int a2), (3, .int v27), (4, .int v28), (5, .int v29)]) hC dX11_which_106 rfl (by rw [h34]; rfl) (Nat.le_of_ble_eq_true rfl) rfl ?_
            refine z_goto (tgt := 34) hC dX11_which_109 (by decide) ?_
            refine z_sub [1, 2, 3, 4, 5, 0] rfl ?_
            exact hrec20 v27 v28 v29 v33 D30 E)
          replace E := EE
          clear EE
          refine z_ifnonnullM (tgt := 56) hC hq_r25 dX11_which_50 (by decide) ?_ ?_
          · intro t kd hM c35
            replace E := E.2 t kd c35
            subst c35
            have hT := hM.ft
            refine z_aload_n hC dX11_which_56 rfl 1 rfl ?_
            refine z_aload hC dX11_which_57 0 rfl ?_
            refine z_iconst (v := 1) hC dX11_which_59 rfl ?_
            refine z_callV (ci := 11) (rest := []) hC (ck_mk lk_X11_168 in_X11_scoreOf cd_X11_scoreOf ds_X11_scoreOf (Nat.le_of_ble_eq_true rfl) (Nat.le_of_ble_eq_true rfl)) iy_X11_scoreOf sy_X11_scoreOf cf_11 (by decide) (kX_0 hF) (ct_X11_scoreOf hF hM E) rfl rfl (Nat.le_of_ble_eq_true rfl) ⟨Nat.le_refl _, Nat.le_refl _⟩ dX11_which_60 ?_
            rintro _ _ D41 ⟨v36, rfl, rfl, E⟩
            refine z_istore (lv' := [(8, .int v36), (7, .ref (G.1 + (t + 9))), (0, .ref (G.1 + 0)), (2, .int a2), (3, .int v14), (4, .int v15), (5, .int v16), (6, .int v17)]) hC dX11_which_63 (Nat.le_of_ble_eq_true rfl) rfl ?_
            refine z_aload_n hC dX11_which_65 rfl 2 rfl ?_
            refine z_aload hC dX11_which_66 1 rfl ?_
            refine z_iconst (v := 1) hC dX11_which_68 rfl ?_
            refine z_callV (ci := 11) (rest := []) hC (ck_mk lk_X11_172 in_X11_missesOf cd_X11_missesOf ds_X11_missesOf (Nat.le_of_ble_eq_true rfl) (Nat.le_of_ble_eq_true rfl)) iy_X11_missesOf sy_X11_missesOf cf_11 (by decide) (kX_0 hF) (ct_X11_missesOf hF hM E) rfl rfl (Nat.le_of_ble_eq_true rfl) ⟨Nat.le_refl _, Nat.le_refl _⟩ dX11_which_69 ?_
            rintro _ _ D47 ⟨v42, rfl, rfl, E⟩
            refine z_istore (lv' := [(9, .int v42), (8, .int v36), (7, .ref (G.1 + (t + 9))), (0, .ref (G.1 + 0)), (2, .int a2), (3, .int v14), (4, .int v15), (5, .int v16), (6, .int v17)]) hC dX11_which_72 (Nat.le_of_ble_eq_true rfl) rfl ?_
            refine z_iload hC dX11_which_74 1 rfl ?_
            refine z_iload hC dX11_which_76 6 rfl ?_
            obtain ⟨K48, hK49, EE⟩ := JN_use E (fun K48 : Prop => K48 → ZM l G p e s m args below meth c 10 7 S (PI S post) S D47 95 [(0, .ref (G.1 + 0)), (2, .int a2), (6, .int v17), (8, .int v36), (9, .int v42)] []) (by
              intro E
              refine z_iload hC dX11_which_95 2 rfl ?_
              refine z_istore_n (lv' := [(3, .int v17), (0, .ref (G.1 + 0)), (2, .int a2), (6, .int v17), (8, .int v36), (9, .int v42)]) hC dX11_which_97 rfl (Nat.le_of_ble_eq_true rfl) rfl ?_
              refine z_iload hC dX11_which_98 4 rfl ?_
              refine z_istore (lv' := [(4, .int v36), (3, .int v17), (0, .ref (G.1 + 0)), (2, .int a2), (6, .int v17), (8, .int v36), (9, .int v42)]) hC dX11_which_100 (Nat.le_of_ble_eq_true rfl) rfl ?_
              refine z_iload hC dX11_which_102 6 rfl ?_
              refine z_istore (lv' := [(5, .int v42), (4, .int v36), (3, .int v17), (0, .ref (G.1 + 0)), (2, .int a2), (6, .int v17), (8, .int v36), (9, .int v42)]) hC dX11_which_104 (Nat.le_of_ble_eq_true rfl) rfl ?_
              refine z_sub [3, 4, 2, 1, 0, 5] rfl ?_
              exact hK32 v17 v36 v42 D47 E)
            replace E := EE
            clear EE
            refine z_icmp_gt (tgt := 95) hC dX11_which_78 (by decide) (fun c50 => ?_) (fun c50 => ?_)
            · replace E := E.1 c50
              refine z_sub [3, 4, 8, 1, 0] rfl ?_
              exact hK49  E
            · replace E := E.2 c50
              refine z_iload hC dX11_which_81 1 rfl ?_
              refine z_iload hC dX11_which_83 6 rfl ?_
              refine z_icmp_ne (tgt := 106) hC dX11_which_85 (by decide) (fun c51 => ?_) (fun c51 => ?_)
              · replace E := E.1 c51
                refine z_sub [3, 4, 5, 6, 7, 8] rfl ?_
                exact hK32 v14 v15 v16 D47 E
              · replace E := E.2 c51
                refine z_iload hC dX11_which_88 0 rfl ?_
                refine z_iload hC dX11_which_90 7 rfl ?_
                refine z_icmp_ge (tgt := 106) hC dX11_which_92 (by decide) (fun c52 => ?_) (fun c52 => ?_)
                · replace E := E.1 c52
                  refine z_sub [3, 4, 5, 6, 7, 8] rfl ?_
                  exact hK32 v14 v15 v16 D47 E
                · replace E := E.2 c52
                  refine z_sub [3, 4, 8, 1, 0] rfl ?_
                  exact hK49  E
          · intro c35
            replace E := E.1 c35
            refine z_goto (tgt := 106) hC dX11_which_53 (by decide) ?_
            refine z_sub [1, 2, 3, 4, 5, 6] rfl ?_
            exact hK32 v14 v15 v16 D18 E
      · replace E := E.2 c13
        refine z_iconst (v := -1) hC dX11_which_21 rfl ?_
        exact z_iret hC dX11_which_22 (Nat.le_refl _) (Nat.le_refl _) ⟨_, rfl, rfl, E⟩
def v_greatestWeight (t kd : Nat) (a2 : Int32) (a3 : Int32) (D : Dy) (post : Int32 → Prop) : Prop :=
  (kd = 0 → fX4_greatestWeight t 0 a2 a3 D post) ∧ (kd = 1 → fX4_greatestWeight t 1 a2 a3 D post) ∧ (kd = 2 → fX4_greatestWeight t 2 a2 a3 D post) ∧ (kd = 3 → fX4_greatestWeight t 3 a2 a3 D post) ∧ (kd = 4 → fX4_greatestWeight t 4 a2 a3 D post) ∧ (kd = 5 → fX4_greatestWeight t 5 a2 a3 D post)
theorem v_greatestWeight_0 {t : Nat} {a2 : Int32} {a3 : Int32} {D : Dy} {post : Int32 → Prop} (h : fX4_greatestWeight t 0 a2 a3 D post) : v_greatestWeight t 0 a2 a3 D post := ⟨fun _ => h, fun q => absurd q (by decide), fun q => absurd q (by decide), fun q => absurd q (by decide), fun q => absurd q (by decide), fun q => absurd q (by decide)⟩
theorem v_greatestWeight_1 {t : Nat} {a2 : Int32} {a3 : Int32} {D : Dy} {post : Int32 → Prop} (h : fX4_greatestWeight t 1 a2 a3 D post) : v_greatestWeight t 1 a2 a3 D post := ⟨fun q => absurd q (by decide), fun _ => h, fun q => absurd q (by decide), fun q => absurd q (by decide), fun q => absurd q (by decide), fun q => absurd q (by decide)⟩
theorem v_greatestWeight_2 {t : Nat} {a2 : Int32} {a3 : Int32} {D : Dy} {post : Int32 → Prop} (h : fX4_greatestWeight t 2 a2 a3 D post) : v_greatestWeight t 2 a2 a3 D post := ⟨fun q => absurd q (by decide), fun q => absurd q (by decide), fun _ => h, fun q => absurd q (by decide), fun q => absurd q (by decide), fun q => absurd q (by decide)⟩
theorem v_greatestWeight_3 {t : Nat} {a2 : Int32} {a3 : Int32} {D : Dy} {post : Int32 → Prop} (h : fX4_greatestWeight t 3 a2 a3 D post) : v_greatestWeight t 3 a2 a3 D post := ⟨fun q => absurd q (by decide), fun q => absurd q (by decide), fun q => absurd q (by decide), fun _ => h, fun q => absurd q (by decide), fun q => absurd q (by decide)⟩
theorem v_greatestWeight_4 {t : Nat} {a2 : Int32} {a3 : Int32} {D : Dy} {post : Int32 → Prop} (h : fX4_greatestWeight t 4 a2 a3 D post) : v_greatestWeight t 4 a2 a3 D post := ⟨fun q => absurd q (by decide), fun q => absurd q (by decide), fun q => absurd q (by decide), fun q => absurd q (by decide), fun _ => h, fun q => absurd q (by decide)⟩
theorem v_greatestWeight_5 {t : Nat} {a2 : Int32} {a3 : Int32} {D : Dy} {post : Int32 → Prop} (h : fX4_greatestWeight t 5 a2 a3 D post) : v_greatestWeight t 5 a2 a3 D post := ⟨fun q => absurd q (by decide), fun q => absurd q (by decide), fun q => absurd q (by decide), fun q => absurd q (by decide), fun q => absurd q (by decide), fun _ => h⟩
theorem cu_X11_231_0 : CU RX4 RX4 ⟨"WhyChosen$Model", "greatestWeight", "(LWhyChosen$Goods;II)I"⟩ yX4_greatestWeight := ⟨tw_933, tw_932, iy_X4_greatestWeight, iy_X4_greatestWeight, ⟨_, _, _, cd_X4_greatestWeight⟩, by decide +kernel, by decide +kernel⟩
theorem cu_X11_231_1 : CU RX7 RX4 ⟨"WhyChosen$Model", "greatestWeight", "(LWhyChosen$Goods;II)I"⟩ yX4_greatestWeight := ⟨tw_933, tw_937, iy_X4_greatestWeight, iy_X4_greatestWeight, ⟨_, _, _, cd_X4_greatestWeight⟩, by decide +kernel, by decide +kernel⟩
theorem cu_X11_231_2 : CU RX5 RX4 ⟨"WhyChosen$Model", "greatestWeight", "(LWhyChosen$Goods;II)I"⟩ yX4_greatestWeight := ⟨tw_933, tw_936, iy_X4_greatestWeight, iy_X4_greatestWeight, ⟨_, _, _, cd_X4_greatestWeight⟩, by decide +kernel, by decide +kernel⟩
theorem cu_X11_231_3 : CU RX3 RX4 ⟨"WhyChosen$Model", "greatestWeight", "(LWhyChosen$Goods;II)I"⟩ yX4_greatestWeight := ⟨tw_933, tw_935, iy_X4_greatestWeight, iy_X4_greatestWeight, ⟨_, _, _, cd_X4_greatestWeight⟩, by decide +kernel, by decide +kernel⟩
theorem cu_X11_231_4 : CU RX2 RX4 ⟨"WhyChosen$Model", "greatestWeight", "(LWhyChosen$Goods;II)I"⟩ yX4_greatestWeight := ⟨tw_933, tw_934, iy_X4_greatestWeight, iy_X4_greatestWeight, ⟨_, _, _, cd_X4_greatestWeight⟩, by decide +kernel, by decide +kernel⟩
theorem cu_X11_231_5 : CU RX8 RX4 ⟨"WhyChosen$Model", "greatestWeight", "(LWhyChosen$Goods;II)I"⟩ yX4_greatestWeight := ⟨tw_933, tw_938, iy_X4_greatestWeight, iy_X4_greatestWeight, ⟨_, _, _, cd_X4_greatestWeight⟩, by decide +kernel, by decide +kernel⟩
theorem lk_X11_231 : Cond.methodLink RX11 231 ⟨"WhyChosen$Model", "greatestWeight", "(LWhyChosen$Goods;II)I"⟩ ∈ TB := tw_930
section ZVV
variable {p : Program} {l : Launch} {e : Env} {R : Room} {s : State} {m : MethodId} {args : Array Value} {below : List Frame} {meth : Method} {c : Code} {nL : Nat} {k n : Nat} {Q : State → Prop} {pc : Nat} {lv : List (Nat × Value)} {st : List Value}
variable {G : Gl} {cc : ByteArray} {own : String} {ret : Option FieldType} {A : Nat → Prop} {S S' S0 : Sh} {D D' : Dy} {a N : Nat} {Wp : Heap → List Loc → Prop}

set_option maxRecDepth 100000 in
theorem zv_X11_231 (hC : CX G cc RX11 nL ret p s m args meth c) {mdl : Nat → Option (Nat × Nat)} (hF : FX S mdl) {t kd : Nat} (hM : FMo S t kd) (hk : kd < 6) {a2 : Int32} {a3 : Int32} {post : Int32 → Prop} (E : v_greatestWeight t kd a2 a3 D post) {rest : List Value} (hstk : st = List.reverse [.ref (G.1 + 1), .int a2, .int a3] ++ .ref (G.1 + (t + 9)) :: rest) (hrm : (rest.map fun v => v.category).sum ≤ 8) (hR : 1 + 1 ≤ R.frames ∧ 8 + (6 + 11) + 60 * 1 ≤ R.locals) (hkn : k + 0 ≤ R.cells ∧ n + 0 ≤ R.slots) (hd : decode cc pc = .ok (.invokevirtual 231, 3)) (kz : ∀ v S1 D1, (PIr S D post) v S1 D1 → Z p l e R s m args below meth c nL (WM G s A S1 D1) (k + 0) (n + 0) Q (pc + 3) lv (v.toList ++ rest)) : Z p l e R s m args below meth c nL (WM G s A S D) k n Q pc lv st := by
  obtain rfl | rfl | rfl | rfl | rfl | rfl : kd = 0 ∨ kd = 1 ∨ kd = 2 ∨ kd = 3 ∨ kd = 4 ∨ kd = 5 := by omega
  · exact z_callU (ci := 4) (C := RX4) (owner := RX4) (x := ⟨"WhyChosen$Model", "greatestWeight", "(LWhyChosen$Goods;II)I"⟩) (av := [.ref (G.1 + 1), .int a2, .int a3]) hC lk_X11_231 in_X4_greatestWeight cd_X4_greatestWeight dn_X4_greatestWeight (by omega) cu_X11_231_0 cf_4 (by decide) (kO hM) (ct_X4_greatestWeight hF hM (E.1 rfl)) rfl hstk hrm hkn hd kz
  · exact z_callU (ci := 7) (C := RX7) (owner := RX4) (x := ⟨"WhyChosen$Model", "greatestWeight", "(LWhyChosen$Goods;II)I"⟩) (av := [.ref (G.1 + 1), .int a2, .int a3]) hC lk_X11_231 in_X4_greatestWeight cd_X4_greatestWeight dn_X4_greatestWeight (by omega) cu_X11_231_1 cf_7 (by decide) (kO hM) (ct_X4_greatestWeight hF hM (E.2.1 rfl)) rfl hstk hrm hkn hd kz
  · exact z_callU (ci := 5) (C := RX5) (owner := RX4) (x := ⟨"WhyChosen$Model", "greatestWeight", "(LWhyChosen$Goods;II)I"⟩) (av := [.ref (G.1 + 1), .int a2, .int a3]) hC lk_X11_231 in_X4_greatestWeight cd_X4_greatestWeight dn_X4_greatestWeight (by omega) cu_X11_231_2 cf_5 (by decide) (kO hM) (ct_X4_greatestWeight hF hM (E.2.2.1 rfl)) rfl hstk hrm hkn hd kz
  · exact z_callU (ci := 3) (C := RX3) (owner := RX4) (x := ⟨"WhyChosen$Model", "greatestWeight", "(LWhyChosen$Goods;II)I"⟩) (av := [.ref (G.1 + 1), .int a2, .int a3]) hC lk_X11_231 in_X4_greatestWeight cd_X4_greatestWeight dn_X4_greatestWeight (by omega) cu_X11_231_3 cf_3 (by decide) (kO hM) (ct_X4_greatestWeight hF hM (E.2.2.2.1 rfl)) rfl hstk hrm hkn hd kz
  · exact z_callU (ci := 2) (C := RX2) (owner := RX4) (x := ⟨"WhyChosen$Model", "greatestWeight", "(LWhyChosen$Goods;II)I"⟩) (av := [.ref (G.1 + 1), .int a2, .int a3]) hC lk_X11_231 in_X4_greatestWeight cd_X4_greatestWeight dn_X4_greatestWeight (by omega) cu_X11_231_4 cf_2 (by decide) (kO hM) (ct_X4_greatestWeight hF hM (E.2.2.2.2.1 rfl)) rfl hstk hrm hkn hd kz
  · exact z_callU (ci := 8) (C := RX8) (owner := RX4) (x := ⟨"WhyChosen$Model", "greatestWeight", "(LWhyChosen$Goods;II)I"⟩) (av := [.ref (G.1 + 1), .int a2, .int a3]) hC lk_X11_231 in_X4_greatestWeight cd_X4_greatestWeight dn_X4_greatestWeight (by omega) cu_X11_231_5 cf_8 (by decide) (kO hM) (ct_X4_greatestWeight hF hM (E.2.2.2.2.2 rfl)) rfl hstk hrm hkn hd kz
end ZVV
def fX11_worse (mdl : Nat → Option (Nat × Nat)) (a1 : Int32) (a2 : Int32) (a3 : Int32) (D : Dy) (post : Int32 → Dy → Prop) : Prop :=
  (fX11_modelAt mdl a1 D (fun (r4 : Option (Nat × Nat)) => ((r4 = none → post (-1 : Int32) D) ∧ (∀ t kd : Nat, r4 = some (t, kd) → (fX1_hasAll a2 D (fun (v8 : Int32) => ((v8 = 0 → post (-2 : Int32) D) ∧ (¬ v8 = 0 → (fX1_hasAll a3 D (fun (v14 : Int32) => ((¬ v14 = 0 → (v_prepare t kd D (fun (D24 : Dy) => (LP2 (fun (rec27 : Int32 → Int32 → Prop) (v25 : Int32) (v26 : Int32) => (((3 : Int32) ≤ v26 → post v25 D24) ∧ (¬ (3 : Int32) ≤ v26 → (v_greatestWeight t kd a2 v26 D24 (fun (v30 : Int32) => (v_greatestWeight t kd a3 v26 D24 (fun (v35 : Int32) => (JN (fun (v40 : Int32) => (∀ v43 : Int32, v43 = v26 + 1 → (rec27 v40 v43))) (fun K41 : Int32 → Prop => ((v35 ≤ v30 → (K41 v25)) ∧ (¬ v35 ≤ v30 → (vp_in v26 3 ∧ (∀ v46 : Int32, v46 = (v25 + (D24.1 6 (v26).toNatClampNeg)) → (K41 v46)))))))))))))) FU (0 : Int32) (0 : Int32))))) ∧ (v14 = 0 → post (-2 : Int32) D))))))))))))
set_option maxHeartbeats 4000000 in
set_option maxRecDepth 100000 in
theorem ct_X11_worse {l : Launch} {G : Gl} {S : Sh} {D : Dy} {mdl : Nat → Option (Nat × Nat)} (hF : FX S mdl) {a1 : Int32} {a2 : Int32} {a3 : Int32} {post : Int32 → Dy → Prop} (E : fX11_worse mdl a1 a2 a3 D post) : Ct l G yX11_worse cX11_worse 7 (some .int) 6 0 0 S D [.ref (G.1 + 0), .int a1, .int a2, .int a3] (PI S post) := by
  refine z_enter (lv0 := [(0, .ref (G.1 + 0)), (1, .int a1), (2, .int a2), (3, .int a3)]) pl_11 (Nat.le_of_ble_eq_true rfl) rfl ?_
  intro p e s m args below meth c hC hnm
  unfold fX11_worse at E
  refine z_aload_n hC dX11_worse_0 rfl 0 rfl ?_
  refine z_iload_n hC dX11_worse_1 rfl 1 rfl ?_
  refine z_callV (ci := 11) (rest := []) hC (ck_mk lk_X11_130 in_X11_modelAt cd_X11_modelAt ds_X11_modelAt (Nat.le_of_ble_eq_true rfl) (Nat.le_of_ble_eq_true rfl)) iy_X11_modelAt sy_X11_modelAt cf_11 (by decide) (kX_0 hF) (ct_X11_modelAt hF E) rfl rfl (Nat.le_of_ble_eq_true rfl) ⟨Nat.le_refl _, Nat.le_refl _⟩ dX11_worse_2 ?_
  rintro _ _ _ ⟨r4, rfl, rfl, rfl, hq_r4, E⟩
  refine z_astoreq (lv' := [(4, va_rf (mq G r4)), (0, .ref (G.1 + 0)), (1, .int a1), (2, .int a2), (3, .int a3)]) hC dX11_worse_5 (Nat.le_of_ble_eq_true rfl) rfl ?_
  refine z_aloadq hC dX11_worse_7 0 rfl ?_
  refine z_ifnonnullM (tgt := 14) hC hq_r4 dX11_worse_9 (by decide) ?_ ?_
  · intro t kd hM c6
    replace E := E.2 t kd c6
    subst c6
    have hT := hM.ft
    refine z_aload_n hC dX11_worse_14 rfl 1 rfl ?_
    refine z_get hC lf_X11_12_11 (kX_0 hF) dX11_worse_15 (fV_ref rfl (rX_0_0 hF)) ?_
    refine z_iload_n hC dX11_worse_18 rfl 3 rfl ?_
    refine z_callV (ci := 1) (rest := []) hC (ck_mk lk_X11_208 in_X1_hasAll cd_X1_hasAll ds_X1_hasAll (Nat.le_of_ble_eq_true rfl) (Nat.le_of_ble_eq_true rfl)) iy_X1_hasAll sy_X1_hasAll cf_1 (by decide) (kX_1 hF) (ct_X1_hasAll hF E) rfl rfl (Nat.le_of_ble_eq_true rfl) ⟨Nat.le_refl _, Nat.le_refl _⟩ dX11_worse_19 ?_
    rintro _ _ _ ⟨v8, rfl, rfl, rfl, E⟩
    refine z_if_eq (tgt := 36) hC dX11_worse_22 (by decide) (fun c12 => ?_) (fun c12 => ?_)
    · replace E := E.1 c12
      refine z_bipush (v := -2) hC dX11_worse_36 rfl ?_
      exact z_iret hC dX11_worse_38 (Nat.le_refl _) (Nat.le_refl _) ⟨_, rfl, rfl, E⟩
    · replace E := E.2 c12
      refine z_aload_n hC dX11_worse_25 rfl 1 rfl ?_
      refine z_get hC lf_X11_12_11 (kX_0 hF) dX11_worse_26 (fV_ref rfl (rX_0_0 hF)) ?_
      refine z_iload_n hC dX11_worse_29 rfl 4 rfl ?_
      refine z_callV (ci := 1) (rest := []) hC (ck_mk lk_X11_208 in_X1_hasAll cd_X1_hasAll ds_X1_hasAll (Nat.le_of_ble_eq_true rfl) (Nat.le_of_ble_eq_true rfl)) iy_X1_hasAll sy_X1_hasAll cf_1 (by decide) (kX_1 hF) (ct_X1_hasAll hF E) rfl rfl (Nat.le_of_ble_eq_true rfl) ⟨Nat.le_refl _, Nat.le_refl _⟩ dX11_worse_30 ?_
      rintro _ _ _ ⟨v14, rfl, rfl, rfl, E⟩
      refine z_if_ne (tgt := 39) hC dX11_worse_33 (by decide) (fun c18 => ?_) (fun c18 => ?_)
      · replace E := E.1 c18
        refine z_aload hC dX11_worse_39 0 rfl ?_
        refine z_aload_n hC dX11_worse_41 rfl 1 rfl ?_
        refine z_get hC lf_X11_12_11 (kX_0 hF) dX11_worse_42 (fV_ref rfl (rX_0_0 hF)) ?_
        refine zv_X11_146 (rest := []) hC hF hM (by have := hM.kd; omega) E rfl (Nat.le_of_ble_eq_true rfl) ⟨Nat.le_of_ble_eq_true rfl, Nat.le_of_ble_eq_true rfl⟩ ⟨Nat.le_refl _, Nat.le_refl _⟩ dX11_worse_45 ?_
        rintro _ _ D24 ⟨rfl, rfl, E⟩
        refine z_iconst (v := 0) hC dX11_worse_48 rfl ?_
        refine z_istore (lv' := [(5, .int (0 : Int32)), (4, .ref (G.1 + (t + 9))), (0, .ref (G.1 + 0)), (1, .int a1), (2, .int a2), (3, .int a3)]) hC dX11_worse_49 (Nat.le_of_ble_eq_true rfl) rfl ?_
        refine z_iconst (v := 0) hC dX11_worse_51 rfl ?_
        refine z_istore (lv' := [(6, .int (0 : Int32)), (5, .int (0 : Int32)), (4, .ref (G.1 + (t + 9))), (0, .ref (G.1 + 0)), (1, .int a1), (2, .int a2), (3, .int a3)]) hC dX11_worse_52 (Nat.le_of_ble_eq_true rfl) rfl ?_
        refine z_sub [3, 5, 6, 2, 1, 0] rfl ?_
        refine LP2_use (fun (v25 : Int32) (v26 : Int32) => ZM l G p e s m args below meth c 7 6 S (PI S post) S D24 54 [(0, .ref (G.1 + 0)), (2, .int a2), (3, .int a3), (4, .ref (G.1 + (t + 9))), (5, .int v25), (6, .int v26)] []) ?_ FU (0 : Int32) (0 : Int32) E
        intro rec27 hrec28 v25 v26 E
        refine z_iload hC dX11_worse_54 5 rfl ?_
        refine z_iconst (v := 3) hC dX11_worse_56 rfl ?_
        refine z_icmp_ge (tgt := 105) hC dX11_worse_57 (by decide) (fun c29 => ?_) (fun c29 => ?_)
        · replace E := E.1 c29
          refine z_iload hC dX11_worse_105 4 rfl ?_
          exact z_iret hC dX11_worse_107 (Nat.le_refl _) (Nat.le_refl _) ⟨_, rfl, rfl, E⟩
        · replace E := E.2 c29
          refine z_aload hC dX11_worse_60 3 rfl ?_
          refine z_aload_n hC dX11_worse_62 rfl 0 rfl ?_
          refine z_get hC lf_X11_12_11 (kX_0 hF) dX11_worse_63 (fV_ref rfl (rX_0_0 hF)) ?_
          refine z_iload_n hC dX11_worse_66 rfl 1 rfl ?_
          refine z_iload hC dX11_worse_67 5 rfl ?_
          refine zv_X11_231 (rest := []) hC hF hM (by have := hM.kd; omega) E rfl (Nat.le_of_ble_eq_true rfl) ⟨Nat.le_of_ble_eq_true rfl, Nat.le_of_ble_eq_true rfl⟩ ⟨Nat.le_refl _, Nat.le_refl _⟩ dX11_worse_69 ?_
          rintro _ _ _ ⟨v30, rfl, rfl, rfl, E⟩
          refine z_aload hC dX11_worse_72 3 rfl ?_
          refine z_aload_n hC dX11_worse_74 rfl 0 rfl ?_
          refine z_get hC lf_X11_12_11 (kX_0 hF) dX11_worse_75 (fV_ref rfl (rX_0_0 hF)) ?_
          refine z_iload_n hC dX11_worse_78 rfl 2 rfl ?_
          refine z_iload hC dX11_worse_79 5 rfl ?_
          refine zv_X11_231 (rest := [.int v30]) hC hF hM (by have := hM.kd; omega) E rfl (Nat.le_of_ble_eq_true rfl) ⟨Nat.le_of_ble_eq_true rfl, Nat.le_of_ble_eq_true rfl⟩ ⟨Nat.le_refl _, Nat.le_refl _⟩ dX11_worse_81 ?_
          rintro _ _ _ ⟨v35, rfl, rfl, rfl, E⟩
          obtain ⟨K41, hK42, EE⟩ := JN_use E (fun K41 : Int32 → Prop => ∀ (v40 : Int32), K41 v40 → ZM l G p e s m args below meth c 7 6 S (PI S post) S D24 99 [(0, .ref (G.1 + 0)), (2, .int a2), (3, .int a3), (4, .ref (G.1 + (t + 9))), (5, .int v40), (6, .int v26)] []) (by
            intro v40 E
            obtain ⟨v43, h44⟩ : ∃ y : Int32, y = v26 + 1 := ⟨_, rfl⟩
            replace E := E v43 h44
            refine z_iinc (q := 5) (v := v43) (lv' := [(6, .int v43), (0, .ref (G.1 + 0)), (2, .int a2), (3, .int a3), (4, .ref (G.1 + (t + 9))), (5, .int v40)]) hC dX11_worse_99 rfl (by rw [h44]; rfl) (Nat.le_of_ble_eq_true rfl) rfl ?_
            refine z_goto (tgt := 54) hC dX11_worse_102 (by decide) ?_
            refine z_sub [1, 2, 3, 4, 5, 0] rfl ?_
            exact hrec28 v40 v43 E)
          replace E := EE
          clear EE
          refine z_icmp_ge (tgt := 99) hC dX11_worse_84 (by decide) (fun c45 => ?_) (fun c45 => ?_)
          · replace E := E.1 c45
            exact hK42 v25 E
          · replace E := E.2 c45
            refine z_iload hC dX11_worse_87 4 rfl ?_
            refine z_aload_n hC dX11_worse_89 rfl 0 rfl ?_
            refine z_get hC lf_X11_22_11 (kX_0 hF) dX11_worse_90 (fV_ref rfl (rX_0_2 hF)) ?_
            refine z_iload hC dX11_worse_93 5 rfl ?_
            refine z_iald hC (kX_6 hF) (nX_6 hF) E.1 dX11_worse_95 ?_
            replace E := E.2
            refine z_iadd hC dX11_worse_96 ?_
            refine z_topi (fun v46 h47 => ?_)
            replace E := E v46 h47
            refine z_istore (lv' := [(5, .int v46), (0, .ref (G.1 + 0)), (2, .int a2), (3, .int a3), (4, .ref (G.1 + (t + 9))), (6, .int v26)]) hC dX11_worse_97 (Nat.le_of_ble_eq_true rfl) rfl ?_
            refine z_sub [1, 2, 3, 4, 0, 5] rfl ?_
            exact hK42 v46 E
      · replace E := E.2 c18
        refine z_bipush (v := -2) hC dX11_worse_36 rfl ?_
        exact z_iret hC dX11_worse_38 (Nat.le_refl _) (Nat.le_refl _) ⟨_, rfl, rfl, E⟩
  · intro c6
    replace E := E.1 c6
    refine z_iconst (v := -1) hC dX11_worse_12 rfl ?_
    exact z_iret hC dX11_worse_13 (Nat.le_refl _) (Nat.le_refl _) ⟨_, rfl, rfl, E⟩
def fX11_would (a1 : Int32) (a2 : Int32) (D : Dy) (post : Int32 → Dy → Prop) : Prop :=
  (fX11_within a1 (D.1 0 3) (fun (v2 : Int32) => ((¬ v2 = 0 → (fX1_hasSome a2 D (fun (v8 : Int32) => ((v8 = 0 → post (-2 : Int32) D) ∧ (¬ v8 = 0 → (fX11_couldTake a1 a2 D (fun (v13 : Int32) (D18 : Dy) => post v13 D18))))))) ∧ (v2 = 0 → post (-1 : Int32) D))))
set_option maxHeartbeats 4000000 in
set_option maxRecDepth 100000 in
theorem ct_X11_would {l : Launch} {G : Gl} {S : Sh} {D : Dy} {mdl : Nat → Option (Nat × Nat)} (hF : FX S mdl) {a1 : Int32} {a2 : Int32} {post : Int32 → Dy → Prop} (E : fX11_would a1 a2 D post) : Ct l G yX11_would cX11_would 3 (some .int) 5 0 0 S D [.ref (G.1 + 0), .int a1, .int a2] (PI S post) := by
  refine z_enter (lv0 := [(0, .ref (G.1 + 0)), (1, .int a1), (2, .int a2)]) pl_11 (Nat.le_of_ble_eq_true rfl) rfl ?_
  intro p e s m args below meth c hC hnm
  unfold fX11_would at E
  refine z_iload_n hC dX11_would_0 rfl 1 rfl ?_
  refine z_aload_n hC dX11_would_1 rfl 0 rfl ?_
  refine z_get hC lf_X11_91_11 (kX_0 hF) dX11_would_2 (fV_int rfl) ?_
  refine z_callS (rest := []) hC (ck_mk lk_X11_69 in_X11_within cd_X11_within ds_X11_within (Nat.le_of_ble_eq_true rfl) (Nat.le_of_ble_eq_true rfl)) st_X11_within (ct_X11_within hF E) rfl rfl (Nat.le_of_ble_eq_true rfl) ⟨Nat.le_refl _, Nat.le_refl _⟩ dX11_would_5 ?_
  rintro _ _ _ ⟨v2, rfl, rfl, rfl, E⟩
  refine z_if_ne (tgt := 13) hC dX11_would_8 (by decide) (fun c6 => ?_) (fun c6 => ?_)
  · replace E := E.1 c6
    refine z_aload_n hC dX11_would_13 rfl 0 rfl ?_
    refine z_get hC lf_X11_12_11 (kX_0 hF) dX11_would_14 (fV_ref rfl (rX_0_0 hF)) ?_
    refine z_iload_n hC dX11_would_17 rfl 2 rfl ?_
    refine z_callV (ci := 1) (rest := []) hC (ck_mk lk_X11_143 in_X1_hasSome cd_X1_hasSome ds_X1_hasSome (Nat.le_of_ble_eq_true rfl) (Nat.le_of_ble_eq_true rfl)) iy_X1_hasSome sy_X1_hasSome cf_1 (by decide) (kX_1 hF) (ct_X1_hasSome hF E) rfl rfl (Nat.le_of_ble_eq_true rfl) ⟨Nat.le_refl _, Nat.le_refl _⟩ dX11_would_18 ?_
    rintro _ _ _ ⟨v8, rfl, rfl, rfl, E⟩
    refine z_if_eq (tgt := 33) hC dX11_would_21 (by decide) (fun c12 => ?_) (fun c12 => ?_)
    · replace E := E.1 c12
      refine z_bipush (v := -2) hC dX11_would_33 rfl ?_
      exact z_iret hC dX11_would_35 (Nat.le_refl _) (Nat.le_refl _) ⟨_, rfl, rfl, E⟩
    · replace E := E.2 c12
      refine z_aload_n hC dX11_would_24 rfl 0 rfl ?_
      refine z_iload_n hC dX11_would_25 rfl 1 rfl ?_
      refine z_iload_n hC dX11_would_26 rfl 2 rfl ?_
      refine z_callV (ci := 11) (rest := []) hC (ck_mk lk_X11_195 in_X11_couldTake cd_X11_couldTake ds_X11_couldTake (Nat.le_of_ble_eq_true rfl) (Nat.le_of_ble_eq_true rfl)) iy_X11_couldTake sy_X11_couldTake cf_11 (by decide) (kX_0 hF) (ct_X11_couldTake hF E) rfl rfl (Nat.le_of_ble_eq_true rfl) ⟨Nat.le_refl _, Nat.le_refl _⟩ dX11_would_27 ?_
      rintro _ _ D18 ⟨v13, rfl, rfl, E⟩
      refine z_goto (tgt := 35) hC dX11_would_30 (by decide) ?_
      exact z_iret hC dX11_would_35 (Nat.le_refl _) (Nat.le_refl _) ⟨_, rfl, rfl, E⟩
  · replace E := E.2 c6
    refine z_iconst (v := -1) hC dX11_would_11 rfl ?_
    exact z_iret hC dX11_would_12 (Nat.le_refl _) (Nat.le_refl _) ⟨_, rfl, rfl, E⟩
