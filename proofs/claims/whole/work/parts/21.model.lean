set_option maxRecDepth 100000 in
theorem cl_X11_114 : Cond.classLink RX11 114 RX9 ∈ TB := TB_of 247 rfl rfl
theorem cl_X11_284 : Cond.classLink RX11 284 RX7 ∈ TB := tw_452
theorem cl_X11_289 : Cond.classLink RX11 289 RX5 ∈ TB := tw_507
theorem cl_X11_292 : Cond.classLink RX11 292 RX3 ∈ TB := tw_526
theorem cl_X11_295 : Cond.classLink RX11 295 RX2 ∈ TB := tw_539
theorem cl_X11_298 : Cond.classLink RX11 298 RX8 ∈ TB := tw_552
set_option maxRecDepth 100000 in
theorem lk_X11_116 : Cond.methodLink RX11 116 yX9_init ∈ TB := TB_of 249 rfl rfl
set_option maxRecDepth 100000 in
theorem lk_X11_119 : Cond.methodLink RX11 119 yX9_readClauses ∈ TB := TB_of 316 rfl rfl
set_option maxRecDepth 100000 in
theorem lk_X11_126 : Cond.methodLink RX11 126 yX11_newModel ∈ TB := TB_of 449 rfl rfl
set_option maxRecDepth 100000 in
theorem lk_X11_286 : Cond.methodLink RX11 286 yX7_init ∈ TB := TB_of 454 rfl rfl
set_option maxRecDepth 100000 in
theorem lk_X11_291 : Cond.methodLink RX11 291 yX5_init ∈ TB := TB_of 509 rfl rfl
set_option maxRecDepth 100000 in
theorem lk_X11_294 : Cond.methodLink RX11 294 yX3_init ∈ TB := TB_of 528 rfl rfl
set_option maxRecDepth 100000 in
theorem lk_X11_297 : Cond.methodLink RX11 297 yX2_init ∈ TB := TB_of 541 rfl rfl
set_option maxRecDepth 100000 in
theorem lk_X11_300 : Cond.methodLink RX11 300 yX8_init ∈ TB := TB_of 554 rfl rfl
set_option maxRecDepth 100000 in
theorem lk_X11_301 : Cond.methodLink RX11 301 yX4_init ∈ TB := TB_of 566 rfl rfl
theorem lf_X11_123_9 : LF RX11 123 9 2 false := ⟨_, _, "WhyChosen$Text", cf_9, by decide, by decide, (TB_of 256 (w := Cond.fieldLink "WhyChosen" 123 "WhyChosen$Text" "place" "I") rfl rfl), Or.inl rfl, rfl, fun _ => Or.inr trivial⟩
/-! a model is made -/
def kdOf (a1 : Int32) : Nat := if a1 = 1 then 1 else if a1 = 2 then 2 else if a1 = 3 then 3 else if a1 = 4 then 4 else if a1 = 5 then 5 else 0
theorem kdOf_lt {a1 : Int32} : kdOf a1 < 6 := by
  unfold kdOf
  repeat' split
  all_goals decide
def fX11_newModel (o : Nat) (a1 a2 : Int32) (D : Dy) (post : Dy → Prop) : Prop :=
  (kdOf a1 = 2 → ∀ D1 : Dy, D1 = dN D o → fX5_init o a1 a2 D1 post) ∧ (¬ kdOf a1 = 2 → ∀ D1 : Dy, D1 = dN D o → fX4_init o a1 a2 D1 post)
set_option maxHeartbeats 4000000 in
set_option maxRecDepth 100000 in
theorem ct_X11_newModel {l : Launch} {G : Gl} {D : Dy} {o t : Nat} {S : Sh} (hS : S.1 = o) {a1 a2 : Int32} {post : Dy → Prop} (E : fX11_newModel o a1 a2 D post) : Ct l G yX11_newModel cX11_newModel 3 (some (.object "WhyChosen$Model")) 4 6 56 S D [.int a1, .int a2, .ref (G.1 + t)] (fun v S' D' => v = some (.ref (G.1 + o)) ∧ S' = sNM (kdOf a1) o t S ∧ post D') := by
  refine z_enter (lv0 := [(0, .int a1), (1, .int a2), (2, .ref (G.1 + t))]) pl_11 (Nat.le_of_ble_eq_true rfl) rfl ?_
  intro p e s m args below meth c hC hnm
  unfold fX11_newModel at E
  refine z_iload_n hC dX11_newModel_0 rfl 0 rfl ?_
  by_cases c1 : a1 = (1 : Int32)
  · refine z_tableIn (tgt := 36) (off := 35) hC dX11_newModel_1 c1 (by decide) (by decide) ?_
    have hk : kdOf a1 = 1 := by simp [kdOf, c1]
    replace E := E.2 (by rw [hk]; decide)
    refine z_newQ (a := o) hC cf_7 (by decide) cl_X11_284 hS (Nat.le_of_ble_eq_true rfl) (Nat.le_of_ble_eq_true rfl) dX11_newModel_36 ?_
    rintro S' hS' D1 h1
    obtain rfl : S' = sNa S o (mcls 1 + 1) 0 := hS'.trans (sNa_eq hS)
    replace E := E D1 h1
    refine z_dup hC dX11_newModel_39 rfl ?_
    refine z_iload_n hC dX11_newModel_40 rfl 0 rfl ?_
    refine z_iload_n hC dX11_newModel_41 rfl 1 rfl ?_
    refine z_aload_n hC dX11_newModel_42 rfl 2 rfl ?_
    refine z_callI (mc := 3) (ms := 40) (rest := [.ref (G.1 + o)]) (av := [.int a1, .int a2, .ref (G.1 + t)]) hC (ck_mk lk_X11_286 in_X7_init cd_X7_init ds_X7_init (Nat.le_of_ble_eq_true rfl) (Nat.le_of_ble_eq_true rfl)) rfl iy_X7_init (ct_X7_init (o := o) (kd := 1) (by decide) rfl (by simp [sNa]) E) rfl rfl (Nat.le_of_ble_eq_true rfl) ⟨(Nat.le_of_ble_eq_true rfl), (Nat.le_of_ble_eq_true rfl)⟩ dX11_newModel_43 ?_
    rintro _ _ D2 ⟨rfl, rfl, E⟩
    exact z_aret (r := some (G.1 + o)) hC dX11_newModel_46 (Nat.le_of_ble_eq_true rfl) (Nat.le_of_ble_eq_true rfl) ⟨rfl, by rw [hk]; rfl, E⟩
  by_cases c2 : a1 = (2 : Int32)
  · refine z_tableIn (tgt := 47) (off := 46) hC dX11_newModel_1 c2 (by decide) (by decide) ?_
    have hk : kdOf a1 = 2 := by simp [kdOf, c2]
    replace E := E.1 hk
    refine z_newQ (a := o) hC cf_5 (by decide) cl_X11_289 hS (Nat.le_of_ble_eq_true rfl) (Nat.le_of_ble_eq_true rfl) dX11_newModel_47 ?_
    rintro S' hS' D1 h1
    obtain rfl : S' = sNa S o (mcls 2 + 1) 0 := hS'.trans (sNa_eq hS)
    replace E := E D1 h1
    refine z_dup hC dX11_newModel_50 rfl ?_
    refine z_iload_n hC dX11_newModel_51 rfl 0 rfl ?_
    refine z_iload_n hC dX11_newModel_52 rfl 1 rfl ?_
    refine z_aload_n hC dX11_newModel_53 rfl 2 rfl ?_
    refine z_callI (mc := 5) (ms := 48) (rest := [.ref (G.1 + o)]) (av := [.int a1, .int a2, .ref (G.1 + t)]) hC (ck_mk lk_X11_291 in_X5_init cd_X5_init ds_X5_init (Nat.le_of_ble_eq_true rfl) (Nat.le_of_ble_eq_true rfl)) rfl iy_X5_init (ct_X5_init (o := o) rfl (by simp [sNa]) E) rfl rfl (Nat.le_of_ble_eq_true rfl) ⟨(Nat.le_of_ble_eq_true rfl), (Nat.le_of_ble_eq_true rfl)⟩ dX11_newModel_54 ?_
    rintro _ _ D2 ⟨rfl, rfl, E⟩
    exact z_aret (r := some (G.1 + o)) hC dX11_newModel_57 (Nat.le_of_ble_eq_true rfl) (Nat.le_of_ble_eq_true rfl) ⟨rfl, by rw [hk]; rfl, E⟩
  by_cases c3 : a1 = (3 : Int32)
  · refine z_tableIn (tgt := 58) (off := 57) hC dX11_newModel_1 c3 (by decide) (by decide) ?_
    have hk : kdOf a1 = 3 := by simp [kdOf, c3]
    replace E := E.2 (by rw [hk]; decide)
    refine z_newQ (a := o) hC cf_3 (by decide) cl_X11_292 hS (Nat.le_of_ble_eq_true rfl) (Nat.le_of_ble_eq_true rfl) dX11_newModel_58 ?_
    rintro S' hS' D1 h1
    obtain rfl : S' = sNa S o (mcls 3 + 1) 0 := hS'.trans (sNa_eq hS)
    replace E := E D1 h1
    refine z_dup hC dX11_newModel_61 rfl ?_
    refine z_iload_n hC dX11_newModel_62 rfl 0 rfl ?_
    refine z_iload_n hC dX11_newModel_63 rfl 1 rfl ?_
    refine z_aload_n hC dX11_newModel_64 rfl 2 rfl ?_
    refine z_callI (mc := 3) (ms := 40) (rest := [.ref (G.1 + o)]) (av := [.int a1, .int a2, .ref (G.1 + t)]) hC (ck_mk lk_X11_294 in_X3_init cd_X3_init ds_X3_init (Nat.le_of_ble_eq_true rfl) (Nat.le_of_ble_eq_true rfl)) rfl iy_X3_init (ct_X3_init (o := o) rfl (by simp [sNa]) E) rfl rfl (Nat.le_of_ble_eq_true rfl) ⟨(Nat.le_of_ble_eq_true rfl), (Nat.le_of_ble_eq_true rfl)⟩ dX11_newModel_65 ?_
    rintro _ _ D2 ⟨rfl, rfl, E⟩
    exact z_aret (r := some (G.1 + o)) hC dX11_newModel_68 (Nat.le_of_ble_eq_true rfl) (Nat.le_of_ble_eq_true rfl) ⟨rfl, by rw [hk]; rfl, E⟩
  by_cases c4 : a1 = (4 : Int32)
  · refine z_tableIn (tgt := 69) (off := 68) hC dX11_newModel_1 c4 (by decide) (by decide) ?_
    have hk : kdOf a1 = 4 := by simp [kdOf, c4]
    replace E := E.2 (by rw [hk]; decide)
    refine z_newQ (a := o) hC cf_2 (by decide) cl_X11_295 hS (Nat.le_of_ble_eq_true rfl) (Nat.le_of_ble_eq_true rfl) dX11_newModel_69 ?_
    rintro S' hS' D1 h1
    obtain rfl : S' = sNa S o (mcls 4 + 1) 0 := hS'.trans (sNa_eq hS)
    replace E := E D1 h1
    refine z_dup hC dX11_newModel_72 rfl ?_
    refine z_iload_n hC dX11_newModel_73 rfl 0 rfl ?_
    refine z_iload_n hC dX11_newModel_74 rfl 1 rfl ?_
    refine z_aload_n hC dX11_newModel_75 rfl 2 rfl ?_
    refine z_callI (mc := 3) (ms := 40) (rest := [.ref (G.1 + o)]) (av := [.int a1, .int a2, .ref (G.1 + t)]) hC (ck_mk lk_X11_297 in_X2_init cd_X2_init ds_X2_init (Nat.le_of_ble_eq_true rfl) (Nat.le_of_ble_eq_true rfl)) rfl iy_X2_init (ct_X2_init (o := o) rfl (by simp [sNa]) E) rfl rfl (Nat.le_of_ble_eq_true rfl) ⟨(Nat.le_of_ble_eq_true rfl), (Nat.le_of_ble_eq_true rfl)⟩ dX11_newModel_76 ?_
    rintro _ _ D2 ⟨rfl, rfl, E⟩
    exact z_aret (r := some (G.1 + o)) hC dX11_newModel_79 (Nat.le_of_ble_eq_true rfl) (Nat.le_of_ble_eq_true rfl) ⟨rfl, by rw [hk]; rfl, E⟩
  by_cases c5 : a1 = (5 : Int32)
  · refine z_tableIn (tgt := 80) (off := 79) hC dX11_newModel_1 c5 (by decide) (by decide) ?_
    have hk : kdOf a1 = 5 := by simp [kdOf, c5]
    replace E := E.2 (by rw [hk]; decide)
    refine z_newQ (a := o) hC cf_8 (by decide) cl_X11_298 hS (Nat.le_of_ble_eq_true rfl) (Nat.le_of_ble_eq_true rfl) dX11_newModel_80 ?_
    rintro S' hS' D1 h1
    obtain rfl : S' = sNa S o (mcls 5 + 1) 0 := hS'.trans (sNa_eq hS)
    replace E := E D1 h1
    refine z_dup hC dX11_newModel_83 rfl ?_
    refine z_iload_n hC dX11_newModel_84 rfl 0 rfl ?_
    refine z_iload_n hC dX11_newModel_85 rfl 1 rfl ?_
    refine z_aload_n hC dX11_newModel_86 rfl 2 rfl ?_
    refine z_callI (mc := 3) (ms := 40) (rest := [.ref (G.1 + o)]) (av := [.int a1, .int a2, .ref (G.1 + t)]) hC (ck_mk lk_X11_300 in_X8_init cd_X8_init ds_X8_init (Nat.le_of_ble_eq_true rfl) (Nat.le_of_ble_eq_true rfl)) rfl iy_X8_init (ct_X8_init (o := o) rfl (by simp [sNa]) E) rfl rfl (Nat.le_of_ble_eq_true rfl) ⟨(Nat.le_of_ble_eq_true rfl), (Nat.le_of_ble_eq_true rfl)⟩ dX11_newModel_87 ?_
    rintro _ _ D2 ⟨rfl, rfl, E⟩
    exact z_aret (r := some (G.1 + o)) hC dX11_newModel_90 (Nat.le_of_ble_eq_true rfl) (Nat.le_of_ble_eq_true rfl) ⟨rfl, by rw [hk]; rfl, E⟩
  refine z_tableOut (tgt := 91) hC dX11_newModel_1 (by have zc1 := sw_ne c1 (show (1 : Int32).toInt = 1 by decide); have zc2 := sw_ne c2 (show (2 : Int32).toInt = 2 by decide); have zc3 := sw_ne c3 (show (3 : Int32).toInt = 3 by decide); have zc4 := sw_ne c4 (show (4 : Int32).toInt = 4 by decide); have zc5 := sw_ne c5 (show (5 : Int32).toInt = 5 by decide); omega) (by decide) ?_
  have hk : kdOf a1 = 0 := by simp [kdOf, c1, c2, c3, c4, c5]
  replace E := E.2 (by rw [hk]; decide)
  refine z_newQ (a := o) hC cf_4 (by decide) cl_X11_35 hS (Nat.le_of_ble_eq_true rfl) (Nat.le_of_ble_eq_true rfl) dX11_newModel_91 ?_
  rintro S' hS' D1 h1
  obtain rfl : S' = sNa S o (mcls 0 + 1) 0 := hS'.trans (sNa_eq hS)
  replace E := E D1 h1
  refine z_dup hC dX11_newModel_94 rfl ?_
  refine z_iload_n hC dX11_newModel_95 rfl 0 rfl ?_
  refine z_iload_n hC dX11_newModel_96 rfl 1 rfl ?_
  refine z_aload_n hC dX11_newModel_97 rfl 2 rfl ?_
  refine z_callI (mc := 3) (ms := 40) (rest := [.ref (G.1 + o)]) (av := [.int a1, .int a2, .ref (G.1 + t)]) hC (ck_mk lk_X11_301 in_X4_init cd_X4_init ds_X4_init (Nat.le_of_ble_eq_true rfl) (Nat.le_of_ble_eq_true rfl)) rfl iy_X4_init (ct_X4_init (o := o) (kd := 0) (by decide) rfl (by simp [sNa]) E) rfl rfl (Nat.le_of_ble_eq_true rfl) ⟨(Nat.le_of_ble_eq_true rfl), (Nat.le_of_ble_eq_true rfl)⟩ dX11_newModel_98 ?_
  rintro _ _ D2 ⟨rfl, rfl, E⟩
  exact z_aret (r := some (G.1 + o)) hC dX11_newModel_101 (Nat.le_of_ble_eq_true rfl) (Nat.le_of_ble_eq_true rfl) ⟨rfl, by rw [hk]; rfl, E⟩
def fX11_model (t : Nat) (S : Sh) (a1 : Int32) (D : Dy) (post : Int32 → Sh → Dy → Prop) : Prop :=
  (fX11_within a1 (6 : Int32) (fun (v2 : Int32) => ((¬ v2 = 0 → (((D.1 0 8) < (10 : Int32) → (∀ D8 : Dy, D8 = dN D t → (fX9_init t (D8.1 0 6) D8 (fun D10 : Dy => (∀ D11 : Dy, D11 = sI D10 0 6 (0 : Int32) → (fX9_readClauses t D11 (fun (v14 : Int32) (D18 : Dy) => ((¬ v14 = 0 → (fX11_newModel (t + 9) a1 (D18.1 0 8) D18 (fun D20 : Dy => (vp_in (D18.1 0 8) 10 ∧ (∀ v21 : Int32, v21 = (D20.1 0 8) → (∀ D23 : Dy, D23 = sI D20 0 8 (v21 + (1 : Int32)) → post v21 (sR (sNM (kdOf a1) (t + 9) t (sT t S)) 13 ((D18.1 0 8)).toNatClampNeg (some (t + 9))) D23)))))) ∧ (v14 = 0 → post ((-10 : Int32) - (D18.1 t 2)) (sT t S) D18))))))))) ∧ (¬ (D.1 0 8) < (10 : Int32) → post (-4 : Int32) S D))) ∧ (v2 = 0 → post (-1 : Int32) S D))))
theorem mdl_hi {S : Sh} {mdl : Nat → Option (Nat × Nat)} (hF : FX S mdl) : ∀ i, i < 10 → ∀ t kd, mdl i = some (t, kd) → 33 ≤ t := fun i hi t kd hm => by
  have h := (hF.2.2.2 i hi t kd hm).1.1
  apply Classical.byContradiction
  intro hn
  rw [(hF.1 t (by omega)).1] at h
  exact (by decide : ∀ a, a < 33 → kTab.getD a 0 ≠ 10) t (by omega) h
set_option maxHeartbeats 4000000 in
set_option maxRecDepth 100000 in
theorem ct_X11_model {l : Launch} {G : Gl} {S : Sh} {D : Dy} {mdl : Nat → Option (Nat × Nat)} (hF : FX S mdl) (hSb : Sb S) {t : Nat} (hS : S.1 = t) (h33 : 33 ≤ t) {a1 : Int32} {post : Int32 → Sh → Dy → Prop} (E : fX11_model t S a1 D post) : Ct l G yX11_model cX11_model 3 (some .int) 21 15 249 S D [.ref (G.1 + 0), .int a1] (PIs post) := by
  refine z_enter (lv0 := [(0, .ref (G.1 + 0)), (1, .int a1)]) pl_11 (Nat.le_of_ble_eq_true rfl) rfl ?_
  intro p e s m args below meth c hC hnm
  unfold fX11_model at E
  have hT : FT (sT t S) t := sT_FT
  have hFa : FX (sNa S t 10 0) mdl := FX_low hF hSb (by rw [hS]; exact sNa_low)
  have hFb : FX (sT t S) mdl := FX_low hF hSb (by rw [hS]; exact sT_low)
  have hFc : FX (sNM (kdOf a1) (t + 9) t (sT t S)) mdl := FX_low hFb (sT_Sb hSb hS) sNM_low
  have hMn : FMo (sNM (kdOf a1) (t + 9) t (sT t S)) t (kdOf a1) := sNM_FMo kdOf_lt hT
  have hFd : ∀ i, FX (sR (sNM (kdOf a1) (t + 9) t (sT t S)) 13 i (some (t + 9))) (mdlU mdl i t (kdOf a1)) := fun i => FX_put hFc hMn h33 (mdl_hi hF)
  refine z_iload_n hC dX11_model_0 rfl 1 rfl ?_
  refine z_bipush (v := 6) hC dX11_model_1 rfl ?_
  refine z_callS (rest := []) hC (ck_mk lk_X11_69 in_X11_within cd_X11_within ds_X11_within (Nat.le_of_ble_eq_true rfl) (Nat.le_of_ble_eq_true rfl)) st_X11_within (ct_X11_within hF E) rfl rfl (Nat.le_of_ble_eq_true rfl) ⟨(Nat.le_of_ble_eq_true rfl), (Nat.le_of_ble_eq_true rfl)⟩ dX11_model_3 ?_
  rintro _ _ _ ⟨v2, rfl, rfl, rfl, E⟩
  refine z_if_ne (tgt := 11) hC dX11_model_6 (by decide) (fun c6 => ?_) (fun c6 => ?_)
  · replace E := E.1 c6
    refine z_aload_n hC dX11_model_11 rfl 0 rfl ?_
    refine z_get hC lf_X11_111_11 (kX_0 hF) dX11_model_12 (fV_int rfl) ?_
    refine z_bipush (v := 10) hC dX11_model_15 rfl ?_
    refine z_icmp_lt (tgt := 23) hC dX11_model_17 (by decide) (fun c7 => ?_) (fun c7 => ?_)
    · replace E := E.1 c7
      refine z_newQ (a := t) hC cf_9 (by decide) cl_X11_114 hS (Nat.le_of_ble_eq_true rfl) (Nat.le_of_ble_eq_true rfl) dX11_model_23 ?_
      rintro S' hS' D8 h9
      obtain rfl : S' = sNa S t 10 0 := hS'.trans (sNa_eq hS)
      clear hS'
      replace E := E D8 h9
      replace hF := hFa
      refine z_dup hC dX11_model_26 rfl ?_
      refine z_aload_n hC dX11_model_27 rfl 0 rfl ?_
      refine z_get hC lf_X11_32_11 (kX_0 hF) dX11_model_28 (fV_ref rfl (rX_0_5 hF)) ?_
      refine z_aload_n hC dX11_model_31 rfl 0 rfl ?_
      refine z_get hC lf_X11_108_11 (kX_0 hF) dX11_model_32 (fV_int rfl) ?_
      refine z_callI (mc := 8) (ms := 176) (rest := [.ref (G.1 + t)]) (av := [.ref (G.1 + 12), .int (D8.1 0 6)]) hC (ck_mk lk_X11_116 in_X9_init cd_X9_init ds_X9_init (Nat.le_of_ble_eq_true rfl) (Nat.le_of_ble_eq_true rfl)) rfl iy_X9_init (ct_X9_init (o := t) rfl (by simp [sNa]) E) rfl rfl (Nat.le_of_ble_eq_true rfl) ⟨(Nat.le_of_ble_eq_true rfl), (Nat.le_of_ble_eq_true rfl)⟩ dX11_model_35 ?_
      rintro _ _ D10 ⟨rfl, rfl, E⟩
      replace hF := hFb
      change Z _ _ _ _ _ _ _ _ _ _ _ (WM _ _ _ (sT t S) _) _ _ _ _ _ _
      refine z_astore_n (lv' := [(2, .ref (G.1 + t)), (0, .ref (G.1 + 0)), (1, .int a1)]) hC dX11_model_38 rfl (Nat.le_of_ble_eq_true rfl) rfl ?_
      refine z_aload_n hC dX11_model_39 rfl 1 rfl ?_
      refine z_iconst (v := 0) hC dX11_model_40 rfl ?_
      refine z_puti hC lf_X11_108_11 rfl (kX_0 hF) dX11_model_41 ?_
      refine z_topD (fun D11 h12 => ?_)
      replace E := E D11 h12
      refine z_aload_n hC dX11_model_44 rfl 0 rfl ?_
      refine z_callV (ci := 9) (rest := []) hC (ck_mk lk_X11_119 in_X9_readClauses cd_X9_readClauses ds_X9_readClauses (Nat.le_of_ble_eq_true rfl) (Nat.le_of_ble_eq_true rfl)) iy_X9_readClauses sy_X9_readClauses cf_9 (by decide) (kT_0 hT) (ct_X9_readClauses hF hT E) rfl rfl (Nat.le_of_ble_eq_true rfl) ⟨(Nat.le_of_ble_eq_true rfl), (Nat.le_of_ble_eq_true rfl)⟩ dX11_model_45 ?_
      rintro _ _ D18 ⟨v14, rfl, rfl, E⟩
      refine z_if_ne (tgt := 59) hC dX11_model_48 (by decide) (fun c19 => ?_) (fun c19 => ?_)
      · replace E := E.1 c19
        refine z_aload_n hC dX11_model_59 rfl 1 rfl ?_
        refine z_get hC lf_X11_37_11 (kX_0 hF) dX11_model_60 (fV_ref rfl (rX_0_7 hF)) ?_
        refine z_aload_n hC dX11_model_63 rfl 1 rfl ?_
        refine z_get hC lf_X11_111_11 (kX_0 hF) dX11_model_64 (fV_int rfl) ?_
        refine z_iload_n hC dX11_model_67 rfl 2 rfl ?_
        refine z_aload_n hC dX11_model_68 rfl 1 rfl ?_
        refine z_get hC lf_X11_111_11 (kX_0 hF) dX11_model_69 (fV_int rfl) ?_
        refine z_aload_n hC dX11_model_72 rfl 0 rfl ?_
        refine z_callS (mc := 6) (ms := 56) (rest := [.int (D18.1 0 8), .ref (G.1 + 13)]) (av := [.int a1, .int (D18.1 0 8), .ref (G.1 + t)]) hC (ck_mk lk_X11_126 in_X11_newModel cd_X11_newModel ds_X11_newModel (Nat.le_of_ble_eq_true rfl) (Nat.le_of_ble_eq_true rfl)) st_X11_newModel (ct_X11_newModel (o := t + 9) (t := t) rfl E) rfl rfl (Nat.le_of_ble_eq_true rfl) ⟨(Nat.le_of_ble_eq_true rfl), (Nat.le_of_ble_eq_true rfl)⟩ dX11_model_73 ?_
        rintro _ _ D20 ⟨rfl, rfl, E⟩
        replace hF := hFc
        obtain ⟨C, T, hci, h13, hcast⟩ := cfm2 (kdOf_lt (a1 := a1))
        refine z_aast (v := t + 9) hC (kX_13 hF) (nX_13 hF) (kO hMn) hci h13 hcast E.1 dX11_model_76 ?_
        replace hF := hFd ((D18.1 0 8)).toNatClampNeg
        replace E := E.2
        refine z_aload_n hC dX11_model_77 rfl 1 rfl ?_
        refine z_dup hC dX11_model_78 rfl ?_
        refine z_get hC lf_X11_111_11 (kX_0 hF) dX11_model_79 (fV_int rfl) ?_
        refine z_topi (fun v21 h22 => ?_)
        replace E := E v21 h22
        refine z_dup_x1 hC dX11_model_82 rfl rfl ?_
        refine z_iconst (v := 1) hC dX11_model_83 rfl ?_
        refine z_iadd hC dX11_model_84 ?_
        refine z_puti hC lf_X11_111_11 rfl (kX_0 hF) dX11_model_85 ?_
        refine z_topD (fun D23 h24 => ?_)
        replace E := E D23 h24
        exact z_iret hC dX11_model_88 (Nat.le_of_ble_eq_true rfl) (Nat.le_of_ble_eq_true rfl) ⟨_, rfl, E⟩
      · replace E := E.2 c19
        refine z_bipush (v := -10) hC dX11_model_51 rfl ?_
        refine z_aload_n hC dX11_model_53 rfl 0 rfl ?_
        refine z_get hC lf_X11_123_9 (kT_0 hT) dX11_model_54 (fV_int rfl) ?_
        refine z_isub hC dX11_model_57 ?_
        exact z_iret hC dX11_model_58 (Nat.le_of_ble_eq_true rfl) (Nat.le_of_ble_eq_true rfl) ⟨_, rfl, E⟩
    · replace E := E.2 c7
      refine z_bipush (v := -4) hC dX11_model_20 rfl ?_
      exact z_iret hC dX11_model_22 (Nat.le_of_ble_eq_true rfl) (Nat.le_of_ble_eq_true rfl) ⟨_, rfl, E⟩
  · replace E := E.2 c6
    refine z_iconst (v := -1) hC dX11_model_9 rfl ?_
    exact z_iret hC dX11_model_10 (Nat.le_of_ble_eq_true rfl) (Nat.le_of_ble_eq_true rfl) ⟨_, rfl, E⟩
