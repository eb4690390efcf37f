/-! the pure programs and their walks (laid by program out of the bytecode) -/
def fX12_in (a1 : Int32) (a2 : Int32) (a3 : Int32) (post : Int32 → Prop) : Prop :=
  (JN (post (0 : Int32)) (fun K1 : Prop => ((a1 < a2 → K1) ∧ (¬ a1 < a2 → ((a3 < a1 → K1) ∧ (¬ a3 < a1 → post (1 : Int32)))))))
set_option maxHeartbeats 4000000 in
set_option maxRecDepth 100000 in
theorem ct_X12_in {l : Launch} {G : Gl} {S : Sh} {D : Dy} (hF : FM S) {a1 : Int32} {a2 : Int32} {a3 : Int32} {post : Int32 → Prop} (E : fX12_in a1 a2 a3 post) : Ct l G yX12_in cX12_in 4 (some .boolean) 0 0 0 S D [.ref (G.1 + 33), .int a1, .int a2, .int a3] (PIr S D post) := by
  refine z_enter (lv0 := [(0, .ref (G.1 + 33)), (1, .int a1), (2, .int a2), (3, .int a3)]) pl_12 (Nat.le_of_ble_eq_true rfl) rfl ?_
  intro p e s m args below meth c hC hnm
  unfold fX12_in at E
  refine z_iload_n hC dX12_in_0 rfl 1 rfl ?_
  refine z_iload_n hC dX12_in_1 rfl 2 rfl ?_
  obtain ⟨K1, hK2, EE⟩ := JN_use E (fun K1 : Prop => K1 → ZM l G p e s m args below meth c 4 0 S (PIr S D post) S D 14 [] []) (by
    intro E
    refine z_iconst (v := 0) hC dX12_in_14 rfl ?_
    exact z_zret hC dX12_in_15 (Or.inl rfl) (Nat.le_refl _) (Nat.le_refl _) ⟨_, rfl, rfl, rfl, E⟩)
  replace E := EE
  clear EE
  refine z_icmp_lt (tgt := 14) hC dX12_in_2 (by decide) (fun c3 => ?_) (fun c3 => ?_)
  · replace E := E.1 c3
    refine z_sub [] rfl ?_
    exact hK2  E
  · replace E := E.2 c3
    refine z_iload_n hC dX12_in_5 rfl 1 rfl ?_
    refine z_iload_n hC dX12_in_6 rfl 3 rfl ?_
    refine z_icmp_gt (tgt := 14) hC dX12_in_7 (by decide) (fun c4 => ?_) (fun c4 => ?_)
    · replace E := E.1 c4
      refine z_sub [] rfl ?_
      exact hK2  E
    · replace E := E.2 c4
      refine z_iconst (v := 1) hC dX12_in_10 rfl ?_
      refine z_goto (tgt := 15) hC dX12_in_11 (by decide) ?_
      exact z_zret hC dX12_in_15 (Or.inr rfl) (Nat.le_refl _) (Nat.le_refl _) ⟨_, rfl, rfl, rfl, E⟩
def fX12_isModel (a1 : Int32) (D : Dy) (post : Int32 → Prop) : Prop :=
  (fX12_in a1 (0 : Int32) ((D.1 33 13) - (1 : Int32)) (fun (v2 : Int32) => ((v2 = 0 ∨ v2 = 1) ∧ post v2)))
set_option maxHeartbeats 4000000 in
set_option maxRecDepth 100000 in
theorem ct_X12_isModel {l : Launch} {G : Gl} {S : Sh} {D : Dy} (hF : FM S) {a1 : Int32} {post : Int32 → Prop} (E : fX12_isModel a1 D post) : Ct l G yX12_isModel cX12_isModel 2 (some .boolean) 1 0 0 S D [.ref (G.1 + 33), .int a1] (PIr S D post) := by
  refine z_enter (lv0 := [(0, .ref (G.1 + 33)), (1, .int a1)]) pl_12 (Nat.le_of_ble_eq_true rfl) rfl ?_
  intro p e s m args below meth c hC hnm
  unfold fX12_isModel at E
  refine z_aload_n hC dX12_isModel_0 rfl 0 rfl ?_
  refine z_iload_n hC dX12_isModel_1 rfl 1 rfl ?_
  refine z_iconst (v := 0) hC dX12_isModel_2 rfl ?_
  refine z_aload_n hC dX12_isModel_3 rfl 0 rfl ?_
  refine z_get hC lf_X12_50_12 (kM_33 hF) dX12_isModel_4 (fV_int rfl) ?_
  refine z_iconst (v := 1) hC dX12_isModel_7 rfl ?_
  refine z_isub hC dX12_isModel_8 ?_
  refine z_callV (ci := 12) (rest := []) hC (ck_mk lk_X12_178 in_X12_in cd_X12_in ds_X12_in (Nat.le_of_ble_eq_true rfl) (Nat.le_of_ble_eq_true rfl)) iy_X12_in sy_X12_in cf_12 (by decide) (kM_33 hF) (ct_X12_in hF E) rfl rfl (Nat.le_of_ble_eq_true rfl) ⟨Nat.le_refl _, Nat.le_refl _⟩ dX12_isModel_9 ?_
  rintro _ _ _ ⟨v2, rfl, rfl, rfl, E⟩
  exact z_zret hC dX12_isModel_12 E.1 (Nat.le_refl _) (Nat.le_refl _) ⟨_, rfl, rfl, rfl, E.2⟩
def fX12_body (a1 : Int32) (D : Dy) (post : Dy → Prop) : Prop :=
  (JN (fun (D1 : Dy) => (∀ D4 : Dy, D4 = sI D1 33 48 ((D1.1 33 48) + (1 : Int32)) → post D4)) (fun K2 : Dy → Prop => (((20 : Int32) ≤ (D.1 33 48) → (K2 D)) ∧ (¬ (20 : Int32) ≤ (D.1 33 48) → (vp_in (D.1 33 48) 20 ∧ (∀ D7 : Dy, D7 = sI D 60 ((D.1 33 48)).toNatClampNeg a1 → (K2 D7)))))))
set_option maxHeartbeats 4000000 in
set_option maxRecDepth 100000 in
theorem ct_X12_body {l : Launch} {G : Gl} {S : Sh} {D : Dy} (hF : FM S) {a1 : Int32} {post : Dy → Prop} (E : fX12_body a1 D post) : Ct l G yX12_body cX12_body 2 none 0 0 0 S D [.ref (G.1 + 33), .int a1] (PV S post) := by
  refine z_enter (lv0 := [(0, .ref (G.1 + 33)), (1, .int a1)]) pl_12 (Nat.le_of_ble_eq_true rfl) rfl ?_
  intro p e s m args below meth c hC hnm
  unfold fX12_body at E
  refine z_aload_n hC dX12_body_0 rfl 0 rfl ?_
  refine z_get hC lf_X12_159_12 (kM_33 hF) dX12_body_1 (fV_int rfl) ?_
  refine z_bipush (v := 20) hC dX12_body_4 rfl ?_
  obtain ⟨K2, hK3, EE⟩ := JN_use E (fun K2 : Dy → Prop => ∀ (D1 : Dy), K2 D1 → ZM l G p e s m args below meth c 2 0 S (PV S post) S D1 19 [(0, .ref (G.1 + 33))] []) (by
    intro D1 E
    refine z_aload_n hC dX12_body_19 rfl 0 rfl ?_
    refine z_dup hC dX12_body_20 rfl ?_
    refine z_get hC lf_X12_159_12 (kM_33 hF) dX12_body_21 (fV_int rfl) ?_
    refine z_iconst (v := 1) hC dX12_body_24 rfl ?_
    refine z_iadd hC dX12_body_25 ?_
    refine z_puti hC lf_X12_159_12 rfl (kM_33 hF) dX12_body_26 ?_
    refine z_topD (fun D4 h5 => ?_)
    replace E := E D4 h5
    exact z_vret hC dX12_body_29 (Nat.le_refl _) (Nat.le_refl _) ⟨rfl, rfl, E⟩)
  replace E := EE
  clear EE
  refine z_icmp_ge (tgt := 19) hC dX12_body_6 (by decide) (fun c6 => ?_) (fun c6 => ?_)
  · replace E := E.1 c6
    refine z_sub [0] rfl ?_
    exact hK3 D E
  · replace E := E.2 c6
    refine z_aload_n hC dX12_body_9 rfl 0 rfl ?_
    refine z_get hC lf_X12_162_12 (kM_33 hF) dX12_body_10 (fV_ref rfl (rM_33_49 hF)) ?_
    refine z_aload_n hC dX12_body_13 rfl 0 rfl ?_
    refine z_get hC lf_X12_159_12 (kM_33 hF) dX12_body_14 (fV_int rfl) ?_
    refine z_iload_n hC dX12_body_17 rfl 1 rfl ?_
    refine z_iast hC (kM_60 hF) (nM_60 hF) E.1 dX12_body_18 ?_
    replace E := E.2
    refine z_topD (fun D7 h8 => ?_)
    replace E := E D7 h8
    refine z_sub [0] rfl ?_
    exact hK3 D7 E
def fX12_plainWeighs (a1 : Int32) (a2 : Int32) (D : Dy) (post : Int32 → Dy → Prop) : Prop :=
  (fX12_body (10 : Int32) D (fun (D6 : Dy) => (vp_in a1 10 ∧ post (a2 + (D6.1 46 (a1).toNatClampNeg)) D6)))
set_option maxHeartbeats 4000000 in
set_option maxRecDepth 100000 in
theorem ct_X12_plainWeighs {l : Launch} {G : Gl} {S : Sh} {D : Dy} (hF : FM S) {a1 : Int32} {a2 : Int32} {post : Int32 → Dy → Prop} (E : fX12_plainWeighs a1 a2 D post) : Ct l G yX12_plainWeighs cX12_plainWeighs 3 (some .int) 1 0 0 S D [.ref (G.1 + 33), .int a1, .int a2] (PI S post) := by
  refine z_enter (lv0 := [(0, .ref (G.1 + 33)), (1, .int a1), (2, .int a2)]) pl_12 (Nat.le_of_ble_eq_true rfl) rfl ?_
  intro p e s m args below meth c hC hnm
  unfold fX12_plainWeighs at E
  refine z_aload_n hC dX12_plainWeighs_0 rfl 0 rfl ?_
  refine z_bipush (v := 10) hC dX12_plainWeighs_1 rfl ?_
  refine z_callV (ci := 12) (rest := []) hC (ck_mk lk_X12_344 in_X12_body cd_X12_body ds_X12_body (Nat.le_of_ble_eq_true rfl) (Nat.le_of_ble_eq_true rfl)) iy_X12_body sy_X12_body cf_12 (by decide) (kM_33 hF) (ct_X12_body hF E) rfl rfl (Nat.le_of_ble_eq_true rfl) ⟨Nat.le_refl _, Nat.le_refl _⟩ dX12_plainWeighs_3 ?_
  rintro _ _ D6 ⟨rfl, rfl, E⟩
  refine z_iload_n hC dX12_plainWeighs_6 rfl 2 rfl ?_
  refine z_aload_n hC dX12_plainWeighs_7 rfl 0 rfl ?_
  refine z_get hC lf_X12_65_12 (kM_33 hF) dX12_plainWeighs_8 (fV_ref rfl (rM_33_18 hF)) ?_
  refine z_iload_n hC dX12_plainWeighs_11 rfl 1 rfl ?_
  refine z_iald hC (kM_46 hF) (nM_46 hF) E.1 dX12_plainWeighs_12 ?_
  replace E := E.2
  refine z_iadd hC dX12_plainWeighs_13 ?_
  exact z_iret hC dX12_plainWeighs_14 (Nat.le_refl _) (Nat.le_refl _) ⟨_, rfl, rfl, E⟩
def fX12_weighs (a1 : Int32) (a2 : Int32) (D : Dy) (post : Int32 → Dy → Prop) : Prop :=
  (vp_in a1 10 ∧ ((¬ (D.1 43 (a1).toNatClampNeg) = (2 : Int32) → (vp_in a1 10 ∧ ((¬ (D.1 43 (a1).toNatClampNeg) = (5 : Int32) → (fX12_plainWeighs a1 a2 D (fun (v3 : Int32) (D8 : Dy) => post v3 D8))) ∧ ((D.1 43 (a1).toNatClampNeg) = (5 : Int32) → (fX12_body (60 : Int32) D (fun (D14 : Dy) => (fX12_plainWeighs a1 a2 D14 (fun (v15 : Int32) (D20 : Dy) => post (v15 ^^^ a1) D20)))))))) ∧ ((D.1 43 (a1).toNatClampNeg) = (2 : Int32) → (fX12_body (30 : Int32) D (fun (D26 : Dy) => (fX12_plainWeighs a1 (a2 * (3 : Int32)) D26 (fun (v27 : Int32) (D32 : Dy) => post v27 D32)))))))
set_option maxHeartbeats 4000000 in
set_option maxRecDepth 100000 in
theorem ct_X12_weighs {l : Launch} {G : Gl} {S : Sh} {D : Dy} (hF : FM S) {a1 : Int32} {a2 : Int32} {post : Int32 → Dy → Prop} (E : fX12_weighs a1 a2 D post) : Ct l G yX12_weighs cX12_weighs 3 (some .int) 2 0 0 S D [.ref (G.1 + 33), .int a1, .int a2] (PI S post) := by
  refine z_enter (lv0 := [(0, .ref (G.1 + 33)), (1, .int a1), (2, .int a2)]) pl_12 (Nat.le_of_ble_eq_true rfl) rfl ?_
  intro p e s m args below meth c hC hnm
  unfold fX12_weighs at E
  refine z_aload_n hC dX12_weighs_0 rfl 0 rfl ?_
  refine z_get hC lf_X12_56_12 (kM_33 hF) dX12_weighs_1 (fV_ref rfl (rM_33_15 hF)) ?_
  refine z_iload_n hC dX12_weighs_4 rfl 1 rfl ?_
  refine z_iald hC (kM_43 hF) (nM_43 hF) E.1 dX12_weighs_5 ?_
  replace E := E.2
  refine z_iconst (v := 2) hC dX12_weighs_6 rfl ?_
  refine z_icmp_ne (tgt := 25) hC dX12_weighs_7 (by decide) (fun c1 => ?_) (fun c1 => ?_)
  · replace E := E.1 c1
    refine z_aload_n hC dX12_weighs_25 rfl 0 rfl ?_
    refine z_get hC lf_X12_56_12 (kM_33 hF) dX12_weighs_26 (fV_ref rfl (rM_33_15 hF)) ?_
    refine z_iload_n hC dX12_weighs_29 rfl 1 rfl ?_
    refine z_iald hC (kM_43 hF) (nM_43 hF) E.1 dX12_weighs_30 ?_
    replace E := E.2
    refine z_iconst (v := 5) hC dX12_weighs_31 rfl ?_
    refine z_icmp_ne (tgt := 50) hC dX12_weighs_32 (by decide) (fun c2 => ?_) (fun c2 => ?_)
    · replace E := E.1 c2
      refine z_aload_n hC dX12_weighs_50 rfl 0 rfl ?_
      refine z_iload_n hC dX12_weighs_51 rfl 1 rfl ?_
      refine z_iload_n hC dX12_weighs_52 rfl 2 rfl ?_
      refine z_callV (ci := 12) (rest := []) hC (ck_mk lk_X12_347 in_X12_plainWeighs cd_X12_plainWeighs ds_X12_plainWeighs (Nat.le_of_ble_eq_true rfl) (Nat.le_of_ble_eq_true rfl)) iy_X12_plainWeighs sy_X12_plainWeighs cf_12 (by decide) (kM_33 hF) (ct_X12_plainWeighs hF E) rfl rfl (Nat.le_of_ble_eq_true rfl) ⟨Nat.le_refl _, Nat.le_refl _⟩ dX12_weighs_53 ?_
      rintro _ _ D8 ⟨v3, rfl, rfl, E⟩
      exact z_iret hC dX12_weighs_56 (Nat.le_refl _) (Nat.le_refl _) ⟨_, rfl, rfl, E⟩
    · replace E := E.2 c2
      refine z_aload_n hC dX12_weighs_35 rfl 0 rfl ?_
      refine z_bipush (v := 60) hC dX12_weighs_36 rfl ?_
      refine z_callV (ci := 12) (rest := []) hC (ck_mk lk_X12_344 in_X12_body cd_X12_body ds_X12_body (Nat.le_of_ble_eq_true rfl) (Nat.le_of_ble_eq_true rfl)) iy_X12_body sy_X12_body cf_12 (by decide) (kM_33 hF) (ct_X12_body hF E) rfl rfl (Nat.le_of_ble_eq_true rfl) ⟨Nat.le_refl _, Nat.le_refl _⟩ dX12_weighs_38 ?_
      rintro _ _ D14 ⟨rfl, rfl, E⟩
      refine z_aload_n hC dX12_weighs_41 rfl 0 rfl ?_
      refine z_iload_n hC dX12_weighs_42 rfl 1 rfl ?_
      refine z_iload_n hC dX12_weighs_43 rfl 2 rfl ?_
      refine z_callV (ci := 12) (rest := []) hC (ck_mk lk_X12_347 in_X12_plainWeighs cd_X12_plainWeighs ds_X12_plainWeighs (Nat.le_of_ble_eq_true rfl) (Nat.le_of_ble_eq_true rfl)) iy_X12_plainWeighs sy_X12_plainWeighs cf_12 (by decide) (kM_33 hF) (ct_X12_plainWeighs hF E) rfl rfl (Nat.le_of_ble_eq_true rfl) ⟨Nat.le_refl _, Nat.le_refl _⟩ dX12_weighs_44 ?_
      rintro _ _ D20 ⟨v15, rfl, rfl, E⟩
      refine z_iload_n hC dX12_weighs_47 rfl 1 rfl ?_
      refine z_ixor hC dX12_weighs_48 ?_
      exact z_iret hC dX12_weighs_49 (Nat.le_refl _) (Nat.le_refl _) ⟨_, rfl, rfl, E⟩
  · replace E := E.2 c1
    refine z_aload_n hC dX12_weighs_10 rfl 0 rfl ?_
    refine z_bipush (v := 30) hC dX12_weighs_11 rfl ?_
    refine z_callV (ci := 12) (rest := []) hC (ck_mk lk_X12_344 in_X12_body cd_X12_body ds_X12_body (Nat.le_of_ble_eq_true rfl) (Nat.le_of_ble_eq_true rfl)) iy_X12_body sy_X12_body cf_12 (by decide) (kM_33 hF) (ct_X12_body hF E) rfl rfl (Nat.le_of_ble_eq_true rfl) ⟨Nat.le_refl _, Nat.le_refl _⟩ dX12_weighs_13 ?_
    rintro _ _ D26 ⟨rfl, rfl, E⟩
    refine z_aload_n hC dX12_weighs_16 rfl 0 rfl ?_
    refine z_iload_n hC dX12_weighs_17 rfl 1 rfl ?_
    refine z_iload_n hC dX12_weighs_18 rfl 2 rfl ?_
    refine z_iconst (v := 3) hC dX12_weighs_19 rfl ?_
    refine z_imul hC dX12_weighs_20 ?_
    refine z_callV (ci := 12) (rest := []) hC (ck_mk lk_X12_347 in_X12_plainWeighs cd_X12_plainWeighs ds_X12_plainWeighs (Nat.le_of_ble_eq_true rfl) (Nat.le_of_ble_eq_true rfl)) iy_X12_plainWeighs sy_X12_plainWeighs cf_12 (by decide) (kM_33 hF) (ct_X12_plainWeighs hF E) rfl rfl (Nat.le_of_ble_eq_true rfl) ⟨Nat.le_refl _, Nat.le_refl _⟩ dX12_weighs_21 ?_
    rintro _ _ D32 ⟨v27, rfl, rfl, E⟩
    exact z_iret hC dX12_weighs_24 (Nat.le_refl _) (Nat.le_refl _) ⟨_, rfl, rfl, E⟩
def fX12_modelOdds (a1 : Int32) (a2 : Int32) (D : Dy) (post : Int32 → Dy → Prop) : Prop :=
  (fX12_body (11 : Int32) D (fun (D6 : Dy) => (fX12_weighs a1 a2 D6 (fun (v7 : Int32) (D12 : Dy) => post (v7 - a1) D12))))
set_option maxHeartbeats 4000000 in
set_option maxRecDepth 100000 in
theorem ct_X12_modelOdds {l : Launch} {G : Gl} {S : Sh} {D : Dy} (hF : FM S) {a1 : Int32} {a2 : Int32} {post : Int32 → Dy → Prop} (E : fX12_modelOdds a1 a2 D post) : Ct l G yX12_modelOdds cX12_modelOdds 3 (some .int) 3 0 0 S D [.ref (G.1 + 33), .int a1, .int a2] (PI S post) := by
  refine z_enter (lv0 := [(0, .ref (G.1 + 33)), (1, .int a1), (2, .int a2)]) pl_12 (Nat.le_of_ble_eq_true rfl) rfl ?_
  intro p e s m args below meth c hC hnm
  unfold fX12_modelOdds at E
  refine z_aload_n hC dX12_modelOdds_0 rfl 0 rfl ?_
  refine z_bipush (v := 11) hC dX12_modelOdds_1 rfl ?_
  refine z_callV (ci := 12) (rest := []) hC (ck_mk lk_X12_344 in_X12_body cd_X12_body ds_X12_body (Nat.le_of_ble_eq_true rfl) (Nat.le_of_ble_eq_true rfl)) iy_X12_body sy_X12_body cf_12 (by decide) (kM_33 hF) (ct_X12_body hF E) rfl rfl (Nat.le_of_ble_eq_true rfl) ⟨Nat.le_refl _, Nat.le_refl _⟩ dX12_modelOdds_3 ?_
  rintro _ _ D6 ⟨rfl, rfl, E⟩
  refine z_aload_n hC dX12_modelOdds_6 rfl 0 rfl ?_
  refine z_iload_n hC dX12_modelOdds_7 rfl 1 rfl ?_
  refine z_iload_n hC dX12_modelOdds_8 rfl 2 rfl ?_
  refine z_callV (ci := 12) (rest := []) hC (ck_mk lk_X12_350 in_X12_weighs cd_X12_weighs ds_X12_weighs (Nat.le_of_ble_eq_true rfl) (Nat.le_of_ble_eq_true rfl)) iy_X12_weighs sy_X12_weighs cf_12 (by decide) (kM_33 hF) (ct_X12_weighs hF E) rfl rfl (Nat.le_of_ble_eq_true rfl) ⟨Nat.le_refl _, Nat.le_refl _⟩ dX12_modelOdds_9 ?_
  rintro _ _ D12 ⟨v7, rfl, rfl, E⟩
  refine z_iload_n hC dX12_modelOdds_12 rfl 1 rfl ?_
  refine z_isub hC dX12_modelOdds_13 ?_
  exact z_iret hC dX12_modelOdds_14 (Nat.le_refl _) (Nat.le_refl _) ⟨_, rfl, rfl, E⟩
def fX12_plainOdds (a1 : Int32) (a2 : Int32) (D : Dy) (post : Int32 → Dy → Prop) : Prop :=
  (fX12_body (20 : Int32) D (fun (D6 : Dy) => (fX12_modelOdds a1 a2 D6 (fun (v7 : Int32) (D12 : Dy) => post (v7 ^^^ (6 : Int32)) D12))))
set_option maxHeartbeats 4000000 in
set_option maxRecDepth 100000 in
theorem ct_X12_plainOdds {l : Launch} {G : Gl} {S : Sh} {D : Dy} (hF : FM S) {a1 : Int32} {a2 : Int32} {post : Int32 → Dy → Prop} (E : fX12_plainOdds a1 a2 D post) : Ct l G yX12_plainOdds cX12_plainOdds 3 (some .int) 4 0 0 S D [.ref (G.1 + 33), .int a1, .int a2] (PI S post) := by
  refine z_enter (lv0 := [(0, .ref (G.1 + 33)), (1, .int a1), (2, .int a2)]) pl_12 (Nat.le_of_ble_eq_true rfl) rfl ?_
  intro p e s m args below meth c hC hnm
  unfold fX12_plainOdds at E
  refine z_aload_n hC dX12_plainOdds_0 rfl 0 rfl ?_
  refine z_bipush (v := 20) hC dX12_plainOdds_1 rfl ?_
  refine z_callV (ci := 12) (rest := []) hC (ck_mk lk_X12_344 in_X12_body cd_X12_body ds_X12_body (Nat.le_of_ble_eq_true rfl) (Nat.le_of_ble_eq_true rfl)) iy_X12_body sy_X12_body cf_12 (by decide) (kM_33 hF) (ct_X12_body hF E) rfl rfl (Nat.le_of_ble_eq_true rfl) ⟨Nat.le_refl _, Nat.le_refl _⟩ dX12_plainOdds_3 ?_
  rintro _ _ D6 ⟨rfl, rfl, E⟩
  refine z_aload_n hC dX12_plainOdds_6 rfl 0 rfl ?_
  refine z_iload_n hC dX12_plainOdds_7 rfl 1 rfl ?_
  refine z_iload_n hC dX12_plainOdds_8 rfl 2 rfl ?_
  refine z_callV (ci := 12) (rest := []) hC (ck_mk lk_X12_353 in_X12_modelOdds cd_X12_modelOdds ds_X12_modelOdds (Nat.le_of_ble_eq_true rfl) (Nat.le_of_ble_eq_true rfl)) iy_X12_modelOdds sy_X12_modelOdds cf_12 (by decide) (kM_33 hF) (ct_X12_modelOdds hF E) rfl rfl (Nat.le_of_ble_eq_true rfl) ⟨Nat.le_refl _, Nat.le_refl _⟩ dX12_plainOdds_9 ?_
  rintro _ _ D12 ⟨v7, rfl, rfl, E⟩
  refine z_bipush (v := 6) hC dX12_plainOdds_12 rfl ?_
  refine z_ixor hC dX12_plainOdds_14 ?_
  exact z_iret hC dX12_plainOdds_15 (Nat.le_refl _) (Nat.le_refl _) ⟨_, rfl, rfl, E⟩
def fX12_oddsBy (a1 : Int32) (a2 : Int32) (D : Dy) (post : Int32 → Dy → Prop) : Prop :=
  (vp_in a1 10 ∧ (JN ((fX12_plainOdds a1 a2 D (fun (v3 : Int32) (D8 : Dy) => post v3 D8))) (fun K1 : Prop => (((D.1 43 (a1).toNatClampNeg) = (1 : Int32) → K1) ∧ (¬ (D.1 43 (a1).toNatClampNeg) = (1 : Int32) → (vp_in a1 10 ∧ ((¬ (D.1 43 (a1).toNatClampNeg) = (2 : Int32) → (vp_in a1 10 ∧ ((¬ (D.1 43 (a1).toNatClampNeg) = (3 : Int32) → (vp_in a1 10 ∧ ((¬ (D.1 43 (a1).toNatClampNeg) = (4 : Int32) → (fX12_modelOdds a1 a2 D (fun (v13 : Int32) (D18 : Dy) => post v13 D18))) ∧ ((D.1 43 (a1).toNatClampNeg) = (4 : Int32) → (fX12_body (51 : Int32) D (fun (D24 : Dy) => (fX12_plainOdds a1 a2 D24 (fun (v25 : Int32) (D30 : Dy) => (fX12_plainWeighs a1 (2 : Int32) D30 (fun (v31 : Int32) (D36 : Dy) => post (v25 + v31) D36)))))))))) ∧ ((D.1 43 (a1).toNatClampNeg) = (3 : Int32) → (fX12_body (40 : Int32) D (fun (D42 : Dy) => (fX12_plainOdds a1 a2 D42 (fun (v43 : Int32) (D48 : Dy) => post (-v43) D48)))))))) ∧ ((D.1 43 (a1).toNatClampNeg) = (2 : Int32) → K1))))))))
set_option maxHeartbeats 4000000 in
set_option maxRecDepth 100000 in
theorem ct_X12_oddsBy {l : Launch} {G : Gl} {S : Sh} {D : Dy} (hF : FM S) {a1 : Int32} {a2 : Int32} {post : Int32 → Dy → Prop} (E : fX12_oddsBy a1 a2 D post) : Ct l G yX12_oddsBy cX12_oddsBy 4 (some .int) 5 0 0 S D [.ref (G.1 + 33), .int a1, .int a2] (PI S post) := by
  refine z_enter (lv0 := [(0, .ref (G.1 + 33)), (1, .int a1), (2, .int a2)]) pl_12 (Nat.le_of_ble_eq_true rfl) rfl ?_
  intro p e s m args below meth c hC hnm
  unfold fX12_oddsBy at E
  refine z_aload_n hC dX12_oddsBy_0 rfl 0 rfl ?_
  refine z_get hC lf_X12_56_12 (kM_33 hF) dX12_oddsBy_1 (fV_ref rfl (rM_33_15 hF)) ?_
  refine z_iload_n hC dX12_oddsBy_4 rfl 1 rfl ?_
  refine z_iald hC (kM_43 hF) (nM_43 hF) E.1 dX12_oddsBy_5 ?_
  replace E := E.2
  refine z_iconst (v := 1) hC dX12_oddsBy_6 rfl ?_
  obtain ⟨K1, hK2, EE⟩ := JN_use E (fun K1 : Prop => K1 → ZM l G p e s m args below meth c 4 5 S (PI S post) S D 20 [(0, .ref (G.1 + 33)), (1, .int a1), (2, .int a2)] []) (by
    intro E
    refine z_aload_n hC dX12_oddsBy_20 rfl 0 rfl ?_
    refine z_iload_n hC dX12_oddsBy_21 rfl 1 rfl ?_
    refine z_iload_n hC dX12_oddsBy_22 rfl 2 rfl ?_
    refine z_callV (ci := 12) (rest := []) hC (ck_mk lk_X12_356 in_X12_plainOdds cd_X12_plainOdds ds_X12_plainOdds (Nat.le_of_ble_eq_true rfl) (Nat.le_of_ble_eq_true rfl)) iy_X12_plainOdds sy_X12_plainOdds cf_12 (by decide) (kM_33 hF) (ct_X12_plainOdds hF E) rfl rfl (Nat.le_of_ble_eq_true rfl) ⟨Nat.le_refl _, Nat.le_refl _⟩ dX12_oddsBy_23 ?_
    rintro _ _ D8 ⟨v3, rfl, rfl, E⟩
    exact z_iret hC dX12_oddsBy_26 (Nat.le_refl _) (Nat.le_refl _) ⟨_, rfl, rfl, E⟩)
  replace E := EE
  clear EE
  refine z_icmp_eq (tgt := 20) hC dX12_oddsBy_7 (by decide) (fun c9 => ?_) (fun c9 => ?_)
  · replace E := E.1 c9
    exact hK2  E
  · replace E := E.2 c9
    refine z_aload_n hC dX12_oddsBy_10 rfl 0 rfl ?_
    refine z_get hC lf_X12_56_12 (kM_33 hF) dX12_oddsBy_11 (fV_ref rfl (rM_33_15 hF)) ?_
    refine z_iload_n hC dX12_oddsBy_14 rfl 1 rfl ?_
    refine z_iald hC (kM_43 hF) (nM_43 hF) E.1 dX12_oddsBy_15 ?_
    replace E := E.2
    refine z_iconst (v := 2) hC dX12_oddsBy_16 rfl ?_
    refine z_icmp_ne (tgt := 27) hC dX12_oddsBy_17 (by decide) (fun c10 => ?_) (fun c10 => ?_)
    · replace E := E.1 c10
      refine z_aload_n hC dX12_oddsBy_27 rfl 0 rfl ?_
      refine z_get hC lf_X12_56_12 (kM_33 hF) dX12_oddsBy_28 (fV_ref rfl (rM_33_15 hF)) ?_
      refine z_iload_n hC dX12_oddsBy_31 rfl 1 rfl ?_
      refine z_iald hC (kM_43 hF) (nM_43 hF) E.1 dX12_oddsBy_32 ?_
      replace E := E.2
      refine z_iconst (v := 3) hC dX12_oddsBy_33 rfl ?_
      refine z_icmp_ne (tgt := 51) hC dX12_oddsBy_34 (by decide) (fun c11 => ?_) (fun c11 => ?_)
      · replace E := E.1 c11
        refine z_aload_n hC dX12_oddsBy_51 rfl 0 rfl ?_
        refine z_get hC lf_X12_56_12 (kM_33 hF) dX12_oddsBy_52 (fV_ref rfl (rM_33_15 hF)) ?_
        refine z_iload_n hC dX12_oddsBy_55 rfl 1 rfl ?_
        refine z_iald hC (kM_43 hF) (nM_43 hF) E.1 dX12_oddsBy_56 ?_
        replace E := E.2
        refine z_iconst (v := 4) hC dX12_oddsBy_57 rfl ?_
        refine z_icmp_ne (tgt := 83) hC dX12_oddsBy_58 (by decide) (fun c12 => ?_) (fun c12 => ?_)
        · replace E := E.1 c12
          refine z_aload_n hC dX12_oddsBy_83 rfl 0 rfl ?_
          refine z_iload_n hC dX12_oddsBy_84 rfl 1 rfl ?_
          refine z_iload_n hC dX12_oddsBy_85 rfl 2 rfl ?_
          refine z_callV (ci := 12) (rest := []) hC (ck_mk lk_X12_353 in_X12_modelOdds cd_X12_modelOdds ds_X12_modelOdds (Nat.le_of_ble_eq_true rfl) (Nat.le_of_ble_eq_true rfl)) iy_X12_modelOdds sy_X12_modelOdds cf_12 (by decide) (kM_33 hF) (ct_X12_modelOdds hF E) rfl rfl (Nat.le_of_ble_eq_true rfl) ⟨Nat.le_refl _, Nat.le_refl _⟩ dX12_oddsBy_86 ?_
          rintro _ _ D18 ⟨v13, rfl, rfl, E⟩
          exact z_iret hC dX12_oddsBy_89 (Nat.le_refl _) (Nat.le_refl _) ⟨_, rfl, rfl, E⟩
        · replace E := E.2 c12
          refine z_aload_n hC dX12_oddsBy_61 rfl 0 rfl ?_
          refine z_bipush (v := 51) hC dX12_oddsBy_62 rfl ?_
          refine z_callV (ci := 12) (rest := []) hC (ck_mk lk_X12_344 in_X12_body cd_X12_body ds_X12_body (Nat.le_of_ble_eq_true rfl) (Nat.le_of_ble_eq_true rfl)) iy_X12_body sy_X12_body cf_12 (by decide) (kM_33 hF) (ct_X12_body hF E) rfl rfl (Nat.le_of_ble_eq_true rfl) ⟨Nat.le_refl _, Nat.le_refl _⟩ dX12_oddsBy_64 ?_
          rintro _ _ D24 ⟨rfl, rfl, E⟩
          refine z_aload_n hC dX12_oddsBy_67 rfl 0 rfl ?_
          refine z_iload_n hC dX12_oddsBy_68 rfl 1 rfl ?_
          refine z_iload_n hC dX12_oddsBy_69 rfl 2 rfl ?_
          refine z_callV (ci := 12) (rest := []) hC (ck_mk lk_X12_356 in_X12_plainOdds cd_X12_plainOdds ds_X12_plainOdds (Nat.le_of_ble_eq_true rfl) (Nat.le_of_ble_eq_true rfl)) iy_X12_plainOdds sy_X12_plainOdds cf_12 (by decide) (kM_33 hF) (ct_X12_plainOdds hF E) rfl rfl (Nat.le_of_ble_eq_true rfl) ⟨Nat.le_refl _, Nat.le_refl _⟩ dX12_oddsBy_70 ?_
          rintro _ _ D30 ⟨v25, rfl, rfl, E⟩
          refine z_istore_n (lv' := [(3, .int v25), (0, .ref (G.1 + 33)), (1, .int a1), (2, .int a2)]) hC dX12_oddsBy_73 rfl (Nat.le_of_ble_eq_true rfl) rfl ?_
          refine z_iload_n hC dX12_oddsBy_74 rfl 0 rfl ?_
          refine z_aload_n hC dX12_oddsBy_75 rfl 1 rfl ?_
          refine z_iload_n hC dX12_oddsBy_76 rfl 2 rfl ?_
          refine z_iconst (v := 2) hC dX12_oddsBy_77 rfl ?_
          refine z_callV (ci := 12) (rest := [.int v25]) hC (ck_mk lk_X12_347 in_X12_plainWeighs cd_X12_plainWeighs ds_X12_plainWeighs (Nat.le_of_ble_eq_true rfl) (Nat.le_of_ble_eq_true rfl)) iy_X12_plainWeighs sy_X12_plainWeighs cf_12 (by decide) (kM_33 hF) (ct_X12_plainWeighs hF E) rfl rfl (Nat.le_of_ble_eq_true rfl) ⟨Nat.le_refl _, Nat.le_refl _⟩ dX12_oddsBy_78 ?_
          rintro _ _ D36 ⟨v31, rfl, rfl, E⟩
          refine z_iadd hC dX12_oddsBy_81 ?_
          exact z_iret hC dX12_oddsBy_82 (Nat.le_refl _) (Nat.le_refl _) ⟨_, rfl, rfl, E⟩
      · replace E := E.2 c11
        refine z_aload_n hC dX12_oddsBy_37 rfl 0 rfl ?_
        refine z_bipush (v := 40) hC dX12_oddsBy_38 rfl ?_
        refine z_callV (ci := 12) (rest := []) hC (ck_mk lk_X12_344 in_X12_body cd_X12_body ds_X12_body (Nat.le_of_ble_eq_true rfl) (Nat.le_of_ble_eq_true rfl)) iy_X12_body sy_X12_body cf_12 (by decide) (kM_33 hF) (ct_X12_body hF E) rfl rfl (Nat.le_of_ble_eq_true rfl) ⟨Nat.le_refl _, Nat.le_refl _⟩ dX12_oddsBy_40 ?_
        rintro _ _ D42 ⟨rfl, rfl, E⟩
        refine z_aload_n hC dX12_oddsBy_43 rfl 0 rfl ?_
        refine z_iload_n hC dX12_oddsBy_44 rfl 1 rfl ?_
        refine z_iload_n hC dX12_oddsBy_45 rfl 2 rfl ?_
        refine z_callV (ci := 12) (rest := []) hC (ck_mk lk_X12_356 in_X12_plainOdds cd_X12_plainOdds ds_X12_plainOdds (Nat.le_of_ble_eq_true rfl) (Nat.le_of_ble_eq_true rfl)) iy_X12_plainOdds sy_X12_plainOdds cf_12 (by decide) (kM_33 hF) (ct_X12_plainOdds hF E) rfl rfl (Nat.le_of_ble_eq_true rfl) ⟨Nat.le_refl _, Nat.le_refl _⟩ dX12_oddsBy_46 ?_
        rintro _ _ D48 ⟨v43, rfl, rfl, E⟩
        refine z_ineg hC dX12_oddsBy_49 ?_
        exact z_iret hC dX12_oddsBy_50 (Nat.le_refl _) (Nat.le_refl _) ⟨_, rfl, rfl, E⟩
    · replace E := E.2 c10
      exact hK2  E
def fX12_plainTells (a1 : Int32) (a2 : Int32) (D : Dy) (post : Int32 → Dy → Prop) : Prop :=
  (fX12_body (12 : Int32) D (fun (D6 : Dy) => (fX12_oddsBy a1 a2 D6 (fun (v7 : Int32) (D12 : Dy) => post (v7 * (2 : Int32)) D12))))
set_option maxHeartbeats 4000000 in
set_option maxRecDepth 100000 in
theorem ct_X12_plainTells {l : Launch} {G : Gl} {S : Sh} {D : Dy} (hF : FM S) {a1 : Int32} {a2 : Int32} {post : Int32 → Dy → Prop} (E : fX12_plainTells a1 a2 D post) : Ct l G yX12_plainTells cX12_plainTells 3 (some .int) 6 0 0 S D [.ref (G.1 + 33), .int a1, .int a2] (PI S post) := by
  refine z_enter (lv0 := [(0, .ref (G.1 + 33)), (1, .int a1), (2, .int a2)]) pl_12 (Nat.le_of_ble_eq_true rfl) rfl ?_
  intro p e s m args below meth c hC hnm
  unfold fX12_plainTells at E
  refine z_aload_n hC dX12_plainTells_0 rfl 0 rfl ?_
  refine z_bipush (v := 12) hC dX12_plainTells_1 rfl ?_
  refine z_callV (ci := 12) (rest := []) hC (ck_mk lk_X12_344 in_X12_body cd_X12_body ds_X12_body (Nat.le_of_ble_eq_true rfl) (Nat.le_of_ble_eq_true rfl)) iy_X12_body sy_X12_body cf_12 (by decide) (kM_33 hF) (ct_X12_body hF E) rfl rfl (Nat.le_of_ble_eq_true rfl) ⟨Nat.le_refl _, Nat.le_refl _⟩ dX12_plainTells_3 ?_
  rintro _ _ D6 ⟨rfl, rfl, E⟩
  refine z_aload_n hC dX12_plainTells_6 rfl 0 rfl ?_
  refine z_iload_n hC dX12_plainTells_7 rfl 1 rfl ?_
  refine z_iload_n hC dX12_plainTells_8 rfl 2 rfl ?_
  refine z_callV (ci := 12) (rest := []) hC (ck_mk lk_X12_359 in_X12_oddsBy cd_X12_oddsBy ds_X12_oddsBy (Nat.le_of_ble_eq_true rfl) (Nat.le_of_ble_eq_true rfl)) iy_X12_oddsBy sy_X12_oddsBy cf_12 (by decide) (kM_33 hF) (ct_X12_oddsBy hF E) rfl rfl (Nat.le_of_ble_eq_true rfl) ⟨Nat.le_refl _, Nat.le_refl _⟩ dX12_plainTells_9 ?_
  rintro _ _ D12 ⟨v7, rfl, rfl, E⟩
  refine z_iconst (v := 2) hC dX12_plainTells_12 rfl ?_
  refine z_imul hC dX12_plainTells_13 ?_
  exact z_iret hC dX12_plainTells_14 (Nat.le_refl _) (Nat.le_refl _) ⟨_, rfl, rfl, E⟩
def fX12_tells (a1 : Int32) (a2 : Int32) (D : Dy) (post : Int32 → Dy → Prop) : Prop :=
  (vp_in a1 10 ∧ ((¬ (D.1 43 (a1).toNatClampNeg) = (2 : Int32) → (vp_in a1 10 ∧ ((¬ (D.1 43 (a1).toNatClampNeg) = (4 : Int32) → (vp_in a1 10 ∧ ((¬ (D.1 43 (a1).toNatClampNeg) = (5 : Int32) → (fX12_plainTells a1 a2 D (fun (v4 : Int32) (D9 : Dy) => post v4 D9))) ∧ ((D.1 43 (a1).toNatClampNeg) = (5 : Int32) → (fX12_body (61 : Int32) D (fun (D15 : Dy) => (fX12_oddsBy a1 a2 D15 (fun (v16 : Int32) (D21 : Dy) => (fX12_plainTells a1 a2 D21 (fun (v22 : Int32) (D27 : Dy) => post (v16 - v22) D27)))))))))) ∧ ((D.1 43 (a1).toNatClampNeg) = (4 : Int32) → (fX12_body (50 : Int32) D (fun (D33 : Dy) => (vp_in a1 10 ∧ (fX12_plainTells a1 (a2 - (D33.1 46 (a1).toNatClampNeg)) D33 (fun (v34 : Int32) (D39 : Dy) => post v34 D39))))))))) ∧ ((D.1 43 (a1).toNatClampNeg) = (2 : Int32) → (fX12_body (31 : Int32) D (fun (D45 : Dy) => (fX12_plainTells a1 a2 D45 (fun (v46 : Int32) (D51 : Dy) => (fX12_oddsBy a1 (1 : Int32) D51 (fun (v52 : Int32) (D57 : Dy) => post (v46 + v52) D57)))))))))
set_option maxHeartbeats 4000000 in
set_option maxRecDepth 100000 in
theorem ct_X12_tells {l : Launch} {G : Gl} {S : Sh} {D : Dy} (hF : FM S) {a1 : Int32} {a2 : Int32} {post : Int32 → Dy → Prop} (E : fX12_tells a1 a2 D post) : Ct l G yX12_tells cX12_tells 4 (some .int) 7 0 0 S D [.ref (G.1 + 33), .int a1, .int a2] (PI S post) := by
  refine z_enter (lv0 := [(0, .ref (G.1 + 33)), (1, .int a1), (2, .int a2)]) pl_12 (Nat.le_of_ble_eq_true rfl) rfl ?_
  intro p e s m args below meth c hC hnm
  unfold fX12_tells at E
  refine z_aload_n hC dX12_tells_0 rfl 0 rfl ?_
  refine z_get hC lf_X12_56_12 (kM_33 hF) dX12_tells_1 (fV_ref rfl (rM_33_15 hF)) ?_
  refine z_iload_n hC dX12_tells_4 rfl 1 rfl ?_
  refine z_iald hC (kM_43 hF) (nM_43 hF) E.1 dX12_tells_5 ?_
  replace E := E.2
  refine z_iconst (v := 2) hC dX12_tells_6 rfl ?_
  refine z_icmp_ne (tgt := 32) hC dX12_tells_7 (by decide) (fun c1 => ?_) (fun c1 => ?_)
  · replace E := E.1 c1
    refine z_aload_n hC dX12_tells_32 rfl 0 rfl ?_
    refine z_get hC lf_X12_56_12 (kM_33 hF) dX12_tells_33 (fV_ref rfl (rM_33_15 hF)) ?_
    refine z_iload_n hC dX12_tells_36 rfl 1 rfl ?_
    refine z_iald hC (kM_43 hF) (nM_43 hF) E.1 dX12_tells_37 ?_
    replace E := E.2
    refine z_iconst (v := 4) hC dX12_tells_38 rfl ?_
    refine z_icmp_ne (tgt := 62) hC dX12_tells_39 (by decide) (fun c2 => ?_) (fun c2 => ?_)
    · replace E := E.1 c2
      refine z_aload_n hC dX12_tells_62 rfl 0 rfl ?_
      refine z_get hC lf_X12_56_12 (kM_33 hF) dX12_tells_63 (fV_ref rfl (rM_33_15 hF)) ?_
      refine z_iload_n hC dX12_tells_66 rfl 1 rfl ?_
      refine z_iald hC (kM_43 hF) (nM_43 hF) E.1 dX12_tells_67 ?_
      replace E := E.2
      refine z_iconst (v := 5) hC dX12_tells_68 rfl ?_
      refine z_icmp_ne (tgt := 94) hC dX12_tells_69 (by decide) (fun c3 => ?_) (fun c3 => ?_)
      · replace E := E.1 c3
        refine z_aload_n hC dX12_tells_94 rfl 0 rfl ?_
        refine z_iload_n hC dX12_tells_95 rfl 1 rfl ?_
        refine z_iload_n hC dX12_tells_96 rfl 2 rfl ?_
        refine z_callV (ci := 12) (rest := []) hC (ck_mk lk_X12_362 in_X12_plainTells cd_X12_plainTells ds_X12_plainTells (Nat.le_of_ble_eq_true rfl) (Nat.le_of_ble_eq_true rfl)) iy_X12_plainTells sy_X12_plainTells cf_12 (by decide) (kM_33 hF) (ct_X12_plainTells hF E) rfl rfl (Nat.le_of_ble_eq_true rfl) ⟨Nat.le_refl _, Nat.le_refl _⟩ dX12_tells_97 ?_
        rintro _ _ D9 ⟨v4, rfl, rfl, E⟩
        exact z_iret hC dX12_tells_100 (Nat.le_refl _) (Nat.le_refl _) ⟨_, rfl, rfl, E⟩
      · replace E := E.2 c3
        refine z_aload_n hC dX12_tells_72 rfl 0 rfl ?_
        refine z_bipush (v := 61) hC dX12_tells_73 rfl ?_
        refine z_callV (ci := 12) (rest := []) hC (ck_mk lk_X12_344 in_X12_body cd_X12_body ds_X12_body (Nat.le_of_ble_eq_true rfl) (Nat.le_of_ble_eq_true rfl)) iy_X12_body sy_X12_body cf_12 (by decide) (kM_33 hF) (ct_X12_body hF E) rfl rfl (Nat.le_of_ble_eq_true rfl) ⟨Nat.le_refl _, Nat.le_refl _⟩ dX12_tells_75 ?_
        rintro _ _ D15 ⟨rfl, rfl, E⟩
        refine z_aload_n hC dX12_tells_78 rfl 0 rfl ?_
        refine z_iload_n hC dX12_tells_79 rfl 1 rfl ?_
        refine z_iload_n hC dX12_tells_80 rfl 2 rfl ?_
        refine z_callV (ci := 12) (rest := []) hC (ck_mk lk_X12_359 in_X12_oddsBy cd_X12_oddsBy ds_X12_oddsBy (Nat.le_of_ble_eq_true rfl) (Nat.le_of_ble_eq_true rfl)) iy_X12_oddsBy sy_X12_oddsBy cf_12 (by decide) (kM_33 hF) (ct_X12_oddsBy hF E) rfl rfl (Nat.le_of_ble_eq_true rfl) ⟨Nat.le_refl _, Nat.le_refl _⟩ dX12_tells_81 ?_
        rintro _ _ D21 ⟨v16, rfl, rfl, E⟩
        refine z_istore_n (lv' := [(3, .int v16), (0, .ref (G.1 + 33)), (1, .int a1), (2, .int a2)]) hC dX12_tells_84 rfl (Nat.le_of_ble_eq_true rfl) rfl ?_
        refine z_iload_n hC dX12_tells_85 rfl 0 rfl ?_
        refine z_aload_n hC dX12_tells_86 rfl 1 rfl ?_
        refine z_iload_n hC dX12_tells_87 rfl 2 rfl ?_
        refine z_iload_n hC dX12_tells_88 rfl 3 rfl ?_
        refine z_callV (ci := 12) (rest := [.int v16]) hC (ck_mk lk_X12_362 in_X12_plainTells cd_X12_plainTells ds_X12_plainTells (Nat.le_of_ble_eq_true rfl) (Nat.le_of_ble_eq_true rfl)) iy_X12_plainTells sy_X12_plainTells cf_12 (by decide) (kM_33 hF) (ct_X12_plainTells hF E) rfl rfl (Nat.le_of_ble_eq_true rfl) ⟨Nat.le_refl _, Nat.le_refl _⟩ dX12_tells_89 ?_
        rintro _ _ D27 ⟨v22, rfl, rfl, E⟩
        refine z_isub hC dX12_tells_92 ?_
        exact z_iret hC dX12_tells_93 (Nat.le_refl _) (Nat.le_refl _) ⟨_, rfl, rfl, E⟩
    · replace E := E.2 c2
      refine z_aload_n hC dX12_tells_42 rfl 0 rfl ?_
      refine z_bipush (v := 50) hC dX12_tells_43 rfl ?_
      refine z_callV (ci := 12) (rest := []) hC (ck_mk lk_X12_344 in_X12_body cd_X12_body ds_X12_body (Nat.le_of_ble_eq_true rfl) (Nat.le_of_ble_eq_true rfl)) iy_X12_body sy_X12_body cf_12 (by decide) (kM_33 hF) (ct_X12_body hF E) rfl rfl (Nat.le_of_ble_eq_true rfl) ⟨Nat.le_refl _, Nat.le_refl _⟩ dX12_tells_45 ?_
      rintro _ _ D33 ⟨rfl, rfl, E⟩
      refine z_aload_n hC dX12_tells_48 rfl 0 rfl ?_
      refine z_iload_n hC dX12_tells_49 rfl 1 rfl ?_
      refine z_iload_n hC dX12_tells_50 rfl 2 rfl ?_
      refine z_aload_n hC dX12_tells_51 rfl 0 rfl ?_
      refine z_get hC lf_X12_65_12 (kM_33 hF) dX12_tells_52 (fV_ref rfl (rM_33_18 hF)) ?_
      refine z_iload_n hC dX12_tells_55 rfl 1 rfl ?_
      refine z_iald hC (kM_46 hF) (nM_46 hF) E.1 dX12_tells_56 ?_
      replace E := E.2
      refine z_isub hC dX12_tells_57 ?_
      refine z_callV (ci := 12) (rest := []) hC (ck_mk lk_X12_362 in_X12_plainTells cd_X12_plainTells ds_X12_plainTells (Nat.le_of_ble_eq_true rfl) (Nat.le_of_ble_eq_true rfl)) iy_X12_plainTells sy_X12_plainTells cf_12 (by decide) (kM_33 hF) (ct_X12_plainTells hF E) rfl rfl (Nat.le_of_ble_eq_true rfl) ⟨Nat.le_refl _, Nat.le_refl _⟩ dX12_tells_58 ?_
      rintro _ _ D39 ⟨v34, rfl, rfl, E⟩
      exact z_iret hC dX12_tells_61 (Nat.le_refl _) (Nat.le_refl _) ⟨_, rfl, rfl, E⟩
  · replace E := E.2 c1
    refine z_aload_n hC dX12_tells_10 rfl 0 rfl ?_
    refine z_bipush (v := 31) hC dX12_tells_11 rfl ?_
    refine z_callV (ci := 12) (rest := []) hC (ck_mk lk_X12_344 in_X12_body cd_X12_body ds_X12_body (Nat.le_of_ble_eq_true rfl) (Nat.le_of_ble_eq_true rfl)) iy_X12_body sy_X12_body cf_12 (by decide) (kM_33 hF) (ct_X12_body hF E) rfl rfl (Nat.le_of_ble_eq_true rfl) ⟨Nat.le_refl _, Nat.le_refl _⟩ dX12_tells_13 ?_
    rintro _ _ D45 ⟨rfl, rfl, E⟩
    refine z_aload_n hC dX12_tells_16 rfl 0 rfl ?_
    refine z_iload_n hC dX12_tells_17 rfl 1 rfl ?_
    refine z_iload_n hC dX12_tells_18 rfl 2 rfl ?_
    refine z_callV (ci := 12) (rest := []) hC (ck_mk lk_X12_362 in_X12_plainTells cd_X12_plainTells ds_X12_plainTells (Nat.le_of_ble_eq_true rfl) (Nat.le_of_ble_eq_true rfl)) iy_X12_plainTells sy_X12_plainTells cf_12 (by decide) (kM_33 hF) (ct_X12_plainTells hF E) rfl rfl (Nat.le_of_ble_eq_true rfl) ⟨Nat.le_refl _, Nat.le_refl _⟩ dX12_tells_19 ?_
    rintro _ _ D51 ⟨v46, rfl, rfl, E⟩
    refine z_istore_n (lv' := [(3, .int v46), (0, .ref (G.1 + 33)), (1, .int a1), (2, .int a2)]) hC dX12_tells_22 rfl (Nat.le_of_ble_eq_true rfl) rfl ?_
    refine z_iload_n hC dX12_tells_23 rfl 0 rfl ?_
    refine z_aload_n hC dX12_tells_24 rfl 1 rfl ?_
    refine z_iload_n hC dX12_tells_25 rfl 2 rfl ?_
    refine z_iconst (v := 1) hC dX12_tells_26 rfl ?_
    refine z_callV (ci := 12) (rest := [.int v46]) hC (ck_mk lk_X12_359 in_X12_oddsBy cd_X12_oddsBy ds_X12_oddsBy (Nat.le_of_ble_eq_true rfl) (Nat.le_of_ble_eq_true rfl)) iy_X12_oddsBy sy_X12_oddsBy cf_12 (by decide) (kM_33 hF) (ct_X12_oddsBy hF E) rfl rfl (Nat.le_of_ble_eq_true rfl) ⟨Nat.le_refl _, Nat.le_refl _⟩ dX12_tells_27 ?_
    rintro _ _ D57 ⟨v52, rfl, rfl, E⟩
    refine z_iadd hC dX12_tells_30 ?_
    exact z_iret hC dX12_tells_31 (Nat.le_refl _) (Nat.le_refl _) ⟨_, rfl, rfl, E⟩
def fX12_act (a1 : Int32) (a2 : Int32) (a3 : Int32) (D : Dy) (post : Int32 → Dy → Prop) : Prop :=
  (∀ D1 : Dy, D1 = sI D 33 48 (0 : Int32) → (fX12_isModel a1 D1 (fun (v4 : Int32) => ((v4 = 0 → post (0 : Int32) D1) ∧ (¬ v4 = 0 → (fX12_in a2 (0 : Int32) (2 : Int32) (fun (v10 : Int32) => ((¬ v10 = 0 → ((¬ a2 = 0 → ((¬ a2 = (1 : Int32) → (fX12_tells a1 a3 D1 (fun (v17 : Int32) (D22 : Dy) => post v17 D22))) ∧ (a2 = (1 : Int32) → (fX12_oddsBy a1 a3 D1 (fun (v23 : Int32) (D28 : Dy) => post v23 D28))))) ∧ (a2 = 0 → (fX12_weighs a1 a3 D1 (fun (v29 : Int32) (D34 : Dy) => post v29 D34))))) ∧ (v10 = 0 → post (0 : Int32) D1)))))))))
set_option maxHeartbeats 4000000 in
set_option maxRecDepth 100000 in
theorem ct_X12_act {l : Launch} {G : Gl} {S : Sh} {D : Dy} (hF : FM S) {a1 : Int32} {a2 : Int32} {a3 : Int32} {post : Int32 → Dy → Prop} (E : fX12_act a1 a2 a3 D post) : Ct l G yX12_act cX12_act 4 (some .int) 8 0 0 S D [.ref (G.1 + 33), .int a1, .int a2, .int a3] (PI S post) := by
  refine z_enter (lv0 := [(0, .ref (G.1 + 33)), (1, .int a1), (2, .int a2), (3, .int a3)]) pl_12 (Nat.le_of_ble_eq_true rfl) rfl ?_
  intro p e s m args below meth c hC hnm
  unfold fX12_act at E
  refine z_aload_n hC dX12_act_0 rfl 0 rfl ?_
  refine z_iconst (v := 0) hC dX12_act_1 rfl ?_
  refine z_puti hC lf_X12_159_12 rfl (kM_33 hF) dX12_act_2 ?_
  refine z_topD (fun D1 h2 => ?_)
  replace E := E D1 h2
  refine z_aload_n hC dX12_act_5 rfl 0 rfl ?_
  refine z_iload_n hC dX12_act_6 rfl 1 rfl ?_
  refine z_callV (ci := 12) (rest := []) hC (ck_mk lk_X12_258 in_X12_isModel cd_X12_isModel ds_X12_isModel (Nat.le_of_ble_eq_true rfl) (Nat.le_of_ble_eq_true rfl)) iy_X12_isModel sy_X12_isModel cf_12 (by decide) (kM_33 hF) (ct_X12_isModel hF E) rfl rfl (Nat.le_of_ble_eq_true rfl) ⟨Nat.le_refl _, Nat.le_refl _⟩ dX12_act_7 ?_
  rintro _ _ _ ⟨v4, rfl, rfl, rfl, E⟩
  refine z_if_eq (tgt := 23) hC dX12_act_10 (by decide) (fun c8 => ?_) (fun c8 => ?_)
  · replace E := E.1 c8
    refine z_iconst (v := 0) hC dX12_act_23 rfl ?_
    exact z_iret hC dX12_act_24 (Nat.le_refl _) (Nat.le_refl _) ⟨_, rfl, rfl, E⟩
  · replace E := E.2 c8
    refine z_aload_n hC dX12_act_13 rfl 0 rfl ?_
    refine z_iload_n hC dX12_act_14 rfl 2 rfl ?_
    refine z_iconst (v := 0) hC dX12_act_15 rfl ?_
    refine z_iconst (v := 2) hC dX12_act_16 rfl ?_
    refine z_callV (ci := 12) (rest := []) hC (ck_mk lk_X12_178 in_X12_in cd_X12_in ds_X12_in (Nat.le_of_ble_eq_true rfl) (Nat.le_of_ble_eq_true rfl)) iy_X12_in sy_X12_in cf_12 (by decide) (kM_33 hF) (ct_X12_in hF E) rfl rfl (Nat.le_of_ble_eq_true rfl) ⟨Nat.le_refl _, Nat.le_refl _⟩ dX12_act_17 ?_
    rintro _ _ _ ⟨v10, rfl, rfl, rfl, E⟩
    refine z_if_ne (tgt := 25) hC dX12_act_20 (by decide) (fun c14 => ?_) (fun c14 => ?_)
    · replace E := E.1 c14
      refine z_iload_n hC dX12_act_25 rfl 2 rfl ?_
      refine z_if_ne (tgt := 38) hC dX12_act_26 (by decide) (fun c15 => ?_) (fun c15 => ?_)
      · replace E := E.1 c15
        refine z_iload_n hC dX12_act_38 rfl 2 rfl ?_
        refine z_iconst (v := 1) hC dX12_act_39 rfl ?_
        refine z_icmp_ne (tgt := 52) hC dX12_act_40 (by decide) (fun c16 => ?_) (fun c16 => ?_)
        · replace E := E.1 c16
          refine z_aload_n hC dX12_act_52 rfl 0 rfl ?_
          refine z_iload_n hC dX12_act_53 rfl 1 rfl ?_
          refine z_iload_n hC dX12_act_54 rfl 3 rfl ?_
          refine z_callV (ci := 12) (rest := []) hC (ck_mk lk_X12_365 in_X12_tells cd_X12_tells ds_X12_tells (Nat.le_of_ble_eq_true rfl) (Nat.le_of_ble_eq_true rfl)) iy_X12_tells sy_X12_tells cf_12 (by decide) (kM_33 hF) (ct_X12_tells hF E) rfl rfl (Nat.le_of_ble_eq_true rfl) ⟨Nat.le_refl _, Nat.le_refl _⟩ dX12_act_55 ?_
          rintro _ _ D22 ⟨v17, rfl, rfl, E⟩
          exact z_iret hC dX12_act_58 (Nat.le_refl _) (Nat.le_refl _) ⟨_, rfl, rfl, E⟩
        · replace E := E.2 c16
          refine z_aload_n hC dX12_act_43 rfl 0 rfl ?_
          refine z_iload_n hC dX12_act_44 rfl 1 rfl ?_
          refine z_iload_n hC dX12_act_45 rfl 3 rfl ?_
          refine z_callV (ci := 12) (rest := []) hC (ck_mk lk_X12_359 in_X12_oddsBy cd_X12_oddsBy ds_X12_oddsBy (Nat.le_of_ble_eq_true rfl) (Nat.le_of_ble_eq_true rfl)) iy_X12_oddsBy sy_X12_oddsBy cf_12 (by decide) (kM_33 hF) (ct_X12_oddsBy hF E) rfl rfl (Nat.le_of_ble_eq_true rfl) ⟨Nat.le_refl _, Nat.le_refl _⟩ dX12_act_46 ?_
          rintro _ _ D28 ⟨v23, rfl, rfl, E⟩
          refine z_goto (tgt := 58) hC dX12_act_49 (by decide) ?_
          exact z_iret hC dX12_act_58 (Nat.le_refl _) (Nat.le_refl _) ⟨_, rfl, rfl, E⟩
      · replace E := E.2 c15
        refine z_aload_n hC dX12_act_29 rfl 0 rfl ?_
        refine z_iload_n hC dX12_act_30 rfl 1 rfl ?_
        refine z_iload_n hC dX12_act_31 rfl 3 rfl ?_
        refine z_callV (ci := 12) (rest := []) hC (ck_mk lk_X12_350 in_X12_weighs cd_X12_weighs ds_X12_weighs (Nat.le_of_ble_eq_true rfl) (Nat.le_of_ble_eq_true rfl)) iy_X12_weighs sy_X12_weighs cf_12 (by decide) (kM_33 hF) (ct_X12_weighs hF E) rfl rfl (Nat.le_of_ble_eq_true rfl) ⟨Nat.le_refl _, Nat.le_refl _⟩ dX12_act_32 ?_
        rintro _ _ D34 ⟨v29, rfl, rfl, E⟩
        refine z_goto (tgt := 58) hC dX12_act_35 (by decide) ?_
        exact z_iret hC dX12_act_58 (Nat.le_refl _) (Nat.le_refl _) ⟨_, rfl, rfl, E⟩
    · replace E := E.2 c14
      refine z_iconst (v := 0) hC dX12_act_23 rfl ?_
      exact z_iret hC dX12_act_24 (Nat.le_refl _) (Nat.le_refl _) ⟨_, rfl, rfl, E⟩
def fX12_has (a1 : Int32) (a2 : Int32) (post : Int32 → Prop) : Prop :=
  ((¬ ((a1 >>> (a2 &&& 31)) &&& (1 : Int32)) = (1 : Int32) → post (0 : Int32)) ∧ (((a1 >>> (a2 &&& 31)) &&& (1 : Int32)) = (1 : Int32) → post (1 : Int32)))
set_option maxHeartbeats 4000000 in
set_option maxRecDepth 100000 in
theorem ct_X12_has {l : Launch} {G : Gl} {S : Sh} {D : Dy} (hF : FM S) {a1 : Int32} {a2 : Int32} {post : Int32 → Prop} (E : fX12_has a1 a2 post) : Ct l G yX12_has cX12_has 3 (some .boolean) 0 0 0 S D [.ref (G.1 + 33), .int a1, .int a2] (PIr S D post) := by
  refine z_enter (lv0 := [(0, .ref (G.1 + 33)), (1, .int a1), (2, .int a2)]) pl_12 (Nat.le_of_ble_eq_true rfl) rfl ?_
  intro p e s m args below meth c hC hnm
  unfold fX12_has at E
  refine z_iload_n hC dX12_has_0 rfl 1 rfl ?_
  refine z_iload_n hC dX12_has_1 rfl 2 rfl ?_
  refine z_ishr hC dX12_has_2 ?_
  refine z_iconst (v := 1) hC dX12_has_3 rfl ?_
  refine z_iand hC dX12_has_4 ?_
  refine z_iconst (v := 1) hC dX12_has_5 rfl ?_
  refine z_icmp_ne (tgt := 13) hC dX12_has_6 (by decide) (fun c1 => ?_) (fun c1 => ?_)
  · replace E := E.1 c1
    refine z_iconst (v := 0) hC dX12_has_13 rfl ?_
    exact z_zret hC dX12_has_14 (Or.inl rfl) (Nat.le_refl _) (Nat.le_refl _) ⟨_, rfl, rfl, rfl, E⟩
  · replace E := E.2 c1
    refine z_iconst (v := 1) hC dX12_has_9 rfl ?_
    refine z_goto (tgt := 14) hC dX12_has_10 (by decide) ?_
    exact z_zret hC dX12_has_14 (Or.inr rfl) (Nat.le_refl _) (Nat.le_refl _) ⟨_, rfl, rfl, rfl, E⟩
def fX12_takenFrom (a1 : Int32) (a2 : Int32) (D : Dy) (post : Int32 → Prop) : Prop :=
  (LP2 (fun (rec3 : Int32 → Int32 → Prop) (v1 : Int32) (v2 : Int32) => (((D.1 33 0) ≤ v2 → post v1) ∧ (¬ (D.1 33 0) ≤ v2 → (fX12_has a2 v2 (fun (v7 : Int32) => (JN (fun (v11 : Int32) => (∀ v14 : Int32, v14 = v2 + 1 → (rec3 v11 v14))) (fun K12 : Int32 → Prop => ((v7 = 0 → (K12 v1)) ∧ (¬ v7 = 0 → (vp_in (((8 : Int32) * a1) + v2) 40320 ∧ (vp_in (((8 : Int32) * a1) + v1) 40320 ∧ (((D.1 56 ((((8 : Int32) * a1) + v1)).toNatClampNeg) ≤ (D.1 56 ((((8 : Int32) * a1) + v2)).toNatClampNeg) → (K12 v1)) ∧ (¬ (D.1 56 ((((8 : Int32) * a1) + v1)).toNatClampNeg) ≤ (D.1 56 ((((8 : Int32) * a1) + v2)).toNatClampNeg) → (K12 v2)))))))))))))) FU (7 : Int32) (0 : Int32))
set_option maxHeartbeats 4000000 in
set_option maxRecDepth 100000 in
theorem ct_X12_takenFrom {l : Launch} {G : Gl} {S : Sh} {D : Dy} (hF : FM S) {a1 : Int32} {a2 : Int32} {post : Int32 → Prop} (E : fX12_takenFrom a1 a2 D post) : Ct l G yX12_takenFrom cX12_takenFrom 5 (some .int) 1 0 0 S D [.ref (G.1 + 33), .int a1, .int a2] (PIr S D post) := by
  refine z_enter (lv0 := [(0, .ref (G.1 + 33)), (1, .int a1), (2, .int a2)]) pl_12 (Nat.le_of_ble_eq_true rfl) rfl ?_
  intro p e s m args below meth c hC hnm
  unfold fX12_takenFrom at E
  refine z_bipush (v := 7) hC dX12_takenFrom_0 rfl ?_
  refine z_istore_n (lv' := [(3, .int (7 : Int32)), (0, .ref (G.1 + 33)), (1, .int a1), (2, .int a2)]) hC dX12_takenFrom_2 rfl (Nat.le_of_ble_eq_true rfl) rfl ?_
  refine z_iconst (v := 0) hC dX12_takenFrom_3 rfl ?_
  refine z_istore (lv' := [(4, .int (0 : Int32)), (3, .int (7 : Int32)), (0, .ref (G.1 + 33)), (1, .int a1), (2, .int a2)]) hC dX12_takenFrom_4 (Nat.le_of_ble_eq_true rfl) rfl ?_
  refine z_sub [2, 3, 4, 1, 0] rfl ?_
  refine LP2_use (fun (v1 : Int32) (v2 : Int32) => ZM l G p e s m args below meth c 5 1 S (PIr S D post) S D 6 [(0, .ref (G.1 + 33)), (1, .int a1), (2, .int a2), (3, .int v1), (4, .int v2)] []) ?_ FU (7 : Int32) (0 : Int32) E
  intro rec3 hrec4 v1 v2 E
  refine z_iload hC dX12_takenFrom_6 4 rfl ?_
  refine z_aload_n hC dX12_takenFrom_8 rfl 0 rfl ?_
  refine z_get hC lf_X12_7_12 (kM_33 hF) dX12_takenFrom_9 (fV_int rfl) ?_
  refine z_icmp_ge (tgt := 60) hC dX12_takenFrom_12 (by decide) (fun c5 => ?_) (fun c5 => ?_)
  · replace E := E.1 c5
    refine z_iload_n hC dX12_takenFrom_60 rfl 3 rfl ?_
    exact z_iret hC dX12_takenFrom_61 (Nat.le_refl _) (Nat.le_refl _) ⟨_, rfl, rfl, rfl, E⟩
  · replace E := E.2 c5
    refine z_aload_n hC dX12_takenFrom_15 rfl 0 rfl ?_
    refine z_iload_n hC dX12_takenFrom_16 rfl 2 rfl ?_
    refine z_iload hC dX12_takenFrom_17 4 rfl ?_
    refine z_callV (ci := 12) (rest := []) hC (ck_mk lk_X12_192 in_X12_has cd_X12_has ds_X12_has (Nat.le_of_ble_eq_true rfl) (Nat.le_of_ble_eq_true rfl)) iy_X12_has sy_X12_has cf_12 (by decide) (kM_33 hF) (ct_X12_has hF E) rfl rfl (Nat.le_of_ble_eq_true rfl) ⟨Nat.le_refl _, Nat.le_refl _⟩ dX12_takenFrom_19 ?_
    rintro _ _ _ ⟨v7, rfl, rfl, rfl, E⟩
    obtain ⟨K12, hK13, EE⟩ := JN_use E (fun K12 : Int32 → Prop => ∀ (v11 : Int32), K12 v11 → ZM l G p e s m args below meth c 5 1 S (PIr S D post) S D 54 [(0, .ref (G.1 + 33)), (1, .int a1), (2, .int a2), (3, .int v11), (4, .int v2)] []) (by
      intro v11 E
      obtain ⟨v14, h15⟩ : ∃ y : Int32, y = v2 + 1 := ⟨_, rfl⟩
      replace E := E v14 h15
      refine z_iinc (q := 4) (v := v14) (lv' := [(4, .int v14), (0, .ref (G.1 + 33)), (1, .int a1), (2, .int a2), (3, .int v11)]) hC dX12_takenFrom_54 rfl (by rw [h15]; rfl) (Nat.le_of_ble_eq_true rfl) rfl ?_
      refine z_goto (tgt := 6) hC dX12_takenFrom_57 (by decide) ?_
      refine z_sub [1, 2, 3, 4, 0] rfl ?_
      exact hrec4 v11 v14 E)
    replace E := EE
    clear EE
    refine z_if_eq (tgt := 54) hC dX12_takenFrom_22 (by decide) (fun c16 => ?_) (fun c16 => ?_)
    · replace E := E.1 c16
      exact hK13 v1 E
    · replace E := E.2 c16
      refine z_aload_n hC dX12_takenFrom_25 rfl 0 rfl ?_
      refine z_get hC lf_X12_143_12 (kM_33 hF) dX12_takenFrom_26 (fV_ref rfl (rM_33_43 hF)) ?_
      refine z_bipush (v := 8) hC dX12_takenFrom_29 rfl ?_
      refine z_iload_n hC dX12_takenFrom_31 rfl 1 rfl ?_
      refine z_imul hC dX12_takenFrom_32 ?_
      refine z_iload hC dX12_takenFrom_33 4 rfl ?_
      refine z_iadd hC dX12_takenFrom_35 ?_
      refine z_iald hC (kM_56 hF) (nM_56 hF) E.1 dX12_takenFrom_36 ?_
      replace E := E.2
      refine z_aload_n hC dX12_takenFrom_37 rfl 0 rfl ?_
      refine z_get hC lf_X12_143_12 (kM_33 hF) dX12_takenFrom_38 (fV_ref rfl (rM_33_43 hF)) ?_
      refine z_bipush (v := 8) hC dX12_takenFrom_41 rfl ?_
      refine z_iload_n hC dX12_takenFrom_43 rfl 1 rfl ?_
      refine z_imul hC dX12_takenFrom_44 ?_
      refine z_iload_n hC dX12_takenFrom_45 rfl 3 rfl ?_
      refine z_iadd hC dX12_takenFrom_46 ?_
      refine z_iald hC (kM_56 hF) (nM_56 hF) E.1 dX12_takenFrom_47 ?_
      replace E := E.2
      refine z_icmp_ge (tgt := 54) hC dX12_takenFrom_48 (by decide) (fun c17 => ?_) (fun c17 => ?_)
      · replace E := E.1 c17
        exact hK13 v1 E
      · replace E := E.2 c17
        refine z_iload hC dX12_takenFrom_51 4 rfl ?_
        refine z_istore_n (lv' := [(3, .int v2), (0, .ref (G.1 + 33)), (1, .int a1), (2, .int a2), (4, .int v2)]) hC dX12_takenFrom_53 rfl (Nat.le_of_ble_eq_true rfl) rfl ?_
        refine z_sub [1, 2, 3, 0, 4] rfl ?_
        exact hK13 v2 E
def fX12_against (a1 : Int32) (a2 : Int32) (D : Dy) (post : Int32 → Prop) : Prop :=
  (LP2 (fun (rec3 : Int32 → Int32 → Prop) (v1 : Int32) (v2 : Int32) => (((D.1 33 2) ≤ v2 → post v1) ∧ (¬ (D.1 33 2) ≤ v2 → (vp_in v2 80 ∧ (JN (fun (v6 : Int32) => (∀ v9 : Int32, v9 = v2 + 1 → (rec3 v6 v9))) (fun K7 : Int32 → Prop => ((¬ (D.1 38 (v2).toNatClampNeg) = a2 → (K7 v1)) ∧ ((D.1 38 (v2).toNatClampNeg) = a2 → (vp_in v2 80 ∧ ((¬ (D.1 41 (v2).toNatClampNeg) = 0 → (K7 v1)) ∧ ((D.1 41 (v2).toNatClampNeg) = 0 → (vp_in v2 80 ∧ (fX12_takenFrom a1 (D.1 39 (v2).toNatClampNeg) D (fun (v13 : Int32) => (vp_in v2 80 ∧ (JN (fun (v18 : Int32) => ((v13 = v18 → (K7 v1)) ∧ (¬ v13 = v18 → (∀ v22 : Int32, v22 = v1 + 1 → (K7 v22))))) (fun K19 : Int32 → Prop => ((0 ≤ (D.1 40 (v2).toNatClampNeg) → (vp_in v2 80 ∧ (K19 (D.1 40 (v2).toNatClampNeg)))) ∧ (¬ 0 ≤ (D.1 40 (v2).toNatClampNeg) → (K19 (7 : Int32))))))))))))))))))))) FU (0 : Int32) (0 : Int32))
set_option maxHeartbeats 4000000 in
set_option maxRecDepth 100000 in
theorem ct_X12_against {l : Launch} {G : Gl} {S : Sh} {D : Dy} (hF : FM S) {a1 : Int32} {a2 : Int32} {post : Int32 → Prop} (E : fX12_against a1 a2 D post) : Ct l G yX12_against cX12_against 5 (some .int) 2 0 0 S D [.ref (G.1 + 33), .int a1, .int a2] (PIr S D post) := by
  refine z_enter (lv0 := [(0, .ref (G.1 + 33)), (1, .int a1), (2, .int a2)]) pl_12 (Nat.le_of_ble_eq_true rfl) rfl ?_
  intro p e s m args below meth c hC hnm
  unfold fX12_against at E
  refine z_iconst (v := 0) hC dX12_against_0 rfl ?_
  refine z_istore_n (lv' := [(3, .int (0 : Int32)), (0, .ref (G.1 + 33)), (1, .int a1), (2, .int a2)]) hC dX12_against_1 rfl (Nat.le_of_ble_eq_true rfl) rfl ?_
  refine z_iconst (v := 0) hC dX12_against_2 rfl ?_
  refine z_istore (lv' := [(4, .int (0 : Int32)), (3, .int (0 : Int32)), (0, .ref (G.1 + 33)), (1, .int a1), (2, .int a2)]) hC dX12_against_3 (Nat.le_of_ble_eq_true rfl) rfl ?_
  refine z_sub [2, 3, 4, 1, 0] rfl ?_
  refine LP2_use (fun (v1 : Int32) (v2 : Int32) => ZM l G p e s m args below meth c 5 2 S (PIr S D post) S D 5 [(0, .ref (G.1 + 33)), (1, .int a1), (2, .int a2), (3, .int v1), (4, .int v2)] []) ?_ FU (0 : Int32) (0 : Int32) E
  intro rec3 hrec4 v1 v2 E
  refine z_iload hC dX12_against_5 4 rfl ?_
  refine z_aload_n hC dX12_against_7 rfl 0 rfl ?_
  refine z_get hC lf_X12_16_12 (kM_33 hF) dX12_against_8 (fV_int rfl) ?_
  refine z_icmp_ge (tgt := 81) hC dX12_against_11 (by decide) (fun c5 => ?_) (fun c5 => ?_)
  · replace E := E.1 c5
    refine z_iload_n hC dX12_against_81 rfl 3 rfl ?_
    exact z_iret hC dX12_against_82 (Nat.le_refl _) (Nat.le_refl _) ⟨_, rfl, rfl, rfl, E⟩
  · replace E := E.2 c5
    refine z_aload_n hC dX12_against_14 rfl 0 rfl ?_
    refine z_get hC lf_X12_35_12 (kM_33 hF) dX12_against_15 (fV_ref rfl (rM_33_8 hF)) ?_
    refine z_iload hC dX12_against_18 4 rfl ?_
    refine z_iald hC (kM_38 hF) (nM_38 hF) E.1 dX12_against_20 ?_
    replace E := E.2
    refine z_iload_n hC dX12_against_21 rfl 2 rfl ?_
    obtain ⟨K7, hK8, EE⟩ := JN_use E (fun K7 : Int32 → Prop => ∀ (v6 : Int32), K7 v6 → ZM l G p e s m args below meth c 5 2 S (PIr S D post) S D 75 [(0, .ref (G.1 + 33)), (1, .int a1), (2, .int a2), (3, .int v6), (4, .int v2)] []) (by
      intro v6 E
      obtain ⟨v9, h10⟩ : ∃ y : Int32, y = v2 + 1 := ⟨_, rfl⟩
      replace E := E v9 h10
      refine z_iinc (q := 4) (v := v9) (lv' := [(4, .int v9), (0, .ref (G.1 + 33)), (1, .int a1), (2, .int a2), (3, .int v6)]) hC dX12_against_75 rfl (by rw [h10]; rfl) (Nat.le_of_ble_eq_true rfl) rfl ?_
      refine z_goto (tgt := 5) hC dX12_against_78 (by decide) ?_
      refine z_sub [1, 2, 3, 4, 0] rfl ?_
      exact hrec4 v6 v9 E)
    replace E := EE
    clear EE
    refine z_icmp_ne (tgt := 75) hC dX12_against_22 (by decide) (fun c11 => ?_) (fun c11 => ?_)
    · replace E := E.1 c11
      exact hK8 v1 E
    · replace E := E.2 c11
      refine z_aload_n hC dX12_against_25 rfl 0 rfl ?_
      refine z_get hC lf_X12_44_12 (kM_33 hF) dX12_against_26 (fV_ref rfl (rM_33_11 hF)) ?_
      refine z_iload hC dX12_against_29 4 rfl ?_
      refine z_iald hC (kM_41 hF) (nM_41 hF) E.1 dX12_against_31 ?_
      replace E := E.2
      refine z_if_ne (tgt := 75) hC dX12_against_32 (by decide) (fun c12 => ?_) (fun c12 => ?_)
      · replace E := E.1 c12
        exact hK8 v1 E
      · replace E := E.2 c12
        refine z_aload_n hC dX12_against_35 rfl 0 rfl ?_
        refine z_iload_n hC dX12_against_36 rfl 1 rfl ?_
        refine z_aload_n hC dX12_against_37 rfl 0 rfl ?_
        refine z_get hC lf_X12_38_12 (kM_33 hF) dX12_against_38 (fV_ref rfl (rM_33_9 hF)) ?_
        refine z_iload hC dX12_against_41 4 rfl ?_
        refine z_iald hC (kM_39 hF) (nM_39 hF) E.1 dX12_against_43 ?_
        replace E := E.2
        refine z_callV (ci := 12) (rest := []) hC (ck_mk lk_X12_320 in_X12_takenFrom cd_X12_takenFrom ds_X12_takenFrom (Nat.le_of_ble_eq_true rfl) (Nat.le_of_ble_eq_true rfl)) iy_X12_takenFrom sy_X12_takenFrom cf_12 (by decide) (kM_33 hF) (ct_X12_takenFrom hF E) rfl rfl (Nat.le_of_ble_eq_true rfl) ⟨Nat.le_refl _, Nat.le_refl _⟩ dX12_against_44 ?_
        rintro _ _ _ ⟨v13, rfl, rfl, rfl, E⟩
        refine z_aload_n hC dX12_against_47 rfl 0 rfl ?_
        refine z_get hC lf_X12_41_12 (kM_33 hF) dX12_against_48 (fV_ref rfl (rM_33_10 hF)) ?_
        refine z_iload hC dX12_against_51 4 rfl ?_
        refine z_iald hC (kM_40 hF) (nM_40 hF) E.1 dX12_against_53 ?_
        replace E := E.2
        obtain ⟨K19, hK20, EE⟩ := JN_use E (fun K19 : Int32 → Prop => ∀ (v18 : Int32), K19 v18 → ZM l G p e s m args below meth c 5 2 S (PIr S D post) S D 69 [(0, .ref (G.1 + 33)), (1, .int a1), (2, .int a2), (3, .int v1), (4, .int v2)] [.int v18, .int v13]) (by
          intro v18 E
          refine z_icmp_eq (tgt := 75) hC dX12_against_69 (by decide) (fun c21 => ?_) (fun c21 => ?_)
          · replace E := E.1 c21
            exact hK8 v1 E
          · replace E := E.2 c21
            obtain ⟨v22, h23⟩ : ∃ y : Int32, y = v1 + 1 := ⟨_, rfl⟩
            replace E := E v22 h23
            refine z_iinc (q := 3) (v := v22) (lv' := [(3, .int v22), (0, .ref (G.1 + 33)), (1, .int a1), (2, .int a2), (4, .int v2)]) hC dX12_against_72 rfl (by rw [h23]; rfl) (Nat.le_of_ble_eq_true rfl) rfl ?_
            refine z_sub [1, 2, 3, 0, 4] rfl ?_
            exact hK8 v22 E)
        replace E := EE
        clear EE
        refine z_if_ge (tgt := 62) hC dX12_against_54 (by decide) (fun c24 => ?_) (fun c24 => ?_)
        · replace E := E.1 c24
          refine z_aload_n hC dX12_against_62 rfl 0 rfl ?_
          refine z_get hC lf_X12_41_12 (kM_33 hF) dX12_against_63 (fV_ref rfl (rM_33_10 hF)) ?_
          refine z_iload hC dX12_against_66 4 rfl ?_
          refine z_iald hC (kM_40 hF) (nM_40 hF) E.1 dX12_against_68 ?_
          replace E := E.2
          exact hK20 (D.1 40 (v2).toNatClampNeg) E
        · replace E := E.2 c24
          refine z_bipush (v := 7) hC dX12_against_57 rfl ?_
          refine z_goto (tgt := 69) hC dX12_against_59 (by decide) ?_
          exact hK20 (7 : Int32) E
def fX12_isTaker (a1 : Int32) (D : Dy) (post : Int32 → Prop) : Prop :=
  (fX12_in a1 (0 : Int32) ((D.1 33 1) - (1 : Int32)) (fun (v2 : Int32) => ((v2 = 0 ∨ v2 = 1) ∧ post v2)))
set_option maxHeartbeats 4000000 in
set_option maxRecDepth 100000 in
theorem ct_X12_isTaker {l : Launch} {G : Gl} {S : Sh} {D : Dy} (hF : FM S) {a1 : Int32} {post : Int32 → Prop} (E : fX12_isTaker a1 D post) : Ct l G yX12_isTaker cX12_isTaker 2 (some .boolean) 1 0 0 S D [.ref (G.1 + 33), .int a1] (PIr S D post) := by
  refine z_enter (lv0 := [(0, .ref (G.1 + 33)), (1, .int a1)]) pl_12 (Nat.le_of_ble_eq_true rfl) rfl ?_
  intro p e s m args below meth c hC hnm
  unfold fX12_isTaker at E
  refine z_aload_n hC dX12_isTaker_0 rfl 0 rfl ?_
  refine z_iload_n hC dX12_isTaker_1 rfl 1 rfl ?_
  refine z_iconst (v := 0) hC dX12_isTaker_2 rfl ?_
  refine z_aload_n hC dX12_isTaker_3 rfl 0 rfl ?_
  refine z_get hC lf_X12_13_12 (kM_33 hF) dX12_isTaker_4 (fV_int rfl) ?_
  refine z_iconst (v := 1) hC dX12_isTaker_7 rfl ?_
  refine z_isub hC dX12_isTaker_8 ?_
  refine z_callV (ci := 12) (rest := []) hC (ck_mk lk_X12_178 in_X12_in cd_X12_in ds_X12_in (Nat.le_of_ble_eq_true rfl) (Nat.le_of_ble_eq_true rfl)) iy_X12_in sy_X12_in cf_12 (by decide) (kM_33 hF) (ct_X12_in hF E) rfl rfl (Nat.le_of_ble_eq_true rfl) ⟨Nat.le_refl _, Nat.le_refl _⟩ dX12_isTaker_9 ?_
  rintro _ _ _ ⟨v2, rfl, rfl, rfl, E⟩
  exact z_zret hC dX12_isTaker_12 E.1 (Nat.le_refl _) (Nat.le_refl _) ⟨_, rfl, rfl, rfl, E.2⟩
def fX12_orders  (D : Dy) (post : Int32 → Prop) : Prop :=
  (LP2 (fun (rec3 : Int32 → Int32 → Prop) (v1 : Int32) (v2 : Int32) => ((((D.1 33 0) + (1 : Int32)) < v2 → post v1) ∧ (¬ ((D.1 33 0) + (1 : Int32)) < v2 → (∀ v6 : Int32, v6 = (v1 * v2) → (∀ v8 : Int32, v8 = v2 + 1 → (rec3 v6 v8)))))) FU (1 : Int32) (2 : Int32))
set_option maxHeartbeats 4000000 in
set_option maxRecDepth 100000 in
theorem ct_X12_orders {l : Launch} {G : Gl} {S : Sh} {D : Dy} (hF : FM S)  {post : Int32 → Prop} (E : fX12_orders D post) : Ct l G yX12_orders cX12_orders 3 (some .int) 0 0 0 S D [.ref (G.1 + 33)] (PIr S D post) := by
  refine z_enter (lv0 := [(0, .ref (G.1 + 33))]) pl_12 (Nat.le_of_ble_eq_true rfl) rfl ?_
  intro p e s m args below meth c hC hnm
  unfold fX12_orders at E
  refine z_iconst (v := 1) hC dX12_orders_0 rfl ?_
  refine z_istore_n (lv' := [(1, .int (1 : Int32)), (0, .ref (G.1 + 33))]) hC dX12_orders_1 rfl (Nat.le_of_ble_eq_true rfl) rfl ?_
  refine z_iconst (v := 2) hC dX12_orders_2 rfl ?_
  refine z_istore_n (lv' := [(2, .int (2 : Int32)), (1, .int (1 : Int32)), (0, .ref (G.1 + 33))]) hC dX12_orders_3 rfl (Nat.le_of_ble_eq_true rfl) rfl ?_
  refine z_sub [2, 1, 0] rfl ?_
  refine LP2_use (fun (v1 : Int32) (v2 : Int32) => ZM l G p e s m args below meth c 3 0 S (PIr S D post) S D 4 [(0, .ref (G.1 + 33)), (1, .int v1), (2, .int v2)] []) ?_ FU (1 : Int32) (2 : Int32) E
  intro rec3 hrec4 v1 v2 E
  refine z_iload_n hC dX12_orders_4 rfl 2 rfl ?_
  refine z_aload_n hC dX12_orders_5 rfl 0 rfl ?_
  refine z_get hC lf_X12_7_12 (kM_33 hF) dX12_orders_6 (fV_int rfl) ?_
  refine z_iconst (v := 1) hC dX12_orders_9 rfl ?_
  refine z_iadd hC dX12_orders_10 ?_
  refine z_icmp_gt (tgt := 24) hC dX12_orders_11 (by decide) (fun c5 => ?_) (fun c5 => ?_)
  · replace E := E.1 c5
    refine z_iload_n hC dX12_orders_24 rfl 1 rfl ?_
    exact z_iret hC dX12_orders_25 (Nat.le_refl _) (Nat.le_refl _) ⟨_, rfl, rfl, rfl, E⟩
  · replace E := E.2 c5
    refine z_iload_n hC dX12_orders_14 rfl 1 rfl ?_
    refine z_iload_n hC dX12_orders_15 rfl 2 rfl ?_
    refine z_imul hC dX12_orders_16 ?_
    refine z_topi (fun v6 h7 => ?_)
    replace E := E v6 h7
    refine z_istore_n (lv' := [(1, .int v6), (0, .ref (G.1 + 33)), (2, .int v2)]) hC dX12_orders_17 rfl (Nat.le_of_ble_eq_true rfl) rfl ?_
    obtain ⟨v8, h9⟩ : ∃ y : Int32, y = v2 + 1 := ⟨_, rfl⟩
    replace E := E v8 h9
    refine z_iinc (q := 2) (v := v8) (lv' := [(2, .int v8), (1, .int v6), (0, .ref (G.1 + 33))]) hC dX12_orders_18 rfl (by rw [h9]; rfl) (Nat.le_of_ble_eq_true rfl) rfl ?_
    refine z_goto (tgt := 4) hC dX12_orders_21 (by decide) ?_
    refine z_sub [2, 1, 0] rfl ?_
    exact hrec4 v6 v8 E
def fX12_unrank (a1 : Int32) (D : Dy) (post : Dy → Prop) : Prop :=
  (∀ v1 : Int32, v1 = ((D.1 33 0) + (1 : Int32)) → (∀ v3 : Int32, v3 = (v1 - (1 : Int32)) → (LP3 (fun (rec8 : Int32 → Int32 → Dy → Prop) (v5 : Int32) (v6 : Int32) (D7 : Dy) => ((v6 < 0 → (LP3 (fun (rec14 : Int32 → Int32 → Dy → Prop) (v11 : Int32) (v12 : Int32) (D13 : Dy) => ((v1 ≤ v12 → post D13) ∧ (¬ v1 ≤ v12 → (vp_in v12 7 ∧ (∀ v17 : Int32, v17 = (D13.1 55 (v12).toNatClampNeg) → (LP2 (fun (rec21 : Int32 → Int32 → Prop) (v19 : Int32) (v20 : Int32) => (fX12_has v11 v20 (fun (v24 : Int32) => (JN ((fX12_has v11 v20 (fun (v31 : Int32) => (JN (fun (v35 : Int32) => (∀ v38 : Int32, v38 = (v19 - v35) → (∀ v40 : Int32, v40 = v20 + 1 → (rec21 v38 v40)))) (fun K36 : Int32 → Prop => ((v31 = 0 → (K36 (1 : Int32))) ∧ (¬ v31 = 0 → (K36 (0 : Int32))))))))) (fun K28 : Prop => ((¬ v24 = 0 → K28) ∧ (v24 = 0 → ((v19 ≤ 0 → (∀ v45 : Int32, v45 = (v11 ||| ((1 : Int32) <<< (v20 &&& 31))) → (JN (fun (v47 : Int32) => (vp_in v47 8 ∧ (∀ D50 : Dy, D50 = sI D13 54 (v47).toNatClampNeg v12 → (∀ v52 : Int32, v52 = v12 + 1 → (rec14 v45 v52 D50))))) (fun K48 : Int32 → Prop => ((¬ v20 = (D13.1 33 0) → (K48 v20)) ∧ (v20 = (D13.1 33 0) → (K48 (7 : Int32)))))))) ∧ (¬ v19 ≤ 0 → K28))))))))) FU v17 (0 : Int32))))))) FU (0 : Int32) (0 : Int32) D7)) ∧ (¬ v6 < 0 → (¬ (v1 - v6) = 0 ∧ (vp_in v6 7 ∧ (∀ D55 : Dy, D55 = sI D7 55 (v6).toNatClampNeg (v5 - v5 / (v1 - v6) * (v1 - v6)) → (¬ (v1 - v6) = 0 ∧ (∀ v57 : Int32, v57 = (v5 / (v1 - v6)) → (∀ v59 : Int32, v59 = v6 + (-1) → (rec8 v57 v59 D55)))))))))) FU a1 v3 D)))
set_option maxHeartbeats 4000000 in
set_option maxRecDepth 100000 in
theorem ct_X12_unrank {l : Launch} {G : Gl} {S : Sh} {D : Dy} (hF : FM S) {a1 : Int32} {post : Dy → Prop} (E : fX12_unrank a1 D post) : Ct l G yX12_unrank cX12_unrank 8 none 1 0 0 S D [.ref (G.1 + 33), .int a1] (PV S post) := by
  refine z_enter (lv0 := [(0, .ref (G.1 + 33)), (1, .int a1)]) pl_12 (Nat.le_of_ble_eq_true rfl) rfl ?_
  intro p e s m args below meth c hC hnm
  unfold fX12_unrank at E
  refine z_iload_n hC dX12_unrank_0 rfl 1 rfl ?_
  refine z_istore_n (lv' := [(2, .int a1), (0, .ref (G.1 + 33)), (1, .int a1)]) hC dX12_unrank_1 rfl (Nat.le_of_ble_eq_true rfl) rfl ?_
  refine z_aload_n hC dX12_unrank_2 rfl 1 rfl ?_
  refine z_get hC lf_X12_7_12 (kM_33 hF) dX12_unrank_3 (fV_int rfl) ?_
  refine z_iconst (v := 1) hC dX12_unrank_6 rfl ?_
  refine z_iadd hC dX12_unrank_7 ?_
  refine z_topi (fun v1 h2 => ?_)
  replace E := E v1 h2
  refine z_istore_n (lv' := [(3, .int v1), (2, .int a1), (0, .ref (G.1 + 33)), (1, .int a1)]) hC dX12_unrank_8 rfl (Nat.le_of_ble_eq_true rfl) rfl ?_
  refine z_iload_n hC dX12_unrank_9 rfl 0 rfl ?_
  refine z_iconst (v := 1) hC dX12_unrank_10 rfl ?_
  refine z_isub hC dX12_unrank_11 ?_
  refine z_topi (fun v3 h4 => ?_)
  replace E := E v3 h4
  refine z_istore (lv' := [(4, .int v3), (3, .int v1), (2, .int a1), (0, .ref (G.1 + 33)), (1, .int a1)]) hC dX12_unrank_12 (Nat.le_of_ble_eq_true rfl) rfl ?_
  refine z_sub [3, 2, 1, 0] rfl ?_
  refine LP3_use (fun (v5 : Int32) (v6 : Int32) (D7 : Dy) => ZM l G p e s m args below meth c 8 1 S (PV S post) S D7 14 [(0, .ref (G.1 + 33)), (2, .int v5), (3, .int v1), (4, .int v6)] []) ?_ FU a1 v3 D E
  intro rec8 hrec9 v5 v6 D7 E
  refine z_iload hC dX12_unrank_14 3 rfl ?_
  refine z_if_lt (tgt := 45) hC dX12_unrank_16 (by decide) (fun c10 => ?_) (fun c10 => ?_)
  · replace E := E.1 c10
    refine z_iconst (v := 0) hC dX12_unrank_45 rfl ?_
    refine z_istore (lv' := [(4, .int (0 : Int32)), (0, .ref (G.1 + 33)), (2, .int v5), (3, .int v1)]) hC dX12_unrank_46 (Nat.le_of_ble_eq_true rfl) rfl ?_
    refine z_iconst (v := 0) hC dX12_unrank_48 rfl ?_
    refine z_istore (lv' := [(5, .int (0 : Int32)), (4, .int (0 : Int32)), (0, .ref (G.1 + 33)), (2, .int v5), (3, .int v1)]) hC dX12_unrank_49 (Nat.le_of_ble_eq_true rfl) rfl ?_
    refine z_sub [2, 4, 1, 0] rfl ?_
    refine LP3_use (fun (v11 : Int32) (v12 : Int32) (D13 : Dy) => ZM l G p e s m args below meth c 8 1 S (PV S post) S D13 51 [(0, .ref (G.1 + 33)), (3, .int v1), (4, .int v11), (5, .int v12)] []) ?_ FU (0 : Int32) (0 : Int32) D7 E
    intro rec14 hrec15 v11 v12 D13 E
    refine z_iload hC dX12_unrank_51 3 rfl ?_
    refine z_iload_n hC dX12_unrank_53 rfl 1 rfl ?_
    refine z_icmp_ge (tgt := 150) hC dX12_unrank_54 (by decide) (fun c16 => ?_) (fun c16 => ?_)
    · replace E := E.1 c16
      exact z_vret hC dX12_unrank_150 (Nat.le_refl _) (Nat.le_refl _) ⟨rfl, rfl, E⟩
    · replace E := E.2 c16
      refine z_aload_n hC dX12_unrank_57 rfl 0 rfl ?_
      refine z_get hC lf_X12_139_12 (kM_33 hF) dX12_unrank_58 (fV_ref rfl (rM_33_42 hF)) ?_
      refine z_iload hC dX12_unrank_61 3 rfl ?_
      refine z_iald hC (kM_55 hF) (nM_55 hF) E.1 dX12_unrank_63 ?_
      replace E := E.2
      refine z_topi (fun v17 h18 => ?_)
      replace E := E v17 h18
      refine z_istore (lv' := [(6, .int v17), (0, .ref (G.1 + 33)), (3, .int v1), (4, .int v11), (5, .int v12)]) hC dX12_unrank_64 (Nat.le_of_ble_eq_true rfl) rfl ?_
      refine z_iconst (v := 0) hC dX12_unrank_66 rfl ?_
      refine z_istore (lv' := [(7, .int (0 : Int32)), (6, .int v17), (0, .ref (G.1 + 33)), (3, .int v1), (4, .int v11), (5, .int v12)]) hC dX12_unrank_67 (Nat.le_of_ble_eq_true rfl) rfl ?_
      refine z_sub [2, 3, 4, 5, 1, 0] rfl ?_
      refine LP2_use (fun (v19 : Int32) (v20 : Int32) => ZM l G p e s m args below meth c 8 1 S (PV S post) S D13 69 [(0, .ref (G.1 + 33)), (3, .int v1), (4, .int v11), (5, .int v12), (6, .int v19), (7, .int v20)] []) ?_ FU v17 (0 : Int32) E
      intro rec21 hrec22 v19 v20 E
      refine z_aload_n hC dX12_unrank_69 rfl 0 rfl ?_
      refine z_iload hC dX12_unrank_70 2 rfl ?_
      refine z_iload hC dX12_unrank_72 5 rfl ?_
      refine z_callV (ci := 12) (rest := []) hC (ck_mk lk_X12_192 in_X12_has cd_X12_has ds_X12_has (Nat.le_of_ble_eq_true rfl) (Nat.le_of_ble_eq_true rfl)) iy_X12_has sy_X12_has cf_12 (by decide) (kM_33 hF) (ct_X12_has hF E) rfl rfl (Nat.le_of_ble_eq_true rfl) ⟨Nat.le_refl _, Nat.le_refl _⟩ dX12_unrank_74 ?_
      rintro _ _ _ ⟨v24, rfl, rfl, rfl, E⟩
      obtain ⟨K28, hK29, EE⟩ := JN_use E (fun K28 : Prop => K28 → ZM l G p e s m args below meth c 8 1 S (PV S post) S D13 85 [(0, .ref (G.1 + 33)), (3, .int v1), (4, .int v11), (5, .int v12), (6, .int v19), (7, .int v20)] []) (by
        intro E
        refine z_iload hC dX12_unrank_85 4 rfl ?_
        refine z_aload_n hC dX12_unrank_87 rfl 0 rfl ?_
        refine z_iload hC dX12_unrank_88 2 rfl ?_
        refine z_iload hC dX12_unrank_90 5 rfl ?_
        refine z_callV (ci := 12) (rest := [.int v19]) hC (ck_mk lk_X12_192 in_X12_has cd_X12_has ds_X12_has (Nat.le_of_ble_eq_true rfl) (Nat.le_of_ble_eq_true rfl)) iy_X12_has sy_X12_has cf_12 (by decide) (kM_33 hF) (ct_X12_has hF E) rfl rfl (Nat.le_of_ble_eq_true rfl) ⟨Nat.le_refl _, Nat.le_refl _⟩ dX12_unrank_92 ?_
        rintro _ _ _ ⟨v31, rfl, rfl, rfl, E⟩
        obtain ⟨K36, hK37, EE⟩ := JN_use E (fun K36 : Int32 → Prop => ∀ (v35 : Int32), K36 v35 → ZM l G p e s m args below meth c 8 1 S (PV S post) S D13 103 [(0, .ref (G.1 + 33)), (3, .int v1), (4, .int v11), (5, .int v12), (7, .int v20)] [.int v35, .int v19]) (by
          intro v35 E
          refine z_isub hC dX12_unrank_103 ?_
          refine z_topi (fun v38 h39 => ?_)
          replace E := E v38 h39
          refine z_istore (lv' := [(6, .int v38), (0, .ref (G.1 + 33)), (3, .int v1), (4, .int v11), (5, .int v12), (7, .int v20)]) hC dX12_unrank_104 (Nat.le_of_ble_eq_true rfl) rfl ?_
          obtain ⟨v40, h41⟩ : ∃ y : Int32, y = v20 + 1 := ⟨_, rfl⟩
          replace E := E v40 h41
          refine z_iinc (q := 5) (v := v40) (lv' := [(7, .int v40), (6, .int v38), (0, .ref (G.1 + 33)), (3, .int v1), (4, .int v11), (5, .int v12)]) hC dX12_unrank_106 rfl (by rw [h41]; rfl) (Nat.le_of_ble_eq_true rfl) rfl ?_
          refine z_goto (tgt := 69) hC dX12_unrank_109 (by decide) ?_
          refine z_sub [2, 3, 4, 5, 1, 0] rfl ?_
          exact hrec22 v38 v40 E)
        replace E := EE
        clear EE
        refine z_if_eq (tgt := 102) hC dX12_unrank_95 (by decide) (fun c42 => ?_) (fun c42 => ?_)
        · replace E := E.1 c42
          refine z_iconst (v := 1) hC dX12_unrank_102 rfl ?_
          refine z_sub [0, 1, 2, 3, 5] rfl ?_
          exact hK37 (1 : Int32) E
        · replace E := E.2 c42
          refine z_iconst (v := 0) hC dX12_unrank_98 rfl ?_
          refine z_goto (tgt := 103) hC dX12_unrank_99 (by decide) ?_
          refine z_sub [0, 1, 2, 3, 5] rfl ?_
          exact hK37 (0 : Int32) E)
      replace E := EE
      clear EE
      refine z_if_ne (tgt := 85) hC dX12_unrank_77 (by decide) (fun c43 => ?_) (fun c43 => ?_)
      · replace E := E.1 c43
        exact hK29  E
      · replace E := E.2 c43
        refine z_iload hC dX12_unrank_80 4 rfl ?_
        refine z_if_le (tgt := 112) hC dX12_unrank_82 (by decide) (fun c44 => ?_) (fun c44 => ?_)
        · replace E := E.1 c44
          refine z_iload hC dX12_unrank_112 2 rfl ?_
          refine z_iconst (v := 1) hC dX12_unrank_114 rfl ?_
          refine z_iload hC dX12_unrank_115 5 rfl ?_
          refine z_ishl hC dX12_unrank_117 ?_
          refine z_ior hC dX12_unrank_118 ?_
          refine z_topi (fun v45 h46 => ?_)
          replace E := E v45 h46
          refine z_istore (lv' := [(4, .int v45), (0, .ref (G.1 + 33)), (3, .int v1), (5, .int v12), (6, .int v19), (7, .int v20)]) hC dX12_unrank_119 (Nat.le_of_ble_eq_true rfl) rfl ?_
          refine z_aload_n hC dX12_unrank_121 rfl 1 rfl ?_
          refine z_get hC lf_X12_136_12 (kM_33 hF) dX12_unrank_122 (fV_ref rfl (rM_33_41 hF)) ?_
          refine z_iload hC dX12_unrank_125 5 rfl ?_
          refine z_aload_n hC dX12_unrank_127 rfl 1 rfl ?_
          refine z_get hC lf_X12_7_12 (kM_33 hF) dX12_unrank_128 (fV_int rfl) ?_
          obtain ⟨K48, hK49, EE⟩ := JN_use E (fun K48 : Int32 → Prop => ∀ (v47 : Int32), K48 v47 → ZM l G p e s m args below meth c 8 1 S (PV S post) S D13 141 [(0, .ref (G.1 + 33)), (3, .int v1), (4, .int v45), (5, .int v12)] [.int v47, .ref (G.1 + 54)]) (by
            intro v47 E
            refine z_iload hC dX12_unrank_141 3 rfl ?_
            refine z_iast hC (kM_54 hF) (nM_54 hF) E.1 dX12_unrank_143 ?_
            replace E := E.2
            refine z_topD (fun D50 h51 => ?_)
            replace E := E D50 h51
            obtain ⟨v52, h53⟩ : ∃ y : Int32, y = v12 + 1 := ⟨_, rfl⟩
            replace E := E v52 h53
            refine z_iinc (q := 3) (v := v52) (lv' := [(5, .int v52), (0, .ref (G.1 + 33)), (3, .int v1), (4, .int v45)]) hC dX12_unrank_144 rfl (by rw [h53]; rfl) (Nat.le_of_ble_eq_true rfl) rfl ?_
            refine z_goto (tgt := 51) hC dX12_unrank_147 (by decide) ?_
            refine z_sub [1, 2, 3, 0] rfl ?_
            exact hrec15 v45 v52 D50 E)
          replace E := EE
          clear EE
          refine z_icmp_ne (tgt := 139) hC dX12_unrank_131 (by decide) (fun c54 => ?_) (fun c54 => ?_)
          · replace E := E.1 c54
            refine z_iload hC dX12_unrank_139 5 rfl ?_
            refine z_sub [1, 2, 0, 3] rfl ?_
            exact hK49 v20 E
          · replace E := E.2 c54
            refine z_bipush (v := 7) hC dX12_unrank_134 rfl ?_
            refine z_goto (tgt := 141) hC dX12_unrank_136 (by decide) ?_
            refine z_sub [1, 2, 0, 3] rfl ?_
            exact hK49 (7 : Int32) E
        · replace E := E.2 c44
          exact hK29  E
  · replace E := E.2 c10
    refine z_aload_n hC dX12_unrank_19 rfl 0 rfl ?_
    refine z_get hC lf_X12_139_12 (kM_33 hF) dX12_unrank_20 (fV_ref rfl (rM_33_42 hF)) ?_
    refine z_iload hC dX12_unrank_23 3 rfl ?_
    refine z_iload_n hC dX12_unrank_25 rfl 1 rfl ?_
    refine z_iload_n hC dX12_unrank_26 rfl 2 rfl ?_
    refine z_iload hC dX12_unrank_27 3 rfl ?_
    refine z_isub hC dX12_unrank_29 ?_
    have q0 := E.1
    replace E := E.2
    refine z_irem hC dX12_unrank_30 q0 ?_
    refine z_iast hC (kM_55 hF) (nM_55 hF) E.1 dX12_unrank_31 ?_
    replace E := E.2
    refine z_topD (fun D55 h56 => ?_)
    replace E := E D55 h56
    refine z_iload_n hC dX12_unrank_32 rfl 1 rfl ?_
    refine z_iload_n hC dX12_unrank_33 rfl 2 rfl ?_
    refine z_iload hC dX12_unrank_34 3 rfl ?_
    refine z_isub hC dX12_unrank_36 ?_
    have q0 := E.1
    replace E := E.2
    refine z_idiv hC dX12_unrank_37 q0 ?_
    refine z_topi (fun v57 h58 => ?_)
    replace E := E v57 h58
    refine z_istore_n (lv' := [(2, .int v57), (0, .ref (G.1 + 33)), (3, .int v1), (4, .int v6)]) hC dX12_unrank_38 rfl (Nat.le_of_ble_eq_true rfl) rfl ?_
    obtain ⟨v59, h60⟩ : ∃ y : Int32, y = v6 + (-1) := ⟨_, rfl⟩
    replace E := E v59 h60
    refine z_iinc (q := 3) (v := v59) (lv' := [(4, .int v59), (2, .int v57), (0, .ref (G.1 + 33)), (3, .int v1)]) hC dX12_unrank_39 rfl (by rw [h60]; rfl) (Nat.le_of_ble_eq_true rfl) rfl ?_
    refine z_goto (tgt := 14) hC dX12_unrank_42 (by decide) ?_
    refine z_sub [2, 1, 3, 0] rfl ?_
    exact hrec9 v57 v59 D55 E
def fX12_findPlaces  (D : Dy) (post : Dy → Prop) : Prop :=
  ((¬ (D.1 33 46) = (D.1 33 0) → (∀ D2 : Dy, D2 = sI D 33 46 (D.1 33 0) → (LP2 (fun (rec6 : Int32 → Dy → Prop) (v4 : Int32) (D5 : Dy) => (fX12_orders D5 (fun (v8 : Int32) => ((v8 ≤ v4 → (LP2 (fun (rec16 : Int32 → Dy → Prop) (v14 : Int32) (D15 : Dy) => (((16 : Int32) ≤ v14 → post D15) ∧ (¬ (16 : Int32) ≤ v14 → (vp_in v14 16 ∧ (∀ D19 : Dy, D19 = sI D15 58 (v14).toNatClampNeg (0 : Int32) → (∀ v21 : Int32, v21 = v14 + 1 → (rec16 v21 D19))))))) FU (0 : Int32) D5)) ∧ (¬ v8 ≤ v4 → (fX12_unrank v4 D5 (fun (D28 : Dy) => (LP2 (fun (rec31 : Int32 → Dy → Prop) (v29 : Int32) (D30 : Dy) => (((8 : Int32) ≤ v29 → (∀ v34 : Int32, v34 = v4 + 1 → (rec6 v34 D30))) ∧ (¬ (8 : Int32) ≤ v29 → (vp_in v29 8 ∧ (vp_in (((8 : Int32) * v4) + v29) 40320 ∧ (∀ D36 : Dy, D36 = sI D30 56 ((((8 : Int32) * v4) + v29)).toNatClampNeg (D30.1 54 (v29).toNatClampNeg) → (∀ v38 : Int32, v38 = v29 + 1 → (rec31 v38 D36)))))))) FU (0 : Int32) D28)))))))) FU (0 : Int32) D2))) ∧ ((D.1 33 46) = (D.1 33 0) → post D))
set_option maxHeartbeats 4000000 in
set_option maxRecDepth 100000 in
theorem ct_X12_findPlaces {l : Launch} {G : Gl} {S : Sh} {D : Dy} (hF : FM S)  {post : Dy → Prop} (E : fX12_findPlaces D post) : Ct l G yX12_findPlaces cX12_findPlaces 3 none 2 0 0 S D [.ref (G.1 + 33)] (PV S post) := by
  refine z_enter (lv0 := [(0, .ref (G.1 + 33))]) pl_12 (Nat.le_of_ble_eq_true rfl) rfl ?_
  intro p e s m args below meth c hC hnm
  unfold fX12_findPlaces at E
  refine z_aload_n hC dX12_findPlaces_0 rfl 0 rfl ?_
  refine z_get hC lf_X12_153_12 (kM_33 hF) dX12_findPlaces_1 (fV_int rfl) ?_
  refine z_aload_n hC dX12_findPlaces_4 rfl 0 rfl ?_
  refine z_get hC lf_X12_7_12 (kM_33 hF) dX12_findPlaces_5 (fV_int rfl) ?_
  refine z_icmp_ne (tgt := 12) hC dX12_findPlaces_8 (by decide) (fun c1 => ?_) (fun c1 => ?_)
  · replace E := E.1 c1
    refine z_aload_n hC dX12_findPlaces_12 rfl 0 rfl ?_
    refine z_aload_n hC dX12_findPlaces_13 rfl 0 rfl ?_
    refine z_get hC lf_X12_7_12 (kM_33 hF) dX12_findPlaces_14 (fV_int rfl) ?_
    refine z_puti hC lf_X12_153_12 rfl (kM_33 hF) dX12_findPlaces_17 ?_
    refine z_topD (fun D2 h3 => ?_)
    replace E := E D2 h3
    refine z_iconst (v := 0) hC dX12_findPlaces_20 rfl ?_
    refine z_istore_n (lv' := [(1, .int (0 : Int32)), (0, .ref (G.1 + 33))]) hC dX12_findPlaces_21 rfl (Nat.le_of_ble_eq_true rfl) rfl ?_
    refine z_sub [1, 0] rfl ?_
    refine LP2_use (fun (v4 : Int32) (D5 : Dy) => ZM l G p e s m args below meth c 3 2 S (PV S post) S D5 22 [(0, .ref (G.1 + 33)), (1, .int v4)] []) ?_ FU (0 : Int32) D2 E
    intro rec6 hrec7 v4 D5 E
    refine z_iload_n hC dX12_findPlaces_22 rfl 1 rfl ?_
    refine z_aload_n hC dX12_findPlaces_23 rfl 0 rfl ?_
    refine z_callV (ci := 12) (rest := [.int v4]) hC (ck_mk lk_X12_314 in_X12_orders cd_X12_orders ds_X12_orders (Nat.le_of_ble_eq_true rfl) (Nat.le_of_ble_eq_true rfl)) iy_X12_orders sy_X12_orders cf_12 (by decide) (kM_33 hF) (ct_X12_orders hF E) rfl rfl (Nat.le_of_ble_eq_true rfl) ⟨Nat.le_refl _, Nat.le_refl _⟩ dX12_findPlaces_24 ?_
    rintro _ _ _ ⟨v8, rfl, rfl, rfl, E⟩
    refine z_icmp_ge (tgt := 72) hC dX12_findPlaces_27 (by decide) (fun c13 => ?_) (fun c13 => ?_)
    · replace E := E.1 c13
      refine z_iconst (v := 0) hC dX12_findPlaces_72 rfl ?_
      refine z_istore_n (lv' := [(1, .int (0 : Int32)), (0, .ref (G.1 + 33))]) hC dX12_findPlaces_73 rfl (Nat.le_of_ble_eq_true rfl) rfl ?_
      refine z_sub [1, 0] rfl ?_
      refine LP2_use (fun (v14 : Int32) (D15 : Dy) => ZM l G p e s m args below meth c 3 2 S (PV S post) S D15 74 [(0, .ref (G.1 + 33)), (1, .int v14)] []) ?_ FU (0 : Int32) D5 E
      intro rec16 hrec17 v14 D15 E
      refine z_iload_n hC dX12_findPlaces_74 rfl 1 rfl ?_
      refine z_bipush (v := 16) hC dX12_findPlaces_75 rfl ?_
      refine z_icmp_ge (tgt := 93) hC dX12_findPlaces_77 (by decide) (fun c18 => ?_) (fun c18 => ?_)
      · replace E := E.1 c18
        exact z_vret hC dX12_findPlaces_93 (Nat.le_refl _) (Nat.le_refl _) ⟨rfl, rfl, E⟩
      · replace E := E.2 c18
        refine z_aload_n hC dX12_findPlaces_80 rfl 0 rfl ?_
        refine z_get hC lf_X12_150_12 (kM_33 hF) dX12_findPlaces_81 (fV_ref rfl (rM_33_45 hF)) ?_
        refine z_iload_n hC dX12_findPlaces_84 rfl 1 rfl ?_
        refine z_iconst (v := 0) hC dX12_findPlaces_85 rfl ?_
        refine z_zast hC (kM_58 hF) (nM_58 hF) (Or.inl rfl) E.1 dX12_findPlaces_86 ?_
        replace E := E.2
        refine z_topD (fun D19 h20 => ?_)
        replace E := E D19 h20
        obtain ⟨v21, h22⟩ : ∃ y : Int32, y = v14 + 1 := ⟨_, rfl⟩
        replace E := E v21 h22
        refine z_iinc (q := 1) (v := v21) (lv' := [(1, .int v21), (0, .ref (G.1 + 33))]) hC dX12_findPlaces_87 rfl (by rw [h22]; rfl) (Nat.le_of_ble_eq_true rfl) rfl ?_
        refine z_goto (tgt := 74) hC dX12_findPlaces_90 (by decide) ?_
        refine z_sub [1, 0] rfl ?_
        exact hrec17 v21 D19 E
    · replace E := E.2 c13
      refine z_aload_n hC dX12_findPlaces_30 rfl 0 rfl ?_
      refine z_iload_n hC dX12_findPlaces_31 rfl 1 rfl ?_
      refine z_callV (ci := 12) (rest := []) hC (ck_mk lk_X12_317 in_X12_unrank cd_X12_unrank ds_X12_unrank (Nat.le_of_ble_eq_true rfl) (Nat.le_of_ble_eq_true rfl)) iy_X12_unrank sy_X12_unrank cf_12 (by decide) (kM_33 hF) (ct_X12_unrank hF E) rfl rfl (Nat.le_of_ble_eq_true rfl) ⟨Nat.le_refl _, Nat.le_refl _⟩ dX12_findPlaces_32 ?_
      rintro _ _ D28 ⟨rfl, rfl, E⟩
      refine z_iconst (v := 0) hC dX12_findPlaces_35 rfl ?_
      refine z_istore_n (lv' := [(2, .int (0 : Int32)), (0, .ref (G.1 + 33)), (1, .int v4)]) hC dX12_findPlaces_36 rfl (Nat.le_of_ble_eq_true rfl) rfl ?_
      refine z_sub [1, 2, 0] rfl ?_
      refine LP2_use (fun (v29 : Int32) (D30 : Dy) => ZM l G p e s m args below meth c 3 2 S (PV S post) S D30 37 [(0, .ref (G.1 + 33)), (1, .int v4), (2, .int v29)] []) ?_ FU (0 : Int32) D28 E
      intro rec31 hrec32 v29 D30 E
      refine z_iload_n hC dX12_findPlaces_37 rfl 2 rfl ?_
      refine z_bipush (v := 8) hC dX12_findPlaces_38 rfl ?_
      refine z_icmp_ge (tgt := 66) hC dX12_findPlaces_40 (by decide) (fun c33 => ?_) (fun c33 => ?_)
      · replace E := E.1 c33
        obtain ⟨v34, h35⟩ : ∃ y : Int32, y = v4 + 1 := ⟨_, rfl⟩
        replace E := E v34 h35
        refine z_iinc (q := 1) (v := v34) (lv' := [(1, .int v34), (0, .ref (G.1 + 33)), (2, .int v29)]) hC dX12_findPlaces_66 rfl (by rw [h35]; rfl) (Nat.le_of_ble_eq_true rfl) rfl ?_
        refine z_goto (tgt := 22) hC dX12_findPlaces_69 (by decide) ?_
        refine z_sub [1, 0] rfl ?_
        exact hrec7 v34 D30 E
      · replace E := E.2 c33
        refine z_aload_n hC dX12_findPlaces_43 rfl 0 rfl ?_
        refine z_get hC lf_X12_143_12 (kM_33 hF) dX12_findPlaces_44 (fV_ref rfl (rM_33_43 hF)) ?_
        refine z_bipush (v := 8) hC dX12_findPlaces_47 rfl ?_
        refine z_iload_n hC dX12_findPlaces_49 rfl 1 rfl ?_
        refine z_imul hC dX12_findPlaces_50 ?_
        refine z_iload_n hC dX12_findPlaces_51 rfl 2 rfl ?_
        refine z_iadd hC dX12_findPlaces_52 ?_
        refine z_aload_n hC dX12_findPlaces_53 rfl 0 rfl ?_
        refine z_get hC lf_X12_136_12 (kM_33 hF) dX12_findPlaces_54 (fV_ref rfl (rM_33_41 hF)) ?_
        refine z_iload_n hC dX12_findPlaces_57 rfl 2 rfl ?_
        refine z_iald hC (kM_54 hF) (nM_54 hF) E.1 dX12_findPlaces_58 ?_
        replace E := E.2
        refine z_iast hC (kM_56 hF) (nM_56 hF) E.1 dX12_findPlaces_59 ?_
        replace E := E.2
        refine z_topD (fun D36 h37 => ?_)
        replace E := E D36 h37
        obtain ⟨v38, h39⟩ : ∃ y : Int32, y = v29 + 1 := ⟨_, rfl⟩
        replace E := E v38 h39
        refine z_iinc (q := 2) (v := v38) (lv' := [(2, .int v38), (0, .ref (G.1 + 33)), (1, .int v4)]) hC dX12_findPlaces_60 rfl (by rw [h39]; rfl) (Nat.le_of_ble_eq_true rfl) rfl ?_
        refine z_goto (tgt := 37) hC dX12_findPlaces_63 (by decide) ?_
        refine z_sub [1, 2, 0] rfl ?_
        exact hrec32 v38 D36 E
  · replace E := E.2 c1
    exact z_vret hC dX12_findPlaces_11 (Nat.le_refl _) (Nat.le_refl _) ⟨rfl, rfl, E⟩
def fX12_findAgreeing (a1 : Int32) (D : Dy) (post : Dy → Prop) : Prop :=
  (fX12_findPlaces D (fun (D6 : Dy) => (vp_in a1 16 ∧ (((D6.1 58 (a1).toNatClampNeg) = 0 → (vp_in a1 16 ∧ (∀ D8 : Dy, D8 = sI D6 58 (a1).toNatClampNeg (1 : Int32) → (LP2 (fun (rec12 : Int32 → Dy → Prop) (v10 : Int32) (D11 : Dy) => (fX12_orders D11 (fun (v14 : Int32) => ((v14 ≤ v10 → post D11) ∧ (¬ v14 ≤ v10 → (fX12_against v10 a1 D11 (fun (v20 : Int32) => (JN (fun (v25 : Int32) => (vp_in (((5040 : Int32) * a1) + v10) 80640 ∧ ((v25 = 0 ∨ v25 = 1) ∧ (∀ D28 : Dy, D28 = sI D11 57 ((((5040 : Int32) * a1) + v10)).toNatClampNeg v25 → (∀ v30 : Int32, v30 = v10 + 1 → (rec12 v30 D28)))))) (fun K26 : Int32 → Prop => ((¬ v20 = 0 → (K26 (0 : Int32))) ∧ (v20 = 0 → (K26 (1 : Int32))))))))))))) FU (0 : Int32) D8)))) ∧ (¬ (D6.1 58 (a1).toNatClampNeg) = 0 → post D6)))))
set_option maxHeartbeats 4000000 in
set_option maxRecDepth 100000 in
theorem ct_X12_findAgreeing {l : Launch} {G : Gl} {S : Sh} {D : Dy} (hF : FM S) {a1 : Int32} {post : Dy → Prop} (E : fX12_findAgreeing a1 D post) : Ct l G yX12_findAgreeing cX12_findAgreeing 3 none 3 0 0 S D [.ref (G.1 + 33), .int a1] (PV S post) := by
  refine z_enter (lv0 := [(0, .ref (G.1 + 33)), (1, .int a1)]) pl_12 (Nat.le_of_ble_eq_true rfl) rfl ?_
  intro p e s m args below meth c hC hnm
  unfold fX12_findAgreeing at E
  refine z_aload_n hC dX12_findAgreeing_0 rfl 0 rfl ?_
  refine z_callV (ci := 12) (rest := []) hC (ck_mk lk_X12_323 in_X12_findPlaces cd_X12_findPlaces ds_X12_findPlaces (Nat.le_of_ble_eq_true rfl) (Nat.le_of_ble_eq_true rfl)) iy_X12_findPlaces sy_X12_findPlaces cf_12 (by decide) (kM_33 hF) (ct_X12_findPlaces hF E) rfl rfl (Nat.le_of_ble_eq_true rfl) ⟨Nat.le_refl _, Nat.le_refl _⟩ dX12_findAgreeing_1 ?_
  rintro _ _ D6 ⟨rfl, rfl, E⟩
  refine z_aload_n hC dX12_findAgreeing_4 rfl 0 rfl ?_
  refine z_get hC lf_X12_150_12 (kM_33 hF) dX12_findAgreeing_5 (fV_ref rfl (rM_33_45 hF)) ?_
  refine z_iload_n hC dX12_findAgreeing_8 rfl 1 rfl ?_
  refine z_zald hC (kM_58 hF) (nM_58 hF) E.1 dX12_findAgreeing_9 ?_
  replace E := E.2
  refine z_if_eq (tgt := 14) hC dX12_findAgreeing_10 (by decide) (fun c7 => ?_) (fun c7 => ?_)
  · replace E := E.1 c7
    refine z_aload_n hC dX12_findAgreeing_14 rfl 0 rfl ?_
    refine z_get hC lf_X12_150_12 (kM_33 hF) dX12_findAgreeing_15 (fV_ref rfl (rM_33_45 hF)) ?_
    refine z_iload_n hC dX12_findAgreeing_18 rfl 1 rfl ?_
    refine z_iconst (v := 1) hC dX12_findAgreeing_19 rfl ?_
    refine z_zast hC (kM_58 hF) (nM_58 hF) (Or.inr rfl) E.1 dX12_findAgreeing_20 ?_
    replace E := E.2
    refine z_topD (fun D8 h9 => ?_)
    replace E := E D8 h9
    refine z_iconst (v := 0) hC dX12_findAgreeing_21 rfl ?_
    refine z_istore_n (lv' := [(2, .int (0 : Int32)), (0, .ref (G.1 + 33)), (1, .int a1)]) hC dX12_findAgreeing_22 rfl (Nat.le_of_ble_eq_true rfl) rfl ?_
    refine z_sub [1, 2, 0] rfl ?_
    refine LP2_use (fun (v10 : Int32) (D11 : Dy) => ZM l G p e s m args below meth c 3 3 S (PV S post) S D11 23 [(0, .ref (G.1 + 33)), (1, .int a1), (2, .int v10)] []) ?_ FU (0 : Int32) D8 E
    intro rec12 hrec13 v10 D11 E
    refine z_iload_n hC dX12_findAgreeing_23 rfl 2 rfl ?_
    refine z_aload_n hC dX12_findAgreeing_24 rfl 0 rfl ?_
    refine z_callV (ci := 12) (rest := [.int v10]) hC (ck_mk lk_X12_314 in_X12_orders cd_X12_orders ds_X12_orders (Nat.le_of_ble_eq_true rfl) (Nat.le_of_ble_eq_true rfl)) iy_X12_orders sy_X12_orders cf_12 (by decide) (kM_33 hF) (ct_X12_orders hF E) rfl rfl (Nat.le_of_ble_eq_true rfl) ⟨Nat.le_refl _, Nat.le_refl _⟩ dX12_findAgreeing_25 ?_
    rintro _ _ _ ⟨v14, rfl, rfl, rfl, E⟩
    refine z_icmp_ge (tgt := 63) hC dX12_findAgreeing_28 (by decide) (fun c19 => ?_) (fun c19 => ?_)
    · replace E := E.1 c19
      exact z_vret hC dX12_findAgreeing_63 (Nat.le_refl _) (Nat.le_refl _) ⟨rfl, rfl, E⟩
    · replace E := E.2 c19
      refine z_aload_n hC dX12_findAgreeing_31 rfl 0 rfl ?_
      refine z_get hC lf_X12_147_12 (kM_33 hF) dX12_findAgreeing_32 (fV_ref rfl (rM_33_44 hF)) ?_
      refine z_sipush (v := 5040) hC dX12_findAgreeing_35 rfl ?_
      refine z_iload_n hC dX12_findAgreeing_38 rfl 1 rfl ?_
      refine z_imul hC dX12_findAgreeing_39 ?_
      refine z_iload_n hC dX12_findAgreeing_40 rfl 2 rfl ?_
      refine z_iadd hC dX12_findAgreeing_41 ?_
      refine z_aload_n hC dX12_findAgreeing_42 rfl 0 rfl ?_
      refine z_iload_n hC dX12_findAgreeing_43 rfl 2 rfl ?_
      refine z_iload_n hC dX12_findAgreeing_44 rfl 1 rfl ?_
      refine z_callV (ci := 12) (rest := [.int (((5040 : Int32) * a1) + v10), .ref (G.1 + 57)]) hC (ck_mk lk_X12_326 in_X12_against cd_X12_against ds_X12_against (Nat.le_of_ble_eq_true rfl) (Nat.le_of_ble_eq_true rfl)) iy_X12_against sy_X12_against cf_12 (by decide) (kM_33 hF) (ct_X12_against hF E) rfl rfl (Nat.le_of_ble_eq_true rfl) ⟨Nat.le_refl _, Nat.le_refl _⟩ dX12_findAgreeing_45 ?_
      rintro _ _ _ ⟨v20, rfl, rfl, rfl, E⟩
      obtain ⟨K26, hK27, EE⟩ := JN_use E (fun K26 : Int32 → Prop => ∀ (v25 : Int32), K26 v25 → ZM l G p e s m args below meth c 3 3 S (PV S post) S D11 56 [(0, .ref (G.1 + 33)), (1, .int a1), (2, .int v10)] [.int v25, .int (((5040 : Int32) * a1) + v10), .ref (G.1 + 57)]) (by
        intro v25 E
        refine z_zast hC (kM_57 hF) (nM_57 hF) E.2.1 E.1 dX12_findAgreeing_56 ?_
        replace E := E.2.2
        refine z_topD (fun D28 h29 => ?_)
        replace E := E D28 h29
        obtain ⟨v30, h31⟩ : ∃ y : Int32, y = v10 + 1 := ⟨_, rfl⟩
        replace E := E v30 h31
        refine z_iinc (q := 2) (v := v30) (lv' := [(2, .int v30), (0, .ref (G.1 + 33)), (1, .int a1)]) hC dX12_findAgreeing_57 rfl (by rw [h31]; rfl) (Nat.le_of_ble_eq_true rfl) rfl ?_
        refine z_goto (tgt := 23) hC dX12_findAgreeing_60 (by decide) ?_
        refine z_sub [1, 2, 0] rfl ?_
        exact hrec13 v30 D28 E)
      replace E := EE
      clear EE
      refine z_if_ne (tgt := 55) hC dX12_findAgreeing_48 (by decide) (fun c32 => ?_) (fun c32 => ?_)
      · replace E := E.1 c32
        refine z_iconst (v := 0) hC dX12_findAgreeing_55 rfl ?_
        exact hK27 (0 : Int32) E
      · replace E := E.2 c32
        refine z_iconst (v := 1) hC dX12_findAgreeing_51 rfl ?_
        refine z_goto (tgt := 56) hC dX12_findAgreeing_52 (by decide) ?_
        exact hK27 (1 : Int32) E
  · replace E := E.2 c7
    exact z_vret hC dX12_findAgreeing_13 (Nat.le_refl _) (Nat.le_refl _) ⟨rfl, rfl, E⟩
def fX12_agree (a1 : Int32) (D : Dy) (post : Int32 → Dy → Prop) : Prop :=
  (fX12_isTaker a1 D (fun (v2 : Int32) => ((¬ v2 = 0 → (fX12_findAgreeing a1 D (fun (D12 : Dy) => (LP2 (fun (rec15 : Int32 → Int32 → Prop) (v13 : Int32) (v14 : Int32) => (fX12_orders D12 (fun (v17 : Int32) => ((v17 ≤ v14 → post v13 D12) ∧ (¬ v17 ≤ v14 → (vp_in (((5040 : Int32) * a1) + v14) 80640 ∧ (JN (fun (v23 : Int32) => (∀ v26 : Int32, v26 = (v13 + v23) → (∀ v28 : Int32, v28 = v14 + 1 → (rec15 v26 v28)))) (fun K24 : Int32 → Prop => (((D12.1 57 ((((5040 : Int32) * a1) + v14)).toNatClampNeg) = 0 → (K24 (0 : Int32))) ∧ (¬ (D12.1 57 ((((5040 : Int32) * a1) + v14)).toNatClampNeg) = 0 → (K24 (1 : Int32)))))))))))) FU (0 : Int32) (0 : Int32))))) ∧ (v2 = 0 → post (-1 : Int32) D))))
set_option maxHeartbeats 4000000 in
set_option maxRecDepth 100000 in
theorem ct_X12_agree {l : Launch} {G : Gl} {S : Sh} {D : Dy} (hF : FM S) {a1 : Int32} {post : Int32 → Dy → Prop} (E : fX12_agree a1 D post) : Ct l G yX12_agree cX12_agree 4 (some .int) 4 0 0 S D [.ref (G.1 + 33), .int a1] (PI S post) := by
  refine z_enter (lv0 := [(0, .ref (G.1 + 33)), (1, .int a1)]) pl_12 (Nat.le_of_ble_eq_true rfl) rfl ?_
  intro p e s m args below meth c hC hnm
  unfold fX12_agree at E
  refine z_aload_n hC dX12_agree_0 rfl 0 rfl ?_
  refine z_iload_n hC dX12_agree_1 rfl 1 rfl ?_
  refine z_callV (ci := 12) (rest := []) hC (ck_mk lk_X12_186 in_X12_isTaker cd_X12_isTaker ds_X12_isTaker (Nat.le_of_ble_eq_true rfl) (Nat.le_of_ble_eq_true rfl)) iy_X12_isTaker sy_X12_isTaker cf_12 (by decide) (kM_33 hF) (ct_X12_isTaker hF E) rfl rfl (Nat.le_of_ble_eq_true rfl) ⟨Nat.le_refl _, Nat.le_refl _⟩ dX12_agree_2 ?_
  rintro _ _ _ ⟨v2, rfl, rfl, rfl, E⟩
  refine z_if_ne (tgt := 10) hC dX12_agree_5 (by decide) (fun c6 => ?_) (fun c6 => ?_)
  · replace E := E.1 c6
    refine z_aload_n hC dX12_agree_10 rfl 0 rfl ?_
    refine z_iload_n hC dX12_agree_11 rfl 1 rfl ?_
    refine z_callV (ci := 12) (rest := []) hC (ck_mk lk_X12_329 in_X12_findAgreeing cd_X12_findAgreeing ds_X12_findAgreeing (Nat.le_of_ble_eq_true rfl) (Nat.le_of_ble_eq_true rfl)) iy_X12_findAgreeing sy_X12_findAgreeing cf_12 (by decide) (kM_33 hF) (ct_X12_findAgreeing hF E) rfl rfl (Nat.le_of_ble_eq_true rfl) ⟨Nat.le_refl _, Nat.le_refl _⟩ dX12_agree_12 ?_
    rintro _ _ D12 ⟨rfl, rfl, E⟩
    refine z_iconst (v := 0) hC dX12_agree_15 rfl ?_
    refine z_istore_n (lv' := [(2, .int (0 : Int32)), (0, .ref (G.1 + 33)), (1, .int a1)]) hC dX12_agree_16 rfl (Nat.le_of_ble_eq_true rfl) rfl ?_
    refine z_iconst (v := 0) hC dX12_agree_17 rfl ?_
    refine z_istore_n (lv' := [(3, .int (0 : Int32)), (2, .int (0 : Int32)), (0, .ref (G.1 + 33)), (1, .int a1)]) hC dX12_agree_18 rfl (Nat.le_of_ble_eq_true rfl) rfl ?_
    refine z_sub [2, 3, 1, 0] rfl ?_
    refine LP2_use (fun (v13 : Int32) (v14 : Int32) => ZM l G p e s m args below meth c 4 4 S (PI S post) S D12 19 [(0, .ref (G.1 + 33)), (1, .int a1), (2, .int v13), (3, .int v14)] []) ?_ FU (0 : Int32) (0 : Int32) E
    intro rec15 hrec16 v13 v14 E
    refine z_iload_n hC dX12_agree_19 rfl 3 rfl ?_
    refine z_aload_n hC dX12_agree_20 rfl 0 rfl ?_
    refine z_callV (ci := 12) (rest := [.int v14]) hC (ck_mk lk_X12_314 in_X12_orders cd_X12_orders ds_X12_orders (Nat.le_of_ble_eq_true rfl) (Nat.le_of_ble_eq_true rfl)) iy_X12_orders sy_X12_orders cf_12 (by decide) (kM_33 hF) (ct_X12_orders hF E) rfl rfl (Nat.le_of_ble_eq_true rfl) ⟨Nat.le_refl _, Nat.le_refl _⟩ dX12_agree_21 ?_
    rintro _ _ _ ⟨v17, rfl, rfl, rfl, E⟩
    refine z_icmp_ge (tgt := 56) hC dX12_agree_24 (by decide) (fun c22 => ?_) (fun c22 => ?_)
    · replace E := E.1 c22
      refine z_iload_n hC dX12_agree_56 rfl 2 rfl ?_
      exact z_iret hC dX12_agree_57 (Nat.le_refl _) (Nat.le_refl _) ⟨_, rfl, rfl, E⟩
    · replace E := E.2 c22
      refine z_iload_n hC dX12_agree_27 rfl 2 rfl ?_
      refine z_aload_n hC dX12_agree_28 rfl 0 rfl ?_
      refine z_get hC lf_X12_147_12 (kM_33 hF) dX12_agree_29 (fV_ref rfl (rM_33_44 hF)) ?_
      refine z_sipush (v := 5040) hC dX12_agree_32 rfl ?_
      refine z_iload_n hC dX12_agree_35 rfl 1 rfl ?_
      refine z_imul hC dX12_agree_36 ?_
      refine z_iload_n hC dX12_agree_37 rfl 3 rfl ?_
      refine z_iadd hC dX12_agree_38 ?_
      refine z_zald hC (kM_57 hF) (nM_57 hF) E.1 dX12_agree_39 ?_
      replace E := E.2
      obtain ⟨K24, hK25, EE⟩ := JN_use E (fun K24 : Int32 → Prop => ∀ (v23 : Int32), K24 v23 → ZM l G p e s m args below meth c 4 4 S (PI S post) S D12 48 [(0, .ref (G.1 + 33)), (1, .int a1), (3, .int v14)] [.int v23, .int v13]) (by
        intro v23 E
        refine z_iadd hC dX12_agree_48 ?_
        refine z_topi (fun v26 h27 => ?_)
        replace E := E v26 h27
        refine z_istore_n (lv' := [(2, .int v26), (0, .ref (G.1 + 33)), (1, .int a1), (3, .int v14)]) hC dX12_agree_49 rfl (Nat.le_of_ble_eq_true rfl) rfl ?_
        obtain ⟨v28, h29⟩ : ∃ y : Int32, y = v14 + 1 := ⟨_, rfl⟩
        replace E := E v28 h29
        refine z_iinc (q := 3) (v := v28) (lv' := [(3, .int v28), (2, .int v26), (0, .ref (G.1 + 33)), (1, .int a1)]) hC dX12_agree_50 rfl (by rw [h29]; rfl) (Nat.le_of_ble_eq_true rfl) rfl ?_
        refine z_goto (tgt := 19) hC dX12_agree_53 (by decide) ?_
        refine z_sub [2, 3, 1, 0] rfl ?_
        exact hrec16 v26 v28 E)
      replace E := EE
      clear EE
      refine z_if_eq (tgt := 47) hC dX12_agree_40 (by decide) (fun c30 => ?_) (fun c30 => ?_)
      · replace E := E.1 c30
        refine z_iconst (v := 0) hC dX12_agree_47 rfl ?_
        refine z_sub [0, 1, 3] rfl ?_
        exact hK25 (0 : Int32) E
      · replace E := E.2 c30
        refine z_iconst (v := 1) hC dX12_agree_43 rfl ?_
        refine z_goto (tgt := 48) hC dX12_agree_44 (by decide) ?_
        refine z_sub [0, 1, 3] rfl ?_
        exact hK25 (1 : Int32) E
  · replace E := E.2 c6
    refine z_iconst (v := -1) hC dX12_agree_8 rfl ?_
    exact z_iret hC dX12_agree_9 (Nat.le_refl _) (Nat.le_refl _) ⟨_, rfl, rfl, E⟩
def fX12_isSet (a1 : Int32) (D : Dy) (post : Int32 → Prop) : Prop :=
  (fX12_in a1 (0 : Int32) (((1 : Int32) <<< ((D.1 33 0) &&& 31)) - (1 : Int32)) (fun (v2 : Int32) => ((v2 = 0 ∨ v2 = 1) ∧ post v2)))
set_option maxHeartbeats 4000000 in
set_option maxRecDepth 100000 in
theorem ct_X12_isSet {l : Launch} {G : Gl} {S : Sh} {D : Dy} (hF : FM S) {a1 : Int32} {post : Int32 → Prop} (E : fX12_isSet a1 D post) : Ct l G yX12_isSet cX12_isSet 2 (some .boolean) 1 0 0 S D [.ref (G.1 + 33), .int a1] (PIr S D post) := by
  refine z_enter (lv0 := [(0, .ref (G.1 + 33)), (1, .int a1)]) pl_12 (Nat.le_of_ble_eq_true rfl) rfl ?_
  intro p e s m args below meth c hC hnm
  unfold fX12_isSet at E
  refine z_aload_n hC dX12_isSet_0 rfl 0 rfl ?_
  refine z_iload_n hC dX12_isSet_1 rfl 1 rfl ?_
  refine z_iconst (v := 0) hC dX12_isSet_2 rfl ?_
  refine z_iconst (v := 1) hC dX12_isSet_3 rfl ?_
  refine z_aload_n hC dX12_isSet_4 rfl 0 rfl ?_
  refine z_get hC lf_X12_7_12 (kM_33 hF) dX12_isSet_5 (fV_int rfl) ?_
  refine z_ishl hC dX12_isSet_8 ?_
  refine z_iconst (v := 1) hC dX12_isSet_9 rfl ?_
  refine z_isub hC dX12_isSet_10 ?_
  refine z_callV (ci := 12) (rest := []) hC (ck_mk lk_X12_178 in_X12_in cd_X12_in ds_X12_in (Nat.le_of_ble_eq_true rfl) (Nat.le_of_ble_eq_true rfl)) iy_X12_in sy_X12_in cf_12 (by decide) (kM_33 hF) (ct_X12_in hF E) rfl rfl (Nat.le_of_ble_eq_true rfl) ⟨Nat.le_refl _, Nat.le_refl _⟩ dX12_isSet_11 ?_
  rintro _ _ _ ⟨v2, rfl, rfl, rfl, E⟩
  exact z_zret hC dX12_isSet_14 E.1 (Nat.le_refl _) (Nat.le_refl _) ⟨_, rfl, rfl, rfl, E.2⟩
def fX12_ask (a1 : Int32) (D : Dy) (post : Int32 → Dy → Prop) : Prop :=
  (fX12_isSet a1 D (fun (v2 : Int32) => ((v2 = 0 → post (-2 : Int32) D) ∧ (¬ v2 = 0 → ((¬ a1 = 0 → ((¬ (D.1 33 3) = (10 : Int32) → (vp_in (D.1 33 3) 10 ∧ (∀ D9 : Dy, D9 = sI D 42 ((D.1 33 3)).toNatClampNeg a1 → (∀ D11 : Dy, D11 = sI D9 33 3 ((D9.1 33 3) + (1 : Int32)) → post ((D11.1 33 3) - (1 : Int32)) D11)))) ∧ ((D.1 33 3) = (10 : Int32) → post (-4 : Int32) D))) ∧ (a1 = 0 → post (-2 : Int32) D))))))
set_option maxHeartbeats 4000000 in
set_option maxRecDepth 100000 in
theorem ct_X12_ask {l : Launch} {G : Gl} {S : Sh} {D : Dy} (hF : FM S) {a1 : Int32} {post : Int32 → Dy → Prop} (E : fX12_ask a1 D post) : Ct l G yX12_ask cX12_ask 2 (some .int) 2 0 0 S D [.ref (G.1 + 33), .int a1] (PI S post) := by
  refine z_enter (lv0 := [(0, .ref (G.1 + 33)), (1, .int a1)]) pl_12 (Nat.le_of_ble_eq_true rfl) rfl ?_
  intro p e s m args below meth c hC hnm
  unfold fX12_ask at E
  refine z_aload_n hC dX12_ask_0 rfl 0 rfl ?_
  refine z_iload_n hC dX12_ask_1 rfl 1 rfl ?_
  refine z_callV (ci := 12) (rest := []) hC (ck_mk lk_X12_189 in_X12_isSet cd_X12_isSet ds_X12_isSet (Nat.le_of_ble_eq_true rfl) (Nat.le_of_ble_eq_true rfl)) iy_X12_isSet sy_X12_isSet cf_12 (by decide) (kM_33 hF) (ct_X12_isSet hF E) rfl rfl (Nat.le_of_ble_eq_true rfl) ⟨Nat.le_refl _, Nat.le_refl _⟩ dX12_ask_2 ?_
  rintro _ _ _ ⟨v2, rfl, rfl, rfl, E⟩
  refine z_if_eq (tgt := 12) hC dX12_ask_5 (by decide) (fun c6 => ?_) (fun c6 => ?_)
  · replace E := E.1 c6
    refine z_bipush (v := -2) hC dX12_ask_12 rfl ?_
    exact z_iret hC dX12_ask_14 (Nat.le_refl _) (Nat.le_refl _) ⟨_, rfl, rfl, E⟩
  · replace E := E.2 c6
    refine z_iload_n hC dX12_ask_8 rfl 1 rfl ?_
    refine z_if_ne (tgt := 15) hC dX12_ask_9 (by decide) (fun c7 => ?_) (fun c7 => ?_)
    · replace E := E.1 c7
      refine z_aload_n hC dX12_ask_15 rfl 0 rfl ?_
      refine z_get hC lf_X12_19_12 (kM_33 hF) dX12_ask_16 (fV_int rfl) ?_
      refine z_bipush (v := 10) hC dX12_ask_19 rfl ?_
      refine z_icmp_ne (tgt := 27) hC dX12_ask_21 (by decide) (fun c8 => ?_) (fun c8 => ?_)
      · replace E := E.1 c8
        refine z_aload_n hC dX12_ask_27 rfl 0 rfl ?_
        refine z_get hC lf_X12_47_12 (kM_33 hF) dX12_ask_28 (fV_ref rfl (rM_33_12 hF)) ?_
        refine z_aload_n hC dX12_ask_31 rfl 0 rfl ?_
        refine z_get hC lf_X12_19_12 (kM_33 hF) dX12_ask_32 (fV_int rfl) ?_
        refine z_iload_n hC dX12_ask_35 rfl 1 rfl ?_
        refine z_iast hC (kM_42 hF) (nM_42 hF) E.1 dX12_ask_36 ?_
        replace E := E.2
        refine z_topD (fun D9 h10 => ?_)
        replace E := E D9 h10
        refine z_aload_n hC dX12_ask_37 rfl 0 rfl ?_
        refine z_dup hC dX12_ask_38 rfl ?_
        refine z_get hC lf_X12_19_12 (kM_33 hF) dX12_ask_39 (fV_int rfl) ?_
        refine z_iconst (v := 1) hC dX12_ask_42 rfl ?_
        refine z_iadd hC dX12_ask_43 ?_
        refine z_puti hC lf_X12_19_12 rfl (kM_33 hF) dX12_ask_44 ?_
        refine z_topD (fun D11 h12 => ?_)
        replace E := E D11 h12
        refine z_aload_n hC dX12_ask_47 rfl 0 rfl ?_
        refine z_get hC lf_X12_19_12 (kM_33 hF) dX12_ask_48 (fV_int rfl) ?_
        refine z_iconst (v := 1) hC dX12_ask_51 rfl ?_
        refine z_isub hC dX12_ask_52 ?_
        exact z_iret hC dX12_ask_53 (Nat.le_refl _) (Nat.le_refl _) ⟨_, rfl, rfl, E⟩
      · replace E := E.2 c8
        refine z_bipush (v := -4) hC dX12_ask_24 rfl ?_
        exact z_iret hC dX12_ask_26 (Nat.le_refl _) (Nat.le_refl _) ⟨_, rfl, rfl, E⟩
    · replace E := E.2 c7
      refine z_bipush (v := -2) hC dX12_ask_12 rfl ?_
      exact z_iret hC dX12_ask_14 (Nat.le_refl _) (Nat.le_refl _) ⟨_, rfl, rfl, E⟩
def fX12_isThing (a1 : Int32) (D : Dy) (post : Int32 → Prop) : Prop :=
  (fX12_in a1 (0 : Int32) ((D.1 33 0) - (1 : Int32)) (fun (v2 : Int32) => ((v2 = 0 ∨ v2 = 1) ∧ post v2)))
set_option maxHeartbeats 4000000 in
set_option maxRecDepth 100000 in
theorem ct_X12_isThing {l : Launch} {G : Gl} {S : Sh} {D : Dy} (hF : FM S) {a1 : Int32} {post : Int32 → Prop} (E : fX12_isThing a1 D post) : Ct l G yX12_isThing cX12_isThing 2 (some .boolean) 1 0 0 S D [.ref (G.1 + 33), .int a1] (PIr S D post) := by
  refine z_enter (lv0 := [(0, .ref (G.1 + 33)), (1, .int a1)]) pl_12 (Nat.le_of_ble_eq_true rfl) rfl ?_
  intro p e s m args below meth c hC hnm
  unfold fX12_isThing at E
  refine z_aload_n hC dX12_isThing_0 rfl 0 rfl ?_
  refine z_iload_n hC dX12_isThing_1 rfl 1 rfl ?_
  refine z_iconst (v := 0) hC dX12_isThing_2 rfl ?_
  refine z_aload_n hC dX12_isThing_3 rfl 0 rfl ?_
  refine z_get hC lf_X12_7_12 (kM_33 hF) dX12_isThing_4 (fV_int rfl) ?_
  refine z_iconst (v := 1) hC dX12_isThing_7 rfl ?_
  refine z_isub hC dX12_isThing_8 ?_
  refine z_callV (ci := 12) (rest := []) hC (ck_mk lk_X12_178 in_X12_in cd_X12_in ds_X12_in (Nat.le_of_ble_eq_true rfl) (Nat.le_of_ble_eq_true rfl)) iy_X12_in sy_X12_in cf_12 (by decide) (kM_33 hF) (ct_X12_in hF E) rfl rfl (Nat.le_of_ble_eq_true rfl) ⟨Nat.le_refl _, Nat.le_refl _⟩ dX12_isThing_9 ?_
  rintro _ _ _ ⟨v2, rfl, rfl, rfl, E⟩
  exact z_zret hC dX12_isThing_12 E.1 (Nat.le_refl _) (Nat.le_refl _) ⟨_, rfl, rfl, rfl, E.2⟩
def fX12_away (a1 : Int32) (a2 : Int32) (a3 : Int32) (D : Dy) (post : Int32 → Prop) : Prop :=
  (fX12_isThing a1 D (fun (v2 : Int32) => ((v2 = 0 → post (-1 : Int32)) ∧ (¬ v2 = 0 → (fX12_isThing a2 D (fun (v8 : Int32) => ((v8 = 0 → post (-1 : Int32)) ∧ (¬ v8 = 0 → (fX12_in a3 (0 : Int32) (4 : Int32) (fun (v14 : Int32) => ((¬ v14 = 0 → ((¬ a1 = a2 → (LP5 (fun (rec25 : Int32 → Int32 → Int32 → Int32 → Int32 → Prop) (v20 : Int32) (v21 : Int32) (v22 : Int32) (v23 : Int32) (v24 : Int32) => (((D.1 33 2) ≤ v24 → ((a3 = (0 : Int32) → post v20) ∧ (¬ a3 = (0 : Int32) → ((a3 = (1 : Int32) → post v21) ∧ (¬ a3 = (1 : Int32) → ((a3 = (2 : Int32) → post v22) ∧ (¬ a3 = (2 : Int32) → ((a3 = (3 : Int32) → post v23) ∧ (¬ a3 = (3 : Int32) → ((v21 = 0 → post (-6 : Int32)) ∧ (¬ v21 = 0 → ((¬ v23 = 0 → (∀ v34 : Int32, v34 = ((v22 * v21) - (v20 * v23)) → ((v34 ≤ 0 → ((0 ≤ v34 → post (0 : Int32)) ∧ (¬ 0 ≤ v34 → post (-5 : Int32)))) ∧ (¬ v34 ≤ 0 → post (1 : Int32))))) ∧ (v23 = 0 → post (-6 : Int32)))))))))))))) ∧ (¬ (D.1 33 2) ≤ v24 → (vp_in v24 80 ∧ (JN (fun (v38 : Int32) (v39 : Int32) (v40 : Int32) (v41 : Int32) => (∀ v44 : Int32, v44 = v24 + 1 → (rec25 v38 v39 v40 v41 v44))) (fun K42 : Int32 → Int32 → Int32 → Int32 → Prop => ((¬ (D.1 41 (v24).toNatClampNeg) = 0 → (K42 v20 v21 v22 v23)) ∧ ((D.1 41 (v24).toNatClampNeg) = 0 → (vp_in v24 80 ∧ (fX12_has (D.1 39 (v24).toNatClampNeg) a1 (fun (v48 : Int32) => ((¬ v48 = 0 → (vp_in v24 80 ∧ (JN (fun (v53 : Int32) => (vp_in v24 80 ∧ (fX12_has (D.1 39 (v24).toNatClampNeg) a2 (fun (v57 : Int32) => ((v57 = 0 → (∀ v62 : Int32, v62 = v23 + 1 → (∀ v64 : Int32, v64 = (v22 + v53) → (K42 v20 v21 v64 v62)))) ∧ (¬ v57 = 0 → (∀ v66 : Int32, v66 = v21 + 1 → (∀ v68 : Int32, v68 = (v20 + v53) → (K42 v68 v66 v22 v23))))))))) (fun K54 : Int32 → Prop => ((¬ (D.1 40 (v24).toNatClampNeg) = a1 → (K54 (0 : Int32))) ∧ ((D.1 40 (v24).toNatClampNeg) = a1 → (K54 (1 : Int32)))))))) ∧ (v48 = 0 → (K42 v20 v21 v22 v23)))))))))))))) FU (0 : Int32) (0 : Int32) (0 : Int32) (0 : Int32) (0 : Int32))) ∧ (a1 = a2 → post (-2 : Int32)))) ∧ (v14 = 0 → post (-1 : Int32)))))))))))))
set_option maxHeartbeats 4000000 in
set_option maxRecDepth 100000 in
theorem ct_X12_away {l : Launch} {G : Gl} {S : Sh} {D : Dy} (hF : FM S) {a1 : Int32} {a2 : Int32} {a3 : Int32} {post : Int32 → Prop} (E : fX12_away a1 a2 a3 D post) : Ct l G yX12_away cX12_away 10 (some .int) 2 0 0 S D [.ref (G.1 + 33), .int a1, .int a2, .int a3] (PIr S D post) := by
  refine z_enter (lv0 := [(0, .ref (G.1 + 33)), (1, .int a1), (2, .int a2), (3, .int a3)]) pl_12 (Nat.le_of_ble_eq_true rfl) rfl ?_
  intro p e s m args below meth c hC hnm
  unfold fX12_away at E
  refine z_aload_n hC dX12_away_0 rfl 0 rfl ?_
  refine z_iload_n hC dX12_away_1 rfl 1 rfl ?_
  refine z_callV (ci := 12) (rest := []) hC (ck_mk lk_X12_182 in_X12_isThing cd_X12_isThing ds_X12_isThing (Nat.le_of_ble_eq_true rfl) (Nat.le_of_ble_eq_true rfl)) iy_X12_isThing sy_X12_isThing cf_12 (by decide) (kM_33 hF) (ct_X12_isThing hF E) rfl rfl (Nat.le_of_ble_eq_true rfl) ⟨Nat.le_refl _, Nat.le_refl _⟩ dX12_away_2 ?_
  rintro _ _ _ ⟨v2, rfl, rfl, rfl, E⟩
  refine z_if_eq (tgt := 26) hC dX12_away_5 (by decide) (fun c6 => ?_) (fun c6 => ?_)
  · replace E := E.1 c6
    refine z_iconst (v := -1) hC dX12_away_26 rfl ?_
    exact z_iret hC dX12_away_27 (Nat.le_refl _) (Nat.le_refl _) ⟨_, rfl, rfl, rfl, E⟩
  · replace E := E.2 c6
    refine z_aload_n hC dX12_away_8 rfl 0 rfl ?_
    refine z_iload_n hC dX12_away_9 rfl 2 rfl ?_
    refine z_callV (ci := 12) (rest := []) hC (ck_mk lk_X12_182 in_X12_isThing cd_X12_isThing ds_X12_isThing (Nat.le_of_ble_eq_true rfl) (Nat.le_of_ble_eq_true rfl)) iy_X12_isThing sy_X12_isThing cf_12 (by decide) (kM_33 hF) (ct_X12_isThing hF E) rfl rfl (Nat.le_of_ble_eq_true rfl) ⟨Nat.le_refl _, Nat.le_refl _⟩ dX12_away_10 ?_
    rintro _ _ _ ⟨v8, rfl, rfl, rfl, E⟩
    refine z_if_eq (tgt := 26) hC dX12_away_13 (by decide) (fun c12 => ?_) (fun c12 => ?_)
    · replace E := E.1 c12
      refine z_iconst (v := -1) hC dX12_away_26 rfl ?_
      exact z_iret hC dX12_away_27 (Nat.le_refl _) (Nat.le_refl _) ⟨_, rfl, rfl, rfl, E⟩
    · replace E := E.2 c12
      refine z_aload_n hC dX12_away_16 rfl 0 rfl ?_
      refine z_iload_n hC dX12_away_17 rfl 3 rfl ?_
      refine z_iconst (v := 0) hC dX12_away_18 rfl ?_
      refine z_iconst (v := 4) hC dX12_away_19 rfl ?_
      refine z_callV (ci := 12) (rest := []) hC (ck_mk lk_X12_178 in_X12_in cd_X12_in ds_X12_in (Nat.le_of_ble_eq_true rfl) (Nat.le_of_ble_eq_true rfl)) iy_X12_in sy_X12_in cf_12 (by decide) (kM_33 hF) (ct_X12_in hF E) rfl rfl (Nat.le_of_ble_eq_true rfl) ⟨Nat.le_refl _, Nat.le_refl _⟩ dX12_away_20 ?_
      rintro _ _ _ ⟨v14, rfl, rfl, rfl, E⟩
      refine z_if_ne (tgt := 28) hC dX12_away_23 (by decide) (fun c18 => ?_) (fun c18 => ?_)
      · replace E := E.1 c18
        refine z_iload_n hC dX12_away_28 rfl 1 rfl ?_
        refine z_iload_n hC dX12_away_29 rfl 2 rfl ?_
        refine z_icmp_ne (tgt := 36) hC dX12_away_30 (by decide) (fun c19 => ?_) (fun c19 => ?_)
        · replace E := E.1 c19
          refine z_iconst (v := 0) hC dX12_away_36 rfl ?_
          refine z_istore (lv' := [(4, .int (0 : Int32)), (0, .ref (G.1 + 33)), (1, .int a1), (2, .int a2), (3, .int a3)]) hC dX12_away_37 (Nat.le_of_ble_eq_true rfl) rfl ?_
          refine z_iconst (v := 0) hC dX12_away_39 rfl ?_
          refine z_istore (lv' := [(5, .int (0 : Int32)), (4, .int (0 : Int32)), (0, .ref (G.1 + 33)), (1, .int a1), (2, .int a2), (3, .int a3)]) hC dX12_away_40 (Nat.le_of_ble_eq_true rfl) rfl ?_
          refine z_iconst (v := 0) hC dX12_away_42 rfl ?_
          refine z_istore (lv' := [(6, .int (0 : Int32)), (5, .int (0 : Int32)), (4, .int (0 : Int32)), (0, .ref (G.1 + 33)), (1, .int a1), (2, .int a2), (3, .int a3)]) hC dX12_away_43 (Nat.le_of_ble_eq_true rfl) rfl ?_
          refine z_iconst (v := 0) hC dX12_away_45 rfl ?_
          refine z_istore (lv' := [(7, .int (0 : Int32)), (6, .int (0 : Int32)), (5, .int (0 : Int32)), (4, .int (0 : Int32)), (0, .ref (G.1 + 33)), (1, .int a1), (2, .int a2), (3, .int a3)]) hC dX12_away_46 (Nat.le_of_ble_eq_true rfl) rfl ?_
          refine z_iconst (v := 0) hC dX12_away_48 rfl ?_
          refine z_istore (lv' := [(8, .int (0 : Int32)), (7, .int (0 : Int32)), (6, .int (0 : Int32)), (5, .int (0 : Int32)), (4, .int (0 : Int32)), (0, .ref (G.1 + 33)), (1, .int a1), (2, .int a2), (3, .int a3)]) hC dX12_away_49 (Nat.le_of_ble_eq_true rfl) rfl ?_
          refine z_sub [5, 6, 7, 8, 4, 3, 2, 1, 0] rfl ?_
          refine LP5_use (fun (v20 : Int32) (v21 : Int32) (v22 : Int32) (v23 : Int32) (v24 : Int32) => ZM l G p e s m args below meth c 10 2 S (PIr S D post) S D 51 [(0, .ref (G.1 + 33)), (1, .int a1), (2, .int a2), (3, .int a3), (4, .int v20), (5, .int v21), (6, .int v22), (7, .int v23), (8, .int v24)] []) ?_ FU (0 : Int32) (0 : Int32) (0 : Int32) (0 : Int32) (0 : Int32) E
          intro rec25 hrec26 v20 v21 v22 v23 v24 E
          refine z_iload hC dX12_away_51 8 rfl ?_
          refine z_aload_n hC dX12_away_53 rfl 0 rfl ?_
          refine z_get hC lf_X12_16_12 (kM_33 hF) dX12_away_54 (fV_int rfl) ?_
          refine z_icmp_ge (tgt := 150) hC dX12_away_57 (by decide) (fun c27 => ?_) (fun c27 => ?_)
          · replace E := E.1 c27
            refine z_iload_n hC dX12_away_150 rfl 3 rfl ?_
            by_cases c28 : a3 = (0 : Int32)
            · replace E := E.1 c28
              refine z_tableIn (tgt := 180) (off := 29) hC dX12_away_151 c28 (by decide) (by decide) ?_
              refine z_iload hC dX12_away_180 4 rfl ?_
              exact z_iret hC dX12_away_182 (Nat.le_refl _) (Nat.le_refl _) ⟨_, rfl, rfl, rfl, E⟩
            replace E := E.2 c28
            by_cases c29 : a3 = (1 : Int32)
            · replace E := E.1 c29
              refine z_tableIn (tgt := 183) (off := 32) hC dX12_away_151 c29 (by decide) (by decide) ?_
              refine z_iload hC dX12_away_183 5 rfl ?_
              exact z_iret hC dX12_away_185 (Nat.le_refl _) (Nat.le_refl _) ⟨_, rfl, rfl, rfl, E⟩
            replace E := E.2 c29
            by_cases c30 : a3 = (2 : Int32)
            · replace E := E.1 c30
              refine z_tableIn (tgt := 186) (off := 35) hC dX12_away_151 c30 (by decide) (by decide) ?_
              refine z_iload hC dX12_away_186 6 rfl ?_
              exact z_iret hC dX12_away_188 (Nat.le_refl _) (Nat.le_refl _) ⟨_, rfl, rfl, rfl, E⟩
            replace E := E.2 c30
            by_cases c31 : a3 = (3 : Int32)
            · replace E := E.1 c31
              refine z_tableIn (tgt := 189) (off := 38) hC dX12_away_151 c31 (by decide) (by decide) ?_
              refine z_iload hC dX12_away_189 7 rfl ?_
              exact z_iret hC dX12_away_191 (Nat.le_refl _) (Nat.le_refl _) ⟨_, rfl, rfl, rfl, E⟩
            replace E := E.2 c31
            refine z_tableOut (tgt := 192) hC dX12_away_151 (by have zc28 := sw_ne c28 (show (0 : Int32).toInt = 0 by decide); have zc29 := sw_ne c29 (show (1 : Int32).toInt = 1 by decide); have zc30 := sw_ne c30 (show (2 : Int32).toInt = 2 by decide); have zc31 := sw_ne c31 (show (3 : Int32).toInt = 3 by decide); omega) (by decide) ?_
            refine z_iload hC dX12_away_192 5 rfl ?_
            refine z_if_eq (tgt := 202) hC dX12_away_194 (by decide) (fun c32 => ?_) (fun c32 => ?_)
            · replace E := E.1 c32
              refine z_bipush (v := -6) hC dX12_away_202 rfl ?_
              exact z_iret hC dX12_away_204 (Nat.le_refl _) (Nat.le_refl _) ⟨_, rfl, rfl, rfl, E⟩
            · replace E := E.2 c32
              refine z_iload hC dX12_away_197 7 rfl ?_
              refine z_if_ne (tgt := 205) hC dX12_away_199 (by decide) (fun c33 => ?_) (fun c33 => ?_)
              · replace E := E.1 c33
                refine z_iload hC dX12_away_205 6 rfl ?_
                refine z_iload hC dX12_away_207 5 rfl ?_
                refine z_imul hC dX12_away_209 ?_
                refine z_iload hC dX12_away_210 4 rfl ?_
                refine z_iload hC dX12_away_212 7 rfl ?_
                refine z_imul hC dX12_away_214 ?_
                refine z_isub hC dX12_away_215 ?_
                refine z_topi (fun v34 h35 => ?_)
                replace E := E v34 h35
                refine z_istore (lv' := [(8, .int v34), (0, .ref (G.1 + 33)), (1, .int a1), (2, .int a2), (3, .int a3), (4, .int v20), (5, .int v21), (6, .int v22), (7, .int v23)]) hC dX12_away_216 (Nat.le_of_ble_eq_true rfl) rfl ?_
                refine z_iload hC dX12_away_218 0 rfl ?_
                refine z_if_le (tgt := 227) hC dX12_away_220 (by decide) (fun c36 => ?_) (fun c36 => ?_)
                · replace E := E.1 c36
                  refine z_iload hC dX12_away_227 0 rfl ?_
                  refine z_if_ge (tgt := 237) hC dX12_away_229 (by decide) (fun c37 => ?_) (fun c37 => ?_)
                  · replace E := E.1 c37
                    refine z_iconst (v := 0) hC dX12_away_237 rfl ?_
                    exact z_iret hC dX12_away_238 (Nat.le_refl _) (Nat.le_refl _) ⟨_, rfl, rfl, rfl, E⟩
                  · replace E := E.2 c37
                    refine z_bipush (v := -5) hC dX12_away_232 rfl ?_
                    refine z_goto (tgt := 238) hC dX12_away_234 (by decide) ?_
                    exact z_iret hC dX12_away_238 (Nat.le_refl _) (Nat.le_refl _) ⟨_, rfl, rfl, rfl, E⟩
                · replace E := E.2 c36
                  refine z_iconst (v := 1) hC dX12_away_223 rfl ?_
                  refine z_goto (tgt := 238) hC dX12_away_224 (by decide) ?_
                  exact z_iret hC dX12_away_238 (Nat.le_refl _) (Nat.le_refl _) ⟨_, rfl, rfl, rfl, E⟩
              · replace E := E.2 c33
                refine z_bipush (v := -6) hC dX12_away_202 rfl ?_
                exact z_iret hC dX12_away_204 (Nat.le_refl _) (Nat.le_refl _) ⟨_, rfl, rfl, rfl, E⟩
          · replace E := E.2 c27
            refine z_aload_n hC dX12_away_60 rfl 0 rfl ?_
            refine z_get hC lf_X12_44_12 (kM_33 hF) dX12_away_61 (fV_ref rfl (rM_33_11 hF)) ?_
            refine z_iload hC dX12_away_64 8 rfl ?_
            refine z_iald hC (kM_41 hF) (nM_41 hF) E.1 dX12_away_66 ?_
            replace E := E.2
            obtain ⟨K42, hK43, EE⟩ := JN_use E (fun K42 : Int32 → Int32 → Int32 → Int32 → Prop => ∀ (v38 : Int32) (v39 : Int32) (v40 : Int32) (v41 : Int32), K42 v38 v39 v40 v41 → ZM l G p e s m args below meth c 10 2 S (PIr S D post) S D 144 [(0, .ref (G.1 + 33)), (1, .int a1), (2, .int a2), (3, .int a3), (4, .int v38), (5, .int v39), (6, .int v40), (7, .int v41), (8, .int v24)] []) (by
              intro v38 v39 v40 v41 E
              obtain ⟨v44, h45⟩ : ∃ y : Int32, y = v24 + 1 := ⟨_, rfl⟩
              replace E := E v44 h45
              refine z_iinc (q := 8) (v := v44) (lv' := [(8, .int v44), (0, .ref (G.1 + 33)), (1, .int a1), (2, .int a2), (3, .int a3), (4, .int v38), (5, .int v39), (6, .int v40), (7, .int v41)]) hC dX12_away_144 rfl (by rw [h45]; rfl) (Nat.le_of_ble_eq_true rfl) rfl ?_
              refine z_goto (tgt := 51) hC dX12_away_147 (by decide) ?_
              refine z_sub [1, 2, 3, 4, 5, 6, 7, 8, 0] rfl ?_
              exact hrec26 v38 v39 v40 v41 v44 E)
            replace E := EE
            clear EE
            refine z_if_ne (tgt := 144) hC dX12_away_67 (by decide) (fun c46 => ?_) (fun c46 => ?_)
            · replace E := E.1 c46
              exact hK43 v20 v21 v22 v23 E
            · replace E := E.2 c46
              refine z_aload_n hC dX12_away_70 rfl 0 rfl ?_
              refine z_aload_n hC dX12_away_71 rfl 0 rfl ?_
              refine z_get hC lf_X12_38_12 (kM_33 hF) dX12_away_72 (fV_ref rfl (rM_33_9 hF)) ?_
              refine z_iload hC dX12_away_75 8 rfl ?_
              refine z_iald hC (kM_39 hF) (nM_39 hF) E.1 dX12_away_77 ?_
              replace E := E.2
              refine z_iload_n hC dX12_away_78 rfl 1 rfl ?_
              refine z_callV (ci := 12) (rest := []) hC (ck_mk lk_X12_192 in_X12_has cd_X12_has ds_X12_has (Nat.le_of_ble_eq_true rfl) (Nat.le_of_ble_eq_true rfl)) iy_X12_has sy_X12_has cf_12 (by decide) (kM_33 hF) (ct_X12_has hF E) rfl rfl (Nat.le_of_ble_eq_true rfl) ⟨Nat.le_refl _, Nat.le_refl _⟩ dX12_away_79 ?_
              rintro _ _ _ ⟨v48, rfl, rfl, rfl, E⟩
              refine z_if_ne (tgt := 88) hC dX12_away_82 (by decide) (fun c52 => ?_) (fun c52 => ?_)
              · replace E := E.1 c52
                refine z_aload_n hC dX12_away_88 rfl 0 rfl ?_
                refine z_get hC lf_X12_41_12 (kM_33 hF) dX12_away_89 (fV_ref rfl (rM_33_10 hF)) ?_
                refine z_iload hC dX12_away_92 8 rfl ?_
                refine z_iald hC (kM_40 hF) (nM_40 hF) E.1 dX12_away_94 ?_
                replace E := E.2
                refine z_iload_n hC dX12_away_95 rfl 1 rfl ?_
                obtain ⟨K54, hK55, EE⟩ := JN_use E (fun K54 : Int32 → Prop => ∀ (v53 : Int32), K54 v53 → ZM l G p e s m args below meth c 10 2 S (PIr S D post) S D 104 [(0, .ref (G.1 + 33)), (1, .int a1), (2, .int a2), (3, .int a3), (4, .int v20), (5, .int v21), (6, .int v22), (7, .int v23), (8, .int v24)] [.int v53]) (by
                  intro v53 E
                  refine z_istore (lv' := [(9, .int v53), (0, .ref (G.1 + 33)), (1, .int a1), (2, .int a2), (3, .int a3), (4, .int v20), (5, .int v21), (6, .int v22), (7, .int v23), (8, .int v24)]) hC dX12_away_104 (Nat.le_of_ble_eq_true rfl) rfl ?_
                  refine z_aload_n hC dX12_away_106 rfl 1 rfl ?_
                  refine z_aload_n hC dX12_away_107 rfl 1 rfl ?_
                  refine z_get hC lf_X12_38_12 (kM_33 hF) dX12_away_108 (fV_ref rfl (rM_33_9 hF)) ?_
                  refine z_iload hC dX12_away_111 9 rfl ?_
                  refine z_iald hC (kM_39 hF) (nM_39 hF) E.1 dX12_away_113 ?_
                  replace E := E.2
                  refine z_iload_n hC dX12_away_114 rfl 3 rfl ?_
                  refine z_callV (ci := 12) (rest := []) hC (ck_mk lk_X12_192 in_X12_has cd_X12_has ds_X12_has (Nat.le_of_ble_eq_true rfl) (Nat.le_of_ble_eq_true rfl)) iy_X12_has sy_X12_has cf_12 (by decide) (kM_33 hF) (ct_X12_has hF E) rfl rfl (Nat.le_of_ble_eq_true rfl) ⟨Nat.le_refl _, Nat.le_refl _⟩ dX12_away_115 ?_
                  rintro _ _ _ ⟨v57, rfl, rfl, rfl, E⟩
                  refine z_if_eq (tgt := 134) hC dX12_away_118 (by decide) (fun c61 => ?_) (fun c61 => ?_)
                  · replace E := E.1 c61
                    obtain ⟨v62, h63⟩ : ∃ y : Int32, y = v23 + 1 := ⟨_, rfl⟩
                    replace E := E v62 h63
                    refine z_iinc (q := 8) (v := v62) (lv' := [(7, .int v62), (9, .int v53), (0, .ref (G.1 + 33)), (1, .int a1), (2, .int a2), (3, .int a3), (4, .int v20), (5, .int v21), (6, .int v22), (8, .int v24)]) hC dX12_away_134 rfl (by rw [h63]; rfl) (Nat.le_of_ble_eq_true rfl) rfl ?_
                    refine z_iload hC dX12_away_137 8 rfl ?_
                    refine z_iload hC dX12_away_139 1 rfl ?_
                    refine z_iadd hC dX12_away_141 ?_
                    refine z_topi (fun v64 h65 => ?_)
                    replace E := E v64 h65
                    refine z_istore (lv' := [(6, .int v64), (7, .int v62), (9, .int v53), (0, .ref (G.1 + 33)), (1, .int a1), (2, .int a2), (3, .int a3), (4, .int v20), (5, .int v21), (8, .int v24)]) hC dX12_away_142 (Nat.le_of_ble_eq_true rfl) rfl ?_
                    refine z_sub [3, 4, 5, 6, 7, 8, 0, 1, 9] rfl ?_
                    exact hK43 v20 v21 v64 v62 E
                  · replace E := E.2 c61
                    obtain ⟨v66, h67⟩ : ∃ y : Int32, y = v21 + 1 := ⟨_, rfl⟩
                    replace E := E v66 h67
                    refine z_iinc (q := 6) (v := v66) (lv' := [(5, .int v66), (9, .int v53), (0, .ref (G.1 + 33)), (1, .int a1), (2, .int a2), (3, .int a3), (4, .int v20), (6, .int v22), (7, .int v23), (8, .int v24)]) hC dX12_away_121 rfl (by rw [h67]; rfl) (Nat.le_of_ble_eq_true rfl) rfl ?_
                    refine z_iload hC dX12_away_124 6 rfl ?_
                    refine z_iload hC dX12_away_126 1 rfl ?_
                    refine z_iadd hC dX12_away_128 ?_
                    refine z_topi (fun v68 h69 => ?_)
                    replace E := E v68 h69
                    refine z_istore (lv' := [(4, .int v68), (5, .int v66), (9, .int v53), (0, .ref (G.1 + 33)), (1, .int a1), (2, .int a2), (3, .int a3), (6, .int v22), (7, .int v23), (8, .int v24)]) hC dX12_away_129 (Nat.le_of_ble_eq_true rfl) rfl ?_
                    refine z_goto (tgt := 144) hC dX12_away_131 (by decide) ?_
                    refine z_sub [3, 4, 5, 6, 0, 1, 7, 8, 9] rfl ?_
                    exact hK43 v68 v66 v22 v23 E)
                replace E := EE
                clear EE
                refine z_icmp_ne (tgt := 103) hC dX12_away_96 (by decide) (fun c70 => ?_) (fun c70 => ?_)
                · replace E := E.1 c70
                  refine z_iconst (v := 0) hC dX12_away_103 rfl ?_
                  exact hK55 (0 : Int32) E
                · replace E := E.2 c70
                  refine z_iconst (v := 1) hC dX12_away_99 rfl ?_
                  refine z_goto (tgt := 104) hC dX12_away_100 (by decide) ?_
                  exact hK55 (1 : Int32) E
              · replace E := E.2 c52
                refine z_goto (tgt := 144) hC dX12_away_85 (by decide) ?_
                exact hK43 v20 v21 v22 v23 E
        · replace E := E.2 c19
          refine z_bipush (v := -2) hC dX12_away_33 rfl ?_
          exact z_iret hC dX12_away_35 (Nat.le_refl _) (Nat.le_refl _) ⟨_, rfl, rfl, rfl, E⟩
      · replace E := E.2 c18
        refine z_iconst (v := -1) hC dX12_away_26 rfl ?_
        exact z_iret hC dX12_away_27 (Nat.le_refl _) (Nat.le_refl _) ⟨_, rfl, rfl, rfl, E⟩
def fX12_nextByte  (D : Dy) (post : Int32 → Prop) : Prop :=
  (((D.1 33 20) ≤ (D.1 33 21) → post (-1 : Int32)) ∧ (¬ (D.1 33 20) ≤ (D.1 33 21) → (vp_in ((D.1 33 19) + (D.1 33 21)) 1320 ∧ post (D.1 44 (((D.1 33 19) + (D.1 33 21))).toNatClampNeg))))
set_option maxHeartbeats 4000000 in
set_option maxRecDepth 100000 in
theorem ct_X12_nextByte {l : Launch} {G : Gl} {S : Sh} {D : Dy} (hF : FM S)  {post : Int32 → Prop} (E : fX12_nextByte D post) : Ct l G yX12_nextByte cX12_nextByte 1 (some .int) 0 0 0 S D [.ref (G.1 + 33)] (PIr S D post) := by
  refine z_enter (lv0 := [(0, .ref (G.1 + 33))]) pl_12 (Nat.le_of_ble_eq_true rfl) rfl ?_
  intro p e s m args below meth c hC hnm
  unfold fX12_nextByte at E
  refine z_aload_n hC dX12_nextByte_0 rfl 0 rfl ?_
  refine z_get hC lf_X12_74_12 (kM_33 hF) dX12_nextByte_1 (fV_int rfl) ?_
  refine z_aload_n hC dX12_nextByte_4 rfl 0 rfl ?_
  refine z_get hC lf_X12_71_12 (kM_33 hF) dX12_nextByte_5 (fV_int rfl) ?_
  refine z_icmp_ge (tgt := 28) hC dX12_nextByte_8 (by decide) (fun c1 => ?_) (fun c1 => ?_)
  · replace E := E.1 c1
    refine z_iconst (v := -1) hC dX12_nextByte_28 rfl ?_
    exact z_iret hC dX12_nextByte_29 (Nat.le_refl _) (Nat.le_refl _) ⟨_, rfl, rfl, rfl, E⟩
  · replace E := E.2 c1
    refine z_aload_n hC dX12_nextByte_11 rfl 0 rfl ?_
    refine z_get hC lf_X12_59_12 (kM_33 hF) dX12_nextByte_12 (fV_ref rfl (rM_33_16 hF)) ?_
    refine z_aload_n hC dX12_nextByte_15 rfl 0 rfl ?_
    refine z_get hC lf_X12_68_12 (kM_33 hF) dX12_nextByte_16 (fV_int rfl) ?_
    refine z_aload_n hC dX12_nextByte_19 rfl 0 rfl ?_
    refine z_get hC lf_X12_74_12 (kM_33 hF) dX12_nextByte_20 (fV_int rfl) ?_
    refine z_iadd hC dX12_nextByte_23 ?_
    refine z_iald hC (kM_44 hF) (nM_44 hF) E.1 dX12_nextByte_24 ?_
    replace E := E.2
    refine z_goto (tgt := 29) hC dX12_nextByte_25 (by decide) ?_
    exact z_iret hC dX12_nextByte_29 (Nat.le_refl _) (Nat.le_refl _) ⟨_, rfl, rfl, rfl, E⟩
def fX12_takes (a1 : Int32) (D : Dy) (post : Int32 → Dy → Prop) : Prop :=
  (fX12_nextByte D (fun (v1 : Int32) => ((v1 = a1 → (∀ D7 : Dy, D7 = sI D 33 21 ((D.1 33 21) + (1 : Int32)) → post (1 : Int32) D7)) ∧ (¬ v1 = a1 → post (0 : Int32) D))))
set_option maxHeartbeats 4000000 in
set_option maxRecDepth 100000 in
theorem ct_X12_takes {l : Launch} {G : Gl} {S : Sh} {D : Dy} (hF : FM S) {a1 : Int32} {post : Int32 → Dy → Prop} (E : fX12_takes a1 D post) : Ct l G yX12_takes cX12_takes 2 (some .boolean) 1 0 0 S D [.ref (G.1 + 33), .int a1] (PI S post) := by
  refine z_enter (lv0 := [(0, .ref (G.1 + 33)), (1, .int a1)]) pl_12 (Nat.le_of_ble_eq_true rfl) rfl ?_
  intro p e s m args below meth c hC hnm
  unfold fX12_takes at E
  refine z_aload_n hC dX12_takes_0 rfl 0 rfl ?_
  refine z_callV (ci := 12) (rest := []) hC (ck_mk lk_X12_199 in_X12_nextByte cd_X12_nextByte ds_X12_nextByte (Nat.le_of_ble_eq_true rfl) (Nat.le_of_ble_eq_true rfl)) iy_X12_nextByte sy_X12_nextByte cf_12 (by decide) (kM_33 hF) (ct_X12_nextByte hF E) rfl rfl (Nat.le_of_ble_eq_true rfl) ⟨Nat.le_refl _, Nat.le_refl _⟩ dX12_takes_1 ?_
  rintro _ _ _ ⟨v1, rfl, rfl, rfl, E⟩
  refine z_iload_n hC dX12_takes_4 rfl 1 rfl ?_
  refine z_icmp_eq (tgt := 10) hC dX12_takes_5 (by decide) (fun c6 => ?_) (fun c6 => ?_)
  · replace E := E.1 c6
    refine z_aload_n hC dX12_takes_10 rfl 0 rfl ?_
    refine z_dup hC dX12_takes_11 rfl ?_
    refine z_get hC lf_X12_74_12 (kM_33 hF) dX12_takes_12 (fV_int rfl) ?_
    refine z_iconst (v := 1) hC dX12_takes_15 rfl ?_
    refine z_iadd hC dX12_takes_16 ?_
    refine z_puti hC lf_X12_74_12 rfl (kM_33 hF) dX12_takes_17 ?_
    refine z_topD (fun D7 h8 => ?_)
    replace E := E D7 h8
    refine z_iconst (v := 1) hC dX12_takes_20 rfl ?_
    exact z_zret hC dX12_takes_21 (Or.inr rfl) (Nat.le_refl _) (Nat.le_refl _) ⟨_, rfl, rfl, E⟩
  · replace E := E.2 c6
    refine z_iconst (v := 0) hC dX12_takes_8 rfl ?_
    exact z_zret hC dX12_takes_9 (Or.inl rfl) (Nat.le_refl _) (Nat.le_refl _) ⟨_, rfl, rfl, E⟩
def fX12_takesWord (a1 : Int32) (a2 : Int32) (D : Dy) (post : Int32 → Dy → Prop) : Prop :=
  (∀ v1 : Int32, v1 = (a2 - (1 : Int32)) → (LP2 (fun (rec5 : Int32 → Dy → Prop) (v3 : Int32) (D4 : Dy) => ((v3 < 0 → (fX12_takes (32 : Int32) D4 (fun (v9 : Int32) (D13 : Dy) => ((v9 = 0 ∨ v9 = 1) ∧ post v9 D13)))) ∧ (¬ v3 < 0 → (fX12_takes ((96 : Int32) + ((a1 >>> (((5 : Int32) * v3) &&& 31)) &&& (31 : Int32))) D4 (fun (v15 : Int32) (D19 : Dy) => ((¬ v15 = 0 → (∀ v21 : Int32, v21 = v3 + (-1) → (rec5 v21 D19))) ∧ (v15 = 0 → post (0 : Int32) D19))))))) FU v1 D))
set_option maxHeartbeats 4000000 in
set_option maxRecDepth 100000 in
theorem ct_X12_takesWord {l : Launch} {G : Gl} {S : Sh} {D : Dy} (hF : FM S) {a1 : Int32} {a2 : Int32} {post : Int32 → Dy → Prop} (E : fX12_takesWord a1 a2 D post) : Ct l G yX12_takesWord cX12_takesWord 4 (some .boolean) 2 0 0 S D [.ref (G.1 + 33), .int a1, .int a2] (PI S post) := by
  refine z_enter (lv0 := [(0, .ref (G.1 + 33)), (1, .int a1), (2, .int a2)]) pl_12 (Nat.le_of_ble_eq_true rfl) rfl ?_
  intro p e s m args below meth c hC hnm
  unfold fX12_takesWord at E
  refine z_iload_n hC dX12_takesWord_0 rfl 2 rfl ?_
  refine z_iconst (v := 1) hC dX12_takesWord_1 rfl ?_
  refine z_isub hC dX12_takesWord_2 ?_
  refine z_topi (fun v1 h2 => ?_)
  replace E := E v1 h2
  refine z_istore_n (lv' := [(3, .int v1), (0, .ref (G.1 + 33)), (1, .int a1), (2, .int a2)]) hC dX12_takesWord_3 rfl (Nat.le_of_ble_eq_true rfl) rfl ?_
  refine z_sub [1, 2, 0] rfl ?_
  refine LP2_use (fun (v3 : Int32) (D4 : Dy) => ZM l G p e s m args below meth c 4 2 S (PI S post) S D4 4 [(0, .ref (G.1 + 33)), (1, .int a1), (3, .int v3)] []) ?_ FU v1 D E
  intro rec5 hrec6 v3 D4 E
  refine z_iload_n hC dX12_takesWord_4 rfl 2 rfl ?_
  refine z_if_lt (tgt := 34) hC dX12_takesWord_5 (by decide) (fun c7 => ?_) (fun c7 => ?_)
  · replace E := E.1 c7
    refine z_aload_n hC dX12_takesWord_34 rfl 0 rfl ?_
    refine z_bipush (v := 32) hC dX12_takesWord_35 rfl ?_
    refine z_callV (ci := 12) (rest := []) hC (ck_mk lk_X12_203 in_X12_takes cd_X12_takes ds_X12_takes (Nat.le_of_ble_eq_true rfl) (Nat.le_of_ble_eq_true rfl)) iy_X12_takes sy_X12_takes cf_12 (by decide) (kM_33 hF) (ct_X12_takes hF E) rfl rfl (Nat.le_of_ble_eq_true rfl) ⟨Nat.le_refl _, Nat.le_refl _⟩ dX12_takesWord_37 ?_
    rintro _ _ D13 ⟨v9, rfl, rfl, E⟩
    exact z_zret hC dX12_takesWord_40 E.1 (Nat.le_refl _) (Nat.le_refl _) ⟨_, rfl, rfl, E.2⟩
  · replace E := E.2 c7
    refine z_aload_n hC dX12_takesWord_8 rfl 0 rfl ?_
    refine z_bipush (v := 96) hC dX12_takesWord_9 rfl ?_
    refine z_iload_n hC dX12_takesWord_11 rfl 1 rfl ?_
    refine z_iconst (v := 5) hC dX12_takesWord_12 rfl ?_
    refine z_iload_n hC dX12_takesWord_13 rfl 2 rfl ?_
    refine z_imul hC dX12_takesWord_14 ?_
    refine z_ishr hC dX12_takesWord_15 ?_
    refine z_bipush (v := 31) hC dX12_takesWord_16 rfl ?_
    refine z_iand hC dX12_takesWord_18 ?_
    refine z_iadd hC dX12_takesWord_19 ?_
    refine z_callV (ci := 12) (rest := []) hC (ck_mk lk_X12_203 in_X12_takes cd_X12_takes ds_X12_takes (Nat.le_of_ble_eq_true rfl) (Nat.le_of_ble_eq_true rfl)) iy_X12_takes sy_X12_takes cf_12 (by decide) (kM_33 hF) (ct_X12_takes hF E) rfl rfl (Nat.le_of_ble_eq_true rfl) ⟨Nat.le_refl _, Nat.le_refl _⟩ dX12_takesWord_20 ?_
    rintro _ _ D19 ⟨v15, rfl, rfl, E⟩
    refine z_if_ne (tgt := 28) hC dX12_takesWord_23 (by decide) (fun c20 => ?_) (fun c20 => ?_)
    · replace E := E.1 c20
      obtain ⟨v21, h22⟩ : ∃ y : Int32, y = v3 + (-1) := ⟨_, rfl⟩
      replace E := E v21 h22
      refine z_iinc (q := 2) (v := v21) (lv' := [(3, .int v21), (0, .ref (G.1 + 33)), (1, .int a1)]) hC dX12_takesWord_28 rfl (by rw [h22]; rfl) (Nat.le_of_ble_eq_true rfl) rfl ?_
      refine z_goto (tgt := 4) hC dX12_takesWord_31 (by decide) ?_
      refine z_sub [1, 2, 0] rfl ?_
      exact hrec6 v21 D19 E
    · replace E := E.2 c20
      refine z_iconst (v := 0) hC dX12_takesWord_26 rfl ?_
      exact z_zret hC dX12_takesWord_27 (Or.inl rfl) (Nat.le_refl _) (Nat.le_refl _) ⟨_, rfl, rfl, E⟩
def fX12_takesFigure (a1 : Int32) (a2 : Int32) (D : Dy) (post : Int32 → Dy → Prop) : Prop :=
  (fX12_nextByte D (fun (v1 : Int32) => (fX12_in (v1 - (48 : Int32)) a1 a2 (fun (v7 : Int32) => ((¬ v7 = 0 → (fX12_nextByte D (fun (v12 : Int32) => (∀ D17 : Dy, D17 = sI D 33 23 (v12 - (48 : Int32)) → (∀ D19 : Dy, D19 = sI D17 33 21 ((D17.1 33 21) + (1 : Int32)) → post (1 : Int32) D19))))) ∧ (v7 = 0 → post (0 : Int32) D))))))
set_option maxHeartbeats 4000000 in
set_option maxRecDepth 100000 in
theorem ct_X12_takesFigure {l : Launch} {G : Gl} {S : Sh} {D : Dy} (hF : FM S) {a1 : Int32} {a2 : Int32} {post : Int32 → Dy → Prop} (E : fX12_takesFigure a1 a2 D post) : Ct l G yX12_takesFigure cX12_takesFigure 3 (some .boolean) 1 0 0 S D [.ref (G.1 + 33), .int a1, .int a2] (PI S post) := by
  refine z_enter (lv0 := [(0, .ref (G.1 + 33)), (1, .int a1), (2, .int a2)]) pl_12 (Nat.le_of_ble_eq_true rfl) rfl ?_
  intro p e s m args below meth c hC hnm
  unfold fX12_takesFigure at E
  refine z_aload_n hC dX12_takesFigure_0 rfl 0 rfl ?_
  refine z_aload_n hC dX12_takesFigure_1 rfl 0 rfl ?_
  refine z_callV (ci := 12) (rest := [.ref (G.1 + 33)]) hC (ck_mk lk_X12_199 in_X12_nextByte cd_X12_nextByte ds_X12_nextByte (Nat.le_of_ble_eq_true rfl) (Nat.le_of_ble_eq_true rfl)) iy_X12_nextByte sy_X12_nextByte cf_12 (by decide) (kM_33 hF) (ct_X12_nextByte hF E) rfl rfl (Nat.le_of_ble_eq_true rfl) ⟨Nat.le_refl _, Nat.le_refl _⟩ dX12_takesFigure_2 ?_
  rintro _ _ _ ⟨v1, rfl, rfl, rfl, E⟩
  refine z_bipush (v := 48) hC dX12_takesFigure_5 rfl ?_
  refine z_isub hC dX12_takesFigure_7 ?_
  refine z_iload_n hC dX12_takesFigure_8 rfl 1 rfl ?_
  refine z_iload_n hC dX12_takesFigure_9 rfl 2 rfl ?_
  refine z_callV (ci := 12) (rest := []) hC (ck_mk lk_X12_178 in_X12_in cd_X12_in ds_X12_in (Nat.le_of_ble_eq_true rfl) (Nat.le_of_ble_eq_true rfl)) iy_X12_in sy_X12_in cf_12 (by decide) (kM_33 hF) (ct_X12_in hF E) rfl rfl (Nat.le_of_ble_eq_true rfl) ⟨Nat.le_refl _, Nat.le_refl _⟩ dX12_takesFigure_10 ?_
  rintro _ _ _ ⟨v7, rfl, rfl, rfl, E⟩
  refine z_if_ne (tgt := 18) hC dX12_takesFigure_13 (by decide) (fun c11 => ?_) (fun c11 => ?_)
  · replace E := E.1 c11
    refine z_aload_n hC dX12_takesFigure_18 rfl 0 rfl ?_
    refine z_aload_n hC dX12_takesFigure_19 rfl 0 rfl ?_
    refine z_callV (ci := 12) (rest := [.ref (G.1 + 33)]) hC (ck_mk lk_X12_199 in_X12_nextByte cd_X12_nextByte ds_X12_nextByte (Nat.le_of_ble_eq_true rfl) (Nat.le_of_ble_eq_true rfl)) iy_X12_nextByte sy_X12_nextByte cf_12 (by decide) (kM_33 hF) (ct_X12_nextByte hF E) rfl rfl (Nat.le_of_ble_eq_true rfl) ⟨Nat.le_refl _, Nat.le_refl _⟩ dX12_takesFigure_20 ?_
    rintro _ _ _ ⟨v12, rfl, rfl, rfl, E⟩
    refine z_bipush (v := 48) hC dX12_takesFigure_23 rfl ?_
    refine z_isub hC dX12_takesFigure_25 ?_
    refine z_puti hC lf_X12_80_12 rfl (kM_33 hF) dX12_takesFigure_26 ?_
    refine z_topD (fun D17 h18 => ?_)
    replace E := E D17 h18
    refine z_aload_n hC dX12_takesFigure_29 rfl 0 rfl ?_
    refine z_dup hC dX12_takesFigure_30 rfl ?_
    refine z_get hC lf_X12_74_12 (kM_33 hF) dX12_takesFigure_31 (fV_int rfl) ?_
    refine z_iconst (v := 1) hC dX12_takesFigure_34 rfl ?_
    refine z_iadd hC dX12_takesFigure_35 ?_
    refine z_puti hC lf_X12_74_12 rfl (kM_33 hF) dX12_takesFigure_36 ?_
    refine z_topD (fun D19 h20 => ?_)
    replace E := E D19 h20
    refine z_iconst (v := 1) hC dX12_takesFigure_39 rfl ?_
    exact z_zret hC dX12_takesFigure_40 (Or.inr rfl) (Nat.le_refl _) (Nat.le_refl _) ⟨_, rfl, rfl, E⟩
  · replace E := E.2 c11
    refine z_iconst (v := 0) hC dX12_takesFigure_16 rfl ?_
    exact z_zret hC dX12_takesFigure_17 (Or.inl rfl) (Nat.le_refl _) (Nat.le_refl _) ⟨_, rfl, rfl, E⟩
def fX12_isDigit  (D : Dy) (post : Int32 → Prop) : Prop :=
  (fX12_nextByte D (fun (v1 : Int32) => (fX12_in v1 (48 : Int32) (57 : Int32) (fun (v7 : Int32) => ((v7 = 0 ∨ v7 = 1) ∧ post v7)))))
set_option maxHeartbeats 4000000 in
set_option maxRecDepth 100000 in
theorem ct_X12_isDigit {l : Launch} {G : Gl} {S : Sh} {D : Dy} (hF : FM S)  {post : Int32 → Prop} (E : fX12_isDigit D post) : Ct l G yX12_isDigit cX12_isDigit 1 (some .boolean) 1 0 0 S D [.ref (G.1 + 33)] (PIr S D post) := by
  refine z_enter (lv0 := [(0, .ref (G.1 + 33))]) pl_12 (Nat.le_of_ble_eq_true rfl) rfl ?_
  intro p e s m args below meth c hC hnm
  unfold fX12_isDigit at E
  refine z_aload_n hC dX12_isDigit_0 rfl 0 rfl ?_
  refine z_aload_n hC dX12_isDigit_1 rfl 0 rfl ?_
  refine z_callV (ci := 12) (rest := [.ref (G.1 + 33)]) hC (ck_mk lk_X12_199 in_X12_nextByte cd_X12_nextByte ds_X12_nextByte (Nat.le_of_ble_eq_true rfl) (Nat.le_of_ble_eq_true rfl)) iy_X12_nextByte sy_X12_nextByte cf_12 (by decide) (kM_33 hF) (ct_X12_nextByte hF E) rfl rfl (Nat.le_of_ble_eq_true rfl) ⟨Nat.le_refl _, Nat.le_refl _⟩ dX12_isDigit_2 ?_
  rintro _ _ _ ⟨v1, rfl, rfl, rfl, E⟩
  refine z_bipush (v := 48) hC dX12_isDigit_5 rfl ?_
  refine z_bipush (v := 57) hC dX12_isDigit_7 rfl ?_
  refine z_callV (ci := 12) (rest := []) hC (ck_mk lk_X12_178 in_X12_in cd_X12_in ds_X12_in (Nat.le_of_ble_eq_true rfl) (Nat.le_of_ble_eq_true rfl)) iy_X12_in sy_X12_in cf_12 (by decide) (kM_33 hF) (ct_X12_in hF E) rfl rfl (Nat.le_of_ble_eq_true rfl) ⟨Nat.le_refl _, Nat.le_refl _⟩ dX12_isDigit_9 ?_
  rintro _ _ _ ⟨v7, rfl, rfl, rfl, E⟩
  exact z_zret hC dX12_isDigit_12 E.1 (Nat.le_refl _) (Nat.le_refl _) ⟨_, rfl, rfl, rfl, E.2⟩
def fX12_takesNumber  (D : Dy) (post : Int32 → Dy → Prop) : Prop :=
  (fX12_isDigit D (fun (v2 : Int32) => ((¬ v2 = 0 → (∀ D7 : Dy, D7 = sI D 33 23 (0 : Int32) → (LP2 (fun (rec11 : Int32 → Dy → Prop) (v9 : Int32) (D10 : Dy) => (((3 : Int32) ≤ v9 → post (1 : Int32) D10) ∧ (¬ (3 : Int32) ≤ v9 → (fX12_isDigit D10 (fun (v15 : Int32) => ((v15 = 0 → post (1 : Int32) D10) ∧ (¬ v15 = 0 → (fX12_nextByte D10 (fun (v20 : Int32) => (∀ D25 : Dy, D25 = sI D10 33 23 ((((10 : Int32) * (D10.1 33 23)) + v20) - (48 : Int32)) → (∀ D27 : Dy, D27 = sI D25 33 21 ((D25.1 33 21) + (1 : Int32)) → (∀ v29 : Int32, v29 = v9 + 1 → (rec11 v29 D27))))))))))))) FU (0 : Int32) D7))) ∧ (v2 = 0 → post (0 : Int32) D))))
set_option maxHeartbeats 4000000 in
set_option maxRecDepth 100000 in
theorem ct_X12_takesNumber {l : Launch} {G : Gl} {S : Sh} {D : Dy} (hF : FM S)  {post : Int32 → Dy → Prop} (E : fX12_takesNumber D post) : Ct l G yX12_takesNumber cX12_takesNumber 2 (some .boolean) 2 0 0 S D [.ref (G.1 + 33)] (PI S post) := by
  refine z_enter (lv0 := [(0, .ref (G.1 + 33))]) pl_12 (Nat.le_of_ble_eq_true rfl) rfl ?_
  intro p e s m args below meth c hC hnm
  unfold fX12_takesNumber at E
  refine z_aload_n hC dX12_takesNumber_0 rfl 0 rfl ?_
  refine z_callV (ci := 12) (rest := []) hC (ck_mk lk_X12_206 in_X12_isDigit cd_X12_isDigit ds_X12_isDigit (Nat.le_of_ble_eq_true rfl) (Nat.le_of_ble_eq_true rfl)) iy_X12_isDigit sy_X12_isDigit cf_12 (by decide) (kM_33 hF) (ct_X12_isDigit hF E) rfl rfl (Nat.le_of_ble_eq_true rfl) ⟨Nat.le_refl _, Nat.le_refl _⟩ dX12_takesNumber_1 ?_
  rintro _ _ _ ⟨v2, rfl, rfl, rfl, E⟩
  refine z_if_ne (tgt := 9) hC dX12_takesNumber_4 (by decide) (fun c6 => ?_) (fun c6 => ?_)
  · replace E := E.1 c6
    refine z_aload_n hC dX12_takesNumber_9 rfl 0 rfl ?_
    refine z_iconst (v := 0) hC dX12_takesNumber_10 rfl ?_
    refine z_puti hC lf_X12_80_12 rfl (kM_33 hF) dX12_takesNumber_11 ?_
    refine z_topD (fun D7 h8 => ?_)
    replace E := E D7 h8
    refine z_iconst (v := 0) hC dX12_takesNumber_14 rfl ?_
    refine z_istore_n (lv' := [(1, .int (0 : Int32)), (0, .ref (G.1 + 33))]) hC dX12_takesNumber_15 rfl (Nat.le_of_ble_eq_true rfl) rfl ?_
    refine z_sub [1, 0] rfl ?_
    refine LP2_use (fun (v9 : Int32) (D10 : Dy) => ZM l G p e s m args below meth c 2 2 S (PI S post) S D10 16 [(0, .ref (G.1 + 33)), (1, .int v9)] []) ?_ FU (0 : Int32) D7 E
    intro rec11 hrec12 v9 D10 E
    refine z_iload_n hC dX12_takesNumber_16 rfl 1 rfl ?_
    refine z_iconst (v := 3) hC dX12_takesNumber_17 rfl ?_
    refine z_icmp_ge (tgt := 63) hC dX12_takesNumber_18 (by decide) (fun c13 => ?_) (fun c13 => ?_)
    · replace E := E.1 c13
      refine z_iconst (v := 1) hC dX12_takesNumber_63 rfl ?_
      exact z_zret hC dX12_takesNumber_64 (Or.inr rfl) (Nat.le_refl _) (Nat.le_refl _) ⟨_, rfl, rfl, E⟩
    · replace E := E.2 c13
      refine z_aload_n hC dX12_takesNumber_21 rfl 0 rfl ?_
      refine z_callV (ci := 12) (rest := []) hC (ck_mk lk_X12_206 in_X12_isDigit cd_X12_isDigit ds_X12_isDigit (Nat.le_of_ble_eq_true rfl) (Nat.le_of_ble_eq_true rfl)) iy_X12_isDigit sy_X12_isDigit cf_12 (by decide) (kM_33 hF) (ct_X12_isDigit hF E) rfl rfl (Nat.le_of_ble_eq_true rfl) ⟨Nat.le_refl _, Nat.le_refl _⟩ dX12_takesNumber_22 ?_
      rintro _ _ _ ⟨v15, rfl, rfl, rfl, E⟩
      refine z_if_eq (tgt := 63) hC dX12_takesNumber_25 (by decide) (fun c19 => ?_) (fun c19 => ?_)
      · replace E := E.1 c19
        refine z_iconst (v := 1) hC dX12_takesNumber_63 rfl ?_
        exact z_zret hC dX12_takesNumber_64 (Or.inr rfl) (Nat.le_refl _) (Nat.le_refl _) ⟨_, rfl, rfl, E⟩
      · replace E := E.2 c19
        refine z_aload_n hC dX12_takesNumber_28 rfl 0 rfl ?_
        refine z_bipush (v := 10) hC dX12_takesNumber_29 rfl ?_
        refine z_aload_n hC dX12_takesNumber_31 rfl 0 rfl ?_
        refine z_get hC lf_X12_80_12 (kM_33 hF) dX12_takesNumber_32 (fV_int rfl) ?_
        refine z_imul hC dX12_takesNumber_35 ?_
        refine z_aload_n hC dX12_takesNumber_36 rfl 0 rfl ?_
        refine z_callV (ci := 12) (rest := [.int ((10 : Int32) * (D10.1 33 23)), .ref (G.1 + 33)]) hC (ck_mk lk_X12_199 in_X12_nextByte cd_X12_nextByte ds_X12_nextByte (Nat.le_of_ble_eq_true rfl) (Nat.le_of_ble_eq_true rfl)) iy_X12_nextByte sy_X12_nextByte cf_12 (by decide) (kM_33 hF) (ct_X12_nextByte hF E) rfl rfl (Nat.le_of_ble_eq_true rfl) ⟨Nat.le_refl _, Nat.le_refl _⟩ dX12_takesNumber_37 ?_
        rintro _ _ _ ⟨v20, rfl, rfl, rfl, E⟩
        refine z_iadd hC dX12_takesNumber_40 ?_
        refine z_bipush (v := 48) hC dX12_takesNumber_41 rfl ?_
        refine z_isub hC dX12_takesNumber_43 ?_
        refine z_puti hC lf_X12_80_12 rfl (kM_33 hF) dX12_takesNumber_44 ?_
        refine z_topD (fun D25 h26 => ?_)
        replace E := E D25 h26
        refine z_aload_n hC dX12_takesNumber_47 rfl 0 rfl ?_
        refine z_dup hC dX12_takesNumber_48 rfl ?_
        refine z_get hC lf_X12_74_12 (kM_33 hF) dX12_takesNumber_49 (fV_int rfl) ?_
        refine z_iconst (v := 1) hC dX12_takesNumber_52 rfl ?_
        refine z_iadd hC dX12_takesNumber_53 ?_
        refine z_puti hC lf_X12_74_12 rfl (kM_33 hF) dX12_takesNumber_54 ?_
        refine z_topD (fun D27 h28 => ?_)
        replace E := E D27 h28
        obtain ⟨v29, h30⟩ : ∃ y : Int32, y = v9 + 1 := ⟨_, rfl⟩
        replace E := E v29 h30
        refine z_iinc (q := 1) (v := v29) (lv' := [(1, .int v29), (0, .ref (G.1 + 33))]) hC dX12_takesNumber_57 rfl (by rw [h30]; rfl) (Nat.le_of_ble_eq_true rfl) rfl ?_
        refine z_goto (tgt := 16) hC dX12_takesNumber_60 (by decide) ?_
        refine z_sub [1, 0] rfl ?_
        exact hrec12 v29 D27 E
  · replace E := E.2 c6
    refine z_iconst (v := 0) hC dX12_takesNumber_7 rfl ?_
    exact z_zret hC dX12_takesNumber_8 (Or.inl rfl) (Nat.le_refl _) (Nat.le_refl _) ⟨_, rfl, rfl, E⟩
def fX12_takesWorth  (D : Dy) (post : Int32 → Dy → Prop) : Prop :=
  (fX12_takesWord (24627848 : Int32) (5 : Int32) D (fun (v2 : Int32) (D6 : Dy) => ((v2 = 0 → post (0 : Int32) D6) ∧ (¬ v2 = 0 → (fX12_takesFigure (0 : Int32) (5 : Int32) D6 (fun (v9 : Int32) (D13 : Dy) => ((¬ v9 = 0 → (∀ v15 : Int32, v15 = (D13.1 33 23) → (fX12_takes (32 : Int32) D13 (fun (v18 : Int32) (D22 : Dy) => ((v18 = 0 → post (0 : Int32) D22) ∧ (¬ v18 = 0 → (fX12_takesNumber D22 (fun (v25 : Int32) (D29 : Dy) => ((¬ v25 = 0 → (vp_in v15 6 ∧ (∀ D31 : Dy, D31 = sI D29 47 (v15).toNatClampNeg (D29.1 33 23) → post (1 : Int32) D31))) ∧ (v25 = 0 → post (0 : Int32) D29)))))))))) ∧ (v9 = 0 → post (0 : Int32) D13))))))))
set_option maxHeartbeats 4000000 in
set_option maxRecDepth 100000 in
theorem ct_X12_takesWorth {l : Launch} {G : Gl} {S : Sh} {D : Dy} (hF : FM S)  {post : Int32 → Dy → Prop} (E : fX12_takesWorth D post) : Ct l G yX12_takesWorth cX12_takesWorth 2 (some .boolean) 3 0 0 S D [.ref (G.1 + 33)] (PI S post) := by
  refine z_enter (lv0 := [(0, .ref (G.1 + 33))]) pl_12 (Nat.le_of_ble_eq_true rfl) rfl ?_
  intro p e s m args below meth c hC hnm
  unfold fX12_takesWorth at E
  refine z_aload_n hC dX12_takesWorth_0 rfl 0 rfl ?_
  refine z_ldc hC kc_X12_227 dX12_takesWorth_1 ?_
  refine z_iconst (v := 5) hC dX12_takesWorth_3 rfl ?_
  refine z_callV (ci := 12) (rest := []) hC (ck_mk lk_X12_228 in_X12_takesWord cd_X12_takesWord ds_X12_takesWord (Nat.le_of_ble_eq_true rfl) (Nat.le_of_ble_eq_true rfl)) iy_X12_takesWord sy_X12_takesWord cf_12 (by decide) (kM_33 hF) (ct_X12_takesWord hF E) rfl rfl (Nat.le_of_ble_eq_true rfl) ⟨Nat.le_refl _, Nat.le_refl _⟩ dX12_takesWorth_4 ?_
  rintro _ _ D6 ⟨v2, rfl, rfl, E⟩
  refine z_if_eq (tgt := 19) hC dX12_takesWorth_7 (by decide) (fun c7 => ?_) (fun c7 => ?_)
  · replace E := E.1 c7
    refine z_iconst (v := 0) hC dX12_takesWorth_19 rfl ?_
    exact z_zret hC dX12_takesWorth_20 (Or.inl rfl) (Nat.le_refl _) (Nat.le_refl _) ⟨_, rfl, rfl, E⟩
  · replace E := E.2 c7
    refine z_aload_n hC dX12_takesWorth_10 rfl 0 rfl ?_
    refine z_iconst (v := 0) hC dX12_takesWorth_11 rfl ?_
    refine z_iconst (v := 5) hC dX12_takesWorth_12 rfl ?_
    refine z_callV (ci := 12) (rest := []) hC (ck_mk lk_X12_217 in_X12_takesFigure cd_X12_takesFigure ds_X12_takesFigure (Nat.le_of_ble_eq_true rfl) (Nat.le_of_ble_eq_true rfl)) iy_X12_takesFigure sy_X12_takesFigure cf_12 (by decide) (kM_33 hF) (ct_X12_takesFigure hF E) rfl rfl (Nat.le_of_ble_eq_true rfl) ⟨Nat.le_refl _, Nat.le_refl _⟩ dX12_takesWorth_13 ?_
    rintro _ _ D13 ⟨v9, rfl, rfl, E⟩
    refine z_if_ne (tgt := 21) hC dX12_takesWorth_16 (by decide) (fun c14 => ?_) (fun c14 => ?_)
    · replace E := E.1 c14
      refine z_aload_n hC dX12_takesWorth_21 rfl 0 rfl ?_
      refine z_get hC lf_X12_80_12 (kM_33 hF) dX12_takesWorth_22 (fV_int rfl) ?_
      refine z_topi (fun v15 h16 => ?_)
      replace E := E v15 h16
      refine z_istore_n (lv' := [(1, .int v15), (0, .ref (G.1 + 33))]) hC dX12_takesWorth_25 rfl (Nat.le_of_ble_eq_true rfl) rfl ?_
      refine z_aload_n hC dX12_takesWorth_26 rfl 1 rfl ?_
      refine z_bipush (v := 32) hC dX12_takesWorth_27 rfl ?_
      refine z_callV (ci := 12) (rest := []) hC (ck_mk lk_X12_203 in_X12_takes cd_X12_takes ds_X12_takes (Nat.le_of_ble_eq_true rfl) (Nat.le_of_ble_eq_true rfl)) iy_X12_takes sy_X12_takes cf_12 (by decide) (kM_33 hF) (ct_X12_takes hF E) rfl rfl (Nat.le_of_ble_eq_true rfl) ⟨Nat.le_refl _, Nat.le_refl _⟩ dX12_takesWorth_29 ?_
      rintro _ _ D22 ⟨v18, rfl, rfl, E⟩
      refine z_if_eq (tgt := 42) hC dX12_takesWorth_32 (by decide) (fun c23 => ?_) (fun c23 => ?_)
      · replace E := E.1 c23
        refine z_iconst (v := 0) hC dX12_takesWorth_42 rfl ?_
        exact z_zret hC dX12_takesWorth_43 (Or.inl rfl) (Nat.le_refl _) (Nat.le_refl _) ⟨_, rfl, rfl, E⟩
      · replace E := E.2 c23
        refine z_aload_n hC dX12_takesWorth_35 rfl 1 rfl ?_
        refine z_callV (ci := 12) (rest := []) hC (ck_mk lk_X12_210 in_X12_takesNumber cd_X12_takesNumber ds_X12_takesNumber (Nat.le_of_ble_eq_true rfl) (Nat.le_of_ble_eq_true rfl)) iy_X12_takesNumber sy_X12_takesNumber cf_12 (by decide) (kM_33 hF) (ct_X12_takesNumber hF E) rfl rfl (Nat.le_of_ble_eq_true rfl) ⟨Nat.le_refl _, Nat.le_refl _⟩ dX12_takesWorth_36 ?_
        rintro _ _ D29 ⟨v25, rfl, rfl, E⟩
        refine z_if_ne (tgt := 44) hC dX12_takesWorth_39 (by decide) (fun c30 => ?_) (fun c30 => ?_)
        · replace E := E.1 c30
          refine z_aload_n hC dX12_takesWorth_44 rfl 1 rfl ?_
          refine z_get hC lf_X12_83_12 (kM_33 hF) dX12_takesWorth_45 (fV_ref rfl (rM_33_24 hF)) ?_
          refine z_iload_n hC dX12_takesWorth_48 rfl 0 rfl ?_
          refine z_aload_n hC dX12_takesWorth_49 rfl 1 rfl ?_
          refine z_get hC lf_X12_80_12 (kM_33 hF) dX12_takesWorth_50 (fV_int rfl) ?_
          refine z_iast hC (kM_47 hF) (nM_47 hF) E.1 dX12_takesWorth_53 ?_
          replace E := E.2
          refine z_topD (fun D31 h32 => ?_)
          replace E := E D31 h32
          refine z_iconst (v := 1) hC dX12_takesWorth_54 rfl ?_
          exact z_zret hC dX12_takesWorth_55 (Or.inr rfl) (Nat.le_refl _) (Nat.le_refl _) ⟨_, rfl, rfl, E⟩
        · replace E := E.2 c30
          refine z_iconst (v := 0) hC dX12_takesWorth_42 rfl ?_
          exact z_zret hC dX12_takesWorth_43 (Or.inl rfl) (Nat.le_refl _) (Nat.le_refl _) ⟨_, rfl, rfl, E⟩
    · replace E := E.2 c14
      refine z_iconst (v := 0) hC dX12_takesWorth_19 rfl ?_
      exact z_zret hC dX12_takesWorth_20 (Or.inl rfl) (Nat.le_refl _) (Nat.le_refl _) ⟨_, rfl, rfl, E⟩
def fX12_takesMark  (D : Dy) (post : Int32 → Dy → Prop) : Prop :=
  (fX12_takesWord (427595 : Int32) (4 : Int32) D (fun (v2 : Int32) (D6 : Dy) => ((v2 = 0 → post (0 : Int32) D6) ∧ (¬ v2 = 0 → (fX12_takesFigure (0 : Int32) (7 : Int32) D6 (fun (v9 : Int32) (D13 : Dy) => ((¬ v9 = 0 → (∀ v15 : Int32, v15 = (D13.1 33 23) → (fX12_takes (32 : Int32) D13 (fun (v18 : Int32) (D22 : Dy) => ((v18 = 0 → post (0 : Int32) D22) ∧ (¬ v18 = 0 → (fX12_takesNumber D22 (fun (v25 : Int32) (D29 : Dy) => ((¬ v25 = 0 → (vp_in v15 8 ∧ (∀ D31 : Dy, D31 = sI D29 48 (v15).toNatClampNeg (D29.1 33 23) → post (1 : Int32) D31))) ∧ (v25 = 0 → post (0 : Int32) D29)))))))))) ∧ (v9 = 0 → post (0 : Int32) D13))))))))
set_option maxHeartbeats 4000000 in
set_option maxRecDepth 100000 in
theorem ct_X12_takesMark {l : Launch} {G : Gl} {S : Sh} {D : Dy} (hF : FM S)  {post : Int32 → Dy → Prop} (E : fX12_takesMark D post) : Ct l G yX12_takesMark cX12_takesMark 2 (some .boolean) 3 0 0 S D [.ref (G.1 + 33)] (PI S post) := by
  refine z_enter (lv0 := [(0, .ref (G.1 + 33))]) pl_12 (Nat.le_of_ble_eq_true rfl) rfl ?_
  intro p e s m args below meth c hC hnm
  unfold fX12_takesMark at E
  refine z_aload_n hC dX12_takesMark_0 rfl 0 rfl ?_
  refine z_ldc hC kc_X12_231 dX12_takesMark_1 ?_
  refine z_iconst (v := 4) hC dX12_takesMark_3 rfl ?_
  refine z_callV (ci := 12) (rest := []) hC (ck_mk lk_X12_228 in_X12_takesWord cd_X12_takesWord ds_X12_takesWord (Nat.le_of_ble_eq_true rfl) (Nat.le_of_ble_eq_true rfl)) iy_X12_takesWord sy_X12_takesWord cf_12 (by decide) (kM_33 hF) (ct_X12_takesWord hF E) rfl rfl (Nat.le_of_ble_eq_true rfl) ⟨Nat.le_refl _, Nat.le_refl _⟩ dX12_takesMark_4 ?_
  rintro _ _ D6 ⟨v2, rfl, rfl, E⟩
  refine z_if_eq (tgt := 20) hC dX12_takesMark_7 (by decide) (fun c7 => ?_) (fun c7 => ?_)
  · replace E := E.1 c7
    refine z_iconst (v := 0) hC dX12_takesMark_20 rfl ?_
    exact z_zret hC dX12_takesMark_21 (Or.inl rfl) (Nat.le_refl _) (Nat.le_refl _) ⟨_, rfl, rfl, E⟩
  · replace E := E.2 c7
    refine z_aload_n hC dX12_takesMark_10 rfl 0 rfl ?_
    refine z_iconst (v := 0) hC dX12_takesMark_11 rfl ?_
    refine z_bipush (v := 7) hC dX12_takesMark_12 rfl ?_
    refine z_callV (ci := 12) (rest := []) hC (ck_mk lk_X12_217 in_X12_takesFigure cd_X12_takesFigure ds_X12_takesFigure (Nat.le_of_ble_eq_true rfl) (Nat.le_of_ble_eq_true rfl)) iy_X12_takesFigure sy_X12_takesFigure cf_12 (by decide) (kM_33 hF) (ct_X12_takesFigure hF E) rfl rfl (Nat.le_of_ble_eq_true rfl) ⟨Nat.le_refl _, Nat.le_refl _⟩ dX12_takesMark_14 ?_
    rintro _ _ D13 ⟨v9, rfl, rfl, E⟩
    refine z_if_ne (tgt := 22) hC dX12_takesMark_17 (by decide) (fun c14 => ?_) (fun c14 => ?_)
    · replace E := E.1 c14
      refine z_aload_n hC dX12_takesMark_22 rfl 0 rfl ?_
      refine z_get hC lf_X12_80_12 (kM_33 hF) dX12_takesMark_23 (fV_int rfl) ?_
      refine z_topi (fun v15 h16 => ?_)
      replace E := E v15 h16
      refine z_istore_n (lv' := [(1, .int v15), (0, .ref (G.1 + 33))]) hC dX12_takesMark_26 rfl (Nat.le_of_ble_eq_true rfl) rfl ?_
      refine z_aload_n hC dX12_takesMark_27 rfl 1 rfl ?_
      refine z_bipush (v := 32) hC dX12_takesMark_28 rfl ?_
      refine z_callV (ci := 12) (rest := []) hC (ck_mk lk_X12_203 in_X12_takes cd_X12_takes ds_X12_takes (Nat.le_of_ble_eq_true rfl) (Nat.le_of_ble_eq_true rfl)) iy_X12_takes sy_X12_takes cf_12 (by decide) (kM_33 hF) (ct_X12_takes hF E) rfl rfl (Nat.le_of_ble_eq_true rfl) ⟨Nat.le_refl _, Nat.le_refl _⟩ dX12_takesMark_30 ?_
      rintro _ _ D22 ⟨v18, rfl, rfl, E⟩
      refine z_if_eq (tgt := 43) hC dX12_takesMark_33 (by decide) (fun c23 => ?_) (fun c23 => ?_)
      · replace E := E.1 c23
        refine z_iconst (v := 0) hC dX12_takesMark_43 rfl ?_
        exact z_zret hC dX12_takesMark_44 (Or.inl rfl) (Nat.le_refl _) (Nat.le_refl _) ⟨_, rfl, rfl, E⟩
      · replace E := E.2 c23
        refine z_aload_n hC dX12_takesMark_36 rfl 1 rfl ?_
        refine z_callV (ci := 12) (rest := []) hC (ck_mk lk_X12_210 in_X12_takesNumber cd_X12_takesNumber ds_X12_takesNumber (Nat.le_of_ble_eq_true rfl) (Nat.le_of_ble_eq_true rfl)) iy_X12_takesNumber sy_X12_takesNumber cf_12 (by decide) (kM_33 hF) (ct_X12_takesNumber hF E) rfl rfl (Nat.le_of_ble_eq_true rfl) ⟨Nat.le_refl _, Nat.le_refl _⟩ dX12_takesMark_37 ?_
        rintro _ _ D29 ⟨v25, rfl, rfl, E⟩
        refine z_if_ne (tgt := 45) hC dX12_takesMark_40 (by decide) (fun c30 => ?_) (fun c30 => ?_)
        · replace E := E.1 c30
          refine z_aload_n hC dX12_takesMark_45 rfl 1 rfl ?_
          refine z_get hC lf_X12_86_12 (kM_33 hF) dX12_takesMark_46 (fV_ref rfl (rM_33_25 hF)) ?_
          refine z_iload_n hC dX12_takesMark_49 rfl 0 rfl ?_
          refine z_aload_n hC dX12_takesMark_50 rfl 1 rfl ?_
          refine z_get hC lf_X12_80_12 (kM_33 hF) dX12_takesMark_51 (fV_int rfl) ?_
          refine z_iast hC (kM_48 hF) (nM_48 hF) E.1 dX12_takesMark_54 ?_
          replace E := E.2
          refine z_topD (fun D31 h32 => ?_)
          replace E := E D31 h32
          refine z_iconst (v := 1) hC dX12_takesMark_55 rfl ?_
          exact z_zret hC dX12_takesMark_56 (Or.inr rfl) (Nat.le_refl _) (Nat.le_refl _) ⟨_, rfl, rfl, E⟩
        · replace E := E.2 c30
          refine z_iconst (v := 0) hC dX12_takesMark_43 rfl ?_
          exact z_zret hC dX12_takesMark_44 (Or.inl rfl) (Nat.le_refl _) (Nat.le_refl _) ⟨_, rfl, rfl, E⟩
    · replace E := E.2 c14
      refine z_iconst (v := 0) hC dX12_takesMark_20 rfl ?_
      exact z_zret hC dX12_takesMark_21 (Or.inl rfl) (Nat.le_refl _) (Nat.le_refl _) ⟨_, rfl, rfl, E⟩
def fX12_takesKind  (D : Dy) (post : Int32 → Dy → Prop) : Prop :=
  (fX12_takesWord (370116 : Int32) (4 : Int32) D (fun (v2 : Int32) (D6 : Dy) => ((v2 = 0 → post (0 : Int32) D6) ∧ (¬ v2 = 0 → (fX12_takesFigure (0 : Int32) (2 : Int32) D6 (fun (v9 : Int32) (D13 : Dy) => ((¬ v9 = 0 → (∀ v15 : Int32, v15 = (D13.1 33 23) → (fX12_takes (32 : Int32) D13 (fun (v18 : Int32) (D22 : Dy) => ((v18 = 0 → post (0 : Int32) D22) ∧ (¬ v18 = 0 → (fX12_takesFigure (0 : Int32) (9 : Int32) D22 (fun (v25 : Int32) (D29 : Dy) => ((¬ v25 = 0 → (∀ v31 : Int32, v31 = (D29.1 33 23) → (fX12_takes (32 : Int32) D29 (fun (v34 : Int32) (D38 : Dy) => ((v34 = 0 → post (0 : Int32) D38) ∧ (¬ v34 = 0 → (fX12_takesNumber D38 (fun (v41 : Int32) (D45 : Dy) => ((¬ v41 = 0 → (vp_in v15 3 ∧ (∀ D47 : Dy, D47 = sI D45 49 (v15).toNatClampNeg v31 → (vp_in v15 3 ∧ (∀ D49 : Dy, D49 = sI D47 50 (v15).toNatClampNeg (D47.1 33 23) → post (1 : Int32) D49))))) ∧ (v41 = 0 → post (0 : Int32) D45)))))))))) ∧ (v25 = 0 → post (0 : Int32) D29)))))))))) ∧ (v9 = 0 → post (0 : Int32) D13))))))))
set_option maxHeartbeats 4000000 in
set_option maxRecDepth 100000 in
theorem ct_X12_takesKind {l : Launch} {G : Gl} {S : Sh} {D : Dy} (hF : FM S)  {post : Int32 → Dy → Prop} (E : fX12_takesKind D post) : Ct l G yX12_takesKind cX12_takesKind 3 (some .boolean) 3 0 0 S D [.ref (G.1 + 33)] (PI S post) := by
  refine z_enter (lv0 := [(0, .ref (G.1 + 33))]) pl_12 (Nat.le_of_ble_eq_true rfl) rfl ?_
  intro p e s m args below meth c hC hnm
  unfold fX12_takesKind at E
  refine z_aload_n hC dX12_takesKind_0 rfl 0 rfl ?_
  refine z_ldc hC kc_X12_232 dX12_takesKind_1 ?_
  refine z_iconst (v := 4) hC dX12_takesKind_3 rfl ?_
  refine z_callV (ci := 12) (rest := []) hC (ck_mk lk_X12_228 in_X12_takesWord cd_X12_takesWord ds_X12_takesWord (Nat.le_of_ble_eq_true rfl) (Nat.le_of_ble_eq_true rfl)) iy_X12_takesWord sy_X12_takesWord cf_12 (by decide) (kM_33 hF) (ct_X12_takesWord hF E) rfl rfl (Nat.le_of_ble_eq_true rfl) ⟨Nat.le_refl _, Nat.le_refl _⟩ dX12_takesKind_4 ?_
  rintro _ _ D6 ⟨v2, rfl, rfl, E⟩
  refine z_if_eq (tgt := 19) hC dX12_takesKind_7 (by decide) (fun c7 => ?_) (fun c7 => ?_)
  · replace E := E.1 c7
    refine z_iconst (v := 0) hC dX12_takesKind_19 rfl ?_
    exact z_zret hC dX12_takesKind_20 (Or.inl rfl) (Nat.le_refl _) (Nat.le_refl _) ⟨_, rfl, rfl, E⟩
  · replace E := E.2 c7
    refine z_aload_n hC dX12_takesKind_10 rfl 0 rfl ?_
    refine z_iconst (v := 0) hC dX12_takesKind_11 rfl ?_
    refine z_iconst (v := 2) hC dX12_takesKind_12 rfl ?_
    refine z_callV (ci := 12) (rest := []) hC (ck_mk lk_X12_217 in_X12_takesFigure cd_X12_takesFigure ds_X12_takesFigure (Nat.le_of_ble_eq_true rfl) (Nat.le_of_ble_eq_true rfl)) iy_X12_takesFigure sy_X12_takesFigure cf_12 (by decide) (kM_33 hF) (ct_X12_takesFigure hF E) rfl rfl (Nat.le_of_ble_eq_true rfl) ⟨Nat.le_refl _, Nat.le_refl _⟩ dX12_takesKind_13 ?_
    rintro _ _ D13 ⟨v9, rfl, rfl, E⟩
    refine z_if_ne (tgt := 21) hC dX12_takesKind_16 (by decide) (fun c14 => ?_) (fun c14 => ?_)
    · replace E := E.1 c14
      refine z_aload_n hC dX12_takesKind_21 rfl 0 rfl ?_
      refine z_get hC lf_X12_80_12 (kM_33 hF) dX12_takesKind_22 (fV_int rfl) ?_
      refine z_topi (fun v15 h16 => ?_)
      replace E := E v15 h16
      refine z_istore_n (lv' := [(1, .int v15), (0, .ref (G.1 + 33))]) hC dX12_takesKind_25 rfl (Nat.le_of_ble_eq_true rfl) rfl ?_
      refine z_aload_n hC dX12_takesKind_26 rfl 1 rfl ?_
      refine z_bipush (v := 32) hC dX12_takesKind_27 rfl ?_
      refine z_callV (ci := 12) (rest := []) hC (ck_mk lk_X12_203 in_X12_takes cd_X12_takes ds_X12_takes (Nat.le_of_ble_eq_true rfl) (Nat.le_of_ble_eq_true rfl)) iy_X12_takes sy_X12_takes cf_12 (by decide) (kM_33 hF) (ct_X12_takes hF E) rfl rfl (Nat.le_of_ble_eq_true rfl) ⟨Nat.le_refl _, Nat.le_refl _⟩ dX12_takesKind_29 ?_
      rintro _ _ D22 ⟨v18, rfl, rfl, E⟩
      refine z_if_eq (tgt := 45) hC dX12_takesKind_32 (by decide) (fun c23 => ?_) (fun c23 => ?_)
      · replace E := E.1 c23
        refine z_iconst (v := 0) hC dX12_takesKind_45 rfl ?_
        exact z_zret hC dX12_takesKind_46 (Or.inl rfl) (Nat.le_refl _) (Nat.le_refl _) ⟨_, rfl, rfl, E⟩
      · replace E := E.2 c23
        refine z_aload_n hC dX12_takesKind_35 rfl 1 rfl ?_
        refine z_iconst (v := 0) hC dX12_takesKind_36 rfl ?_
        refine z_bipush (v := 9) hC dX12_takesKind_37 rfl ?_
        refine z_callV (ci := 12) (rest := []) hC (ck_mk lk_X12_217 in_X12_takesFigure cd_X12_takesFigure ds_X12_takesFigure (Nat.le_of_ble_eq_true rfl) (Nat.le_of_ble_eq_true rfl)) iy_X12_takesFigure sy_X12_takesFigure cf_12 (by decide) (kM_33 hF) (ct_X12_takesFigure hF E) rfl rfl (Nat.le_of_ble_eq_true rfl) ⟨Nat.le_refl _, Nat.le_refl _⟩ dX12_takesKind_39 ?_
        rintro _ _ D29 ⟨v25, rfl, rfl, E⟩
        refine z_if_ne (tgt := 47) hC dX12_takesKind_42 (by decide) (fun c30 => ?_) (fun c30 => ?_)
        · replace E := E.1 c30
          refine z_aload_n hC dX12_takesKind_47 rfl 1 rfl ?_
          refine z_get hC lf_X12_80_12 (kM_33 hF) dX12_takesKind_48 (fV_int rfl) ?_
          refine z_topi (fun v31 h32 => ?_)
          replace E := E v31 h32
          refine z_istore_n (lv' := [(2, .int v31), (1, .int v15), (0, .ref (G.1 + 33))]) hC dX12_takesKind_51 rfl (Nat.le_of_ble_eq_true rfl) rfl ?_
          refine z_aload_n hC dX12_takesKind_52 rfl 2 rfl ?_
          refine z_bipush (v := 32) hC dX12_takesKind_53 rfl ?_
          refine z_callV (ci := 12) (rest := []) hC (ck_mk lk_X12_203 in_X12_takes cd_X12_takes ds_X12_takes (Nat.le_of_ble_eq_true rfl) (Nat.le_of_ble_eq_true rfl)) iy_X12_takes sy_X12_takes cf_12 (by decide) (kM_33 hF) (ct_X12_takes hF E) rfl rfl (Nat.le_of_ble_eq_true rfl) ⟨Nat.le_refl _, Nat.le_refl _⟩ dX12_takesKind_55 ?_
          rintro _ _ D38 ⟨v34, rfl, rfl, E⟩
          refine z_if_eq (tgt := 68) hC dX12_takesKind_58 (by decide) (fun c39 => ?_) (fun c39 => ?_)
          · replace E := E.1 c39
            refine z_iconst (v := 0) hC dX12_takesKind_68 rfl ?_
            exact z_zret hC dX12_takesKind_69 (Or.inl rfl) (Nat.le_refl _) (Nat.le_refl _) ⟨_, rfl, rfl, E⟩
          · replace E := E.2 c39
            refine z_aload_n hC dX12_takesKind_61 rfl 2 rfl ?_
            refine z_callV (ci := 12) (rest := []) hC (ck_mk lk_X12_210 in_X12_takesNumber cd_X12_takesNumber ds_X12_takesNumber (Nat.le_of_ble_eq_true rfl) (Nat.le_of_ble_eq_true rfl)) iy_X12_takesNumber sy_X12_takesNumber cf_12 (by decide) (kM_33 hF) (ct_X12_takesNumber hF E) rfl rfl (Nat.le_of_ble_eq_true rfl) ⟨Nat.le_refl _, Nat.le_refl _⟩ dX12_takesKind_62 ?_
            rintro _ _ D45 ⟨v41, rfl, rfl, E⟩
            refine z_if_ne (tgt := 70) hC dX12_takesKind_65 (by decide) (fun c46 => ?_) (fun c46 => ?_)
            · replace E := E.1 c46
              refine z_aload_n hC dX12_takesKind_70 rfl 2 rfl ?_
              refine z_get hC lf_X12_89_12 (kM_33 hF) dX12_takesKind_71 (fV_ref rfl (rM_33_26 hF)) ?_
              refine z_iload_n hC dX12_takesKind_74 rfl 1 rfl ?_
              refine z_iload_n hC dX12_takesKind_75 rfl 0 rfl ?_
              refine z_iast hC (kM_49 hF) (nM_49 hF) E.1 dX12_takesKind_76 ?_
              replace E := E.2
              refine z_topD (fun D47 h48 => ?_)
              replace E := E D47 h48
              refine z_aload_n hC dX12_takesKind_77 rfl 2 rfl ?_
              refine z_get hC lf_X12_92_12 (kM_33 hF) dX12_takesKind_78 (fV_ref rfl (rM_33_27 hF)) ?_
              refine z_iload_n hC dX12_takesKind_81 rfl 1 rfl ?_
              refine z_aload_n hC dX12_takesKind_82 rfl 2 rfl ?_
              refine z_get hC lf_X12_80_12 (kM_33 hF) dX12_takesKind_83 (fV_int rfl) ?_
              refine z_iast hC (kM_50 hF) (nM_50 hF) E.1 dX12_takesKind_86 ?_
              replace E := E.2
              refine z_topD (fun D49 h50 => ?_)
              replace E := E D49 h50
              refine z_iconst (v := 1) hC dX12_takesKind_87 rfl ?_
              exact z_zret hC dX12_takesKind_88 (Or.inr rfl) (Nat.le_refl _) (Nat.le_refl _) ⟨_, rfl, rfl, E⟩
            · replace E := E.2 c46
              refine z_iconst (v := 0) hC dX12_takesKind_68 rfl ?_
              exact z_zret hC dX12_takesKind_69 (Or.inl rfl) (Nat.le_refl _) (Nat.le_refl _) ⟨_, rfl, rfl, E⟩
        · replace E := E.2 c30
          refine z_iconst (v := 0) hC dX12_takesKind_45 rfl ?_
          exact z_zret hC dX12_takesKind_46 (Or.inl rfl) (Nat.le_refl _) (Nat.le_refl _) ⟨_, rfl, rfl, E⟩
    · replace E := E.2 c14
      refine z_iconst (v := 0) hC dX12_takesKind_19 rfl ?_
      exact z_zret hC dX12_takesKind_20 (Or.inl rfl) (Nat.le_refl _) (Nat.le_refl _) ⟨_, rfl, rfl, E⟩
def fX12_push (a1 : Int32) (D : Dy) (post : Dy → Prop) : Prop :=
  (LP2 (fun (rec3 : Int32 → Dy → Prop) (v1 : Int32) (D2 : Dy) => (JN ((vp_in (D2.1 33 37) 121 ∧ ((v1 = 0 ∨ v1 = 1) ∧ (∀ D7 : Dy, D7 = sI D2 53 ((D2.1 33 37)).toNatClampNeg v1 → (∀ D9 : Dy, D9 = sI D7 33 37 ((D7.1 33 37) + (1 : Int32)) → post D9))))) (fun K5 : Prop => (((D2.1 33 36) ≤ 0 → K5) ∧ (¬ (D2.1 33 36) ≤ 0 → (vp_in ((D2.1 33 36) - (1 : Int32)) 121 ∧ ((¬ (D2.1 52 (((D2.1 33 36) - (1 : Int32))).toNatClampNeg) = (33 : Int32) → K5) ∧ ((D2.1 52 (((D2.1 33 36) - (1 : Int32))).toNatClampNeg) = (33 : Int32) → (JN (fun (v13 : Int32) => (∀ D16 : Dy, D16 = sI D2 33 36 ((D2.1 33 36) - (1 : Int32)) → (∀ D18 : Dy, D18 = sI D16 33 38 ((D16.1 33 38) - (1 : Int32)) → (rec3 v13 D18)))) (fun K14 : Int32 → Prop => ((¬ v1 = 0 → (K14 (0 : Int32))) ∧ (v1 = 0 → (K14 (1 : Int32)))))))))))))) FU a1 D)
set_option maxHeartbeats 4000000 in
set_option maxRecDepth 100000 in
theorem ct_X12_push {l : Launch} {G : Gl} {S : Sh} {D : Dy} (hF : FM S) {a1 : Int32} {post : Dy → Prop} (E : fX12_push a1 D post) : Ct l G yX12_push cX12_push 3 none 0 0 0 S D [.ref (G.1 + 33), .int a1] (PV S post) := by
  refine z_enter (lv0 := [(0, .ref (G.1 + 33)), (1, .int a1)]) pl_12 (Nat.le_of_ble_eq_true rfl) rfl ?_
  intro p e s m args below meth c hC hnm
  unfold fX12_push at E
  refine z_iload_n hC dX12_push_0 rfl 1 rfl ?_
  refine z_istore_n (lv' := [(2, .int a1), (0, .ref (G.1 + 33)), (1, .int a1)]) hC dX12_push_1 rfl (Nat.le_of_ble_eq_true rfl) rfl ?_
  refine z_sub [1, 0] rfl ?_
  refine LP2_use (fun (v1 : Int32) (D2 : Dy) => ZM l G p e s m args below meth c 3 0 S (PV S post) S D2 2 [(0, .ref (G.1 + 33)), (2, .int v1)] []) ?_ FU a1 D E
  intro rec3 hrec4 v1 D2 E
  refine z_aload_n hC dX12_push_2 rfl 0 rfl ?_
  refine z_get hC lf_X12_120_12 (kM_33 hF) dX12_push_3 (fV_int rfl) ?_
  obtain ⟨K5, hK6, EE⟩ := JN_use E (fun K5 : Prop => K5 → ZM l G p e s m args below meth c 3 0 S (PV S post) S D2 58 [(0, .ref (G.1 + 33)), (2, .int v1)] []) (by
    intro E
    refine z_aload_n hC dX12_push_58 rfl 0 rfl ?_
    refine z_get hC lf_X12_117_12 (kM_33 hF) dX12_push_59 (fV_ref rfl (rM_33_35 hF)) ?_
    refine z_aload_n hC dX12_push_62 rfl 0 rfl ?_
    refine z_get hC lf_X12_123_12 (kM_33 hF) dX12_push_63 (fV_int rfl) ?_
    refine z_iload_n hC dX12_push_66 rfl 1 rfl ?_
    refine z_zast hC (kM_53 hF) (nM_53 hF) E.2.1 E.1 dX12_push_67 ?_
    replace E := E.2.2
    refine z_topD (fun D7 h8 => ?_)
    replace E := E D7 h8
    refine z_aload_n hC dX12_push_68 rfl 0 rfl ?_
    refine z_dup hC dX12_push_69 rfl ?_
    refine z_get hC lf_X12_123_12 (kM_33 hF) dX12_push_70 (fV_int rfl) ?_
    refine z_iconst (v := 1) hC dX12_push_73 rfl ?_
    refine z_iadd hC dX12_push_74 ?_
    refine z_puti hC lf_X12_123_12 rfl (kM_33 hF) dX12_push_75 ?_
    refine z_topD (fun D9 h10 => ?_)
    replace E := E D9 h10
    exact z_vret hC dX12_push_78 (Nat.le_refl _) (Nat.le_refl _) ⟨rfl, rfl, E⟩)
  replace E := EE
  clear EE
  refine z_if_le (tgt := 58) hC dX12_push_6 (by decide) (fun c11 => ?_) (fun c11 => ?_)
  · replace E := E.1 c11
    exact hK6  E
  · replace E := E.2 c11
    refine z_aload_n hC dX12_push_9 rfl 0 rfl ?_
    refine z_get hC lf_X12_114_12 (kM_33 hF) dX12_push_10 (fV_ref rfl (rM_33_34 hF)) ?_
    refine z_aload_n hC dX12_push_13 rfl 0 rfl ?_
    refine z_get hC lf_X12_120_12 (kM_33 hF) dX12_push_14 (fV_int rfl) ?_
    refine z_iconst (v := 1) hC dX12_push_17 rfl ?_
    refine z_isub hC dX12_push_18 ?_
    refine z_iald hC (kM_52 hF) (nM_52 hF) E.1 dX12_push_19 ?_
    replace E := E.2
    refine z_bipush (v := 33) hC dX12_push_20 rfl ?_
    refine z_icmp_ne (tgt := 58) hC dX12_push_22 (by decide) (fun c12 => ?_) (fun c12 => ?_)
    · replace E := E.1 c12
      exact hK6  E
    · replace E := E.2 c12
      refine z_iload_n hC dX12_push_25 rfl 1 rfl ?_
      obtain ⟨K14, hK15, EE⟩ := JN_use E (fun K14 : Int32 → Prop => ∀ (v13 : Int32), K14 v13 → ZM l G p e s m args below meth c 3 0 S (PV S post) S D2 34 [(0, .ref (G.1 + 33))] [.int v13]) (by
        intro v13 E
        refine z_istore_n (lv' := [(2, .int v13), (0, .ref (G.1 + 33))]) hC dX12_push_34 rfl (Nat.le_of_ble_eq_true rfl) rfl ?_
        refine z_aload_n hC dX12_push_35 rfl 1 rfl ?_
        refine z_dup hC dX12_push_36 rfl ?_
        refine z_get hC lf_X12_120_12 (kM_33 hF) dX12_push_37 (fV_int rfl) ?_
        refine z_iconst (v := 1) hC dX12_push_40 rfl ?_
        refine z_isub hC dX12_push_41 ?_
        refine z_puti hC lf_X12_120_12 rfl (kM_33 hF) dX12_push_42 ?_
        refine z_topD (fun D16 h17 => ?_)
        replace E := E D16 h17
        refine z_aload_n hC dX12_push_45 rfl 1 rfl ?_
        refine z_dup hC dX12_push_46 rfl ?_
        refine z_get hC lf_X12_126_12 (kM_33 hF) dX12_push_47 (fV_int rfl) ?_
        refine z_iconst (v := 1) hC dX12_push_50 rfl ?_
        refine z_isub hC dX12_push_51 ?_
        refine z_puti hC lf_X12_126_12 rfl (kM_33 hF) dX12_push_52 ?_
        refine z_topD (fun D18 h19 => ?_)
        replace E := E D18 h19
        refine z_goto (tgt := 2) hC dX12_push_55 (by decide) ?_
        refine z_sub [1, 0] rfl ?_
        exact hrec4 v13 D18 E)
      replace E := EE
      clear EE
      refine z_if_ne (tgt := 33) hC dX12_push_26 (by decide) (fun c20 => ?_) (fun c20 => ?_)
      · replace E := E.1 c20
        refine z_iconst (v := 0) hC dX12_push_33 rfl ?_
        refine z_sub [0] rfl ?_
        exact hK15 (0 : Int32) E
      · replace E := E.2 c20
        refine z_iconst (v := 1) hC dX12_push_29 rfl ?_
        refine z_goto (tgt := 34) hC dX12_push_30 (by decide) ?_
        refine z_sub [0] rfl ?_
        exact hK15 (1 : Int32) E
def fX12_takesTest  (D : Dy) (post : Int32 → Dy → Prop) : Prop :=
  (fX12_nextByte D (fun (v1 : Int32) => (JN ((∀ D8 : Dy, D8 = sI D 33 21 ((D.1 33 21) + (1 : Int32)) → (fX12_nextByte D8 (fun (v10 : Int32) => ((¬ v1 = (112 : Int32) → (fX12_takes (61 : Int32) D8 (fun (v17 : Int32) (D21 : Dy) => ((v17 = 0 → post (0 : Int32) D21) ∧ (¬ v17 = 0 → (fX12_takesFigure (0 : Int32) (9 : Int32) D21 (fun (v24 : Int32) (D28 : Dy) => ((¬ v24 = 0 → ((¬ v1 = (109 : Int32) → ((¬ v1 = (116 : Int32) → (vp_in (D28.1 33 33) 6 ∧ ((¬ (D28.1 36 ((D28.1 33 33)).toNatClampNeg) = (D28.1 33 23) → (fX12_push (0 : Int32) D28 (fun (D38 : Dy) => post (1 : Int32) D38))) ∧ ((D28.1 36 ((D28.1 33 33)).toNatClampNeg) = (D28.1 33 23) → (fX12_push (1 : Int32) D28 (fun (D44 : Dy) => post (1 : Int32) D44)))))) ∧ (v1 = (116 : Int32) → ((¬ (D28.1 33 33) = (D28.1 33 23) → (fX12_push (0 : Int32) D28 (fun (D51 : Dy) => post (1 : Int32) D51))) ∧ ((D28.1 33 33) = (D28.1 33 23) → (fX12_push (1 : Int32) D28 (fun (D57 : Dy) => post (1 : Int32) D57))))))) ∧ (v1 = (109 : Int32) → (vp_in (D28.1 33 33) 6 ∧ (fX12_has (D28.1 34 ((D28.1 33 33)).toNatClampNeg) (D28.1 33 23) (fun (v59 : Int32) => (fX12_push v59 D28 (fun (D68 : Dy) => post (1 : Int32) D68)))))))) ∧ (v24 = 0 → post (0 : Int32) D28))))))))) ∧ (v1 = (112 : Int32) → (fX12_in v10 (60 : Int32) (62 : Int32) (fun (v70 : Int32) => ((¬ v70 = 0 → (∀ D75 : Dy, D75 = sI D8 33 21 ((D8.1 33 21) + (1 : Int32)) → (fX12_takesNumber D75 (fun (v78 : Int32) (D82 : Dy) => ((¬ v78 = 0 → (vp_in (D82.1 33 33) 6 ∧ (∀ v84 : Int32, v84 = (D82.1 35 ((D82.1 33 33)).toNatClampNeg) → ((¬ v10 = (60 : Int32) → ((¬ v10 = (61 : Int32) → ((v84 ≤ (D82.1 33 23) → (fX12_push (0 : Int32) D82 (fun (D94 : Dy) => post (1 : Int32) D94))) ∧ (¬ v84 ≤ (D82.1 33 23) → (fX12_push (1 : Int32) D82 (fun (D100 : Dy) => post (1 : Int32) D100))))) ∧ (v10 = (61 : Int32) → ((¬ v84 = (D82.1 33 23) → (fX12_push (0 : Int32) D82 (fun (D107 : Dy) => post (1 : Int32) D107))) ∧ (v84 = (D82.1 33 23) → (fX12_push (1 : Int32) D82 (fun (D113 : Dy) => post (1 : Int32) D113))))))) ∧ (v10 = (60 : Int32) → (((D82.1 33 23) ≤ v84 → (fX12_push (0 : Int32) D82 (fun (D120 : Dy) => post (1 : Int32) D120))) ∧ (¬ (D82.1 33 23) ≤ v84 → (fX12_push (1 : Int32) D82 (fun (D126 : Dy) => post (1 : Int32) D126))))))))) ∧ (v78 = 0 → post (0 : Int32) D82)))))) ∧ (v70 = 0 → post (0 : Int32) D8)))))))))) (fun K6 : Prop => ((v1 = (109 : Int32) → K6) ∧ (¬ v1 = (109 : Int32) → ((v1 = (116 : Int32) → K6) ∧ (¬ v1 = (116 : Int32) → ((v1 = (110 : Int32) → K6) ∧ (¬ v1 = (110 : Int32) → ((v1 = (112 : Int32) → K6) ∧ (¬ v1 = (112 : Int32) → post (0 : Int32) D))))))))))))
set_option maxHeartbeats 4000000 in
set_option maxRecDepth 100000 in
theorem ct_X12_takesTest {l : Launch} {G : Gl} {S : Sh} {D : Dy} (hF : FM S)  {post : Int32 → Dy → Prop} (E : fX12_takesTest D post) : Ct l G yX12_takesTest cX12_takesTest 4 (some .boolean) 3 0 0 S D [.ref (G.1 + 33)] (PI S post) := by
  refine z_enter (lv0 := [(0, .ref (G.1 + 33))]) pl_12 (Nat.le_of_ble_eq_true rfl) rfl ?_
  intro p e s m args below meth c hC hnm
  unfold fX12_takesTest at E
  refine z_aload_n hC dX12_takesTest_0 rfl 0 rfl ?_
  refine z_callV (ci := 12) (rest := []) hC (ck_mk lk_X12_199 in_X12_nextByte cd_X12_nextByte ds_X12_nextByte (Nat.le_of_ble_eq_true rfl) (Nat.le_of_ble_eq_true rfl)) iy_X12_nextByte sy_X12_nextByte cf_12 (by decide) (kM_33 hF) (ct_X12_nextByte hF E) rfl rfl (Nat.le_of_ble_eq_true rfl) ⟨Nat.le_refl _, Nat.le_refl _⟩ dX12_takesTest_1 ?_
  rintro _ _ _ ⟨v1, rfl, rfl, rfl, E⟩
  refine z_istore_n (lv' := [(1, .int v1), (0, .ref (G.1 + 33))]) hC dX12_takesTest_4 rfl (Nat.le_of_ble_eq_true rfl) rfl ?_
  refine z_iload_n hC dX12_takesTest_5 rfl 0 rfl ?_
  refine z_bipush (v := 109) hC dX12_takesTest_6 rfl ?_
  obtain ⟨K6, hK7, EE⟩ := JN_use E (fun K6 : Prop => K6 → ZM l G p e s m args below meth c 4 3 S (PI S post) S D 31 [(0, .ref (G.1 + 33)), (1, .int v1)] []) (by
    intro E
    refine z_aload_n hC dX12_takesTest_31 rfl 0 rfl ?_
    refine z_dup hC dX12_takesTest_32 rfl ?_
    refine z_get hC lf_X12_74_12 (kM_33 hF) dX12_takesTest_33 (fV_int rfl) ?_
    refine z_iconst (v := 1) hC dX12_takesTest_36 rfl ?_
    refine z_iadd hC dX12_takesTest_37 ?_
    refine z_puti hC lf_X12_74_12 rfl (kM_33 hF) dX12_takesTest_38 ?_
    refine z_topD (fun D8 h9 => ?_)
    replace E := E D8 h9
    refine z_aload_n hC dX12_takesTest_41 rfl 0 rfl ?_
    refine z_callV (ci := 12) (rest := []) hC (ck_mk lk_X12_199 in_X12_nextByte cd_X12_nextByte ds_X12_nextByte (Nat.le_of_ble_eq_true rfl) (Nat.le_of_ble_eq_true rfl)) iy_X12_nextByte sy_X12_nextByte cf_12 (by decide) (kM_33 hF) (ct_X12_nextByte hF E) rfl rfl (Nat.le_of_ble_eq_true rfl) ⟨Nat.le_refl _, Nat.le_refl _⟩ dX12_takesTest_42 ?_
    rintro _ _ _ ⟨v10, rfl, rfl, rfl, E⟩
    refine z_istore_n (lv' := [(2, .int v10), (0, .ref (G.1 + 33)), (1, .int v1)]) hC dX12_takesTest_45 rfl (Nat.le_of_ble_eq_true rfl) rfl ?_
    refine z_iload_n hC dX12_takesTest_46 rfl 2 rfl ?_
    refine z_bipush (v := 112) hC dX12_takesTest_47 rfl ?_
    refine z_icmp_ne (tgt := 158) hC dX12_takesTest_49 (by decide) (fun c15 => ?_) (fun c15 => ?_)
    · replace E := E.1 c15
      refine z_aload_n hC dX12_takesTest_158 rfl 1 rfl ?_
      refine z_bipush (v := 61) hC dX12_takesTest_159 rfl ?_
      refine z_callV (ci := 12) (rest := []) hC (ck_mk lk_X12_203 in_X12_takes cd_X12_takes ds_X12_takes (Nat.le_of_ble_eq_true rfl) (Nat.le_of_ble_eq_true rfl)) iy_X12_takes sy_X12_takes cf_12 (by decide) (kM_33 hF) (ct_X12_takes hF E) rfl rfl (Nat.le_of_ble_eq_true rfl) ⟨Nat.le_refl _, Nat.le_refl _⟩ dX12_takesTest_161 ?_
      rintro _ _ D21 ⟨v17, rfl, rfl, E⟩
      refine z_if_eq (tgt := 177) hC dX12_takesTest_164 (by decide) (fun c22 => ?_) (fun c22 => ?_)
      · replace E := E.1 c22
        refine z_iconst (v := 0) hC dX12_takesTest_177 rfl ?_
        exact z_zret hC dX12_takesTest_178 (Or.inl rfl) (Nat.le_refl _) (Nat.le_refl _) ⟨_, rfl, rfl, E⟩
      · replace E := E.2 c22
        refine z_aload_n hC dX12_takesTest_167 rfl 1 rfl ?_
        refine z_iconst (v := 0) hC dX12_takesTest_168 rfl ?_
        refine z_bipush (v := 9) hC dX12_takesTest_169 rfl ?_
        refine z_callV (ci := 12) (rest := []) hC (ck_mk lk_X12_217 in_X12_takesFigure cd_X12_takesFigure ds_X12_takesFigure (Nat.le_of_ble_eq_true rfl) (Nat.le_of_ble_eq_true rfl)) iy_X12_takesFigure sy_X12_takesFigure cf_12 (by decide) (kM_33 hF) (ct_X12_takesFigure hF E) rfl rfl (Nat.le_of_ble_eq_true rfl) ⟨Nat.le_refl _, Nat.le_refl _⟩ dX12_takesTest_171 ?_
        rintro _ _ D28 ⟨v24, rfl, rfl, E⟩
        refine z_if_ne (tgt := 179) hC dX12_takesTest_174 (by decide) (fun c29 => ?_) (fun c29 => ?_)
        · replace E := E.1 c29
          refine z_aload_n hC dX12_takesTest_179 rfl 1 rfl ?_
          refine z_iload_n hC dX12_takesTest_180 rfl 2 rfl ?_
          refine z_bipush (v := 109) hC dX12_takesTest_181 rfl ?_
          refine z_icmp_ne (tgt := 206) hC dX12_takesTest_183 (by decide) (fun c30 => ?_) (fun c30 => ?_)
          · replace E := E.1 c30
            refine z_iload_n hC dX12_takesTest_206 rfl 2 rfl ?_
            refine z_bipush (v := 116) hC dX12_takesTest_207 rfl ?_
            refine z_icmp_ne (tgt := 231) hC dX12_takesTest_209 (by decide) (fun c31 => ?_) (fun c31 => ?_)
            · replace E := E.1 c31
              refine z_aload_n hC dX12_takesTest_231 rfl 1 rfl ?_
              refine z_get hC lf_X12_29_12 (kM_33 hF) dX12_takesTest_232 (fV_ref rfl (rM_33_6 hF)) ?_
              refine z_aload_n hC dX12_takesTest_235 rfl 1 rfl ?_
              refine z_get hC lf_X12_111_12 (kM_33 hF) dX12_takesTest_236 (fV_int rfl) ?_
              refine z_iald hC (kM_36 hF) (nM_36 hF) E.1 dX12_takesTest_239 ?_
              replace E := E.2
              refine z_aload_n hC dX12_takesTest_240 rfl 1 rfl ?_
              refine z_get hC lf_X12_80_12 (kM_33 hF) dX12_takesTest_241 (fV_int rfl) ?_
              refine z_icmp_ne (tgt := 251) hC dX12_takesTest_244 (by decide) (fun c32 => ?_) (fun c32 => ?_)
              · replace E := E.1 c32
                refine z_iconst (v := 0) hC dX12_takesTest_251 rfl ?_
                refine z_callV (ci := 12) (rest := []) hC (ck_mk lk_X12_213 in_X12_push cd_X12_push ds_X12_push (Nat.le_of_ble_eq_true rfl) (Nat.le_of_ble_eq_true rfl)) iy_X12_push sy_X12_push cf_12 (by decide) (kM_33 hF) (ct_X12_push hF E) rfl rfl (Nat.le_of_ble_eq_true rfl) ⟨Nat.le_refl _, Nat.le_refl _⟩ dX12_takesTest_252 ?_
                rintro _ _ D38 ⟨rfl, rfl, E⟩
                refine z_iconst (v := 1) hC dX12_takesTest_255 rfl ?_
                exact z_zret hC dX12_takesTest_256 (Or.inr rfl) (Nat.le_refl _) (Nat.le_refl _) ⟨_, rfl, rfl, E⟩
              · replace E := E.2 c32
                refine z_iconst (v := 1) hC dX12_takesTest_247 rfl ?_
                refine z_goto (tgt := 252) hC dX12_takesTest_248 (by decide) ?_
                refine z_callV (ci := 12) (rest := []) hC (ck_mk lk_X12_213 in_X12_push cd_X12_push ds_X12_push (Nat.le_of_ble_eq_true rfl) (Nat.le_of_ble_eq_true rfl)) iy_X12_push sy_X12_push cf_12 (by decide) (kM_33 hF) (ct_X12_push hF E) rfl rfl (Nat.le_of_ble_eq_true rfl) ⟨Nat.le_refl _, Nat.le_refl _⟩ dX12_takesTest_252 ?_
                rintro _ _ D44 ⟨rfl, rfl, E⟩
                refine z_iconst (v := 1) hC dX12_takesTest_255 rfl ?_
                exact z_zret hC dX12_takesTest_256 (Or.inr rfl) (Nat.le_refl _) (Nat.le_refl _) ⟨_, rfl, rfl, E⟩
            · replace E := E.2 c31
              refine z_aload_n hC dX12_takesTest_212 rfl 1 rfl ?_
              refine z_get hC lf_X12_111_12 (kM_33 hF) dX12_takesTest_213 (fV_int rfl) ?_
              refine z_aload_n hC dX12_takesTest_216 rfl 1 rfl ?_
              refine z_get hC lf_X12_80_12 (kM_33 hF) dX12_takesTest_217 (fV_int rfl) ?_
              refine z_icmp_ne (tgt := 227) hC dX12_takesTest_220 (by decide) (fun c45 => ?_) (fun c45 => ?_)
              · replace E := E.1 c45
                refine z_iconst (v := 0) hC dX12_takesTest_227 rfl ?_
                refine z_goto (tgt := 252) hC dX12_takesTest_228 (by decide) ?_
                refine z_callV (ci := 12) (rest := []) hC (ck_mk lk_X12_213 in_X12_push cd_X12_push ds_X12_push (Nat.le_of_ble_eq_true rfl) (Nat.le_of_ble_eq_true rfl)) iy_X12_push sy_X12_push cf_12 (by decide) (kM_33 hF) (ct_X12_push hF E) rfl rfl (Nat.le_of_ble_eq_true rfl) ⟨Nat.le_refl _, Nat.le_refl _⟩ dX12_takesTest_252 ?_
                rintro _ _ D51 ⟨rfl, rfl, E⟩
                refine z_iconst (v := 1) hC dX12_takesTest_255 rfl ?_
                exact z_zret hC dX12_takesTest_256 (Or.inr rfl) (Nat.le_refl _) (Nat.le_refl _) ⟨_, rfl, rfl, E⟩
              · replace E := E.2 c45
                refine z_iconst (v := 1) hC dX12_takesTest_223 rfl ?_
                refine z_goto (tgt := 252) hC dX12_takesTest_224 (by decide) ?_
                refine z_callV (ci := 12) (rest := []) hC (ck_mk lk_X12_213 in_X12_push cd_X12_push ds_X12_push (Nat.le_of_ble_eq_true rfl) (Nat.le_of_ble_eq_true rfl)) iy_X12_push sy_X12_push cf_12 (by decide) (kM_33 hF) (ct_X12_push hF E) rfl rfl (Nat.le_of_ble_eq_true rfl) ⟨Nat.le_refl _, Nat.le_refl _⟩ dX12_takesTest_252 ?_
                rintro _ _ D57 ⟨rfl, rfl, E⟩
                refine z_iconst (v := 1) hC dX12_takesTest_255 rfl ?_
                exact z_zret hC dX12_takesTest_256 (Or.inr rfl) (Nat.le_refl _) (Nat.le_refl _) ⟨_, rfl, rfl, E⟩
          · replace E := E.2 c30
            refine z_aload_n hC dX12_takesTest_186 rfl 1 rfl ?_
            refine z_aload_n hC dX12_takesTest_187 rfl 1 rfl ?_
            refine z_get hC lf_X12_22_12 (kM_33 hF) dX12_takesTest_188 (fV_ref rfl (rM_33_4 hF)) ?_
            refine z_aload_n hC dX12_takesTest_191 rfl 1 rfl ?_
            refine z_get hC lf_X12_111_12 (kM_33 hF) dX12_takesTest_192 (fV_int rfl) ?_
            refine z_iald hC (kM_34 hF) (nM_34 hF) E.1 dX12_takesTest_195 ?_
            replace E := E.2
            refine z_aload_n hC dX12_takesTest_196 rfl 1 rfl ?_
            refine z_get hC lf_X12_80_12 (kM_33 hF) dX12_takesTest_197 (fV_int rfl) ?_
            refine z_callV (ci := 12) (rest := [.ref (G.1 + 33)]) hC (ck_mk lk_X12_192 in_X12_has cd_X12_has ds_X12_has (Nat.le_of_ble_eq_true rfl) (Nat.le_of_ble_eq_true rfl)) iy_X12_has sy_X12_has cf_12 (by decide) (kM_33 hF) (ct_X12_has hF E) rfl rfl (Nat.le_of_ble_eq_true rfl) ⟨Nat.le_refl _, Nat.le_refl _⟩ dX12_takesTest_200 ?_
            rintro _ _ _ ⟨v59, rfl, rfl, rfl, E⟩
            refine z_goto (tgt := 252) hC dX12_takesTest_203 (by decide) ?_
            refine z_callV (ci := 12) (rest := []) hC (ck_mk lk_X12_213 in_X12_push cd_X12_push ds_X12_push (Nat.le_of_ble_eq_true rfl) (Nat.le_of_ble_eq_true rfl)) iy_X12_push sy_X12_push cf_12 (by decide) (kM_33 hF) (ct_X12_push hF E) rfl rfl (Nat.le_of_ble_eq_true rfl) ⟨Nat.le_refl _, Nat.le_refl _⟩ dX12_takesTest_252 ?_
            rintro _ _ D68 ⟨rfl, rfl, E⟩
            refine z_iconst (v := 1) hC dX12_takesTest_255 rfl ?_
            exact z_zret hC dX12_takesTest_256 (Or.inr rfl) (Nat.le_refl _) (Nat.le_refl _) ⟨_, rfl, rfl, E⟩
        · replace E := E.2 c29
          refine z_iconst (v := 0) hC dX12_takesTest_177 rfl ?_
          exact z_zret hC dX12_takesTest_178 (Or.inl rfl) (Nat.le_refl _) (Nat.le_refl _) ⟨_, rfl, rfl, E⟩
    · replace E := E.2 c15
      refine z_aload_n hC dX12_takesTest_52 rfl 1 rfl ?_
      refine z_iload_n hC dX12_takesTest_53 rfl 0 rfl ?_
      refine z_bipush (v := 60) hC dX12_takesTest_54 rfl ?_
      refine z_bipush (v := 62) hC dX12_takesTest_56 rfl ?_
      refine z_callV (ci := 12) (rest := []) hC (ck_mk lk_X12_178 in_X12_in cd_X12_in ds_X12_in (Nat.le_of_ble_eq_true rfl) (Nat.le_of_ble_eq_true rfl)) iy_X12_in sy_X12_in cf_12 (by decide) (kM_33 hF) (ct_X12_in hF E) rfl rfl (Nat.le_of_ble_eq_true rfl) ⟨Nat.le_refl _, Nat.le_refl _⟩ dX12_takesTest_58 ?_
      rintro _ _ _ ⟨v70, rfl, rfl, rfl, E⟩
      refine z_if_ne (tgt := 66) hC dX12_takesTest_61 (by decide) (fun c74 => ?_) (fun c74 => ?_)
      · replace E := E.1 c74
        refine z_aload_n hC dX12_takesTest_66 rfl 1 rfl ?_
        refine z_dup hC dX12_takesTest_67 rfl ?_
        refine z_get hC lf_X12_74_12 (kM_33 hF) dX12_takesTest_68 (fV_int rfl) ?_
        refine z_iconst (v := 1) hC dX12_takesTest_71 rfl ?_
        refine z_iadd hC dX12_takesTest_72 ?_
        refine z_puti hC lf_X12_74_12 rfl (kM_33 hF) dX12_takesTest_73 ?_
        refine z_topD (fun D75 h76 => ?_)
        replace E := E D75 h76
        refine z_aload_n hC dX12_takesTest_76 rfl 1 rfl ?_
        refine z_callV (ci := 12) (rest := []) hC (ck_mk lk_X12_210 in_X12_takesNumber cd_X12_takesNumber ds_X12_takesNumber (Nat.le_of_ble_eq_true rfl) (Nat.le_of_ble_eq_true rfl)) iy_X12_takesNumber sy_X12_takesNumber cf_12 (by decide) (kM_33 hF) (ct_X12_takesNumber hF E) rfl rfl (Nat.le_of_ble_eq_true rfl) ⟨Nat.le_refl _, Nat.le_refl _⟩ dX12_takesTest_77 ?_
        rintro _ _ D82 ⟨v78, rfl, rfl, E⟩
        refine z_if_ne (tgt := 85) hC dX12_takesTest_80 (by decide) (fun c83 => ?_) (fun c83 => ?_)
        · replace E := E.1 c83
          refine z_aload_n hC dX12_takesTest_85 rfl 1 rfl ?_
          refine z_get hC lf_X12_26_12 (kM_33 hF) dX12_takesTest_86 (fV_ref rfl (rM_33_5 hF)) ?_
          refine z_aload_n hC dX12_takesTest_89 rfl 1 rfl ?_
          refine z_get hC lf_X12_111_12 (kM_33 hF) dX12_takesTest_90 (fV_int rfl) ?_
          refine z_iald hC (kM_35 hF) (nM_35 hF) E.1 dX12_takesTest_93 ?_
          replace E := E.2
          refine z_topi (fun v84 h85 => ?_)
          replace E := E v84 h85
          refine z_istore_n (lv' := [(3, .int v84), (2, .int v10), (0, .ref (G.1 + 33)), (1, .int v1)]) hC dX12_takesTest_94 rfl (Nat.le_of_ble_eq_true rfl) rfl ?_
          refine z_aload_n hC dX12_takesTest_95 rfl 2 rfl ?_
          refine z_iload_n hC dX12_takesTest_96 rfl 1 rfl ?_
          refine z_bipush (v := 60) hC dX12_takesTest_97 rfl ?_
          refine z_icmp_ne (tgt := 118) hC dX12_takesTest_99 (by decide) (fun c86 => ?_) (fun c86 => ?_)
          · replace E := E.1 c86
            refine z_iload_n hC dX12_takesTest_118 rfl 1 rfl ?_
            refine z_bipush (v := 61) hC dX12_takesTest_119 rfl ?_
            refine z_icmp_ne (tgt := 140) hC dX12_takesTest_121 (by decide) (fun c87 => ?_) (fun c87 => ?_)
            · replace E := E.1 c87
              refine z_iload_n hC dX12_takesTest_140 rfl 0 rfl ?_
              refine z_aload_n hC dX12_takesTest_141 rfl 2 rfl ?_
              refine z_get hC lf_X12_80_12 (kM_33 hF) dX12_takesTest_142 (fV_int rfl) ?_
              refine z_icmp_le (tgt := 152) hC dX12_takesTest_145 (by decide) (fun c88 => ?_) (fun c88 => ?_)
              · replace E := E.1 c88
                refine z_iconst (v := 0) hC dX12_takesTest_152 rfl ?_
                refine z_callV (ci := 12) (rest := []) hC (ck_mk lk_X12_213 in_X12_push cd_X12_push ds_X12_push (Nat.le_of_ble_eq_true rfl) (Nat.le_of_ble_eq_true rfl)) iy_X12_push sy_X12_push cf_12 (by decide) (kM_33 hF) (ct_X12_push hF E) rfl rfl (Nat.le_of_ble_eq_true rfl) ⟨Nat.le_refl _, Nat.le_refl _⟩ dX12_takesTest_153 ?_
                rintro _ _ D94 ⟨rfl, rfl, E⟩
                refine z_iconst (v := 1) hC dX12_takesTest_156 rfl ?_
                exact z_zret hC dX12_takesTest_157 (Or.inr rfl) (Nat.le_refl _) (Nat.le_refl _) ⟨_, rfl, rfl, E⟩
              · replace E := E.2 c88
                refine z_iconst (v := 1) hC dX12_takesTest_148 rfl ?_
                refine z_goto (tgt := 153) hC dX12_takesTest_149 (by decide) ?_
                refine z_callV (ci := 12) (rest := []) hC (ck_mk lk_X12_213 in_X12_push cd_X12_push ds_X12_push (Nat.le_of_ble_eq_true rfl) (Nat.le_of_ble_eq_true rfl)) iy_X12_push sy_X12_push cf_12 (by decide) (kM_33 hF) (ct_X12_push hF E) rfl rfl (Nat.le_of_ble_eq_true rfl) ⟨Nat.le_refl _, Nat.le_refl _⟩ dX12_takesTest_153 ?_
                rintro _ _ D100 ⟨rfl, rfl, E⟩
                refine z_iconst (v := 1) hC dX12_takesTest_156 rfl ?_
                exact z_zret hC dX12_takesTest_157 (Or.inr rfl) (Nat.le_refl _) (Nat.le_refl _) ⟨_, rfl, rfl, E⟩
            · replace E := E.2 c87
              refine z_iload_n hC dX12_takesTest_124 rfl 0 rfl ?_
              refine z_aload_n hC dX12_takesTest_125 rfl 2 rfl ?_
              refine z_get hC lf_X12_80_12 (kM_33 hF) dX12_takesTest_126 (fV_int rfl) ?_
              refine z_icmp_ne (tgt := 136) hC dX12_takesTest_129 (by decide) (fun c101 => ?_) (fun c101 => ?_)
              · replace E := E.1 c101
                refine z_iconst (v := 0) hC dX12_takesTest_136 rfl ?_
                refine z_goto (tgt := 153) hC dX12_takesTest_137 (by decide) ?_
                refine z_callV (ci := 12) (rest := []) hC (ck_mk lk_X12_213 in_X12_push cd_X12_push ds_X12_push (Nat.le_of_ble_eq_true rfl) (Nat.le_of_ble_eq_true rfl)) iy_X12_push sy_X12_push cf_12 (by decide) (kM_33 hF) (ct_X12_push hF E) rfl rfl (Nat.le_of_ble_eq_true rfl) ⟨Nat.le_refl _, Nat.le_refl _⟩ dX12_takesTest_153 ?_
                rintro _ _ D107 ⟨rfl, rfl, E⟩
                refine z_iconst (v := 1) hC dX12_takesTest_156 rfl ?_
                exact z_zret hC dX12_takesTest_157 (Or.inr rfl) (Nat.le_refl _) (Nat.le_refl _) ⟨_, rfl, rfl, E⟩
              · replace E := E.2 c101
                refine z_iconst (v := 1) hC dX12_takesTest_132 rfl ?_
                refine z_goto (tgt := 153) hC dX12_takesTest_133 (by decide) ?_
                refine z_callV (ci := 12) (rest := []) hC (ck_mk lk_X12_213 in_X12_push cd_X12_push ds_X12_push (Nat.le_of_ble_eq_true rfl) (Nat.le_of_ble_eq_true rfl)) iy_X12_push sy_X12_push cf_12 (by decide) (kM_33 hF) (ct_X12_push hF E) rfl rfl (Nat.le_of_ble_eq_true rfl) ⟨Nat.le_refl _, Nat.le_refl _⟩ dX12_takesTest_153 ?_
                rintro _ _ D113 ⟨rfl, rfl, E⟩
                refine z_iconst (v := 1) hC dX12_takesTest_156 rfl ?_
                exact z_zret hC dX12_takesTest_157 (Or.inr rfl) (Nat.le_refl _) (Nat.le_refl _) ⟨_, rfl, rfl, E⟩
          · replace E := E.2 c86
            refine z_iload_n hC dX12_takesTest_102 rfl 0 rfl ?_
            refine z_aload_n hC dX12_takesTest_103 rfl 2 rfl ?_
            refine z_get hC lf_X12_80_12 (kM_33 hF) dX12_takesTest_104 (fV_int rfl) ?_
            refine z_icmp_ge (tgt := 114) hC dX12_takesTest_107 (by decide) (fun c114 => ?_) (fun c114 => ?_)
            · replace E := E.1 c114
              refine z_iconst (v := 0) hC dX12_takesTest_114 rfl ?_
              refine z_goto (tgt := 153) hC dX12_takesTest_115 (by decide) ?_
              refine z_callV (ci := 12) (rest := []) hC (ck_mk lk_X12_213 in_X12_push cd_X12_push ds_X12_push (Nat.le_of_ble_eq_true rfl) (Nat.le_of_ble_eq_true rfl)) iy_X12_push sy_X12_push cf_12 (by decide) (kM_33 hF) (ct_X12_push hF E) rfl rfl (Nat.le_of_ble_eq_true rfl) ⟨Nat.le_refl _, Nat.le_refl _⟩ dX12_takesTest_153 ?_
              rintro _ _ D120 ⟨rfl, rfl, E⟩
              refine z_iconst (v := 1) hC dX12_takesTest_156 rfl ?_
              exact z_zret hC dX12_takesTest_157 (Or.inr rfl) (Nat.le_refl _) (Nat.le_refl _) ⟨_, rfl, rfl, E⟩
            · replace E := E.2 c114
              refine z_iconst (v := 1) hC dX12_takesTest_110 rfl ?_
              refine z_goto (tgt := 153) hC dX12_takesTest_111 (by decide) ?_
              refine z_callV (ci := 12) (rest := []) hC (ck_mk lk_X12_213 in_X12_push cd_X12_push ds_X12_push (Nat.le_of_ble_eq_true rfl) (Nat.le_of_ble_eq_true rfl)) iy_X12_push sy_X12_push cf_12 (by decide) (kM_33 hF) (ct_X12_push hF E) rfl rfl (Nat.le_of_ble_eq_true rfl) ⟨Nat.le_refl _, Nat.le_refl _⟩ dX12_takesTest_153 ?_
              rintro _ _ D126 ⟨rfl, rfl, E⟩
              refine z_iconst (v := 1) hC dX12_takesTest_156 rfl ?_
              exact z_zret hC dX12_takesTest_157 (Or.inr rfl) (Nat.le_refl _) (Nat.le_refl _) ⟨_, rfl, rfl, E⟩
        · replace E := E.2 c83
          refine z_iconst (v := 0) hC dX12_takesTest_83 rfl ?_
          exact z_zret hC dX12_takesTest_84 (Or.inl rfl) (Nat.le_refl _) (Nat.le_refl _) ⟨_, rfl, rfl, E⟩
      · replace E := E.2 c74
        refine z_iconst (v := 0) hC dX12_takesTest_64 rfl ?_
        exact z_zret hC dX12_takesTest_65 (Or.inl rfl) (Nat.le_refl _) (Nat.le_refl _) ⟨_, rfl, rfl, E⟩)
  replace E := EE
  clear EE
  refine z_icmp_eq (tgt := 31) hC dX12_takesTest_8 (by decide) (fun c127 => ?_) (fun c127 => ?_)
  · replace E := E.1 c127
    refine z_sub [1, 0] rfl ?_
    exact hK7  E
  · replace E := E.2 c127
    refine z_iload_n hC dX12_takesTest_11 rfl 0 rfl ?_
    refine z_bipush (v := 116) hC dX12_takesTest_12 rfl ?_
    refine z_icmp_eq (tgt := 31) hC dX12_takesTest_14 (by decide) (fun c128 => ?_) (fun c128 => ?_)
    · replace E := E.1 c128
      refine z_sub [1, 0] rfl ?_
      exact hK7  E
    · replace E := E.2 c128
      refine z_iload_n hC dX12_takesTest_17 rfl 0 rfl ?_
      refine z_bipush (v := 110) hC dX12_takesTest_18 rfl ?_
      refine z_icmp_eq (tgt := 31) hC dX12_takesTest_20 (by decide) (fun c129 => ?_) (fun c129 => ?_)
      · replace E := E.1 c129
        refine z_sub [1, 0] rfl ?_
        exact hK7  E
      · replace E := E.2 c129
        refine z_iload_n hC dX12_takesTest_23 rfl 0 rfl ?_
        refine z_bipush (v := 112) hC dX12_takesTest_24 rfl ?_
        refine z_icmp_eq (tgt := 31) hC dX12_takesTest_26 (by decide) (fun c130 => ?_) (fun c130 => ?_)
        · replace E := E.1 c130
          refine z_sub [1, 0] rfl ?_
          exact hK7  E
        · replace E := E.2 c130
          refine z_iconst (v := 0) hC dX12_takesTest_29 rfl ?_
          exact z_zret hC dX12_takesTest_30 (Or.inl rfl) (Nat.le_refl _) (Nat.le_refl _) ⟨_, rfl, rfl, E⟩
def fX12_settle (a1 : Int32) (D : Dy) (post : Dy → Prop) : Prop :=
  (LP1 (fun (rec2 : Dy → Prop) (D1 : Dy) => (((D1.1 33 36) ≤ 0 → post D1) ∧ (¬ (D1.1 33 36) ≤ 0 → (vp_in ((D1.1 33 36) - (1 : Int32)) 121 ∧ (JN ((∀ D7 : Dy, D7 = sI D1 33 36 ((D1.1 33 36) - (1 : Int32)) → (∀ D9 : Dy, D9 = sI D7 33 37 ((D7.1 33 37) - (1 : Int32)) → (vp_in (D9.1 33 36) 121 ∧ (JN (fun (v11 : Int32) => (vp_in ((D9.1 33 37) - (1 : Int32)) 121 ∧ ((v11 = 0 ∨ v11 = 1) ∧ (∀ D14 : Dy, D14 = sI D9 53 (((D9.1 33 37) - (1 : Int32))).toNatClampNeg v11 → (rec2 D14))))) (fun K12 : Int32 → Prop => ((¬ (D9.1 52 ((D9.1 33 36)).toNatClampNeg) = (38 : Int32) → (vp_in ((D9.1 33 37) - (1 : Int32)) 121 ∧ (JN ((K12 (1 : Int32))) (fun K17 : Prop => ((¬ (D9.1 53 (((D9.1 33 37) - (1 : Int32))).toNatClampNeg) = 0 → K17) ∧ ((D9.1 53 (((D9.1 33 37) - (1 : Int32))).toNatClampNeg) = 0 → (vp_in (D9.1 33 37) 121 ∧ (((D9.1 53 ((D9.1 33 37)).toNatClampNeg) = 0 → (K12 (0 : Int32))) ∧ (¬ (D9.1 53 ((D9.1 33 37)).toNatClampNeg) = 0 → K17))))))))) ∧ ((D9.1 52 ((D9.1 33 36)).toNatClampNeg) = (38 : Int32) → (vp_in ((D9.1 33 37) - (1 : Int32)) 121 ∧ (JN ((K12 (0 : Int32))) (fun K21 : Prop => (((D9.1 53 (((D9.1 33 37) - (1 : Int32))).toNatClampNeg) = 0 → K21) ∧ (¬ (D9.1 53 (((D9.1 33 37) - (1 : Int32))).toNatClampNeg) = 0 → (vp_in (D9.1 33 37) 121 ∧ (((D9.1 53 ((D9.1 33 37)).toNatClampNeg) = 0 → K21) ∧ (¬ (D9.1 53 ((D9.1 33 37)).toNatClampNeg) = 0 → (K12 (1 : Int32)))))))))))))))))) (fun K5 : Prop => (((D1.1 52 (((D1.1 33 36) - (1 : Int32))).toNatClampNeg) = (38 : Int32) → K5) ∧ (¬ (D1.1 52 (((D1.1 33 36) - (1 : Int32))).toNatClampNeg) = (38 : Int32) → (vp_in ((D1.1 33 36) - (1 : Int32)) 121 ∧ ((¬ (D1.1 52 (((D1.1 33 36) - (1 : Int32))).toNatClampNeg) = (124 : Int32) → post D1) ∧ ((D1.1 52 (((D1.1 33 36) - (1 : Int32))).toNatClampNeg) = (124 : Int32) → ((a1 = (38 : Int32) → post D1) ∧ (¬ a1 = (38 : Int32) → K5))))))))))))) FU D)
set_option maxHeartbeats 4000000 in
set_option maxRecDepth 100000 in
theorem ct_X12_settle {l : Launch} {G : Gl} {S : Sh} {D : Dy} (hF : FM S) {a1 : Int32} {post : Dy → Prop} (E : fX12_settle a1 D post) : Ct l G yX12_settle cX12_settle 2 none 0 0 0 S D [.ref (G.1 + 33), .int a1] (PV S post) := by
  refine z_enter (lv0 := [(0, .ref (G.1 + 33)), (1, .int a1)]) pl_12 (Nat.le_of_ble_eq_true rfl) rfl ?_
  intro p e s m args below meth c hC hnm
  unfold fX12_settle at E
  refine LP1_use (fun (D1 : Dy) => ZM l G p e s m args below meth c 2 0 S (PV S post) S D1 0 [(0, .ref (G.1 + 33)), (1, .int a1)] []) ?_ FU D E
  intro rec2 hrec3 D1 E
  refine z_aload_n hC dX12_settle_0 rfl 0 rfl ?_
  refine z_get hC lf_X12_120_12 (kM_33 hF) dX12_settle_1 (fV_int rfl) ?_
  refine z_if_le (tgt := 158) hC dX12_settle_4 (by decide) (fun c4 => ?_) (fun c4 => ?_)
  · replace E := E.1 c4
    exact z_vret hC dX12_settle_158 (Nat.le_refl _) (Nat.le_refl _) ⟨rfl, rfl, E⟩
  · replace E := E.2 c4
    refine z_aload_n hC dX12_settle_7 rfl 0 rfl ?_
    refine z_get hC lf_X12_114_12 (kM_33 hF) dX12_settle_8 (fV_ref rfl (rM_33_34 hF)) ?_
    refine z_aload_n hC dX12_settle_11 rfl 0 rfl ?_
    refine z_get hC lf_X12_120_12 (kM_33 hF) dX12_settle_12 (fV_int rfl) ?_
    refine z_iconst (v := 1) hC dX12_settle_15 rfl ?_
    refine z_isub hC dX12_settle_16 ?_
    refine z_iald hC (kM_52 hF) (nM_52 hF) E.1 dX12_settle_17 ?_
    replace E := E.2
    refine z_bipush (v := 38) hC dX12_settle_18 rfl ?_
    obtain ⟨K5, hK6, EE⟩ := JN_use E (fun K5 : Prop => K5 → ZM l G p e s m args below meth c 2 0 S (PV S post) S D1 45 [(0, .ref (G.1 + 33)), (1, .int a1)] []) (by
      intro E
      refine z_aload_n hC dX12_settle_45 rfl 0 rfl ?_
      refine z_dup hC dX12_settle_46 rfl ?_
      refine z_get hC lf_X12_120_12 (kM_33 hF) dX12_settle_47 (fV_int rfl) ?_
      refine z_iconst (v := 1) hC dX12_settle_50 rfl ?_
      refine z_isub hC dX12_settle_51 ?_
      refine z_puti hC lf_X12_120_12 rfl (kM_33 hF) dX12_settle_52 ?_
      refine z_topD (fun D7 h8 => ?_)
      replace E := E D7 h8
      refine z_aload_n hC dX12_settle_55 rfl 0 rfl ?_
      refine z_dup hC dX12_settle_56 rfl ?_
      refine z_get hC lf_X12_123_12 (kM_33 hF) dX12_settle_57 (fV_int rfl) ?_
      refine z_iconst (v := 1) hC dX12_settle_60 rfl ?_
      refine z_isub hC dX12_settle_61 ?_
      refine z_puti hC lf_X12_123_12 rfl (kM_33 hF) dX12_settle_62 ?_
      refine z_topD (fun D9 h10 => ?_)
      replace E := E D9 h10
      refine z_aload_n hC dX12_settle_65 rfl 0 rfl ?_
      refine z_get hC lf_X12_117_12 (kM_33 hF) dX12_settle_66 (fV_ref rfl (rM_33_35 hF)) ?_
      refine z_aload_n hC dX12_settle_69 rfl 0 rfl ?_
      refine z_get hC lf_X12_123_12 (kM_33 hF) dX12_settle_70 (fV_int rfl) ?_
      refine z_iconst (v := 1) hC dX12_settle_73 rfl ?_
      refine z_isub hC dX12_settle_74 ?_
      refine z_aload_n hC dX12_settle_75 rfl 0 rfl ?_
      refine z_get hC lf_X12_114_12 (kM_33 hF) dX12_settle_76 (fV_ref rfl (rM_33_34 hF)) ?_
      refine z_aload_n hC dX12_settle_79 rfl 0 rfl ?_
      refine z_get hC lf_X12_120_12 (kM_33 hF) dX12_settle_80 (fV_int rfl) ?_
      refine z_iald hC (kM_52 hF) (nM_52 hF) E.1 dX12_settle_83 ?_
      replace E := E.2
      refine z_bipush (v := 38) hC dX12_settle_84 rfl ?_
      obtain ⟨K12, hK13, EE⟩ := JN_use E (fun K12 : Int32 → Prop => ∀ (v11 : Int32), K12 v11 → ZM l G p e s m args below meth c 2 0 S (PV S post) S D9 154 [(0, .ref (G.1 + 33)), (1, .int a1)] [.int v11, .int ((D9.1 33 37) - (1 : Int32)), .ref (G.1 + 53)]) (by
        intro v11 E
        refine z_zast hC (kM_53 hF) (nM_53 hF) E.2.1 E.1 dX12_settle_154 ?_
        replace E := E.2.2
        refine z_topD (fun D14 h15 => ?_)
        replace E := E D14 h15
        refine z_goto (tgt := 0) hC dX12_settle_155 (by decide) ?_
        exact hrec3 D14 E)
      replace E := EE
      clear EE
      refine z_icmp_ne (tgt := 123) hC dX12_settle_86 (by decide) (fun c16 => ?_) (fun c16 => ?_)
      · replace E := E.1 c16
        refine z_aload_n hC dX12_settle_123 rfl 0 rfl ?_
        refine z_get hC lf_X12_117_12 (kM_33 hF) dX12_settle_124 (fV_ref rfl (rM_33_35 hF)) ?_
        refine z_aload_n hC dX12_settle_127 rfl 0 rfl ?_
        refine z_get hC lf_X12_123_12 (kM_33 hF) dX12_settle_128 (fV_int rfl) ?_
        refine z_iconst (v := 1) hC dX12_settle_131 rfl ?_
        refine z_isub hC dX12_settle_132 ?_
        refine z_zald hC (kM_53 hF) (nM_53 hF) E.1 dX12_settle_133 ?_
        replace E := E.2
        obtain ⟨K17, hK18, EE⟩ := JN_use E (fun K17 : Prop => K17 → ZM l G p e s m args below meth c 2 0 S (PV S post) S D9 149 [(0, .ref (G.1 + 33)), (1, .int a1)] [.int ((D9.1 33 37) - (1 : Int32)), .ref (G.1 + 53)]) (by
          intro E
          refine z_iconst (v := 1) hC dX12_settle_149 rfl ?_
          refine z_goto (tgt := 154) hC dX12_settle_150 (by decide) ?_
          exact hK13 (1 : Int32) E)
        replace E := EE
        clear EE
        refine z_if_ne (tgt := 149) hC dX12_settle_134 (by decide) (fun c19 => ?_) (fun c19 => ?_)
        · replace E := E.1 c19
          exact hK18  E
        · replace E := E.2 c19
          refine z_aload_n hC dX12_settle_137 rfl 0 rfl ?_
          refine z_get hC lf_X12_117_12 (kM_33 hF) dX12_settle_138 (fV_ref rfl (rM_33_35 hF)) ?_
          refine z_aload_n hC dX12_settle_141 rfl 0 rfl ?_
          refine z_get hC lf_X12_123_12 (kM_33 hF) dX12_settle_142 (fV_int rfl) ?_
          refine z_zald hC (kM_53 hF) (nM_53 hF) E.1 dX12_settle_145 ?_
          replace E := E.2
          refine z_if_eq (tgt := 153) hC dX12_settle_146 (by decide) (fun c20 => ?_) (fun c20 => ?_)
          · replace E := E.1 c20
            refine z_iconst (v := 0) hC dX12_settle_153 rfl ?_
            exact hK13 (0 : Int32) E
          · replace E := E.2 c20
            exact hK18  E
      · replace E := E.2 c16
        refine z_aload_n hC dX12_settle_89 rfl 0 rfl ?_
        refine z_get hC lf_X12_117_12 (kM_33 hF) dX12_settle_90 (fV_ref rfl (rM_33_35 hF)) ?_
        refine z_aload_n hC dX12_settle_93 rfl 0 rfl ?_
        refine z_get hC lf_X12_123_12 (kM_33 hF) dX12_settle_94 (fV_int rfl) ?_
        refine z_iconst (v := 1) hC dX12_settle_97 rfl ?_
        refine z_isub hC dX12_settle_98 ?_
        refine z_zald hC (kM_53 hF) (nM_53 hF) E.1 dX12_settle_99 ?_
        replace E := E.2
        obtain ⟨K21, hK22, EE⟩ := JN_use E (fun K21 : Prop => K21 → ZM l G p e s m args below meth c 2 0 S (PV S post) S D9 119 [(0, .ref (G.1 + 33)), (1, .int a1)] [.int ((D9.1 33 37) - (1 : Int32)), .ref (G.1 + 53)]) (by
          intro E
          refine z_iconst (v := 0) hC dX12_settle_119 rfl ?_
          refine z_goto (tgt := 154) hC dX12_settle_120 (by decide) ?_
          exact hK13 (0 : Int32) E)
        replace E := EE
        clear EE
        refine z_if_eq (tgt := 119) hC dX12_settle_100 (by decide) (fun c23 => ?_) (fun c23 => ?_)
        · replace E := E.1 c23
          exact hK22  E
        · replace E := E.2 c23
          refine z_aload_n hC dX12_settle_103 rfl 0 rfl ?_
          refine z_get hC lf_X12_117_12 (kM_33 hF) dX12_settle_104 (fV_ref rfl (rM_33_35 hF)) ?_
          refine z_aload_n hC dX12_settle_107 rfl 0 rfl ?_
          refine z_get hC lf_X12_123_12 (kM_33 hF) dX12_settle_108 (fV_int rfl) ?_
          refine z_zald hC (kM_53 hF) (nM_53 hF) E.1 dX12_settle_111 ?_
          replace E := E.2
          refine z_if_eq (tgt := 119) hC dX12_settle_112 (by decide) (fun c24 => ?_) (fun c24 => ?_)
          · replace E := E.1 c24
            exact hK22  E
          · replace E := E.2 c24
            refine z_iconst (v := 1) hC dX12_settle_115 rfl ?_
            refine z_goto (tgt := 154) hC dX12_settle_116 (by decide) ?_
            exact hK13 (1 : Int32) E)
    replace E := EE
    clear EE
    refine z_icmp_eq (tgt := 45) hC dX12_settle_20 (by decide) (fun c25 => ?_) (fun c25 => ?_)
    · replace E := E.1 c25
      exact hK6  E
    · replace E := E.2 c25
      refine z_aload_n hC dX12_settle_23 rfl 0 rfl ?_
      refine z_get hC lf_X12_114_12 (kM_33 hF) dX12_settle_24 (fV_ref rfl (rM_33_34 hF)) ?_
      refine z_aload_n hC dX12_settle_27 rfl 0 rfl ?_
      refine z_get hC lf_X12_120_12 (kM_33 hF) dX12_settle_28 (fV_int rfl) ?_
      refine z_iconst (v := 1) hC dX12_settle_31 rfl ?_
      refine z_isub hC dX12_settle_32 ?_
      refine z_iald hC (kM_52 hF) (nM_52 hF) E.1 dX12_settle_33 ?_
      replace E := E.2
      refine z_bipush (v := 124) hC dX12_settle_34 rfl ?_
      refine z_icmp_ne (tgt := 158) hC dX12_settle_36 (by decide) (fun c26 => ?_) (fun c26 => ?_)
      · replace E := E.1 c26
        exact z_vret hC dX12_settle_158 (Nat.le_refl _) (Nat.le_refl _) ⟨rfl, rfl, E⟩
      · replace E := E.2 c26
        refine z_iload_n hC dX12_settle_39 rfl 1 rfl ?_
        refine z_bipush (v := 38) hC dX12_settle_40 rfl ?_
        refine z_icmp_eq (tgt := 158) hC dX12_settle_42 (by decide) (fun c27 => ?_) (fun c27 => ?_)
        · replace E := E.1 c27
          exact z_vret hC dX12_settle_158 (Nat.le_refl _) (Nat.le_refl _) ⟨rfl, rfl, E⟩
        · replace E := E.2 c27
          exact hK6  E
def fX12_takesE  (D : Dy) (post : Int32 → Dy → Prop) : Prop :=
  (∀ D1 : Dy, D1 = sI D 33 36 (0 : Int32) → (∀ D3 : Dy, D3 = sI D1 33 37 (0 : Int32) → (∀ D5 : Dy, D5 = sI D3 33 38 (0 : Int32) → (LP2 (fun (rec9 : Int32 → Dy → Prop) (v7 : Int32) (D8 : Dy) => (fX12_nextByte D8 (fun (v11 : Int32) => ((v7 = 0 → (JN ((fX12_settle v11 D8 (fun (D24 : Dy) => (vp_in (D24.1 33 36) 121 ∧ (∀ D25 : Dy, D25 = sI D24 52 ((D24.1 33 36)).toNatClampNeg v11 → (∀ D27 : Dy, D27 = sI D25 33 36 ((D25.1 33 36) + (1 : Int32)) → (∀ D29 : Dy, D29 = sI D27 33 21 ((D27.1 33 21) + (1 : Int32)) → (rec9 (1 : Int32) D29)))))))) (fun K17 : Prop => ((v11 = (38 : Int32) → K17) ∧ (¬ v11 = (38 : Int32) → ((¬ v11 = (124 : Int32) → (fX12_settle (124 : Int32) D8 (fun (D38 : Dy) => ((¬ (D38.1 33 36) = 0 → ((v11 = (41 : Int32) → (∀ D41 : Dy, D41 = sI D38 33 36 ((D38.1 33 36) - (1 : Int32)) → (∀ D43 : Dy, D43 = sI D41 33 38 ((D41.1 33 38) - (1 : Int32)) → (∀ D45 : Dy, D45 = sI D43 33 37 ((D43.1 33 37) - (1 : Int32)) → (∀ D47 : Dy, D47 = sI D45 33 21 ((D45.1 33 21) + (1 : Int32)) → (vp_in (D47.1 33 37) 121 ∧ (fX12_push (D47.1 53 ((D47.1 33 37)).toNatClampNeg) D47 (fun (D54 : Dy) => (rec9 v7 D54))))))))) ∧ (¬ v11 = (41 : Int32) → post (0 : Int32) D38))) ∧ ((D38.1 33 36) = 0 → post (1 : Int32) D38))))) ∧ (v11 = (124 : Int32) → K17))))))) ∧ (¬ v7 = 0 → (JN (((¬ (D8.1 33 38) = (4 : Int32) → (∀ D58 : Dy, D58 = sI D8 33 38 ((D8.1 33 38) + (1 : Int32)) → (vp_in (D58.1 33 36) 121 ∧ (∀ D60 : Dy, D60 = sI D58 52 ((D58.1 33 36)).toNatClampNeg v11 → (∀ D62 : Dy, D62 = sI D60 33 36 ((D60.1 33 36) + (1 : Int32)) → (∀ D64 : Dy, D64 = sI D62 33 21 ((D62.1 33 21) + (1 : Int32)) → (rec9 v7 D64))))))) ∧ ((D8.1 33 38) = (4 : Int32) → post (0 : Int32) D8))) (fun K55 : Prop => ((v11 = (33 : Int32) → K55) ∧ (¬ v11 = (33 : Int32) → ((¬ v11 = (40 : Int32) → (fX12_takesTest D8 (fun (v69 : Int32) (D73 : Dy) => ((v69 = 0 → post (0 : Int32) D73) ∧ (¬ v69 = 0 → (rec9 (0 : Int32) D73)))))) ∧ (v11 = (40 : Int32) → K55))))))))))) FU (1 : Int32) D5))))
set_option maxHeartbeats 4000000 in
set_option maxRecDepth 100000 in
theorem ct_X12_takesE {l : Launch} {G : Gl} {S : Sh} {D : Dy} (hF : FM S)  {post : Int32 → Dy → Prop} (E : fX12_takesE D post) : Ct l G yX12_takesE cX12_takesE 3 (some .boolean) 4 0 0 S D [.ref (G.1 + 33)] (PI S post) := by
  refine z_enter (lv0 := [(0, .ref (G.1 + 33))]) pl_12 (Nat.le_of_ble_eq_true rfl) rfl ?_
  intro p e s m args below meth c hC hnm
  unfold fX12_takesE at E
  refine z_aload_n hC dX12_takesE_0 rfl 0 rfl ?_
  refine z_iconst (v := 0) hC dX12_takesE_1 rfl ?_
  refine z_puti hC lf_X12_120_12 rfl (kM_33 hF) dX12_takesE_2 ?_
  refine z_topD (fun D1 h2 => ?_)
  replace E := E D1 h2
  refine z_aload_n hC dX12_takesE_5 rfl 0 rfl ?_
  refine z_iconst (v := 0) hC dX12_takesE_6 rfl ?_
  refine z_puti hC lf_X12_123_12 rfl (kM_33 hF) dX12_takesE_7 ?_
  refine z_topD (fun D3 h4 => ?_)
  replace E := E D3 h4
  refine z_aload_n hC dX12_takesE_10 rfl 0 rfl ?_
  refine z_iconst (v := 0) hC dX12_takesE_11 rfl ?_
  refine z_puti hC lf_X12_126_12 rfl (kM_33 hF) dX12_takesE_12 ?_
  refine z_topD (fun D5 h6 => ?_)
  replace E := E D5 h6
  refine z_iconst (v := 1) hC dX12_takesE_15 rfl ?_
  refine z_istore_n (lv' := [(1, .int (1 : Int32)), (0, .ref (G.1 + 33))]) hC dX12_takesE_16 rfl (Nat.le_of_ble_eq_true rfl) rfl ?_
  refine z_sub [1, 0] rfl ?_
  refine LP2_use (fun (v7 : Int32) (D8 : Dy) => ZM l G p e s m args below meth c 3 4 S (PI S post) S D8 17 [(0, .ref (G.1 + 33)), (1, .int v7)] []) ?_ FU (1 : Int32) D5 E
  intro rec9 hrec10 v7 D8 E
  refine z_aload_n hC dX12_takesE_17 rfl 0 rfl ?_
  refine z_callV (ci := 12) (rest := []) hC (ck_mk lk_X12_199 in_X12_nextByte cd_X12_nextByte ds_X12_nextByte (Nat.le_of_ble_eq_true rfl) (Nat.le_of_ble_eq_true rfl)) iy_X12_nextByte sy_X12_nextByte cf_12 (by decide) (kM_33 hF) (ct_X12_nextByte hF E) rfl rfl (Nat.le_of_ble_eq_true rfl) ⟨Nat.le_refl _, Nat.le_refl _⟩ dX12_takesE_18 ?_
  rintro _ _ _ ⟨v11, rfl, rfl, rfl, E⟩
  refine z_istore_n (lv' := [(2, .int v11), (0, .ref (G.1 + 33)), (1, .int v7)]) hC dX12_takesE_21 rfl (Nat.le_of_ble_eq_true rfl) rfl ?_
  refine z_iload_n hC dX12_takesE_22 rfl 2 rfl ?_
  refine z_if_eq (tgt := 105) hC dX12_takesE_23 (by decide) (fun c16 => ?_) (fun c16 => ?_)
  · replace E := E.1 c16
    refine z_iload_n hC dX12_takesE_105 rfl 0 rfl ?_
    refine z_bipush (v := 38) hC dX12_takesE_106 rfl ?_
    obtain ⟨K17, hK18, EE⟩ := JN_use E (fun K17 : Prop => K17 → ZM l G p e s m args below meth c 3 4 S (PI S post) S D8 117 [(0, .ref (G.1 + 33)), (2, .int v11)] []) (by
      intro E
      refine z_aload_n hC dX12_takesE_117 rfl 0 rfl ?_
      refine z_iload_n hC dX12_takesE_118 rfl 1 rfl ?_
      refine z_callV (ci := 12) (rest := []) hC (ck_mk lk_X12_223 in_X12_settle cd_X12_settle ds_X12_settle (Nat.le_of_ble_eq_true rfl) (Nat.le_of_ble_eq_true rfl)) iy_X12_settle sy_X12_settle cf_12 (by decide) (kM_33 hF) (ct_X12_settle hF E) rfl rfl (Nat.le_of_ble_eq_true rfl) ⟨Nat.le_refl _, Nat.le_refl _⟩ dX12_takesE_119 ?_
      rintro _ _ D24 ⟨rfl, rfl, E⟩
      refine z_aload_n hC dX12_takesE_122 rfl 0 rfl ?_
      refine z_get hC lf_X12_114_12 (kM_33 hF) dX12_takesE_123 (fV_ref rfl (rM_33_34 hF)) ?_
      refine z_aload_n hC dX12_takesE_126 rfl 0 rfl ?_
      refine z_get hC lf_X12_120_12 (kM_33 hF) dX12_takesE_127 (fV_int rfl) ?_
      refine z_iload_n hC dX12_takesE_130 rfl 1 rfl ?_
      refine z_iast hC (kM_52 hF) (nM_52 hF) E.1 dX12_takesE_131 ?_
      replace E := E.2
      refine z_topD (fun D25 h26 => ?_)
      replace E := E D25 h26
      refine z_aload_n hC dX12_takesE_132 rfl 0 rfl ?_
      refine z_dup hC dX12_takesE_133 rfl ?_
      refine z_get hC lf_X12_120_12 (kM_33 hF) dX12_takesE_134 (fV_int rfl) ?_
      refine z_iconst (v := 1) hC dX12_takesE_137 rfl ?_
      refine z_iadd hC dX12_takesE_138 ?_
      refine z_puti hC lf_X12_120_12 rfl (kM_33 hF) dX12_takesE_139 ?_
      refine z_topD (fun D27 h28 => ?_)
      replace E := E D27 h28
      refine z_iconst (v := 1) hC dX12_takesE_142 rfl ?_
      refine z_istore_n (lv' := [(1, .int (1 : Int32)), (0, .ref (G.1 + 33)), (2, .int v11)]) hC dX12_takesE_143 rfl (Nat.le_of_ble_eq_true rfl) rfl ?_
      refine z_aload_n hC dX12_takesE_144 rfl 1 rfl ?_
      refine z_dup hC dX12_takesE_145 rfl ?_
      refine z_get hC lf_X12_74_12 (kM_33 hF) dX12_takesE_146 (fV_int rfl) ?_
      refine z_iconst (v := 1) hC dX12_takesE_149 rfl ?_
      refine z_iadd hC dX12_takesE_150 ?_
      refine z_puti hC lf_X12_74_12 rfl (kM_33 hF) dX12_takesE_151 ?_
      refine z_topD (fun D29 h30 => ?_)
      replace E := E D29 h30
      refine z_goto (tgt := 17) hC dX12_takesE_154 (by decide) ?_
      refine z_sub [1, 0] rfl ?_
      exact hrec10 (1 : Int32) D29 E)
    replace E := EE
    clear EE
    refine z_icmp_eq (tgt := 117) hC dX12_takesE_108 (by decide) (fun c31 => ?_) (fun c31 => ?_)
    · replace E := E.1 c31
      refine z_sub [1, 0] rfl ?_
      exact hK18  E
    · replace E := E.2 c31
      refine z_iload_n hC dX12_takesE_111 rfl 0 rfl ?_
      refine z_bipush (v := 124) hC dX12_takesE_112 rfl ?_
      refine z_icmp_ne (tgt := 157) hC dX12_takesE_114 (by decide) (fun c32 => ?_) (fun c32 => ?_)
      · replace E := E.1 c32
        refine z_aload_n hC dX12_takesE_157 rfl 1 rfl ?_
        refine z_bipush (v := 124) hC dX12_takesE_158 rfl ?_
        refine z_callV (ci := 12) (rest := []) hC (ck_mk lk_X12_223 in_X12_settle cd_X12_settle ds_X12_settle (Nat.le_of_ble_eq_true rfl) (Nat.le_of_ble_eq_true rfl)) iy_X12_settle sy_X12_settle cf_12 (by decide) (kM_33 hF) (ct_X12_settle hF E) rfl rfl (Nat.le_of_ble_eq_true rfl) ⟨Nat.le_refl _, Nat.le_refl _⟩ dX12_takesE_160 ?_
        rintro _ _ D38 ⟨rfl, rfl, E⟩
        refine z_aload_n hC dX12_takesE_163 rfl 1 rfl ?_
        refine z_get hC lf_X12_120_12 (kM_33 hF) dX12_takesE_164 (fV_int rfl) ?_
        refine z_if_ne (tgt := 172) hC dX12_takesE_167 (by decide) (fun c39 => ?_) (fun c39 => ?_)
        · replace E := E.1 c39
          refine z_iload_n hC dX12_takesE_172 rfl 0 rfl ?_
          refine z_bipush (v := 41) hC dX12_takesE_173 rfl ?_
          refine z_icmp_eq (tgt := 180) hC dX12_takesE_175 (by decide) (fun c40 => ?_) (fun c40 => ?_)
          · replace E := E.1 c40
            refine z_aload_n hC dX12_takesE_180 rfl 1 rfl ?_
            refine z_dup hC dX12_takesE_181 rfl ?_
            refine z_get hC lf_X12_120_12 (kM_33 hF) dX12_takesE_182 (fV_int rfl) ?_
            refine z_iconst (v := 1) hC dX12_takesE_185 rfl ?_
            refine z_isub hC dX12_takesE_186 ?_
            refine z_puti hC lf_X12_120_12 rfl (kM_33 hF) dX12_takesE_187 ?_
            refine z_topD (fun D41 h42 => ?_)
            replace E := E D41 h42
            refine z_aload_n hC dX12_takesE_190 rfl 1 rfl ?_
            refine z_dup hC dX12_takesE_191 rfl ?_
            refine z_get hC lf_X12_126_12 (kM_33 hF) dX12_takesE_192 (fV_int rfl) ?_
            refine z_iconst (v := 1) hC dX12_takesE_195 rfl ?_
            refine z_isub hC dX12_takesE_196 ?_
            refine z_puti hC lf_X12_126_12 rfl (kM_33 hF) dX12_takesE_197 ?_
            refine z_topD (fun D43 h44 => ?_)
            replace E := E D43 h44
            refine z_aload_n hC dX12_takesE_200 rfl 1 rfl ?_
            refine z_dup hC dX12_takesE_201 rfl ?_
            refine z_get hC lf_X12_123_12 (kM_33 hF) dX12_takesE_202 (fV_int rfl) ?_
            refine z_iconst (v := 1) hC dX12_takesE_205 rfl ?_
            refine z_isub hC dX12_takesE_206 ?_
            refine z_puti hC lf_X12_123_12 rfl (kM_33 hF) dX12_takesE_207 ?_
            refine z_topD (fun D45 h46 => ?_)
            replace E := E D45 h46
            refine z_aload_n hC dX12_takesE_210 rfl 1 rfl ?_
            refine z_dup hC dX12_takesE_211 rfl ?_
            refine z_get hC lf_X12_74_12 (kM_33 hF) dX12_takesE_212 (fV_int rfl) ?_
            refine z_iconst (v := 1) hC dX12_takesE_215 rfl ?_
            refine z_iadd hC dX12_takesE_216 ?_
            refine z_puti hC lf_X12_74_12 rfl (kM_33 hF) dX12_takesE_217 ?_
            refine z_topD (fun D47 h48 => ?_)
            replace E := E D47 h48
            refine z_aload_n hC dX12_takesE_220 rfl 1 rfl ?_
            refine z_aload_n hC dX12_takesE_221 rfl 1 rfl ?_
            refine z_get hC lf_X12_117_12 (kM_33 hF) dX12_takesE_222 (fV_ref rfl (rM_33_35 hF)) ?_
            refine z_aload_n hC dX12_takesE_225 rfl 1 rfl ?_
            refine z_get hC lf_X12_123_12 (kM_33 hF) dX12_takesE_226 (fV_int rfl) ?_
            refine z_zald hC (kM_53 hF) (nM_53 hF) E.1 dX12_takesE_229 ?_
            replace E := E.2
            refine z_callV (ci := 12) (rest := []) hC (ck_mk lk_X12_213 in_X12_push cd_X12_push ds_X12_push (Nat.le_of_ble_eq_true rfl) (Nat.le_of_ble_eq_true rfl)) iy_X12_push sy_X12_push cf_12 (by decide) (kM_33 hF) (ct_X12_push hF E) rfl rfl (Nat.le_of_ble_eq_true rfl) ⟨Nat.le_refl _, Nat.le_refl _⟩ dX12_takesE_230 ?_
            rintro _ _ D54 ⟨rfl, rfl, E⟩
            refine z_goto (tgt := 17) hC dX12_takesE_233 (by decide) ?_
            refine z_sub [1, 2] rfl ?_
            exact hrec10 v7 D54 E
          · replace E := E.2 c40
            refine z_iconst (v := 0) hC dX12_takesE_178 rfl ?_
            exact z_zret hC dX12_takesE_179 (Or.inl rfl) (Nat.le_refl _) (Nat.le_refl _) ⟨_, rfl, rfl, E⟩
        · replace E := E.2 c39
          refine z_iconst (v := 1) hC dX12_takesE_170 rfl ?_
          exact z_zret hC dX12_takesE_171 (Or.inr rfl) (Nat.le_refl _) (Nat.le_refl _) ⟨_, rfl, rfl, E⟩
      · replace E := E.2 c32
        refine z_sub [1, 0] rfl ?_
        exact hK18  E
  · replace E := E.2 c16
    refine z_iload_n hC dX12_takesE_26 rfl 0 rfl ?_
    refine z_bipush (v := 33) hC dX12_takesE_27 rfl ?_
    obtain ⟨K55, hK56, EE⟩ := JN_use E (fun K55 : Prop => K55 → ZM l G p e s m args below meth c 3 4 S (PI S post) S D8 38 [(0, .ref (G.1 + 33)), (1, .int v7), (2, .int v11)] []) (by
      intro E
      refine z_aload_n hC dX12_takesE_38 rfl 0 rfl ?_
      refine z_get hC lf_X12_126_12 (kM_33 hF) dX12_takesE_39 (fV_int rfl) ?_
      refine z_iconst (v := 4) hC dX12_takesE_42 rfl ?_
      refine z_icmp_ne (tgt := 48) hC dX12_takesE_43 (by decide) (fun c57 => ?_) (fun c57 => ?_)
      · replace E := E.1 c57
        refine z_aload_n hC dX12_takesE_48 rfl 0 rfl ?_
        refine z_dup hC dX12_takesE_49 rfl ?_
        refine z_get hC lf_X12_126_12 (kM_33 hF) dX12_takesE_50 (fV_int rfl) ?_
        refine z_iconst (v := 1) hC dX12_takesE_53 rfl ?_
        refine z_iadd hC dX12_takesE_54 ?_
        refine z_puti hC lf_X12_126_12 rfl (kM_33 hF) dX12_takesE_55 ?_
        refine z_topD (fun D58 h59 => ?_)
        replace E := E D58 h59
        refine z_aload_n hC dX12_takesE_58 rfl 0 rfl ?_
        refine z_get hC lf_X12_114_12 (kM_33 hF) dX12_takesE_59 (fV_ref rfl (rM_33_34 hF)) ?_
        refine z_aload_n hC dX12_takesE_62 rfl 0 rfl ?_
        refine z_get hC lf_X12_120_12 (kM_33 hF) dX12_takesE_63 (fV_int rfl) ?_
        refine z_iload_n hC dX12_takesE_66 rfl 2 rfl ?_
        refine z_iast hC (kM_52 hF) (nM_52 hF) E.1 dX12_takesE_67 ?_
        replace E := E.2
        refine z_topD (fun D60 h61 => ?_)
        replace E := E D60 h61
        refine z_aload_n hC dX12_takesE_68 rfl 0 rfl ?_
        refine z_dup hC dX12_takesE_69 rfl ?_
        refine z_get hC lf_X12_120_12 (kM_33 hF) dX12_takesE_70 (fV_int rfl) ?_
        refine z_iconst (v := 1) hC dX12_takesE_73 rfl ?_
        refine z_iadd hC dX12_takesE_74 ?_
        refine z_puti hC lf_X12_120_12 rfl (kM_33 hF) dX12_takesE_75 ?_
        refine z_topD (fun D62 h63 => ?_)
        replace E := E D62 h63
        refine z_aload_n hC dX12_takesE_78 rfl 0 rfl ?_
        refine z_dup hC dX12_takesE_79 rfl ?_
        refine z_get hC lf_X12_74_12 (kM_33 hF) dX12_takesE_80 (fV_int rfl) ?_
        refine z_iconst (v := 1) hC dX12_takesE_83 rfl ?_
        refine z_iadd hC dX12_takesE_84 ?_
        refine z_puti hC lf_X12_74_12 rfl (kM_33 hF) dX12_takesE_85 ?_
        refine z_topD (fun D64 h65 => ?_)
        replace E := E D64 h65
        refine z_goto (tgt := 17) hC dX12_takesE_88 (by decide) ?_
        refine z_sub [0, 1] rfl ?_
        exact hrec10 v7 D64 E
      · replace E := E.2 c57
        refine z_iconst (v := 0) hC dX12_takesE_46 rfl ?_
        exact z_zret hC dX12_takesE_47 (Or.inl rfl) (Nat.le_refl _) (Nat.le_refl _) ⟨_, rfl, rfl, E⟩)
    replace E := EE
    clear EE
    refine z_icmp_eq (tgt := 38) hC dX12_takesE_29 (by decide) (fun c66 => ?_) (fun c66 => ?_)
    · replace E := E.1 c66
      refine z_sub [1, 2, 0] rfl ?_
      exact hK56  E
    · replace E := E.2 c66
      refine z_iload_n hC dX12_takesE_32 rfl 0 rfl ?_
      refine z_bipush (v := 40) hC dX12_takesE_33 rfl ?_
      refine z_icmp_ne (tgt := 91) hC dX12_takesE_35 (by decide) (fun c67 => ?_) (fun c67 => ?_)
      · replace E := E.1 c67
        refine z_aload_n hC dX12_takesE_91 rfl 1 rfl ?_
        refine z_callV (ci := 12) (rest := []) hC (ck_mk lk_X12_220 in_X12_takesTest cd_X12_takesTest ds_X12_takesTest (Nat.le_of_ble_eq_true rfl) (Nat.le_of_ble_eq_true rfl)) iy_X12_takesTest sy_X12_takesTest cf_12 (by decide) (kM_33 hF) (ct_X12_takesTest hF E) rfl rfl (Nat.le_of_ble_eq_true rfl) ⟨Nat.le_refl _, Nat.le_refl _⟩ dX12_takesE_92 ?_
        rintro _ _ D73 ⟨v69, rfl, rfl, E⟩
        refine z_if_eq (tgt := 103) hC dX12_takesE_95 (by decide) (fun c74 => ?_) (fun c74 => ?_)
        · replace E := E.1 c74
          refine z_iconst (v := 0) hC dX12_takesE_103 rfl ?_
          exact z_zret hC dX12_takesE_104 (Or.inl rfl) (Nat.le_refl _) (Nat.le_refl _) ⟨_, rfl, rfl, E⟩
        · replace E := E.2 c74
          refine z_iconst (v := 0) hC dX12_takesE_98 rfl ?_
          refine z_istore_n (lv' := [(1, .int (0 : Int32)), (2, .int v11), (0, .ref (G.1 + 33))]) hC dX12_takesE_99 rfl (Nat.le_of_ble_eq_true rfl) rfl ?_
          refine z_goto (tgt := 17) hC dX12_takesE_100 (by decide) ?_
          refine z_sub [2, 0] rfl ?_
          exact hrec10 (0 : Int32) D73 E
      · replace E := E.2 c67
        refine z_sub [1, 2, 0] rfl ?_
        exact hK56  E
def fX12_takesP  (D : Dy) (post : Int32 → Dy → Prop) : Prop :=
  (JN (fun (v1 : Int32) => ((¬ v1 = (105 : Int32) → (fX12_takesWord (17376357 : Int32) (5 : Int32) D (fun (v6 : Int32) (D10 : Dy) => ((v6 = 0 → post (0 : Int32) D10) ∧ (¬ v6 = 0 → (fX12_takesNumber D10 (fun (v13 : Int32) (D17 : Dy) => ((¬ v13 = 0 → (∀ D19 : Dy, D19 = sI D17 33 28 (D17.1 33 23) → post (1 : Int32) D19)) ∧ (v13 = 0 → post (0 : Int32) D17))))))))) ∧ (v1 = (105 : Int32) → (fX12_takesWord (533611 : Int32) (4 : Int32) D (fun (v22 : Int32) (D26 : Dy) => ((v22 = 0 → post (0 : Int32) D26) ∧ (¬ v22 = 0 → (fX12_takesE D26 (fun (v29 : Int32) (D33 : Dy) => ((¬ v29 = 0 → (vp_in (0 : Int32) 121 ∧ (vp_in (((6 : Int32) * (D33.1 33 31)) + (D33.1 33 33)) 60 ∧ (((D33.1 53 ((0 : Int32)).toNatClampNeg) = 0 ∨ (D33.1 53 ((0 : Int32)).toNatClampNeg) = 1) ∧ (∀ D35 : Dy, D35 = sI D33 51 ((((6 : Int32) * (D33.1 33 31)) + (D33.1 33 33))).toNatClampNeg (D33.1 53 ((0 : Int32)).toNatClampNeg) → (∀ D37 : Dy, D37 = sI D35 33 31 ((D35.1 33 31) + (1 : Int32)) → post (1 : Int32) D37)))))) ∧ (v29 = 0 → post (0 : Int32) D33))))))))))) (fun K2 : Int32 → Prop => (((D.1 33 20) ≤ ((D.1 33 21) + (1 : Int32)) → (K2 (-1 : Int32))) ∧ (¬ (D.1 33 20) ≤ ((D.1 33 21) + (1 : Int32)) → (vp_in (((D.1 33 19) + (D.1 33 21)) + (1 : Int32)) 1320 ∧ (K2 (D.1 44 ((((D.1 33 19) + (D.1 33 21)) + (1 : Int32))).toNatClampNeg)))))))
set_option maxHeartbeats 4000000 in
set_option maxRecDepth 100000 in
theorem ct_X12_takesP {l : Launch} {G : Gl} {S : Sh} {D : Dy} (hF : FM S)  {post : Int32 → Dy → Prop} (E : fX12_takesP D post) : Ct l G yX12_takesP cX12_takesP 2 (some .boolean) 5 0 0 S D [.ref (G.1 + 33)] (PI S post) := by
  refine z_enter (lv0 := [(0, .ref (G.1 + 33))]) pl_12 (Nat.le_of_ble_eq_true rfl) rfl ?_
  intro p e s m args below meth c hC hnm
  unfold fX12_takesP at E
  refine z_aload_n hC dX12_takesP_0 rfl 0 rfl ?_
  refine z_get hC lf_X12_74_12 (kM_33 hF) dX12_takesP_1 (fV_int rfl) ?_
  refine z_iconst (v := 1) hC dX12_takesP_4 rfl ?_
  refine z_iadd hC dX12_takesP_5 ?_
  refine z_aload_n hC dX12_takesP_6 rfl 0 rfl ?_
  refine z_get hC lf_X12_71_12 (kM_33 hF) dX12_takesP_7 (fV_int rfl) ?_
  obtain ⟨K2, hK3, EE⟩ := JN_use E (fun K2 : Int32 → Prop => ∀ (v1 : Int32), K2 v1 → ZM l G p e s m args below meth c 2 5 S (PI S post) S D 33 [(0, .ref (G.1 + 33))] [.int v1]) (by
    intro v1 E
    refine z_istore_n (lv' := [(1, .int v1), (0, .ref (G.1 + 33))]) hC dX12_takesP_33 rfl (Nat.le_of_ble_eq_true rfl) rfl ?_
    refine z_iload_n hC dX12_takesP_34 rfl 0 rfl ?_
    refine z_bipush (v := 105) hC dX12_takesP_35 rfl ?_
    refine z_icmp_ne (tgt := 94) hC dX12_takesP_37 (by decide) (fun c4 => ?_) (fun c4 => ?_)
    · replace E := E.1 c4
      refine z_aload_n hC dX12_takesP_94 rfl 1 rfl ?_
      refine z_ldc hC kc_X12_237 dX12_takesP_95 ?_
      refine z_iconst (v := 5) hC dX12_takesP_97 rfl ?_
      refine z_callV (ci := 12) (rest := []) hC (ck_mk lk_X12_228 in_X12_takesWord cd_X12_takesWord ds_X12_takesWord (Nat.le_of_ble_eq_true rfl) (Nat.le_of_ble_eq_true rfl)) iy_X12_takesWord sy_X12_takesWord cf_12 (by decide) (kM_33 hF) (ct_X12_takesWord hF E) rfl rfl (Nat.le_of_ble_eq_true rfl) ⟨Nat.le_refl _, Nat.le_refl _⟩ dX12_takesP_98 ?_
      rintro _ _ D10 ⟨v6, rfl, rfl, E⟩
      refine z_if_eq (tgt := 111) hC dX12_takesP_101 (by decide) (fun c11 => ?_) (fun c11 => ?_)
      · replace E := E.1 c11
        refine z_iconst (v := 0) hC dX12_takesP_111 rfl ?_
        exact z_zret hC dX12_takesP_112 (Or.inl rfl) (Nat.le_refl _) (Nat.le_refl _) ⟨_, rfl, rfl, E⟩
      · replace E := E.2 c11
        refine z_aload_n hC dX12_takesP_104 rfl 1 rfl ?_
        refine z_callV (ci := 12) (rest := []) hC (ck_mk lk_X12_210 in_X12_takesNumber cd_X12_takesNumber ds_X12_takesNumber (Nat.le_of_ble_eq_true rfl) (Nat.le_of_ble_eq_true rfl)) iy_X12_takesNumber sy_X12_takesNumber cf_12 (by decide) (kM_33 hF) (ct_X12_takesNumber hF E) rfl rfl (Nat.le_of_ble_eq_true rfl) ⟨Nat.le_refl _, Nat.le_refl _⟩ dX12_takesP_105 ?_
        rintro _ _ D17 ⟨v13, rfl, rfl, E⟩
        refine z_if_ne (tgt := 113) hC dX12_takesP_108 (by decide) (fun c18 => ?_) (fun c18 => ?_)
        · replace E := E.1 c18
          refine z_aload_n hC dX12_takesP_113 rfl 1 rfl ?_
          refine z_aload_n hC dX12_takesP_114 rfl 1 rfl ?_
          refine z_get hC lf_X12_80_12 (kM_33 hF) dX12_takesP_115 (fV_int rfl) ?_
          refine z_puti hC lf_X12_95_12 rfl (kM_33 hF) dX12_takesP_118 ?_
          refine z_topD (fun D19 h20 => ?_)
          replace E := E D19 h20
          refine z_iconst (v := 1) hC dX12_takesP_121 rfl ?_
          exact z_zret hC dX12_takesP_122 (Or.inr rfl) (Nat.le_refl _) (Nat.le_refl _) ⟨_, rfl, rfl, E⟩
        · replace E := E.2 c18
          refine z_iconst (v := 0) hC dX12_takesP_111 rfl ?_
          exact z_zret hC dX12_takesP_112 (Or.inl rfl) (Nat.le_refl _) (Nat.le_refl _) ⟨_, rfl, rfl, E⟩
    · replace E := E.2 c4
      refine z_aload_n hC dX12_takesP_40 rfl 1 rfl ?_
      refine z_ldc hC kc_X12_233 dX12_takesP_41 ?_
      refine z_iconst (v := 4) hC dX12_takesP_43 rfl ?_
      refine z_callV (ci := 12) (rest := []) hC (ck_mk lk_X12_228 in_X12_takesWord cd_X12_takesWord ds_X12_takesWord (Nat.le_of_ble_eq_true rfl) (Nat.le_of_ble_eq_true rfl)) iy_X12_takesWord sy_X12_takesWord cf_12 (by decide) (kM_33 hF) (ct_X12_takesWord hF E) rfl rfl (Nat.le_of_ble_eq_true rfl) ⟨Nat.le_refl _, Nat.le_refl _⟩ dX12_takesP_44 ?_
      rintro _ _ D26 ⟨v22, rfl, rfl, E⟩
      refine z_if_eq (tgt := 57) hC dX12_takesP_47 (by decide) (fun c27 => ?_) (fun c27 => ?_)
      · replace E := E.1 c27
        refine z_iconst (v := 0) hC dX12_takesP_57 rfl ?_
        exact z_zret hC dX12_takesP_58 (Or.inl rfl) (Nat.le_refl _) (Nat.le_refl _) ⟨_, rfl, rfl, E⟩
      · replace E := E.2 c27
        refine z_aload_n hC dX12_takesP_50 rfl 1 rfl ?_
        refine z_callV (ci := 12) (rest := []) hC (ck_mk lk_X12_234 in_X12_takesE cd_X12_takesE ds_X12_takesE (Nat.le_of_ble_eq_true rfl) (Nat.le_of_ble_eq_true rfl)) iy_X12_takesE sy_X12_takesE cf_12 (by decide) (kM_33 hF) (ct_X12_takesE hF E) rfl rfl (Nat.le_of_ble_eq_true rfl) ⟨Nat.le_refl _, Nat.le_refl _⟩ dX12_takesP_51 ?_
        rintro _ _ D33 ⟨v29, rfl, rfl, E⟩
        refine z_if_ne (tgt := 59) hC dX12_takesP_54 (by decide) (fun c34 => ?_) (fun c34 => ?_)
        · replace E := E.1 c34
          refine z_aload_n hC dX12_takesP_59 rfl 1 rfl ?_
          refine z_get hC lf_X12_107_12 (kM_33 hF) dX12_takesP_60 (fV_ref rfl (rM_33_32 hF)) ?_
          refine z_bipush (v := 6) hC dX12_takesP_63 rfl ?_
          refine z_aload_n hC dX12_takesP_65 rfl 1 rfl ?_
          refine z_get hC lf_X12_104_12 (kM_33 hF) dX12_takesP_66 (fV_int rfl) ?_
          refine z_imul hC dX12_takesP_69 ?_
          refine z_aload_n hC dX12_takesP_70 rfl 1 rfl ?_
          refine z_get hC lf_X12_111_12 (kM_33 hF) dX12_takesP_71 (fV_int rfl) ?_
          refine z_iadd hC dX12_takesP_74 ?_
          refine z_aload_n hC dX12_takesP_75 rfl 1 rfl ?_
          refine z_get hC lf_X12_117_12 (kM_33 hF) dX12_takesP_76 (fV_ref rfl (rM_33_35 hF)) ?_
          refine z_iconst (v := 0) hC dX12_takesP_79 rfl ?_
          refine z_zald hC (kM_53 hF) (nM_53 hF) E.1 dX12_takesP_80 ?_
          replace E := E.2
          refine z_zast hC (kM_51 hF) (nM_51 hF) E.2.1 E.1 dX12_takesP_81 ?_
          replace E := E.2.2
          refine z_topD (fun D35 h36 => ?_)
          replace E := E D35 h36
          refine z_aload_n hC dX12_takesP_82 rfl 1 rfl ?_
          refine z_dup hC dX12_takesP_83 rfl ?_
          refine z_get hC lf_X12_104_12 (kM_33 hF) dX12_takesP_84 (fV_int rfl) ?_
          refine z_iconst (v := 1) hC dX12_takesP_87 rfl ?_
          refine z_iadd hC dX12_takesP_88 ?_
          refine z_puti hC lf_X12_104_12 rfl (kM_33 hF) dX12_takesP_89 ?_
          refine z_topD (fun D37 h38 => ?_)
          replace E := E D37 h38
          refine z_iconst (v := 1) hC dX12_takesP_92 rfl ?_
          exact z_zret hC dX12_takesP_93 (Or.inr rfl) (Nat.le_refl _) (Nat.le_refl _) ⟨_, rfl, rfl, E⟩
        · replace E := E.2 c34
          refine z_iconst (v := 0) hC dX12_takesP_57 rfl ?_
          exact z_zret hC dX12_takesP_58 (Or.inl rfl) (Nat.le_refl _) (Nat.le_refl _) ⟨_, rfl, rfl, E⟩)
  replace E := EE
  clear EE
  refine z_icmp_ge (tgt := 32) hC dX12_takesP_10 (by decide) (fun c39 => ?_) (fun c39 => ?_)
  · replace E := E.1 c39
    refine z_iconst (v := -1) hC dX12_takesP_32 rfl ?_
    exact hK3 (-1 : Int32) E
  · replace E := E.2 c39
    refine z_aload_n hC dX12_takesP_13 rfl 0 rfl ?_
    refine z_get hC lf_X12_59_12 (kM_33 hF) dX12_takesP_14 (fV_ref rfl (rM_33_16 hF)) ?_
    refine z_aload_n hC dX12_takesP_17 rfl 0 rfl ?_
    refine z_get hC lf_X12_68_12 (kM_33 hF) dX12_takesP_18 (fV_int rfl) ?_
    refine z_aload_n hC dX12_takesP_21 rfl 0 rfl ?_
    refine z_get hC lf_X12_74_12 (kM_33 hF) dX12_takesP_22 (fV_int rfl) ?_
    refine z_iadd hC dX12_takesP_25 ?_
    refine z_iconst (v := 1) hC dX12_takesP_26 rfl ?_
    refine z_iadd hC dX12_takesP_27 ?_
    refine z_iald hC (kM_44 hF) (nM_44 hF) E.1 dX12_takesP_28 ?_
    replace E := E.2
    refine z_goto (tgt := 33) hC dX12_takesP_29 (by decide) ?_
    exact hK3 (D.1 44 ((((D.1 33 19) + (D.1 33 21)) + (1 : Int32))).toNatClampNeg) E
def fX12_takesClause  (D : Dy) (post : Int32 → Dy → Prop) : Prop :=
  (fX12_nextByte D (fun (v1 : Int32) => (JN ((fX12_takesWord (474565 : Int32) (4 : Int32) D (fun (v9 : Int32) (D13 : Dy) => ((v9 = 0 → post (0 : Int32) D13) ∧ (¬ v9 = 0 → (fX12_takesNumber D13 (fun (v16 : Int32) (D20 : Dy) => ((¬ v16 = 0 → (∀ D22 : Dy, D22 = sI D20 33 29 (D20.1 33 23) → post (1 : Int32) D22)) ∧ (v16 = 0 → post (0 : Int32) D20))))))))) (fun K6 : Prop => ((v1 = (107 : Int32) → (fX12_takesKind D (fun (v26 : Int32) (D30 : Dy) => ((v26 = 0 ∨ v26 = 1) ∧ post v26 D30)))) ∧ (¬ v1 = (107 : Int32) → ((v1 = (108 : Int32) → (fX12_takesWord (409067 : Int32) (4 : Int32) D (fun (v33 : Int32) (D37 : Dy) => ((v33 = 0 → post (0 : Int32) D37) ∧ (¬ v33 = 0 → (fX12_takesFigure (1 : Int32) (9 : Int32) D37 (fun (v40 : Int32) (D44 : Dy) => ((¬ v40 = 0 → (∀ D46 : Dy, D46 = sI D44 33 30 (D44.1 33 23) → post (1 : Int32) D46)) ∧ (v40 = 0 → post (0 : Int32) D44))))))))) ∧ (¬ v1 = (108 : Int32) → ((v1 = (109 : Int32) → (fX12_takesMark D (fun (v50 : Int32) (D54 : Dy) => ((v50 = 0 ∨ v50 = 1) ∧ post v50 D54)))) ∧ (¬ v1 = (109 : Int32) → ((v1 = (112 : Int32) → (fX12_takesP D (fun (v57 : Int32) (D61 : Dy) => ((v57 = 0 ∨ v57 = 1) ∧ post v57 D61)))) ∧ (¬ v1 = (112 : Int32) → ((v1 = (119 : Int32) → (fX12_takesWorth D (fun (v64 : Int32) (D68 : Dy) => ((v64 = 0 ∨ v64 = 1) ∧ post v64 D68)))) ∧ (¬ v1 = (119 : Int32) → K6))))))))))))))
set_option maxHeartbeats 4000000 in
set_option maxRecDepth 100000 in
theorem ct_X12_takesClause {l : Launch} {G : Gl} {S : Sh} {D : Dy} (hF : FM S)  {post : Int32 → Dy → Prop} (E : fX12_takesClause D post) : Ct l G yX12_takesClause cX12_takesClause 1 (some .boolean) 6 0 0 S D [.ref (G.1 + 33)] (PI S post) := by
  refine z_enter (lv0 := [(0, .ref (G.1 + 33))]) pl_12 (Nat.le_of_ble_eq_true rfl) rfl ?_
  intro p e s m args below meth c hC hnm
  unfold fX12_takesClause at E
  refine z_aload_n hC dX12_takesClause_0 rfl 0 rfl ?_
  refine z_callV (ci := 12) (rest := []) hC (ck_mk lk_X12_199 in_X12_nextByte cd_X12_nextByte ds_X12_nextByte (Nat.le_of_ble_eq_true rfl) (Nat.le_of_ble_eq_true rfl)) iy_X12_nextByte sy_X12_nextByte cf_12 (by decide) (kM_33 hF) (ct_X12_nextByte hF E) rfl rfl (Nat.le_of_ble_eq_true rfl) ⟨Nat.le_refl _, Nat.le_refl _⟩ dX12_takesClause_1 ?_
  rintro _ _ _ ⟨v1, rfl, rfl, rfl, E⟩
  obtain ⟨K6, hK7, EE⟩ := JN_use E (fun K6 : Prop => K6 → ZM l G p e s m args below meth c 1 6 S (PI S post) S D 124 [(0, .ref (G.1 + 33))] []) (by
    intro E
    refine z_aload_n hC dX12_takesClause_124 rfl 0 rfl ?_
    refine z_ldc hC kc_X12_251 dX12_takesClause_125 ?_
    refine z_iconst (v := 4) hC dX12_takesClause_127 rfl ?_
    refine z_callV (ci := 12) (rest := []) hC (ck_mk lk_X12_228 in_X12_takesWord cd_X12_takesWord ds_X12_takesWord (Nat.le_of_ble_eq_true rfl) (Nat.le_of_ble_eq_true rfl)) iy_X12_takesWord sy_X12_takesWord cf_12 (by decide) (kM_33 hF) (ct_X12_takesWord hF E) rfl rfl (Nat.le_of_ble_eq_true rfl) ⟨Nat.le_refl _, Nat.le_refl _⟩ dX12_takesClause_128 ?_
    rintro _ _ D13 ⟨v9, rfl, rfl, E⟩
    refine z_if_eq (tgt := 141) hC dX12_takesClause_131 (by decide) (fun c14 => ?_) (fun c14 => ?_)
    · replace E := E.1 c14
      refine z_iconst (v := 0) hC dX12_takesClause_141 rfl ?_
      exact z_zret hC dX12_takesClause_142 (Or.inl rfl) (Nat.le_refl _) (Nat.le_refl _) ⟨_, rfl, rfl, E⟩
    · replace E := E.2 c14
      refine z_aload_n hC dX12_takesClause_134 rfl 0 rfl ?_
      refine z_callV (ci := 12) (rest := []) hC (ck_mk lk_X12_210 in_X12_takesNumber cd_X12_takesNumber ds_X12_takesNumber (Nat.le_of_ble_eq_true rfl) (Nat.le_of_ble_eq_true rfl)) iy_X12_takesNumber sy_X12_takesNumber cf_12 (by decide) (kM_33 hF) (ct_X12_takesNumber hF E) rfl rfl (Nat.le_of_ble_eq_true rfl) ⟨Nat.le_refl _, Nat.le_refl _⟩ dX12_takesClause_135 ?_
      rintro _ _ D20 ⟨v16, rfl, rfl, E⟩
      refine z_if_ne (tgt := 143) hC dX12_takesClause_138 (by decide) (fun c21 => ?_) (fun c21 => ?_)
      · replace E := E.1 c21
        refine z_aload_n hC dX12_takesClause_143 rfl 0 rfl ?_
        refine z_aload_n hC dX12_takesClause_144 rfl 0 rfl ?_
        refine z_get hC lf_X12_80_12 (kM_33 hF) dX12_takesClause_145 (fV_int rfl) ?_
        refine z_puti hC lf_X12_98_12 rfl (kM_33 hF) dX12_takesClause_148 ?_
        refine z_topD (fun D22 h23 => ?_)
        replace E := E D22 h23
        refine z_iconst (v := 1) hC dX12_takesClause_151 rfl ?_
        exact z_zret hC dX12_takesClause_152 (Or.inr rfl) (Nat.le_refl _) (Nat.le_refl _) ⟨_, rfl, rfl, E⟩
      · replace E := E.2 c21
        refine z_iconst (v := 0) hC dX12_takesClause_141 rfl ?_
        exact z_zret hC dX12_takesClause_142 (Or.inl rfl) (Nat.le_refl _) (Nat.le_refl _) ⟨_, rfl, rfl, E⟩)
  replace E := EE
  clear EE
  by_cases c24 : v1 = (107 : Int32)
  · replace E := E.1 c24
    refine z_tableIn (tgt := 82) (off := 78) hC dX12_takesClause_4 c24 (by decide) (by decide) ?_
    refine z_aload_n hC dX12_takesClause_82 rfl 0 rfl ?_
    refine z_callV (ci := 12) (rest := []) hC (ck_mk lk_X12_244 in_X12_takesKind cd_X12_takesKind ds_X12_takesKind (Nat.le_of_ble_eq_true rfl) (Nat.le_of_ble_eq_true rfl)) iy_X12_takesKind sy_X12_takesKind cf_12 (by decide) (kM_33 hF) (ct_X12_takesKind hF E) rfl rfl (Nat.le_of_ble_eq_true rfl) ⟨Nat.le_refl _, Nat.le_refl _⟩ dX12_takesClause_83 ?_
    rintro _ _ D30 ⟨v26, rfl, rfl, E⟩
    exact z_zret hC dX12_takesClause_86 E.1 (Nat.le_refl _) (Nat.le_refl _) ⟨_, rfl, rfl, E.2⟩
  replace E := E.2 c24
  by_cases c31 : v1 = (108 : Int32)
  · replace E := E.1 c31
    refine z_tableIn (tgt := 92) (off := 88) hC dX12_takesClause_4 c31 (by decide) (by decide) ?_
    refine z_aload_n hC dX12_takesClause_92 rfl 0 rfl ?_
    refine z_ldc hC kc_X12_250 dX12_takesClause_93 ?_
    refine z_iconst (v := 4) hC dX12_takesClause_95 rfl ?_
    refine z_callV (ci := 12) (rest := []) hC (ck_mk lk_X12_228 in_X12_takesWord cd_X12_takesWord ds_X12_takesWord (Nat.le_of_ble_eq_true rfl) (Nat.le_of_ble_eq_true rfl)) iy_X12_takesWord sy_X12_takesWord cf_12 (by decide) (kM_33 hF) (ct_X12_takesWord hF E) rfl rfl (Nat.le_of_ble_eq_true rfl) ⟨Nat.le_refl _, Nat.le_refl _⟩ dX12_takesClause_96 ?_
    rintro _ _ D37 ⟨v33, rfl, rfl, E⟩
    refine z_if_eq (tgt := 112) hC dX12_takesClause_99 (by decide) (fun c38 => ?_) (fun c38 => ?_)
    · replace E := E.1 c38
      refine z_iconst (v := 0) hC dX12_takesClause_112 rfl ?_
      exact z_zret hC dX12_takesClause_113 (Or.inl rfl) (Nat.le_refl _) (Nat.le_refl _) ⟨_, rfl, rfl, E⟩
    · replace E := E.2 c38
      refine z_aload_n hC dX12_takesClause_102 rfl 0 rfl ?_
      refine z_iconst (v := 1) hC dX12_takesClause_103 rfl ?_
      refine z_bipush (v := 9) hC dX12_takesClause_104 rfl ?_
      refine z_callV (ci := 12) (rest := []) hC (ck_mk lk_X12_217 in_X12_takesFigure cd_X12_takesFigure ds_X12_takesFigure (Nat.le_of_ble_eq_true rfl) (Nat.le_of_ble_eq_true rfl)) iy_X12_takesFigure sy_X12_takesFigure cf_12 (by decide) (kM_33 hF) (ct_X12_takesFigure hF E) rfl rfl (Nat.le_of_ble_eq_true rfl) ⟨Nat.le_refl _, Nat.le_refl _⟩ dX12_takesClause_106 ?_
      rintro _ _ D44 ⟨v40, rfl, rfl, E⟩
      refine z_if_ne (tgt := 114) hC dX12_takesClause_109 (by decide) (fun c45 => ?_) (fun c45 => ?_)
      · replace E := E.1 c45
        refine z_aload_n hC dX12_takesClause_114 rfl 0 rfl ?_
        refine z_aload_n hC dX12_takesClause_115 rfl 0 rfl ?_
        refine z_get hC lf_X12_80_12 (kM_33 hF) dX12_takesClause_116 (fV_int rfl) ?_
        refine z_puti hC lf_X12_101_12 rfl (kM_33 hF) dX12_takesClause_119 ?_
        refine z_topD (fun D46 h47 => ?_)
        replace E := E D46 h47
        refine z_iconst (v := 1) hC dX12_takesClause_122 rfl ?_
        exact z_zret hC dX12_takesClause_123 (Or.inr rfl) (Nat.le_refl _) (Nat.le_refl _) ⟨_, rfl, rfl, E⟩
      · replace E := E.2 c45
        refine z_iconst (v := 0) hC dX12_takesClause_112 rfl ?_
        exact z_zret hC dX12_takesClause_113 (Or.inl rfl) (Nat.le_refl _) (Nat.le_refl _) ⟨_, rfl, rfl, E⟩
  replace E := E.2 c31
  by_cases c48 : v1 = (109 : Int32)
  · replace E := E.1 c48
    refine z_tableIn (tgt := 77) (off := 73) hC dX12_takesClause_4 c48 (by decide) (by decide) ?_
    refine z_aload_n hC dX12_takesClause_77 rfl 0 rfl ?_
    refine z_callV (ci := 12) (rest := []) hC (ck_mk lk_X12_241 in_X12_takesMark cd_X12_takesMark ds_X12_takesMark (Nat.le_of_ble_eq_true rfl) (Nat.le_of_ble_eq_true rfl)) iy_X12_takesMark sy_X12_takesMark cf_12 (by decide) (kM_33 hF) (ct_X12_takesMark hF E) rfl rfl (Nat.le_of_ble_eq_true rfl) ⟨Nat.le_refl _, Nat.le_refl _⟩ dX12_takesClause_78 ?_
    rintro _ _ D54 ⟨v50, rfl, rfl, E⟩
    exact z_zret hC dX12_takesClause_81 E.1 (Nat.le_refl _) (Nat.le_refl _) ⟨_, rfl, rfl, E.2⟩
  replace E := E.2 c48
  by_cases c55 : v1 = (112 : Int32)
  · replace E := E.1 c55
    refine z_tableIn (tgt := 87) (off := 83) hC dX12_takesClause_4 c55 (by decide) (by decide) ?_
    refine z_aload_n hC dX12_takesClause_87 rfl 0 rfl ?_
    refine z_callV (ci := 12) (rest := []) hC (ck_mk lk_X12_247 in_X12_takesP cd_X12_takesP ds_X12_takesP (Nat.le_of_ble_eq_true rfl) (Nat.le_of_ble_eq_true rfl)) iy_X12_takesP sy_X12_takesP cf_12 (by decide) (kM_33 hF) (ct_X12_takesP hF E) rfl rfl (Nat.le_of_ble_eq_true rfl) ⟨Nat.le_refl _, Nat.le_refl _⟩ dX12_takesClause_88 ?_
    rintro _ _ D61 ⟨v57, rfl, rfl, E⟩
    exact z_zret hC dX12_takesClause_91 E.1 (Nat.le_refl _) (Nat.le_refl _) ⟨_, rfl, rfl, E.2⟩
  replace E := E.2 c55
  by_cases c62 : v1 = (119 : Int32)
  · replace E := E.1 c62
    refine z_tableIn (tgt := 72) (off := 68) hC dX12_takesClause_4 c62 (by decide) (by decide) ?_
    refine z_aload_n hC dX12_takesClause_72 rfl 0 rfl ?_
    refine z_callV (ci := 12) (rest := []) hC (ck_mk lk_X12_238 in_X12_takesWorth cd_X12_takesWorth ds_X12_takesWorth (Nat.le_of_ble_eq_true rfl) (Nat.le_of_ble_eq_true rfl)) iy_X12_takesWorth sy_X12_takesWorth cf_12 (by decide) (kM_33 hF) (ct_X12_takesWorth hF E) rfl rfl (Nat.le_of_ble_eq_true rfl) ⟨Nat.le_refl _, Nat.le_refl _⟩ dX12_takesClause_73 ?_
    rintro _ _ D68 ⟨v64, rfl, rfl, E⟩
    exact z_zret hC dX12_takesClause_76 E.1 (Nat.le_refl _) (Nat.le_refl _) ⟨_, rfl, rfl, E.2⟩
  replace E := E.2 c62
  refine z_cut (a := ZM l G p e s m args below meth c 1 6 S (PI S post) S D 124 [(0, .ref (G.1 + 33))] []) ?_ (fun hdf => ?_)
  · skip
    exact hK7  E
  · by_cases c69 : v1 = (110 : Int32)
    · exact z_tableIn (tgt := 124) (off := 120) hC dX12_takesClause_4 c69 (by decide) (by decide) hdf
    by_cases c70 : v1 = (111 : Int32)
    · exact z_tableIn (tgt := 124) (off := 120) hC dX12_takesClause_4 c70 (by decide) (by decide) hdf
    by_cases c71 : v1 = (113 : Int32)
    · exact z_tableIn (tgt := 124) (off := 120) hC dX12_takesClause_4 c71 (by decide) (by decide) hdf
    by_cases c72 : v1 = (114 : Int32)
    · exact z_tableIn (tgt := 124) (off := 120) hC dX12_takesClause_4 c72 (by decide) (by decide) hdf
    by_cases c73 : v1 = (115 : Int32)
    · exact z_tableIn (tgt := 124) (off := 120) hC dX12_takesClause_4 c73 (by decide) (by decide) hdf
    by_cases c74 : v1 = (116 : Int32)
    · exact z_tableIn (tgt := 124) (off := 120) hC dX12_takesClause_4 c74 (by decide) (by decide) hdf
    by_cases c75 : v1 = (117 : Int32)
    · exact z_tableIn (tgt := 124) (off := 120) hC dX12_takesClause_4 c75 (by decide) (by decide) hdf
    by_cases c76 : v1 = (118 : Int32)
    · exact z_tableIn (tgt := 124) (off := 120) hC dX12_takesClause_4 c76 (by decide) (by decide) hdf
    exact z_tableOut (tgt := 124) hC dX12_takesClause_4 (by have zc24 := sw_ne c24 (show (107 : Int32).toInt = 107 by decide); have zc31 := sw_ne c31 (show (108 : Int32).toInt = 108 by decide); have zc48 := sw_ne c48 (show (109 : Int32).toInt = 109 by decide); have zc55 := sw_ne c55 (show (112 : Int32).toInt = 112 by decide); have zc62 := sw_ne c62 (show (119 : Int32).toInt = 119 by decide); have zc69 := sw_ne c69 (show (110 : Int32).toInt = 110 by decide); have zc70 := sw_ne c70 (show (111 : Int32).toInt = 111 by decide); have zc71 := sw_ne c71 (show (113 : Int32).toInt = 113 by decide); have zc72 := sw_ne c72 (show (114 : Int32).toInt = 114 by decide); have zc73 := sw_ne c73 (show (115 : Int32).toInt = 115 by decide); have zc74 := sw_ne c74 (show (116 : Int32).toInt = 116 by decide); have zc75 := sw_ne c75 (show (117 : Int32).toInt = 117 by decide); have zc76 := sw_ne c76 (show (118 : Int32).toInt = 118 by decide); omega) (by decide) hdf
def fX12_goes (a1 : Int32) (D : Dy) (post : Int32 → Dy → Prop) : Prop :=
  (∀ D1 : Dy, D1 = sI D 33 19 ((120 : Int32) * a1) → (vp_in a1 11 ∧ (∀ D3 : Dy, D3 = sI D1 33 20 (D1.1 45 (a1).toNatClampNeg) → (∀ D5 : Dy, D5 = sI D3 33 21 (0 : Int32) → (∀ D7 : Dy, D7 = sI D5 33 22 (0 : Int32) → (∀ D9 : Dy, D9 = sI D7 33 31 (0 : Int32) → (∀ D11 : Dy, D11 = sI D9 33 28 (0 : Int32) → (∀ D13 : Dy, D13 = sI D11 33 29 (0 : Int32) → (∀ D15 : Dy, D15 = sI D13 33 30 (9 : Int32) → (LP2 (fun (rec19 : Int32 → Dy → Prop) (v17 : Int32) (D18 : Dy) => (((6 : Int32) ≤ v17 → (LP2 (fun (rec24 : Int32 → Dy → Prop) (v22 : Int32) (D23 : Dy) => (((8 : Int32) ≤ v22 → (LP2 (fun (rec29 : Int32 → Dy → Prop) (v27 : Int32) (D28 : Dy) => (((3 : Int32) ≤ v27 → (LP1 (fun (rec33 : Dy → Prop) (D32 : Dy) => (fX12_takesClause D32 (fun (v36 : Int32) (D40 : Dy) => ((¬ v36 = 0 → (∀ D42 : Dy, D42 = sI D40 33 22 ((D40.1 33 22) + (1 : Int32)) → ((¬ (D42.1 33 21) = (D42.1 33 20) → (((D42.1 33 22) = (10 : Int32) → post (0 : Int32) D42) ∧ (¬ (D42.1 33 22) = (10 : Int32) → (fX12_takes (59 : Int32) D42 (fun (v47 : Int32) (D51 : Dy) => ((¬ v47 = 0 → (rec33 D51)) ∧ (v47 = 0 → post (0 : Int32) D51))))))) ∧ ((D42.1 33 21) = (D42.1 33 20) → post (1 : Int32) D42)))) ∧ (v36 = 0 → post (0 : Int32) D40))))) FU D28)) ∧ (¬ (3 : Int32) ≤ v27 → (vp_in v27 3 ∧ (∀ D53 : Dy, D53 = sI D28 49 (v27).toNatClampNeg (0 : Int32) → (vp_in v27 3 ∧ (∀ D55 : Dy, D55 = sI D53 50 (v27).toNatClampNeg (1 : Int32) → (∀ v57 : Int32, v57 = v27 + 1 → (rec29 v57 D55))))))))) FU (0 : Int32) D23)) ∧ (¬ (8 : Int32) ≤ v22 → (vp_in v22 8 ∧ (∀ D59 : Dy, D59 = sI D23 48 (v22).toNatClampNeg (0 : Int32) → (∀ v61 : Int32, v61 = v22 + 1 → (rec24 v61 D59))))))) FU (0 : Int32) D18)) ∧ (¬ (6 : Int32) ≤ v17 → (vp_in v17 6 ∧ (∀ D63 : Dy, D63 = sI D18 47 (v17).toNatClampNeg (10 : Int32) → (∀ v65 : Int32, v65 = v17 + 1 → (rec19 v65 D63))))))) FU (0 : Int32) D15))))))))))
set_option maxHeartbeats 4000000 in
set_option maxRecDepth 100000 in
theorem ct_X12_goes {l : Launch} {G : Gl} {S : Sh} {D : Dy} (hF : FM S) {a1 : Int32} {post : Int32 → Dy → Prop} (E : fX12_goes a1 D post) : Ct l G yX12_goes cX12_goes 3 (some .boolean) 7 0 0 S D [.ref (G.1 + 33), .int a1] (PI S post) := by
  refine z_enter (lv0 := [(0, .ref (G.1 + 33)), (1, .int a1)]) pl_12 (Nat.le_of_ble_eq_true rfl) rfl ?_
  intro p e s m args below meth c hC hnm
  unfold fX12_goes at E
  refine z_aload_n hC dX12_goes_0 rfl 0 rfl ?_
  refine z_bipush (v := 120) hC dX12_goes_1 rfl ?_
  refine z_iload_n hC dX12_goes_3 rfl 1 rfl ?_
  refine z_imul hC dX12_goes_4 ?_
  refine z_puti hC lf_X12_68_12 rfl (kM_33 hF) dX12_goes_5 ?_
  refine z_topD (fun D1 h2 => ?_)
  replace E := E D1 h2
  refine z_aload_n hC dX12_goes_8 rfl 0 rfl ?_
  refine z_aload_n hC dX12_goes_9 rfl 0 rfl ?_
  refine z_get hC lf_X12_62_12 (kM_33 hF) dX12_goes_10 (fV_ref rfl (rM_33_17 hF)) ?_
  refine z_iload_n hC dX12_goes_13 rfl 1 rfl ?_
  refine z_iald hC (kM_45 hF) (nM_45 hF) E.1 dX12_goes_14 ?_
  replace E := E.2
  refine z_puti hC lf_X12_71_12 rfl (kM_33 hF) dX12_goes_15 ?_
  refine z_topD (fun D3 h4 => ?_)
  replace E := E D3 h4
  refine z_aload_n hC dX12_goes_18 rfl 0 rfl ?_
  refine z_iconst (v := 0) hC dX12_goes_19 rfl ?_
  refine z_puti hC lf_X12_74_12 rfl (kM_33 hF) dX12_goes_20 ?_
  refine z_topD (fun D5 h6 => ?_)
  replace E := E D5 h6
  refine z_aload_n hC dX12_goes_23 rfl 0 rfl ?_
  refine z_iconst (v := 0) hC dX12_goes_24 rfl ?_
  refine z_puti hC lf_X12_77_12 rfl (kM_33 hF) dX12_goes_25 ?_
  refine z_topD (fun D7 h8 => ?_)
  replace E := E D7 h8
  refine z_aload_n hC dX12_goes_28 rfl 0 rfl ?_
  refine z_iconst (v := 0) hC dX12_goes_29 rfl ?_
  refine z_puti hC lf_X12_104_12 rfl (kM_33 hF) dX12_goes_30 ?_
  refine z_topD (fun D9 h10 => ?_)
  replace E := E D9 h10
  refine z_aload_n hC dX12_goes_33 rfl 0 rfl ?_
  refine z_iconst (v := 0) hC dX12_goes_34 rfl ?_
  refine z_puti hC lf_X12_95_12 rfl (kM_33 hF) dX12_goes_35 ?_
  refine z_topD (fun D11 h12 => ?_)
  replace E := E D11 h12
  refine z_aload_n hC dX12_goes_38 rfl 0 rfl ?_
  refine z_iconst (v := 0) hC dX12_goes_39 rfl ?_
  refine z_puti hC lf_X12_98_12 rfl (kM_33 hF) dX12_goes_40 ?_
  refine z_topD (fun D13 h14 => ?_)
  replace E := E D13 h14
  refine z_aload_n hC dX12_goes_43 rfl 0 rfl ?_
  refine z_bipush (v := 9) hC dX12_goes_44 rfl ?_
  refine z_puti hC lf_X12_101_12 rfl (kM_33 hF) dX12_goes_46 ?_
  refine z_topD (fun D15 h16 => ?_)
  replace E := E D15 h16
  refine z_iconst (v := 0) hC dX12_goes_49 rfl ?_
  refine z_istore_n (lv' := [(2, .int (0 : Int32)), (0, .ref (G.1 + 33)), (1, .int a1)]) hC dX12_goes_50 rfl (Nat.le_of_ble_eq_true rfl) rfl ?_
  refine z_sub [1, 0] rfl ?_
  refine LP2_use (fun (v17 : Int32) (D18 : Dy) => ZM l G p e s m args below meth c 3 7 S (PI S post) S D18 51 [(0, .ref (G.1 + 33)), (2, .int v17)] []) ?_ FU (0 : Int32) D15 E
  intro rec19 hrec20 v17 D18 E
  refine z_iload_n hC dX12_goes_51 rfl 1 rfl ?_
  refine z_bipush (v := 6) hC dX12_goes_52 rfl ?_
  refine z_icmp_ge (tgt := 71) hC dX12_goes_54 (by decide) (fun c21 => ?_) (fun c21 => ?_)
  · replace E := E.1 c21
    refine z_iconst (v := 0) hC dX12_goes_71 rfl ?_
    refine z_istore_n (lv' := [(2, .int (0 : Int32)), (0, .ref (G.1 + 33))]) hC dX12_goes_72 rfl (Nat.le_of_ble_eq_true rfl) rfl ?_
    refine z_sub [1, 0] rfl ?_
    refine LP2_use (fun (v22 : Int32) (D23 : Dy) => ZM l G p e s m args below meth c 3 7 S (PI S post) S D23 73 [(0, .ref (G.1 + 33)), (2, .int v22)] []) ?_ FU (0 : Int32) D18 E
    intro rec24 hrec25 v22 D23 E
    refine z_iload_n hC dX12_goes_73 rfl 1 rfl ?_
    refine z_bipush (v := 8) hC dX12_goes_74 rfl ?_
    refine z_icmp_ge (tgt := 92) hC dX12_goes_76 (by decide) (fun c26 => ?_) (fun c26 => ?_)
    · replace E := E.1 c26
      refine z_iconst (v := 0) hC dX12_goes_92 rfl ?_
      refine z_istore_n (lv' := [(2, .int (0 : Int32)), (0, .ref (G.1 + 33))]) hC dX12_goes_93 rfl (Nat.le_of_ble_eq_true rfl) rfl ?_
      refine z_sub [1, 0] rfl ?_
      refine LP2_use (fun (v27 : Int32) (D28 : Dy) => ZM l G p e s m args below meth c 3 7 S (PI S post) S D28 94 [(0, .ref (G.1 + 33)), (2, .int v27)] []) ?_ FU (0 : Int32) D23 E
      intro rec29 hrec30 v27 D28 E
      refine z_iload_n hC dX12_goes_94 rfl 1 rfl ?_
      refine z_iconst (v := 3) hC dX12_goes_95 rfl ?_
      refine z_icmp_ge (tgt := 119) hC dX12_goes_96 (by decide) (fun c31 => ?_) (fun c31 => ?_)
      · replace E := E.1 c31
        refine z_sub [0] rfl ?_
        refine LP1_use (fun (D32 : Dy) => ZM l G p e s m args below meth c 3 7 S (PI S post) S D32 119 [(0, .ref (G.1 + 33))] []) ?_ FU D28 E
        intro rec33 hrec34 D32 E
        refine z_aload_n hC dX12_goes_119 rfl 0 rfl ?_
        refine z_callV (ci := 12) (rest := []) hC (ck_mk lk_X12_252 in_X12_takesClause cd_X12_takesClause ds_X12_takesClause (Nat.le_of_ble_eq_true rfl) (Nat.le_of_ble_eq_true rfl)) iy_X12_takesClause sy_X12_takesClause cf_12 (by decide) (kM_33 hF) (ct_X12_takesClause hF E) rfl rfl (Nat.le_of_ble_eq_true rfl) ⟨Nat.le_refl _, Nat.le_refl _⟩ dX12_goes_120 ?_
        rintro _ _ D40 ⟨v36, rfl, rfl, E⟩
        refine z_if_ne (tgt := 128) hC dX12_goes_123 (by decide) (fun c41 => ?_) (fun c41 => ?_)
        · replace E := E.1 c41
          refine z_aload_n hC dX12_goes_128 rfl 0 rfl ?_
          refine z_dup hC dX12_goes_129 rfl ?_
          refine z_get hC lf_X12_77_12 (kM_33 hF) dX12_goes_130 (fV_int rfl) ?_
          refine z_iconst (v := 1) hC dX12_goes_133 rfl ?_
          refine z_iadd hC dX12_goes_134 ?_
          refine z_puti hC lf_X12_77_12 rfl (kM_33 hF) dX12_goes_135 ?_
          refine z_topD (fun D42 h43 => ?_)
          replace E := E D42 h43
          refine z_aload_n hC dX12_goes_138 rfl 0 rfl ?_
          refine z_get hC lf_X12_74_12 (kM_33 hF) dX12_goes_139 (fV_int rfl) ?_
          refine z_aload_n hC dX12_goes_142 rfl 0 rfl ?_
          refine z_get hC lf_X12_71_12 (kM_33 hF) dX12_goes_143 (fV_int rfl) ?_
          refine z_icmp_ne (tgt := 151) hC dX12_goes_146 (by decide) (fun c44 => ?_) (fun c44 => ?_)
          · replace E := E.1 c44
            refine z_aload_n hC dX12_goes_151 rfl 0 rfl ?_
            refine z_get hC lf_X12_77_12 (kM_33 hF) dX12_goes_152 (fV_int rfl) ?_
            refine z_bipush (v := 10) hC dX12_goes_155 rfl ?_
            refine z_icmp_eq (tgt := 169) hC dX12_goes_157 (by decide) (fun c45 => ?_) (fun c45 => ?_)
            · replace E := E.1 c45
              refine z_iconst (v := 0) hC dX12_goes_169 rfl ?_
              exact z_zret hC dX12_goes_170 (Or.inl rfl) (Nat.le_refl _) (Nat.le_refl _) ⟨_, rfl, rfl, E⟩
            · replace E := E.2 c45
              refine z_aload_n hC dX12_goes_160 rfl 0 rfl ?_
              refine z_bipush (v := 59) hC dX12_goes_161 rfl ?_
              refine z_callV (ci := 12) (rest := []) hC (ck_mk lk_X12_203 in_X12_takes cd_X12_takes ds_X12_takes (Nat.le_of_ble_eq_true rfl) (Nat.le_of_ble_eq_true rfl)) iy_X12_takes sy_X12_takes cf_12 (by decide) (kM_33 hF) (ct_X12_takes hF E) rfl rfl (Nat.le_of_ble_eq_true rfl) ⟨Nat.le_refl _, Nat.le_refl _⟩ dX12_goes_163 ?_
              rintro _ _ D51 ⟨v47, rfl, rfl, E⟩
              refine z_if_ne (tgt := 119) hC dX12_goes_166 (by decide) (fun c52 => ?_) (fun c52 => ?_)
              · replace E := E.1 c52
                exact hrec34 D51 E
              · replace E := E.2 c52
                refine z_iconst (v := 0) hC dX12_goes_169 rfl ?_
                exact z_zret hC dX12_goes_170 (Or.inl rfl) (Nat.le_refl _) (Nat.le_refl _) ⟨_, rfl, rfl, E⟩
          · replace E := E.2 c44
            refine z_iconst (v := 1) hC dX12_goes_149 rfl ?_
            exact z_zret hC dX12_goes_150 (Or.inr rfl) (Nat.le_refl _) (Nat.le_refl _) ⟨_, rfl, rfl, E⟩
        · replace E := E.2 c41
          refine z_iconst (v := 0) hC dX12_goes_126 rfl ?_
          exact z_zret hC dX12_goes_127 (Or.inl rfl) (Nat.le_refl _) (Nat.le_refl _) ⟨_, rfl, rfl, E⟩
      · replace E := E.2 c31
        refine z_aload_n hC dX12_goes_99 rfl 0 rfl ?_
        refine z_get hC lf_X12_89_12 (kM_33 hF) dX12_goes_100 (fV_ref rfl (rM_33_26 hF)) ?_
        refine z_iload_n hC dX12_goes_103 rfl 1 rfl ?_
        refine z_iconst (v := 0) hC dX12_goes_104 rfl ?_
        refine z_iast hC (kM_49 hF) (nM_49 hF) E.1 dX12_goes_105 ?_
        replace E := E.2
        refine z_topD (fun D53 h54 => ?_)
        replace E := E D53 h54
        refine z_aload_n hC dX12_goes_106 rfl 0 rfl ?_
        refine z_get hC lf_X12_92_12 (kM_33 hF) dX12_goes_107 (fV_ref rfl (rM_33_27 hF)) ?_
        refine z_iload_n hC dX12_goes_110 rfl 1 rfl ?_
        refine z_iconst (v := 1) hC dX12_goes_111 rfl ?_
        refine z_iast hC (kM_50 hF) (nM_50 hF) E.1 dX12_goes_112 ?_
        replace E := E.2
        refine z_topD (fun D55 h56 => ?_)
        replace E := E D55 h56
        obtain ⟨v57, h58⟩ : ∃ y : Int32, y = v27 + 1 := ⟨_, rfl⟩
        replace E := E v57 h58
        refine z_iinc (q := 1) (v := v57) (lv' := [(2, .int v57), (0, .ref (G.1 + 33))]) hC dX12_goes_113 rfl (by rw [h58]; rfl) (Nat.le_of_ble_eq_true rfl) rfl ?_
        refine z_goto (tgt := 94) hC dX12_goes_116 (by decide) ?_
        refine z_sub [1, 0] rfl ?_
        exact hrec30 v57 D55 E
    · replace E := E.2 c26
      refine z_aload_n hC dX12_goes_79 rfl 0 rfl ?_
      refine z_get hC lf_X12_86_12 (kM_33 hF) dX12_goes_80 (fV_ref rfl (rM_33_25 hF)) ?_
      refine z_iload_n hC dX12_goes_83 rfl 1 rfl ?_
      refine z_iconst (v := 0) hC dX12_goes_84 rfl ?_
      refine z_iast hC (kM_48 hF) (nM_48 hF) E.1 dX12_goes_85 ?_
      replace E := E.2
      refine z_topD (fun D59 h60 => ?_)
      replace E := E D59 h60
      obtain ⟨v61, h62⟩ : ∃ y : Int32, y = v22 + 1 := ⟨_, rfl⟩
      replace E := E v61 h62
      refine z_iinc (q := 1) (v := v61) (lv' := [(2, .int v61), (0, .ref (G.1 + 33))]) hC dX12_goes_86 rfl (by rw [h62]; rfl) (Nat.le_of_ble_eq_true rfl) rfl ?_
      refine z_goto (tgt := 73) hC dX12_goes_89 (by decide) ?_
      refine z_sub [1, 0] rfl ?_
      exact hrec25 v61 D59 E
  · replace E := E.2 c21
    refine z_aload_n hC dX12_goes_57 rfl 0 rfl ?_
    refine z_get hC lf_X12_83_12 (kM_33 hF) dX12_goes_58 (fV_ref rfl (rM_33_24 hF)) ?_
    refine z_iload_n hC dX12_goes_61 rfl 1 rfl ?_
    refine z_bipush (v := 10) hC dX12_goes_62 rfl ?_
    refine z_iast hC (kM_47 hF) (nM_47 hF) E.1 dX12_goes_64 ?_
    replace E := E.2
    refine z_topD (fun D63 h64 => ?_)
    replace E := E D63 h64
    obtain ⟨v65, h66⟩ : ∃ y : Int32, y = v17 + 1 := ⟨_, rfl⟩
    replace E := E v65 h66
    refine z_iinc (q := 1) (v := v65) (lv' := [(2, .int v65), (0, .ref (G.1 + 33))]) hC dX12_goes_65 rfl (by rw [h66]; rfl) (Nat.le_of_ble_eq_true rfl) rfl ?_
    refine z_goto (tgt := 51) hC dX12_goes_68 (by decide) ?_
    refine z_sub [1, 0] rfl ?_
    exact hrec20 v65 D63 E
def fX12_listen (a1 : Int32) (D : Dy) (post : Int32 → Dy → Prop) : Prop :=
  (LP3 (fun (rec4 : Int32 → Int32 → Dy → Prop) (v1 : Int32) (v2 : Int32) (D3 : Dy) => (((6 : Int32) ≤ v2 → ((v1 = 0 ∨ v1 = 1) ∧ post v1 D3)) ∧ (¬ (6 : Int32) ≤ v2 → (∀ D7 : Dy, D7 = sI D3 33 33 v2 → (fX12_goes a1 D7 (fun (v10 : Int32) (D14 : Dy) => (∀ v15 : Int32, v15 = v2 + 1 → (rec4 v10 v15 D14)))))))) FU (1 : Int32) (0 : Int32) D)
set_option maxHeartbeats 4000000 in
set_option maxRecDepth 100000 in
theorem ct_X12_listen {l : Launch} {G : Gl} {S : Sh} {D : Dy} (hF : FM S) {a1 : Int32} {post : Int32 → Dy → Prop} (E : fX12_listen a1 D post) : Ct l G yX12_listen cX12_listen 4 (some .boolean) 8 0 0 S D [.ref (G.1 + 33), .int a1] (PI S post) := by
  refine z_enter (lv0 := [(0, .ref (G.1 + 33)), (1, .int a1)]) pl_12 (Nat.le_of_ble_eq_true rfl) rfl ?_
  intro p e s m args below meth c hC hnm
  unfold fX12_listen at E
  refine z_iconst (v := 1) hC dX12_listen_0 rfl ?_
  refine z_istore_n (lv' := [(2, .int (1 : Int32)), (0, .ref (G.1 + 33)), (1, .int a1)]) hC dX12_listen_1 rfl (Nat.le_of_ble_eq_true rfl) rfl ?_
  refine z_iconst (v := 0) hC dX12_listen_2 rfl ?_
  refine z_istore_n (lv' := [(3, .int (0 : Int32)), (2, .int (1 : Int32)), (0, .ref (G.1 + 33)), (1, .int a1)]) hC dX12_listen_3 rfl (Nat.le_of_ble_eq_true rfl) rfl ?_
  refine z_sub [2, 3, 1, 0] rfl ?_
  refine LP3_use (fun (v1 : Int32) (v2 : Int32) (D3 : Dy) => ZM l G p e s m args below meth c 4 8 S (PI S post) S D3 4 [(0, .ref (G.1 + 33)), (1, .int a1), (2, .int v1), (3, .int v2)] []) ?_ FU (1 : Int32) (0 : Int32) D E
  intro rec4 hrec5 v1 v2 D3 E
  refine z_iload_n hC dX12_listen_4 rfl 3 rfl ?_
  refine z_bipush (v := 6) hC dX12_listen_5 rfl ?_
  refine z_icmp_ge (tgt := 27) hC dX12_listen_7 (by decide) (fun c6 => ?_) (fun c6 => ?_)
  · replace E := E.1 c6
    refine z_iload_n hC dX12_listen_27 rfl 2 rfl ?_
    exact z_zret hC dX12_listen_28 E.1 (Nat.le_refl _) (Nat.le_refl _) ⟨_, rfl, rfl, E.2⟩
  · replace E := E.2 c6
    refine z_aload_n hC dX12_listen_10 rfl 0 rfl ?_
    refine z_iload_n hC dX12_listen_11 rfl 3 rfl ?_
    refine z_puti hC lf_X12_111_12 rfl (kM_33 hF) dX12_listen_12 ?_
    refine z_topD (fun D7 h8 => ?_)
    replace E := E D7 h8
    refine z_aload_n hC dX12_listen_15 rfl 0 rfl ?_
    refine z_iload_n hC dX12_listen_16 rfl 1 rfl ?_
    refine z_callV (ci := 12) (rest := []) hC (ck_mk lk_X12_255 in_X12_goes cd_X12_goes ds_X12_goes (Nat.le_of_ble_eq_true rfl) (Nat.le_of_ble_eq_true rfl)) iy_X12_goes sy_X12_goes cf_12 (by decide) (kM_33 hF) (ct_X12_goes hF E) rfl rfl (Nat.le_of_ble_eq_true rfl) ⟨Nat.le_refl _, Nat.le_refl _⟩ dX12_listen_17 ?_
    rintro _ _ D14 ⟨v10, rfl, rfl, E⟩
    refine z_istore_n (lv' := [(2, .int v10), (0, .ref (G.1 + 33)), (1, .int a1), (3, .int v2)]) hC dX12_listen_20 rfl (Nat.le_of_ble_eq_true rfl) rfl ?_
    obtain ⟨v15, h16⟩ : ∃ y : Int32, y = v2 + 1 := ⟨_, rfl⟩
    replace E := E v15 h16
    refine z_iinc (q := 3) (v := v15) (lv' := [(3, .int v15), (2, .int v10), (0, .ref (G.1 + 33)), (1, .int a1)]) hC dX12_listen_21 rfl (by rw [h16]; rfl) (Nat.le_of_ble_eq_true rfl) rfl ?_
    refine z_goto (tgt := 4) hC dX12_listen_24 (by decide) ?_
    refine z_sub [2, 3, 1, 0] rfl ?_
    exact hrec5 v10 v15 D14 E
def fX12_putOdds (a1 : Int64) (a2 : Int64) (D : Dy) (post : Dy → Prop) : Prop :=
  (∀ D1 : Dy, D1 = sL D 33 39 a1 → (∀ D3 : Dy, D3 = sL D1 33 40 a2 → post D3))
set_option maxHeartbeats 4000000 in
set_option maxRecDepth 100000 in
theorem ct_X12_putOdds {l : Launch} {G : Gl} {S : Sh} {D : Dy} (hF : FM S) {a1 : Int64} {a2 : Int64} {post : Dy → Prop} (E : fX12_putOdds a1 a2 D post) : Ct l G yX12_putOdds cX12_putOdds 5 none 0 0 0 S D [.ref (G.1 + 33), .long a1, .long a2] (PV S post) := by
  refine z_enter (lv0 := [(0, .ref (G.1 + 33)), (1, .long a1), (3, .long a2)]) pl_12 (Nat.le_of_ble_eq_true rfl) rfl ?_
  intro p e s m args below meth c hC hnm
  unfold fX12_putOdds at E
  refine z_aload_n hC dX12_putOdds_0 rfl 0 rfl ?_
  refine z_lload_n hC dX12_putOdds_1 rfl 1 rfl ?_
  refine z_putl hC lf_X12_129_12 rfl (kM_33 hF) dX12_putOdds_2 ?_
  refine z_topD (fun D1 h2 => ?_)
  replace E := E D1 h2
  refine z_aload_n hC dX12_putOdds_5 rfl 0 rfl ?_
  refine z_lload_n hC dX12_putOdds_6 rfl 2 rfl ?_
  refine z_putl hC lf_X12_133_12 rfl (kM_33 hF) dX12_putOdds_7 ?_
  refine z_topD (fun D3 h4 => ?_)
  replace E := E D3 h4
  exact z_vret hC dX12_putOdds_10 (Nat.le_refl _) (Nat.le_refl _) ⟨rfl, rfl, E⟩
def fX12_weightOf (a1 : Int32) (a2 : Int32) (D : Dy) (post : Int32 → Prop) : Prop :=
  ((¬ a1 = (7 : Int32) → (vp_in a1 6 ∧ (∀ v2 : Int32, v2 = (D.1 47 (a1).toNatClampNeg) → (LP2 (fun (rec6 : Int32 → Int32 → Prop) (v4 : Int32) (v5 : Int32) => (((8 : Int32) ≤ v5 → (vp_in a1 6 ∧ (∀ v9 : Int32, v9 = (v4 - (((D.1 33 28) * (D.1 35 (a1).toNatClampNeg)) / (10 : Int32))) → (JN (fun (v11 : Int32) => (JN (fun (v14 : Int32) => ((v14 ≤ (50 : Int32) → post v14) ∧ (¬ v14 ≤ (50 : Int32) → post (50 : Int32)))) (fun K15 : Int32 → Prop => ((¬ (a1 - a1 / (3 : Int32) * (3 : Int32)) = a2 → (K15 v11)) ∧ ((a1 - a1 / (3 : Int32) * (3 : Int32)) = a2 → (vp_in a2 3 ∧ (((D.1 50 (a2).toNatClampNeg) ≤ (1 : Int32) → (K15 v11)) ∧ (¬ (D.1 50 (a2).toNatClampNeg) ≤ (1 : Int32) → (vp_in a2 3 ∧ (∀ v20 : Int32, v20 = (v11 * (D.1 50 (a2).toNatClampNeg)) → (K15 v20))))))))))) (fun K12 : Int32 → Prop => (((1 : Int32) ≤ v9 → (K12 v9)) ∧ (¬ (1 : Int32) ≤ v9 → (K12 (1 : Int32))))))))) ∧ (¬ (8 : Int32) ≤ v5 → (vp_in a1 6 ∧ (fX12_has (D.1 34 (a1).toNatClampNeg) v5 (fun (v24 : Int32) => (JN (fun (v28 : Int32) => (∀ v31 : Int32, v31 = (v4 + v28) → (∀ v33 : Int32, v33 = v5 + 1 → (rec6 v31 v33)))) (fun K29 : Int32 → Prop => ((v24 = 0 → (K29 (0 : Int32))) ∧ (¬ v24 = 0 → (vp_in v5 8 ∧ (K29 (D.1 48 (v5).toNatClampNeg))))))))))))) FU v2 (0 : Int32))))) ∧ (a1 = (7 : Int32) → (((D.1 33 29) ≤ (50 : Int32) → post (D.1 33 29)) ∧ (¬ (D.1 33 29) ≤ (50 : Int32) → post (50 : Int32)))))
