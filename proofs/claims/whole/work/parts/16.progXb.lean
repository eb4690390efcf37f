set_option maxHeartbeats 4000000 in
set_option maxRecDepth 100000 in
theorem ct_X6_countAgreeing {l : Launch} {G : Gl} {S : Sh} {D : Dy} {mdl : Nat → Option (Nat × Nat)} (hF : FX S mdl)  {post : Int32 → Dy → Prop} (E : fX6_countAgreeing D post) : Ct l G yX6_countAgreeing cX6_countAgreeing 4 (some .int) 3 0 0 S D [.ref (G.1 + 14)] (PI S post) := by
  refine z_enter (lv0 := [(0, .ref (G.1 + 14))]) pl_6 (Nat.le_of_ble_eq_true rfl) rfl ?_
  intro p e s m args below meth c hC hnm
  unfold fX6_countAgreeing at E
  refine z_iconst (v := 1) hC dX6_countAgreeing_0 rfl ?_
  refine z_aload_n hC dX6_countAgreeing_1 rfl 0 rfl ?_
  refine z_get hC lf_X6_9_6 (kX_14 hF) dX6_countAgreeing_2 (fV_int rfl) ?_
  refine z_ishl hC dX6_countAgreeing_5 ?_
  refine z_iconst (v := 1) hC dX6_countAgreeing_6 rfl ?_
  refine z_isub hC dX6_countAgreeing_7 ?_
  refine z_topi (fun v1 h2 => ?_)
  replace E := E v1 h2
  refine z_istore_n (lv' := [(1, .int v1), (0, .ref (G.1 + 14))]) hC dX6_countAgreeing_8 rfl (Nat.le_of_ble_eq_true rfl) rfl ?_
  refine z_iconst (v := 0) hC dX6_countAgreeing_9 rfl ?_
  refine z_istore_n (lv' := [(2, .int (0 : Int32)), (1, .int v1), (0, .ref (G.1 + 14))]) hC dX6_countAgreeing_10 rfl (Nat.le_of_ble_eq_true rfl) rfl ?_
  refine z_sub [2, 1, 0] rfl ?_
  refine LP2_use (fun (v3 : Int32) (D4 : Dy) => ZM l G p e s m args below meth c 4 3 S (PI S post) S D4 11 [(0, .ref (G.1 + 14)), (1, .int v1), (2, .int v3)] []) ?_ FU (0 : Int32) D E
  intro rec5 hrec6 v3 D4 E
  refine z_iload_n hC dX6_countAgreeing_11 rfl 2 rfl ?_
  refine z_iload_n hC dX6_countAgreeing_12 rfl 1 rfl ?_
  refine z_icmp_gt (tgt := 29) hC dX6_countAgreeing_13 (by decide) (fun c7 => ?_) (fun c7 => ?_)
  · replace E := E.1 c7
    refine z_aload_n hC dX6_countAgreeing_29 rfl 0 rfl ?_
    refine z_get hC lf_X6_25_6 (kX_14 hF) dX6_countAgreeing_30 (fV_ref rfl (rX_14_5 hF)) ?_
    refine z_iconst (v := 0) hC dX6_countAgreeing_33 rfl ?_
    refine z_iconst (v := 1) hC dX6_countAgreeing_34 rfl ?_
    refine z_iast hC (kX_18 hF) (nX_18 hF) E.1 dX6_countAgreeing_35 ?_
    replace E := E.2
    refine z_topD (fun D8 h9 => ?_)
    replace E := E D8 h9
    refine z_iconst (v := 0) hC dX6_countAgreeing_36 rfl ?_
    refine z_istore_n (lv' := [(2, .int (0 : Int32)), (0, .ref (G.1 + 14)), (1, .int v1)]) hC dX6_countAgreeing_37 rfl (Nat.le_of_ble_eq_true rfl) rfl ?_
    refine z_sub [1, 2, 0] rfl ?_
    refine LP2_use (fun (v10 : Int32) (D11 : Dy) => ZM l G p e s m args below meth c 4 3 S (PI S post) S D11 38 [(0, .ref (G.1 + 14)), (1, .int v1), (2, .int v10)] []) ?_ FU (0 : Int32) D8 E
    intro rec12 hrec13 v10 D11 E
    refine z_iload_n hC dX6_countAgreeing_38 rfl 2 rfl ?_
    refine z_iload_n hC dX6_countAgreeing_39 rfl 1 rfl ?_
    refine z_icmp_ge (tgt := 102) hC dX6_countAgreeing_40 (by decide) (fun c14 => ?_) (fun c14 => ?_)
    · replace E := E.1 c14
      refine z_aload_n hC dX6_countAgreeing_102 rfl 0 rfl ?_
      refine z_iload_n hC dX6_countAgreeing_103 rfl 1 rfl ?_
      refine z_callV (ci := 6) (rest := []) hC (ck_mk lk_X6_48 in_X6_countRests cd_X6_countRests ds_X6_countRests (Nat.le_of_ble_eq_true rfl) (Nat.le_of_ble_eq_true rfl)) iy_X6_countRests sy_X6_countRests cf_6 (by decide) (kX_14 hF) (ct_X6_countRests hF E) rfl rfl (Nat.le_of_ble_eq_true rfl) ⟨Nat.le_refl _, Nat.le_refl _⟩ dX6_countAgreeing_104 ?_
      rintro _ _ D20 ⟨rfl, rfl, E⟩
      refine z_aload_n hC dX6_countAgreeing_107 rfl 0 rfl ?_
      refine z_get hC lf_X6_25_6 (kX_14 hF) dX6_countAgreeing_108 (fV_ref rfl (rX_14_5 hF)) ?_
      refine z_iload_n hC dX6_countAgreeing_111 rfl 1 rfl ?_
      refine z_iald hC (kX_18 hF) (nX_18 hF) E.1 dX6_countAgreeing_112 ?_
      replace E := E.2
      exact z_iret hC dX6_countAgreeing_113 (Nat.le_refl _) (Nat.le_refl _) ⟨_, rfl, rfl, E⟩
    · replace E := E.2 c14
      refine z_iconst (v := 0) hC dX6_countAgreeing_43 rfl ?_
      refine z_istore_n (lv' := [(3, .int (0 : Int32)), (0, .ref (G.1 + 14)), (1, .int v1), (2, .int v10)]) hC dX6_countAgreeing_44 rfl (Nat.le_of_ble_eq_true rfl) rfl ?_
      refine z_sub [1, 2, 3, 0] rfl ?_
      refine LP2_use (fun (v21 : Int32) (D22 : Dy) => ZM l G p e s m args below meth c 4 3 S (PI S post) S D22 45 [(0, .ref (G.1 + 14)), (1, .int v1), (2, .int v10), (3, .int v21)] []) ?_ FU (0 : Int32) D11 E
      intro rec23 hrec24 v21 D22 E
      refine z_iload_n hC dX6_countAgreeing_45 rfl 3 rfl ?_
      refine z_aload_n hC dX6_countAgreeing_46 rfl 0 rfl ?_
      refine z_get hC lf_X6_9_6 (kX_14 hF) dX6_countAgreeing_47 (fV_int rfl) ?_
      obtain ⟨K25, hK26, EE⟩ := JN_use E (fun K25 : Prop => K25 → ZM l G p e s m args below meth c 4 3 S (PI S post) S D22 96 [(0, .ref (G.1 + 14)), (1, .int v1), (2, .int v10)] []) (by
        intro E
        obtain ⟨v27, h28⟩ : ∃ y : Int32, y = v10 + 1 := ⟨_, rfl⟩
        replace E := E v27 h28
        refine z_iinc (q := 2) (v := v27) (lv' := [(2, .int v27), (0, .ref (G.1 + 14)), (1, .int v1)]) hC dX6_countAgreeing_96 rfl (by rw [h28]; rfl) (Nat.le_of_ble_eq_true rfl) rfl ?_
        refine z_goto (tgt := 38) hC dX6_countAgreeing_99 (by decide) ?_
        refine z_sub [1, 2, 0] rfl ?_
        exact hrec13 v27 D22 E)
      replace E := EE
      clear EE
      refine z_icmp_ge (tgt := 96) hC dX6_countAgreeing_50 (by decide) (fun c29 => ?_) (fun c29 => ?_)
      · replace E := E.1 c29
        refine z_sub [0, 1, 2] rfl ?_
        exact hK26  E
      · replace E := E.2 c29
        refine z_aload_n hC dX6_countAgreeing_53 rfl 0 rfl ?_
        refine z_get hC lf_X6_25_6 (kX_14 hF) dX6_countAgreeing_54 (fV_ref rfl (rX_14_5 hF)) ?_
        refine z_iload_n hC dX6_countAgreeing_57 rfl 2 rfl ?_
        refine z_iald hC (kX_18 hF) (nX_18 hF) E.1 dX6_countAgreeing_58 ?_
        replace E := E.2
        refine z_if_le (tgt := 96) hC dX6_countAgreeing_59 (by decide) (fun c30 => ?_) (fun c30 => ?_)
        · replace E := E.1 c30
          refine z_sub [0, 1, 2] rfl ?_
          exact hK26  E
        · replace E := E.2 c30
          refine z_aload_n hC dX6_countAgreeing_62 rfl 0 rfl ?_
          refine z_iload_n hC dX6_countAgreeing_63 rfl 3 rfl ?_
          refine z_iload_n hC dX6_countAgreeing_64 rfl 2 rfl ?_
          refine z_callV (ci := 6) (rest := []) hC (ck_mk lk_X6_45 in_X6_mayFollow cd_X6_mayFollow ds_X6_mayFollow (Nat.le_of_ble_eq_true rfl) (Nat.le_of_ble_eq_true rfl)) iy_X6_mayFollow sy_X6_mayFollow cf_6 (by decide) (kX_14 hF) (ct_X6_mayFollow hF E) rfl rfl (Nat.le_of_ble_eq_true rfl) ⟨Nat.le_refl _, Nat.le_refl _⟩ dX6_countAgreeing_65 ?_
          rintro _ _ _ ⟨v32, rfl, rfl, rfl, E⟩
          obtain ⟨K37, hK38, EE⟩ := JN_use E (fun K37 : Dy → Prop => ∀ (D36 : Dy), K37 D36 → ZM l G p e s m args below meth c 4 3 S (PI S post) S D36 90 [(0, .ref (G.1 + 14)), (1, .int v1), (2, .int v10), (3, .int v21)] []) (by
            intro D36 E
            obtain ⟨v39, h40⟩ : ∃ y : Int32, y = v21 + 1 := ⟨_, rfl⟩
            replace E := E v39 h40
            refine z_iinc (q := 3) (v := v39) (lv' := [(3, .int v39), (0, .ref (G.1 + 14)), (1, .int v1), (2, .int v10)]) hC dX6_countAgreeing_90 rfl (by rw [h40]; rfl) (Nat.le_of_ble_eq_true rfl) rfl ?_
            refine z_goto (tgt := 45) hC dX6_countAgreeing_93 (by decide) ?_
            refine z_sub [1, 2, 3, 0] rfl ?_
            exact hrec24 v39 D36 E)
          replace E := EE
          clear EE
          refine z_if_eq (tgt := 90) hC dX6_countAgreeing_68 (by decide) (fun c41 => ?_) (fun c41 => ?_)
          · replace E := E.1 c41
            exact hK38 D22 E
          · replace E := E.2 c41
            refine z_aload_n hC dX6_countAgreeing_71 rfl 0 rfl ?_
            refine z_get hC lf_X6_25_6 (kX_14 hF) dX6_countAgreeing_72 (fV_ref rfl (rX_14_5 hF)) ?_
            refine z_iload_n hC dX6_countAgreeing_75 rfl 2 rfl ?_
            refine z_iconst (v := 1) hC dX6_countAgreeing_76 rfl ?_
            refine z_iload_n hC dX6_countAgreeing_77 rfl 3 rfl ?_
            refine z_ishl hC dX6_countAgreeing_78 ?_
            refine z_ior hC dX6_countAgreeing_79 ?_
            refine z_topi (fun v42 h43 => ?_)
            replace E := E v42 h43
            refine z_dup2 hC dX6_countAgreeing_80 rfl rfl ?_
            refine z_iald hC (kX_18 hF) (nX_18 hF) E.1 dX6_countAgreeing_81 ?_
            replace E := E.2
            refine z_aload_n hC dX6_countAgreeing_82 rfl 0 rfl ?_
            refine z_get hC lf_X6_25_6 (kX_14 hF) dX6_countAgreeing_83 (fV_ref rfl (rX_14_5 hF)) ?_
            refine z_iload_n hC dX6_countAgreeing_86 rfl 2 rfl ?_
            refine z_iald hC (kX_18 hF) (nX_18 hF) E.1 dX6_countAgreeing_87 ?_
            replace E := E.2
            refine z_iadd hC dX6_countAgreeing_88 ?_
            refine z_iast hC (kX_18 hF) (nX_18 hF) E.1 dX6_countAgreeing_89 ?_
            replace E := E.2
            refine z_topD (fun D44 h45 => ?_)
            replace E := E D44 h45
            exact hK38 D44 E
  · replace E := E.2 c7
    refine z_aload_n hC dX6_countAgreeing_16 rfl 0 rfl ?_
    refine z_get hC lf_X6_25_6 (kX_14 hF) dX6_countAgreeing_17 (fV_ref rfl (rX_14_5 hF)) ?_
    refine z_iload_n hC dX6_countAgreeing_20 rfl 2 rfl ?_
    refine z_iconst (v := 0) hC dX6_countAgreeing_21 rfl ?_
    refine z_iast hC (kX_18 hF) (nX_18 hF) E.1 dX6_countAgreeing_22 ?_
    replace E := E.2
    refine z_topD (fun D46 h47 => ?_)
    replace E := E D46 h47
    obtain ⟨v48, h49⟩ : ∃ y : Int32, y = v3 + 1 := ⟨_, rfl⟩
    replace E := E v48 h49
    refine z_iinc (q := 2) (v := v48) (lv' := [(2, .int v48), (0, .ref (G.1 + 14)), (1, .int v1)]) hC dX6_countAgreeing_23 rfl (by rw [h49]; rfl) (Nat.le_of_ble_eq_true rfl) rfl ?_
    refine z_goto (tgt := 11) hC dX6_countAgreeing_26 (by decide) ?_
    refine z_sub [1, 2, 0] rfl ?_
    exact hrec6 v48 D46 E
def fX6_countBroken (a1 : Int32) (D : Dy) (post : Dy → Prop) : Prop :=
  (LP2 (fun (rec3 : Int32 → Dy → Prop) (v1 : Int32) (D2 : Dy) => (((D2.1 14 0) ≤ v1 → (LP2 (fun (rec8 : Int32 → Dy → Prop) (v6 : Int32) (D7 : Dy) => (((D7.1 14 4) ≤ v6 → post D7) ∧ (¬ (D7.1 14 4) ≤ v6 → (vp_in v6 80 ∧ (JN (fun (D11 : Dy) => (∀ v14 : Int32, v14 = v6 + 1 → (rec8 v14 D11))) (fun K12 : Dy → Prop => ((((D7.1 17 (v6).toNatClampNeg) &&& a1) = 0 → (K12 D7)) ∧ (¬ ((D7.1 17 (v6).toNatClampNeg) &&& a1) = 0 → (vp_in v6 80 ∧ (∀ v17 : Int32, v17 = (D7.1 16 (v6).toNatClampNeg) → (vp_in v17 7 ∧ (vp_in v17 7 ∧ (∀ D19 : Dy, D19 = sI D7 20 (v17).toNatClampNeg ((D7.1 20 (v17).toNatClampNeg) + (1 : Int32)) → (K12 D19)))))))))))))) FU (0 : Int32) D2)) ∧ (¬ (D2.1 14 0) ≤ v1 → (vp_in v1 7 ∧ (∀ D21 : Dy, D21 = sI D2 20 (v1).toNatClampNeg (0 : Int32) → (∀ v23 : Int32, v23 = v1 + 1 → (rec3 v23 D21))))))) FU (0 : Int32) D)
set_option maxHeartbeats 4000000 in
set_option maxRecDepth 100000 in
theorem ct_X6_countBroken {l : Launch} {G : Gl} {S : Sh} {D : Dy} {mdl : Nat → Option (Nat × Nat)} (hF : FX S mdl) {a1 : Int32} {post : Dy → Prop} (E : fX6_countBroken a1 D post) : Ct l G yX6_countBroken cX6_countBroken 4 none 0 0 0 S D [.ref (G.1 + 14), .int a1, .ref (G.1 + 20)] (PV S post) := by
  refine z_enter (lv0 := [(0, .ref (G.1 + 14)), (1, .int a1), (2, .ref (G.1 + 20))]) pl_6 (Nat.le_of_ble_eq_true rfl) rfl ?_
  intro p e s m args below meth c hC hnm
  unfold fX6_countBroken at E
  refine z_iconst (v := 0) hC dX6_countBroken_0 rfl ?_
  refine z_istore_n (lv' := [(3, .int (0 : Int32)), (0, .ref (G.1 + 14)), (1, .int a1), (2, .ref (G.1 + 20))]) hC dX6_countBroken_1 rfl (Nat.le_of_ble_eq_true rfl) rfl ?_
  refine z_sub [1, 2, 3, 0] rfl ?_
  refine LP2_use (fun (v1 : Int32) (D2 : Dy) => ZM l G p e s m args below meth c 4 0 S (PV S post) S D2 2 [(0, .ref (G.1 + 14)), (1, .int a1), (2, .ref (G.1 + 20)), (3, .int v1)] []) ?_ FU (0 : Int32) D E
  intro rec3 hrec4 v1 D2 E
  refine z_iload_n hC dX6_countBroken_2 rfl 3 rfl ?_
  refine z_aload_n hC dX6_countBroken_3 rfl 0 rfl ?_
  refine z_get hC lf_X6_9_6 (kX_14 hF) dX6_countBroken_4 (fV_int rfl) ?_
  refine z_icmp_ge (tgt := 20) hC dX6_countBroken_7 (by decide) (fun c5 => ?_) (fun c5 => ?_)
  · replace E := E.1 c5
    refine z_iconst (v := 0) hC dX6_countBroken_20 rfl ?_
    refine z_istore_n (lv' := [(3, .int (0 : Int32)), (0, .ref (G.1 + 14)), (1, .int a1), (2, .ref (G.1 + 20))]) hC dX6_countBroken_21 rfl (Nat.le_of_ble_eq_true rfl) rfl ?_
    refine z_sub [1, 2, 3, 0] rfl ?_
    refine LP2_use (fun (v6 : Int32) (D7 : Dy) => ZM l G p e s m args below meth c 4 0 S (PV S post) S D7 22 [(0, .ref (G.1 + 14)), (1, .int a1), (2, .ref (G.1 + 20)), (3, .int v6)] []) ?_ FU (0 : Int32) D2 E
    intro rec8 hrec9 v6 D7 E
    refine z_iload_n hC dX6_countBroken_22 rfl 3 rfl ?_
    refine z_aload_n hC dX6_countBroken_23 rfl 0 rfl ?_
    refine z_get hC lf_X6_34_6 (kX_14 hF) dX6_countBroken_24 (fV_int rfl) ?_
    refine z_icmp_ge (tgt := 59) hC dX6_countBroken_27 (by decide) (fun c10 => ?_) (fun c10 => ?_)
    · replace E := E.1 c10
      exact z_vret hC dX6_countBroken_59 (Nat.le_refl _) (Nat.le_refl _) ⟨rfl, rfl, E⟩
    · replace E := E.2 c10
      refine z_aload_n hC dX6_countBroken_30 rfl 0 rfl ?_
      refine z_get hC lf_X6_22_6 (kX_14 hF) dX6_countBroken_31 (fV_ref rfl (rX_14_3 hF)) ?_
      refine z_iload_n hC dX6_countBroken_34 rfl 3 rfl ?_
      refine z_iald hC (kX_17 hF) (nX_17 hF) E.1 dX6_countBroken_35 ?_
      replace E := E.2
      refine z_iload_n hC dX6_countBroken_36 rfl 1 rfl ?_
      refine z_iand hC dX6_countBroken_37 ?_
      obtain ⟨K12, hK13, EE⟩ := JN_use E (fun K12 : Dy → Prop => ∀ (D11 : Dy), K12 D11 → ZM l G p e s m args below meth c 4 0 S (PV S post) S D11 53 [(0, .ref (G.1 + 14)), (1, .int a1), (2, .ref (G.1 + 20)), (3, .int v6)] []) (by
        intro D11 E
        obtain ⟨v14, h15⟩ : ∃ y : Int32, y = v6 + 1 := ⟨_, rfl⟩
        replace E := E v14 h15
        refine z_iinc (q := 3) (v := v14) (lv' := [(3, .int v14), (0, .ref (G.1 + 14)), (1, .int a1), (2, .ref (G.1 + 20))]) hC dX6_countBroken_53 rfl (by rw [h15]; rfl) (Nat.le_of_ble_eq_true rfl) rfl ?_
        refine z_goto (tgt := 22) hC dX6_countBroken_56 (by decide) ?_
        refine z_sub [1, 2, 3, 0] rfl ?_
        exact hrec9 v14 D11 E)
      replace E := EE
      clear EE
      refine z_if_eq (tgt := 53) hC dX6_countBroken_38 (by decide) (fun c16 => ?_) (fun c16 => ?_)
      · replace E := E.1 c16
        exact hK13 D7 E
      · replace E := E.2 c16
        refine z_aload_n hC dX6_countBroken_41 rfl 2 rfl ?_
        refine z_aload_n hC dX6_countBroken_42 rfl 0 rfl ?_
        refine z_get hC lf_X6_19_6 (kX_14 hF) dX6_countBroken_43 (fV_ref rfl (rX_14_2 hF)) ?_
        refine z_iload_n hC dX6_countBroken_46 rfl 3 rfl ?_
        refine z_iald hC (kX_16 hF) (nX_16 hF) E.1 dX6_countBroken_47 ?_
        replace E := E.2
        refine z_topi (fun v17 h18 => ?_)
        replace E := E v17 h18
        refine z_dup2 hC dX6_countBroken_48 rfl rfl ?_
        refine z_iald hC (kX_20 hF) (nX_20 hF) E.1 dX6_countBroken_49 ?_
        replace E := E.2
        refine z_iconst (v := 1) hC dX6_countBroken_50 rfl ?_
        refine z_iadd hC dX6_countBroken_51 ?_
        refine z_iast hC (kX_20 hF) (nX_20 hF) E.1 dX6_countBroken_52 ?_
        replace E := E.2
        refine z_topD (fun D19 h20 => ?_)
        replace E := E D19 h20
        exact hK13 D19 E
  · replace E := E.2 c5
    refine z_aload_n hC dX6_countBroken_10 rfl 2 rfl ?_
    refine z_iload_n hC dX6_countBroken_11 rfl 3 rfl ?_
    refine z_iconst (v := 0) hC dX6_countBroken_12 rfl ?_
    refine z_iast hC (kX_20 hF) (nX_20 hF) E.1 dX6_countBroken_13 ?_
    replace E := E.2
    refine z_topD (fun D21 h22 => ?_)
    replace E := E D21 h22
    obtain ⟨v23, h24⟩ : ∃ y : Int32, y = v1 + 1 := ⟨_, rfl⟩
    replace E := E v23 h24
    refine z_iinc (q := 3) (v := v23) (lv' := [(3, .int v23), (0, .ref (G.1 + 14)), (1, .int a1), (2, .ref (G.1 + 20))]) hC dX6_countBroken_14 rfl (by rw [h24]; rfl) (Nat.le_of_ble_eq_true rfl) rfl ?_
    refine z_goto (tgt := 2) hC dX6_countBroken_17 (by decide) ?_
    refine z_sub [1, 2, 3, 0] rfl ?_
    exact hrec4 v23 D21 E
def fX6_withNothing (a1 : Int32) (D : Dy) (post : Int32 → Prop) : Prop :=
  post (a1 ||| ((1 : Int32) <<< (((D.1 14 0) - (1 : Int32)) &&& 31)))
set_option maxHeartbeats 4000000 in
set_option maxRecDepth 100000 in
theorem ct_X6_withNothing {l : Launch} {G : Gl} {S : Sh} {D : Dy} {mdl : Nat → Option (Nat × Nat)} (hF : FX S mdl) {a1 : Int32} {post : Int32 → Prop} (E : fX6_withNothing a1 D post) : Ct l G yX6_withNothing cX6_withNothing 2 (some .int) 0 0 0 S D [.ref (G.1 + 14), .int a1] (PIr S D post) := by
  refine z_enter (lv0 := [(0, .ref (G.1 + 14)), (1, .int a1)]) pl_6 (Nat.le_of_ble_eq_true rfl) rfl ?_
  intro p e s m args below meth c hC hnm
  unfold fX6_withNothing at E
  refine z_iload_n hC dX6_withNothing_0 rfl 1 rfl ?_
  refine z_iconst (v := 1) hC dX6_withNothing_1 rfl ?_
  refine z_aload_n hC dX6_withNothing_2 rfl 0 rfl ?_
  refine z_get hC lf_X6_9_6 (kX_14 hF) dX6_withNothing_3 (fV_int rfl) ?_
  refine z_iconst (v := 1) hC dX6_withNothing_6 rfl ?_
  refine z_isub hC dX6_withNothing_7 ?_
  refine z_ishl hC dX6_withNothing_8 ?_
  refine z_ior hC dX6_withNothing_9 ?_
  exact z_iret hC dX6_withNothing_10 (Nat.le_refl _) (Nat.le_refl _) ⟨_, rfl, rfl, rfl, E⟩
def fX6_countTakes (a1 : Int32) (D : Dy) (post : Dy → Prop) : Prop :=
  (fX6_withNothing a1 D (fun (v1 : Int32) => (∀ v6 : Int32, v6 = (((1 : Int32) <<< ((D.1 14 0) &&& 31)) - (1 : Int32)) → (LP2 (fun (rec10 : Int32 → Dy → Prop) (v8 : Int32) (D9 : Dy) => (((D9.1 14 0) ≤ v8 → (LP2 (fun (rec15 : Int32 → Dy → Prop) (v13 : Int32) (D14 : Dy) => ((v6 ≤ v13 → post D14) ∧ (¬ v6 ≤ v13 → (JN (fun (D18 : Dy) => (∀ v21 : Int32, v21 = v13 + 1 → (rec15 v21 D18))) (fun K19 : Dy → Prop => ((¬ (v13 &&& v1) = 0 → (K19 D14)) ∧ ((v13 &&& v1) = 0 → (vp_in v13 128 ∧ ((¬ (D14.1 18 (v13).toNatClampNeg) = 0 → (LP2 (fun (rec27 : Int32 → Dy → Prop) (v25 : Int32) (D26 : Dy) => (((D26.1 14 0) ≤ v25 → (K19 D26)) ∧ (¬ (D26.1 14 0) ≤ v25 → (fX11_isIn v25 v1 (fun (v31 : Int32) => (JN (fun (D35 : Dy) => (∀ v38 : Int32, v38 = v25 + 1 → (rec27 v38 D35))) (fun K36 : Dy → Prop => ((v31 = 0 → (K36 D26)) ∧ (¬ v31 = 0 → (fX6_mayFollow v25 v13 D26 (fun (v42 : Int32) => ((v42 = 0 → (K36 D26)) ∧ (¬ v42 = 0 → (vp_in v25 7 ∧ (vp_in v13 128 ∧ (vp_in (v13 ||| ((1 : Int32) <<< (v25 &&& 31))) 128 ∧ (vp_in v25 7 ∧ (∀ D47 : Dy, D47 = sI D26 20 (v25).toNatClampNeg ((D26.1 20 (v25).toNatClampNeg) + ((D26.1 18 (v13).toNatClampNeg) * (D26.1 19 ((v13 ||| ((1 : Int32) <<< (v25 &&& 31)))).toNatClampNeg))) → (K36 D47))))))))))))))))))) FU (0 : Int32) D14)) ∧ ((D14.1 18 (v13).toNatClampNeg) = 0 → (K19 D14))))))))))) FU (0 : Int32) D9)) ∧ (¬ (D9.1 14 0) ≤ v8 → (vp_in v8 7 ∧ (∀ D49 : Dy, D49 = sI D9 20 (v8).toNatClampNeg (0 : Int32) → (∀ v51 : Int32, v51 = v8 + 1 → (rec10 v51 D49))))))) FU (0 : Int32) D))))
set_option maxHeartbeats 4000000 in
set_option maxRecDepth 100000 in
theorem ct_X6_countTakes {l : Launch} {G : Gl} {S : Sh} {D : Dy} {mdl : Nat → Option (Nat × Nat)} (hF : FX S mdl) {a1 : Int32} {post : Dy → Prop} (E : fX6_countTakes a1 D post) : Ct l G yX6_countTakes cX6_countTakes 6 none 2 0 0 S D [.ref (G.1 + 14), .int a1] (PV S post) := by
  refine z_enter (lv0 := [(0, .ref (G.1 + 14)), (1, .int a1)]) pl_6 (Nat.le_of_ble_eq_true rfl) rfl ?_
  intro p e s m args below meth c hC hnm
  unfold fX6_countTakes at E
  refine z_aload_n hC dX6_countTakes_0 rfl 0 rfl ?_
  refine z_iload_n hC dX6_countTakes_1 rfl 1 rfl ?_
  refine z_callV (ci := 6) (rest := []) hC (ck_mk lk_X6_37 in_X6_withNothing cd_X6_withNothing ds_X6_withNothing (Nat.le_of_ble_eq_true rfl) (Nat.le_of_ble_eq_true rfl)) iy_X6_withNothing sy_X6_withNothing cf_6 (by decide) (kX_14 hF) (ct_X6_withNothing hF E) rfl rfl (Nat.le_of_ble_eq_true rfl) ⟨Nat.le_refl _, Nat.le_refl _⟩ dX6_countTakes_2 ?_
  rintro _ _ _ ⟨v1, rfl, rfl, rfl, E⟩
  refine z_istore_n (lv' := [(2, .int v1), (0, .ref (G.1 + 14)), (1, .int a1)]) hC dX6_countTakes_5 rfl (Nat.le_of_ble_eq_true rfl) rfl ?_
  refine z_iconst (v := 1) hC dX6_countTakes_6 rfl ?_
  refine z_aload_n hC dX6_countTakes_7 rfl 1 rfl ?_
  refine z_get hC lf_X6_9_6 (kX_14 hF) dX6_countTakes_8 (fV_int rfl) ?_
  refine z_ishl hC dX6_countTakes_11 ?_
  refine z_iconst (v := 1) hC dX6_countTakes_12 rfl ?_
  refine z_isub hC dX6_countTakes_13 ?_
  refine z_topi (fun v6 h7 => ?_)
  replace E := E v6 h7
  refine z_istore_n (lv' := [(3, .int v6), (2, .int v1), (0, .ref (G.1 + 14)), (1, .int a1)]) hC dX6_countTakes_14 rfl (Nat.le_of_ble_eq_true rfl) rfl ?_
  refine z_iconst (v := 0) hC dX6_countTakes_15 rfl ?_
  refine z_istore (lv' := [(4, .int (0 : Int32)), (3, .int v6), (2, .int v1), (0, .ref (G.1 + 14)), (1, .int a1)]) hC dX6_countTakes_16 (Nat.le_of_ble_eq_true rfl) rfl ?_
  refine z_sub [3, 2, 1, 0] rfl ?_
  refine LP2_use (fun (v8 : Int32) (D9 : Dy) => ZM l G p e s m args below meth c 6 2 S (PV S post) S D9 18 [(0, .ref (G.1 + 14)), (2, .int v1), (3, .int v6), (4, .int v8)] []) ?_ FU (0 : Int32) D E
  intro rec10 hrec11 v8 D9 E
  refine z_iload hC dX6_countTakes_18 3 rfl ?_
  refine z_aload_n hC dX6_countTakes_20 rfl 0 rfl ?_
  refine z_get hC lf_X6_9_6 (kX_14 hF) dX6_countTakes_21 (fV_int rfl) ?_
  refine z_icmp_ge (tgt := 41) hC dX6_countTakes_24 (by decide) (fun c12 => ?_) (fun c12 => ?_)
  · replace E := E.1 c12
    refine z_iconst (v := 0) hC dX6_countTakes_41 rfl ?_
    refine z_istore (lv' := [(4, .int (0 : Int32)), (0, .ref (G.1 + 14)), (2, .int v1), (3, .int v6)]) hC dX6_countTakes_42 (Nat.le_of_ble_eq_true rfl) rfl ?_
    refine z_sub [1, 2, 3, 0] rfl ?_
    refine LP2_use (fun (v13 : Int32) (D14 : Dy) => ZM l G p e s m args below meth c 6 2 S (PV S post) S D14 44 [(0, .ref (G.1 + 14)), (2, .int v1), (3, .int v6), (4, .int v13)] []) ?_ FU (0 : Int32) D9 E
    intro rec15 hrec16 v13 D14 E
    refine z_iload hC dX6_countTakes_44 3 rfl ?_
    refine z_iload_n hC dX6_countTakes_46 rfl 2 rfl ?_
    refine z_icmp_ge (tgt := 144) hC dX6_countTakes_47 (by decide) (fun c17 => ?_) (fun c17 => ?_)
    · replace E := E.1 c17
      exact z_vret hC dX6_countTakes_144 (Nat.le_refl _) (Nat.le_refl _) ⟨rfl, rfl, E⟩
    · replace E := E.2 c17
      refine z_iload hC dX6_countTakes_50 3 rfl ?_
      refine z_iload_n hC dX6_countTakes_52 rfl 1 rfl ?_
      refine z_iand hC dX6_countTakes_53 ?_
      obtain ⟨K19, hK20, EE⟩ := JN_use E (fun K19 : Dy → Prop => ∀ (D18 : Dy), K19 D18 → ZM l G p e s m args below meth c 6 2 S (PV S post) S D18 138 [(0, .ref (G.1 + 14)), (2, .int v1), (3, .int v6), (4, .int v13)] []) (by
        intro D18 E
        obtain ⟨v21, h22⟩ : ∃ y : Int32, y = v13 + 1 := ⟨_, rfl⟩
        replace E := E v21 h22
        refine z_iinc (q := 3) (v := v21) (lv' := [(4, .int v21), (0, .ref (G.1 + 14)), (2, .int v1), (3, .int v6)]) hC dX6_countTakes_138 rfl (by rw [h22]; rfl) (Nat.le_of_ble_eq_true rfl) rfl ?_
        refine z_goto (tgt := 44) hC dX6_countTakes_141 (by decide) ?_
        refine z_sub [1, 2, 3, 0] rfl ?_
        exact hrec16 v21 D18 E)
      replace E := EE
      clear EE
      refine z_if_ne (tgt := 138) hC dX6_countTakes_54 (by decide) (fun c23 => ?_) (fun c23 => ?_)
      · replace E := E.1 c23
        exact hK20 D14 E
      · replace E := E.2 c23
        refine z_aload_n hC dX6_countTakes_57 rfl 0 rfl ?_
        refine z_get hC lf_X6_25_6 (kX_14 hF) dX6_countTakes_58 (fV_ref rfl (rX_14_5 hF)) ?_
        refine z_iload hC dX6_countTakes_61 3 rfl ?_
        refine z_iald hC (kX_18 hF) (nX_18 hF) E.1 dX6_countTakes_63 ?_
        replace E := E.2
        refine z_if_ne (tgt := 70) hC dX6_countTakes_64 (by decide) (fun c24 => ?_) (fun c24 => ?_)
        · replace E := E.1 c24
          refine z_iconst (v := 0) hC dX6_countTakes_70 rfl ?_
          refine z_istore (lv' := [(5, .int (0 : Int32)), (0, .ref (G.1 + 14)), (2, .int v1), (3, .int v6), (4, .int v13)]) hC dX6_countTakes_71 (Nat.le_of_ble_eq_true rfl) rfl ?_
          refine z_sub [1, 2, 3, 4, 0] rfl ?_
          refine LP2_use (fun (v25 : Int32) (D26 : Dy) => ZM l G p e s m args below meth c 6 2 S (PV S post) S D26 73 [(0, .ref (G.1 + 14)), (2, .int v1), (3, .int v6), (4, .int v13), (5, .int v25)] []) ?_ FU (0 : Int32) D14 E
          intro rec27 hrec28 v25 D26 E
          refine z_iload hC dX6_countTakes_73 4 rfl ?_
          refine z_aload_n hC dX6_countTakes_75 rfl 0 rfl ?_
          refine z_get hC lf_X6_9_6 (kX_14 hF) dX6_countTakes_76 (fV_int rfl) ?_
          refine z_icmp_ge (tgt := 138) hC dX6_countTakes_79 (by decide) (fun c29 => ?_) (fun c29 => ?_)
          · replace E := E.1 c29
            refine z_sub [0, 1, 2, 3] rfl ?_
            exact hK20 D26 E
          · replace E := E.2 c29
            refine z_iload hC dX6_countTakes_82 4 rfl ?_
            refine z_iload_n hC dX6_countTakes_84 rfl 1 rfl ?_
            refine z_callSN (rest := []) hC lk_X6_41 in_X11_isIn cd_X11_isIn ds_X11_isIn ⟨Nat.le_of_ble_eq_true rfl, Nat.le_of_ble_eq_true rfl⟩ st_X11_isIn (ct_X11_isIn hF E) rfl rfl (Nat.le_of_ble_eq_true rfl) ⟨Nat.le_refl _, Nat.le_refl _⟩ dX6_countTakes_85 ?_
            rintro _ _ _ ⟨v31, rfl, rfl, rfl, E⟩
            obtain ⟨K36, hK37, EE⟩ := JN_use E (fun K36 : Dy → Prop => ∀ (D35 : Dy), K36 D35 → ZM l G p e s m args below meth c 6 2 S (PV S post) S D35 132 [(0, .ref (G.1 + 14)), (2, .int v1), (3, .int v6), (4, .int v13), (5, .int v25)] []) (by
              intro D35 E
              obtain ⟨v38, h39⟩ : ∃ y : Int32, y = v25 + 1 := ⟨_, rfl⟩
              replace E := E v38 h39
              refine z_iinc (q := 4) (v := v38) (lv' := [(5, .int v38), (0, .ref (G.1 + 14)), (2, .int v1), (3, .int v6), (4, .int v13)]) hC dX6_countTakes_132 rfl (by rw [h39]; rfl) (Nat.le_of_ble_eq_true rfl) rfl ?_
              refine z_goto (tgt := 73) hC dX6_countTakes_135 (by decide) ?_
              refine z_sub [1, 2, 3, 4, 0] rfl ?_
              exact hrec28 v38 D35 E)
            replace E := EE
            clear EE
            refine z_if_eq (tgt := 132) hC dX6_countTakes_88 (by decide) (fun c40 => ?_) (fun c40 => ?_)
            · replace E := E.1 c40
              exact hK37 D26 E
            · replace E := E.2 c40
              refine z_aload_n hC dX6_countTakes_91 rfl 0 rfl ?_
              refine z_iload hC dX6_countTakes_92 4 rfl ?_
              refine z_iload hC dX6_countTakes_94 3 rfl ?_
              refine z_callV (ci := 6) (rest := []) hC (ck_mk lk_X6_45 in_X6_mayFollow cd_X6_mayFollow ds_X6_mayFollow (Nat.le_of_ble_eq_true rfl) (Nat.le_of_ble_eq_true rfl)) iy_X6_mayFollow sy_X6_mayFollow cf_6 (by decide) (kX_14 hF) (ct_X6_mayFollow hF E) rfl rfl (Nat.le_of_ble_eq_true rfl) ⟨Nat.le_refl _, Nat.le_refl _⟩ dX6_countTakes_96 ?_
              rintro _ _ _ ⟨v42, rfl, rfl, rfl, E⟩
              refine z_if_eq (tgt := 132) hC dX6_countTakes_99 (by decide) (fun c46 => ?_) (fun c46 => ?_)
              · replace E := E.1 c46
                exact hK37 D26 E
              · replace E := E.2 c46
                refine z_aload_n hC dX6_countTakes_102 rfl 0 rfl ?_
                refine z_get hC lf_X6_31_6 (kX_14 hF) dX6_countTakes_103 (fV_ref rfl (rX_14_7 hF)) ?_
                refine z_iload hC dX6_countTakes_106 4 rfl ?_
                refine z_dup2 hC dX6_countTakes_108 rfl rfl ?_
                refine z_iald hC (kX_20 hF) (nX_20 hF) E.1 dX6_countTakes_109 ?_
                replace E := E.2
                refine z_aload_n hC dX6_countTakes_110 rfl 0 rfl ?_
                refine z_get hC lf_X6_25_6 (kX_14 hF) dX6_countTakes_111 (fV_ref rfl (rX_14_5 hF)) ?_
                refine z_iload hC dX6_countTakes_114 3 rfl ?_
                refine z_iald hC (kX_18 hF) (nX_18 hF) E.1 dX6_countTakes_116 ?_
                replace E := E.2
                refine z_aload_n hC dX6_countTakes_117 rfl 0 rfl ?_
                refine z_get hC lf_X6_28_6 (kX_14 hF) dX6_countTakes_118 (fV_ref rfl (rX_14_6 hF)) ?_
                refine z_iload hC dX6_countTakes_121 3 rfl ?_
                refine z_iconst (v := 1) hC dX6_countTakes_123 rfl ?_
                refine z_iload hC dX6_countTakes_124 4 rfl ?_
                refine z_ishl hC dX6_countTakes_126 ?_
                refine z_ior hC dX6_countTakes_127 ?_
                refine z_iald hC (kX_19 hF) (nX_19 hF) E.1 dX6_countTakes_128 ?_
                replace E := E.2
                refine z_imul hC dX6_countTakes_129 ?_
                refine z_iadd hC dX6_countTakes_130 ?_
                refine z_iast hC (kX_20 hF) (nX_20 hF) E.1 dX6_countTakes_131 ?_
                replace E := E.2
                refine z_topD (fun D47 h48 => ?_)
                replace E := E D47 h48
                exact hK37 D47 E
        · replace E := E.2 c24
          refine z_goto (tgt := 138) hC dX6_countTakes_67 (by decide) ?_
          exact hK20 D14 E
  · replace E := E.2 c12
    refine z_aload_n hC dX6_countTakes_27 rfl 0 rfl ?_
    refine z_get hC lf_X6_31_6 (kX_14 hF) dX6_countTakes_28 (fV_ref rfl (rX_14_7 hF)) ?_
    refine z_iload hC dX6_countTakes_31 3 rfl ?_
    refine z_iconst (v := 0) hC dX6_countTakes_33 rfl ?_
    refine z_iast hC (kX_20 hF) (nX_20 hF) E.1 dX6_countTakes_34 ?_
    replace E := E.2
    refine z_topD (fun D49 h50 => ?_)
    replace E := E D49 h50
    obtain ⟨v51, h52⟩ : ∃ y : Int32, y = v8 + 1 := ⟨_, rfl⟩
    replace E := E v51 h52
    refine z_iinc (q := 3) (v := v51) (lv' := [(4, .int v51), (0, .ref (G.1 + 14)), (2, .int v1), (3, .int v6)]) hC dX6_countTakes_35 rfl (by rw [h52]; rfl) (Nat.le_of_ble_eq_true rfl) rfl ?_
    refine z_goto (tgt := 18) hC dX6_countTakes_38 (by decide) ?_
    refine z_sub [1, 2, 3, 0] rfl ?_
    exact hrec11 v51 D49 E
def fX6_fewestBroken  (D : Dy) (post : Int32 → Dy → Prop) : Prop :=
  (∀ v1 : Int32, v1 = (((1 : Int32) <<< ((D.1 14 0) &&& 31)) - (1 : Int32)) → (LP2 (fun (rec5 : Int32 → Dy → Prop) (v3 : Int32) (D4 : Dy) => ((v1 < v3 → (vp_in (0 : Int32) 128 ∧ (∀ D8 : Dy, D8 = sI D4 18 ((0 : Int32)).toNatClampNeg (0 : Int32) → (LP2 (fun (rec12 : Int32 → Dy → Prop) (v10 : Int32) (D11 : Dy) => ((v1 ≤ v10 → (vp_in v1 128 ∧ post (D11.1 18 (v1).toNatClampNeg) D11)) ∧ (¬ v1 ≤ v10 → (fX6_countBroken v10 D11 (fun (D20 : Dy) => (LP2 (fun (rec23 : Int32 → Dy → Prop) (v21 : Int32) (D22 : Dy) => (((D22.1 14 0) ≤ v21 → (∀ v26 : Int32, v26 = v10 + 1 → (rec12 v26 D22))) ∧ (¬ (D22.1 14 0) ≤ v21 → (fX11_isIn v21 v10 (fun (v29 : Int32) => (JN (fun (D33 : Dy) => (∀ v36 : Int32, v36 = v21 + 1 → (rec23 v36 D33))) (fun K34 : Dy → Prop => ((¬ v29 = 0 → (K34 D22)) ∧ (v29 = 0 → (∀ v39 : Int32, v39 = (v10 ||| ((1 : Int32) <<< (v21 &&& 31))) → (vp_in v39 128 ∧ (vp_in v10 128 ∧ (vp_in v21 7 ∧ (∀ v41 : Int32, v41 = ((D22.1 18 (v10).toNatClampNeg) + (D22.1 20 (v21).toNatClampNeg)) → (∀ v43 : Int32, v43 = (D22.1 18 (v39).toNatClampNeg) → (∀ v45 : Int32, v45 = (if v41 < v43 then v41 else v43) → (vp_in v39 128 ∧ (∀ D47 : Dy, D47 = sI D22 18 (v39).toNatClampNeg v45 → (K34 D47))))))))))))))))))) FU (0 : Int32) D20)))))) FU (0 : Int32) D8)))) ∧ (¬ v1 < v3 → (vp_in v3 128 ∧ (∀ D49 : Dy, D49 = sI D4 18 (v3).toNatClampNeg (80 : Int32) → (∀ v51 : Int32, v51 = v3 + 1 → (rec5 v51 D49))))))) FU (0 : Int32) D))
set_option maxHeartbeats 4000000 in
set_option maxRecDepth 100000 in
theorem ct_X6_fewestBroken {l : Launch} {G : Gl} {S : Sh} {D : Dy} {mdl : Nat → Option (Nat × Nat)} (hF : FX S mdl)  {post : Int32 → Dy → Prop} (E : fX6_fewestBroken D post) : Ct l G yX6_fewestBroken cX6_fewestBroken 7 (some .int) 1 0 0 S D [.ref (G.1 + 14)] (PI S post) := by
  refine z_enter (lv0 := [(0, .ref (G.1 + 14))]) pl_6 (Nat.le_of_ble_eq_true rfl) rfl ?_
  intro p e s m args below meth c hC hnm
  unfold fX6_fewestBroken at E
  refine z_iconst (v := 1) hC dX6_fewestBroken_0 rfl ?_
  refine z_aload_n hC dX6_fewestBroken_1 rfl 0 rfl ?_
  refine z_get hC lf_X6_9_6 (kX_14 hF) dX6_fewestBroken_2 (fV_int rfl) ?_
  refine z_ishl hC dX6_fewestBroken_5 ?_
  refine z_iconst (v := 1) hC dX6_fewestBroken_6 rfl ?_
  refine z_isub hC dX6_fewestBroken_7 ?_
  refine z_topi (fun v1 h2 => ?_)
  replace E := E v1 h2
  refine z_istore_n (lv' := [(1, .int v1), (0, .ref (G.1 + 14))]) hC dX6_fewestBroken_8 rfl (Nat.le_of_ble_eq_true rfl) rfl ?_
  refine z_aload_n hC dX6_fewestBroken_9 rfl 1 rfl ?_
  refine z_get hC lf_X6_25_6 (kX_14 hF) dX6_fewestBroken_10 (fV_ref rfl (rX_14_5 hF)) ?_
  refine z_astore_n (lv' := [(2, .ref (G.1 + 18)), (1, .int v1), (0, .ref (G.1 + 14))]) hC dX6_fewestBroken_13 rfl (Nat.le_of_ble_eq_true rfl) rfl ?_
  refine z_aload_n hC dX6_fewestBroken_14 rfl 2 rfl ?_
  refine z_get hC lf_X6_31_6 (kX_14 hF) dX6_fewestBroken_15 (fV_ref rfl (rX_14_7 hF)) ?_
  refine z_astore_n (lv' := [(3, .ref (G.1 + 20)), (2, .ref (G.1 + 18)), (1, .int v1), (0, .ref (G.1 + 14))]) hC dX6_fewestBroken_18 rfl (Nat.le_of_ble_eq_true rfl) rfl ?_
  refine z_iconst (v := 0) hC dX6_fewestBroken_19 rfl ?_
  refine z_istore (lv' := [(4, .int (0 : Int32)), (3, .ref (G.1 + 20)), (2, .ref (G.1 + 18)), (1, .int v1), (0, .ref (G.1 + 14))]) hC dX6_fewestBroken_20 (Nat.le_of_ble_eq_true rfl) rfl ?_
  refine z_sub [4, 3, 2, 1, 0] rfl ?_
  refine LP2_use (fun (v3 : Int32) (D4 : Dy) => ZM l G p e s m args below meth c 7 1 S (PI S post) S D4 22 [(0, .ref (G.1 + 14)), (1, .int v1), (2, .ref (G.1 + 18)), (3, .ref (G.1 + 20)), (4, .int v3)] []) ?_ FU (0 : Int32) D E
  intro rec5 hrec6 v3 D4 E
  refine z_iload hC dX6_fewestBroken_22 4 rfl ?_
  refine z_iload_n hC dX6_fewestBroken_24 rfl 1 rfl ?_
  refine z_icmp_gt (tgt := 40) hC dX6_fewestBroken_25 (by decide) (fun c7 => ?_) (fun c7 => ?_)
  · replace E := E.1 c7
    refine z_aload_n hC dX6_fewestBroken_40 rfl 2 rfl ?_
    refine z_iconst (v := 0) hC dX6_fewestBroken_41 rfl ?_
    refine z_iconst (v := 0) hC dX6_fewestBroken_42 rfl ?_
    refine z_iast hC (kX_18 hF) (nX_18 hF) E.1 dX6_fewestBroken_43 ?_
    replace E := E.2
    refine z_topD (fun D8 h9 => ?_)
    replace E := E D8 h9
    refine z_iconst (v := 0) hC dX6_fewestBroken_44 rfl ?_
    refine z_istore (lv' := [(4, .int (0 : Int32)), (0, .ref (G.1 + 14)), (1, .int v1), (2, .ref (G.1 + 18)), (3, .ref (G.1 + 20))]) hC dX6_fewestBroken_45 (Nat.le_of_ble_eq_true rfl) rfl ?_
    refine z_sub [1, 2, 3, 4, 0] rfl ?_
    refine LP2_use (fun (v10 : Int32) (D11 : Dy) => ZM l G p e s m args below meth c 7 1 S (PI S post) S D11 47 [(0, .ref (G.1 + 14)), (1, .int v1), (2, .ref (G.1 + 18)), (3, .ref (G.1 + 20)), (4, .int v10)] []) ?_ FU (0 : Int32) D8 E
    intro rec12 hrec13 v10 D11 E
    refine z_iload hC dX6_fewestBroken_47 4 rfl ?_
    refine z_iload_n hC dX6_fewestBroken_49 rfl 1 rfl ?_
    refine z_icmp_ge (tgt := 123) hC dX6_fewestBroken_50 (by decide) (fun c14 => ?_) (fun c14 => ?_)
    · replace E := E.1 c14
      refine z_aload_n hC dX6_fewestBroken_123 rfl 2 rfl ?_
      refine z_iload_n hC dX6_fewestBroken_124 rfl 1 rfl ?_
      refine z_iald hC (kX_18 hF) (nX_18 hF) E.1 dX6_fewestBroken_125 ?_
      replace E := E.2
      exact z_iret hC dX6_fewestBroken_126 (Nat.le_refl _) (Nat.le_refl _) ⟨_, rfl, rfl, E⟩
    · replace E := E.2 c14
      refine z_aload_n hC dX6_fewestBroken_53 rfl 0 rfl ?_
      refine z_iload hC dX6_fewestBroken_54 4 rfl ?_
      refine z_aload_n hC dX6_fewestBroken_56 rfl 3 rfl ?_
      refine z_callV (ci := 6) (rest := []) hC (ck_mk lk_X6_58 in_X6_countBroken cd_X6_countBroken ds_X6_countBroken (Nat.le_of_ble_eq_true rfl) (Nat.le_of_ble_eq_true rfl)) iy_X6_countBroken sy_X6_countBroken cf_6 (by decide) (kX_14 hF) (ct_X6_countBroken hF E) rfl rfl (Nat.le_of_ble_eq_true rfl) ⟨Nat.le_refl _, Nat.le_refl _⟩ dX6_fewestBroken_57 ?_
      rintro _ _ D20 ⟨rfl, rfl, E⟩
      refine z_iconst (v := 0) hC dX6_fewestBroken_60 rfl ?_
      refine z_istore (lv' := [(5, .int (0 : Int32)), (0, .ref (G.1 + 14)), (1, .int v1), (2, .ref (G.1 + 18)), (3, .ref (G.1 + 20)), (4, .int v10)]) hC dX6_fewestBroken_61 (Nat.le_of_ble_eq_true rfl) rfl ?_
      refine z_sub [1, 2, 3, 4, 5, 0] rfl ?_
      refine LP2_use (fun (v21 : Int32) (D22 : Dy) => ZM l G p e s m args below meth c 7 1 S (PI S post) S D22 63 [(0, .ref (G.1 + 14)), (1, .int v1), (2, .ref (G.1 + 18)), (3, .ref (G.1 + 20)), (4, .int v10), (5, .int v21)] []) ?_ FU (0 : Int32) D20 E
      intro rec23 hrec24 v21 D22 E
      refine z_iload hC dX6_fewestBroken_63 5 rfl ?_
      refine z_aload_n hC dX6_fewestBroken_65 rfl 0 rfl ?_
      refine z_get hC lf_X6_9_6 (kX_14 hF) dX6_fewestBroken_66 (fV_int rfl) ?_
      refine z_icmp_ge (tgt := 117) hC dX6_fewestBroken_69 (by decide) (fun c25 => ?_) (fun c25 => ?_)
      · replace E := E.1 c25
        obtain ⟨v26, h27⟩ : ∃ y : Int32, y = v10 + 1 := ⟨_, rfl⟩
        replace E := E v26 h27
        refine z_iinc (q := 4) (v := v26) (lv' := [(4, .int v26), (0, .ref (G.1 + 14)), (1, .int v1), (2, .ref (G.1 + 18)), (3, .ref (G.1 + 20)), (5, .int v21)]) hC dX6_fewestBroken_117 rfl (by rw [h27]; rfl) (Nat.le_of_ble_eq_true rfl) rfl ?_
        refine z_goto (tgt := 47) hC dX6_fewestBroken_120 (by decide) ?_
        refine z_sub [1, 2, 3, 4, 0] rfl ?_
        exact hrec13 v26 D22 E
      · replace E := E.2 c25
        refine z_iload hC dX6_fewestBroken_72 5 rfl ?_
        refine z_iload hC dX6_fewestBroken_74 4 rfl ?_
        refine z_callSN (rest := []) hC lk_X6_41 in_X11_isIn cd_X11_isIn ds_X11_isIn ⟨Nat.le_of_ble_eq_true rfl, Nat.le_of_ble_eq_true rfl⟩ st_X11_isIn (ct_X11_isIn hF E) rfl rfl (Nat.le_of_ble_eq_true rfl) ⟨Nat.le_refl _, Nat.le_refl _⟩ dX6_fewestBroken_76 ?_
        rintro _ _ _ ⟨v29, rfl, rfl, rfl, E⟩
        obtain ⟨K34, hK35, EE⟩ := JN_use E (fun K34 : Dy → Prop => ∀ (D33 : Dy), K34 D33 → ZM l G p e s m args below meth c 7 1 S (PI S post) S D33 111 [(0, .ref (G.1 + 14)), (1, .int v1), (2, .ref (G.1 + 18)), (3, .ref (G.1 + 20)), (4, .int v10), (5, .int v21)] []) (by
          intro D33 E
          obtain ⟨v36, h37⟩ : ∃ y : Int32, y = v21 + 1 := ⟨_, rfl⟩
          replace E := E v36 h37
          refine z_iinc (q := 5) (v := v36) (lv' := [(5, .int v36), (0, .ref (G.1 + 14)), (1, .int v1), (2, .ref (G.1 + 18)), (3, .ref (G.1 + 20)), (4, .int v10)]) hC dX6_fewestBroken_111 rfl (by rw [h37]; rfl) (Nat.le_of_ble_eq_true rfl) rfl ?_
          refine z_goto (tgt := 63) hC dX6_fewestBroken_114 (by decide) ?_
          refine z_sub [1, 2, 3, 4, 5, 0] rfl ?_
          exact hrec24 v36 D33 E)
        replace E := EE
        clear EE
        refine z_if_ne (tgt := 111) hC dX6_fewestBroken_79 (by decide) (fun c38 => ?_) (fun c38 => ?_)
        · replace E := E.1 c38
          exact hK35 D22 E
        · replace E := E.2 c38
          refine z_iload hC dX6_fewestBroken_82 4 rfl ?_
          refine z_iconst (v := 1) hC dX6_fewestBroken_84 rfl ?_
          refine z_iload hC dX6_fewestBroken_85 5 rfl ?_
          refine z_ishl hC dX6_fewestBroken_87 ?_
          refine z_ior hC dX6_fewestBroken_88 ?_
          refine z_topi (fun v39 h40 => ?_)
          replace E := E v39 h40
          refine z_istore (lv' := [(6, .int v39), (0, .ref (G.1 + 14)), (1, .int v1), (2, .ref (G.1 + 18)), (3, .ref (G.1 + 20)), (4, .int v10), (5, .int v21)]) hC dX6_fewestBroken_89 (Nat.le_of_ble_eq_true rfl) rfl ?_
          refine z_aload_n hC dX6_fewestBroken_91 rfl 3 rfl ?_
          refine z_iload hC dX6_fewestBroken_92 0 rfl ?_
          refine z_aload_n hC dX6_fewestBroken_94 rfl 3 rfl ?_
          refine z_iload hC dX6_fewestBroken_95 0 rfl ?_
          refine z_iald hC (kX_18 hF) (nX_18 hF) E.1 dX6_fewestBroken_97 ?_
          replace E := E.2
          refine z_aload_n hC dX6_fewestBroken_98 rfl 3 rfl ?_
          refine z_iload hC dX6_fewestBroken_99 5 rfl ?_
          refine z_iald hC (kX_18 hF) (nX_18 hF) E.1 dX6_fewestBroken_101 ?_
          replace E := E.2
          refine z_aload_n hC dX6_fewestBroken_102 rfl 4 rfl ?_
          refine z_iload hC dX6_fewestBroken_103 6 rfl ?_
          refine z_iald hC (kX_20 hF) (nX_20 hF) E.1 dX6_fewestBroken_105 ?_
          replace E := E.2
          refine z_iadd hC dX6_fewestBroken_106 ?_
          refine z_topi (fun v41 h42 => ?_)
          replace E := E v41 h42
          obtain ⟨v43, h44⟩ : ∃ y : Int32, y = (D22.1 18 (v39).toNatClampNeg) := ⟨_, rfl⟩
          replace E := E v43 h44
          rw [← h44]
          refine z_mmin hC lk_X6_62 sm_min im_Math cm_min ⟨Nat.le_of_ble_eq_true rfl, Nat.le_of_ble_eq_true rfl⟩ ⟨Nat.zero_le _, Nat.zero_le _⟩ (Nat.le_of_ble_eq_true rfl) dX6_fewestBroken_107 ?_
          refine z_topi (fun v45 h46 => ?_)
          replace E := E v45 h46
          refine z_iast hC (kX_18 hF) (nX_18 hF) E.1 dX6_fewestBroken_110 ?_
          replace E := E.2
          refine z_topD (fun D47 h48 => ?_)
          replace E := E D47 h48
          refine z_sub [1, 2, 3, 4, 5, 6] rfl ?_
          exact hK35 D47 E
  · replace E := E.2 c7
    refine z_aload_n hC dX6_fewestBroken_28 rfl 2 rfl ?_
    refine z_iload hC dX6_fewestBroken_29 4 rfl ?_
    refine z_bipush (v := 80) hC dX6_fewestBroken_31 rfl ?_
    refine z_iast hC (kX_18 hF) (nX_18 hF) E.1 dX6_fewestBroken_33 ?_
    replace E := E.2
    refine z_topD (fun D49 h50 => ?_)
    replace E := E D49 h50
    obtain ⟨v51, h52⟩ : ∃ y : Int32, y = v3 + 1 := ⟨_, rfl⟩
    replace E := E v51 h52
    refine z_iinc (q := 4) (v := v51) (lv' := [(4, .int v51), (0, .ref (G.1 + 14)), (1, .int v1), (2, .ref (G.1 + 18)), (3, .ref (G.1 + 20))]) hC dX6_fewestBroken_34 rfl (by rw [h52]; rfl) (Nat.le_of_ble_eq_true rfl) rfl ?_
    refine z_goto (tgt := 22) hC dX6_fewestBroken_37 (by decide) ?_
    refine z_sub [1, 2, 3, 4, 0] rfl ?_
    exact hrec6 v51 D49 E
def fX6_mostTakes  (D : Dy) (post : Int32 → Prop) : Prop :=
  (LP2 (fun (rec3 : Int32 → Int32 → Prop) (v1 : Int32) (v2 : Int32) => (((D.1 14 0) ≤ v2 → post v1) ∧ (¬ (D.1 14 0) ≤ v2 → (vp_in v2 7 ∧ (∀ v6 : Int32, v6 = (D.1 20 (v2).toNatClampNeg) → (∀ v8 : Int32, v8 = (if v1 < v6 then v6 else v1) → (∀ v10 : Int32, v10 = v2 + 1 → (rec3 v8 v10)))))))) FU (0 : Int32) (0 : Int32))
set_option maxHeartbeats 4000000 in
set_option maxRecDepth 100000 in
theorem ct_X6_mostTakes {l : Launch} {G : Gl} {S : Sh} {D : Dy} {mdl : Nat → Option (Nat × Nat)} (hF : FX S mdl)  {post : Int32 → Prop} (E : fX6_mostTakes D post) : Ct l G yX6_mostTakes cX6_mostTakes 3 (some .int) 1 0 0 S D [.ref (G.1 + 14)] (PIr S D post) := by
  refine z_enter (lv0 := [(0, .ref (G.1 + 14))]) pl_6 (Nat.le_of_ble_eq_true rfl) rfl ?_
  intro p e s m args below meth c hC hnm
  unfold fX6_mostTakes at E
  refine z_iconst (v := 0) hC dX6_mostTakes_0 rfl ?_
  refine z_istore_n (lv' := [(1, .int (0 : Int32)), (0, .ref (G.1 + 14))]) hC dX6_mostTakes_1 rfl (Nat.le_of_ble_eq_true rfl) rfl ?_
  refine z_iconst (v := 0) hC dX6_mostTakes_2 rfl ?_
  refine z_istore_n (lv' := [(2, .int (0 : Int32)), (1, .int (0 : Int32)), (0, .ref (G.1 + 14))]) hC dX6_mostTakes_3 rfl (Nat.le_of_ble_eq_true rfl) rfl ?_
  refine z_sub [2, 1, 0] rfl ?_
  refine LP2_use (fun (v1 : Int32) (v2 : Int32) => ZM l G p e s m args below meth c 3 1 S (PIr S D post) S D 4 [(0, .ref (G.1 + 14)), (1, .int v1), (2, .int v2)] []) ?_ FU (0 : Int32) (0 : Int32) E
  intro rec3 hrec4 v1 v2 E
  refine z_iload_n hC dX6_mostTakes_4 rfl 2 rfl ?_
  refine z_aload_n hC dX6_mostTakes_5 rfl 0 rfl ?_
  refine z_get hC lf_X6_9_6 (kX_14 hF) dX6_mostTakes_6 (fV_int rfl) ?_
  refine z_icmp_ge (tgt := 29) hC dX6_mostTakes_9 (by decide) (fun c5 => ?_) (fun c5 => ?_)
  · replace E := E.1 c5
    refine z_iload_n hC dX6_mostTakes_29 rfl 1 rfl ?_
    exact z_iret hC dX6_mostTakes_30 (Nat.le_refl _) (Nat.le_refl _) ⟨_, rfl, rfl, rfl, E⟩
  · replace E := E.2 c5
    refine z_iload_n hC dX6_mostTakes_12 rfl 1 rfl ?_
    refine z_aload_n hC dX6_mostTakes_13 rfl 0 rfl ?_
    refine z_get hC lf_X6_31_6 (kX_14 hF) dX6_mostTakes_14 (fV_ref rfl (rX_14_7 hF)) ?_
    refine z_iload_n hC dX6_mostTakes_17 rfl 2 rfl ?_
    refine z_iald hC (kX_20 hF) (nX_20 hF) E.1 dX6_mostTakes_18 ?_
    replace E := E.2
    refine z_topi (fun v6 h7 => ?_)
    replace E := E v6 h7
    refine z_mmax hC lk_X6_52 sm_max im_Math cm_max ⟨Nat.le_of_ble_eq_true rfl, Nat.le_of_ble_eq_true rfl⟩ ⟨Nat.zero_le _, Nat.zero_le _⟩ (Nat.le_of_ble_eq_true rfl) dX6_mostTakes_19 ?_
    refine z_topi (fun v8 h9 => ?_)
    replace E := E v8 h9
    refine z_istore_n (lv' := [(1, .int v8), (0, .ref (G.1 + 14)), (2, .int v2)]) hC dX6_mostTakes_22 rfl (Nat.le_of_ble_eq_true rfl) rfl ?_
    obtain ⟨v10, h11⟩ : ∃ y : Int32, y = v2 + 1 := ⟨_, rfl⟩
    replace E := E v10 h11
    refine z_iinc (q := 2) (v := v10) (lv' := [(2, .int v10), (1, .int v8), (0, .ref (G.1 + 14))]) hC dX6_mostTakes_23 rfl (by rw [h11]; rfl) (Nat.le_of_ble_eq_true rfl) rfl ?_
    refine z_goto (tgt := 4) hC dX6_mostTakes_26 (by decide) ?_
    refine z_sub [2, 1, 0] rfl ?_
    exact hrec4 v8 v10 E
def fX6_require (a1 : Int32) (a2 : Int32) (D : Dy) (post : Dy → Prop) : Prop :=
  (JN (fun (v1 : Int32) => (fX6_withNothing a1 D (fun (v4 : Int32) => (∀ v9 : Int32, v9 = (v4 &&& (((1 : Int32) <<< (v1 &&& 31)) ^^^ (-1 : Int32))) → (JN (fun (D11 : Dy) => (LP2 (fun (rec16 : Int32 → Dy → Prop) (v14 : Int32) (D15 : Dy) => (((D15.1 14 0) ≤ v14 → post D15) ∧ (¬ (D15.1 14 0) ≤ v14 → (fX11_isIn v14 v9 (fun (v20 : Int32) => (JN (fun (D24 : Dy) => (∀ v27 : Int32, v27 = v14 + 1 → (rec16 v27 D24))) (fun K25 : Dy → Prop => ((v20 = 0 → (K25 D15)) ∧ (¬ v20 = 0 → (vp_in v14 7 ∧ (vp_in v14 7 ∧ (∀ D30 : Dy, D30 = sI D15 15 (v14).toNatClampNeg ((D15.1 15 (v14).toNatClampNeg) ||| ((1 : Int32) <<< (v1 &&& 31))) → (K25 D30))))))))))))) FU (0 : Int32) D11)) (fun K12 : Dy → Prop => (((Int32.ofNat 80) ≤ (D.1 14 4) → (K12 D)) ∧ (¬ (Int32.ofNat 80) ≤ (D.1 14 4) → (vp_in (D.1 14 4) 80 ∧ (∀ D33 : Dy, D33 = sI D 16 ((D.1 14 4)).toNatClampNeg v1 → (vp_in (D33.1 14 4) 80 ∧ (∀ D35 : Dy, D35 = sI D33 17 ((D33.1 14 4)).toNatClampNeg v9 → (∀ D37 : Dy, D37 = sI D35 14 4 ((D35.1 14 4) + (1 : Int32)) → (K12 D37)))))))))))))) (fun K2 : Int32 → Prop => ((¬ a2 = (7 : Int32) → (K2 a2)) ∧ (a2 = (7 : Int32) → (K2 ((D.1 14 0) - (1 : Int32)))))))
set_option maxHeartbeats 4000000 in
set_option maxRecDepth 100000 in
theorem ct_X6_require {l : Launch} {G : Gl} {S : Sh} {D : Dy} {mdl : Nat → Option (Nat × Nat)} (hF : FX S mdl) {a1 : Int32} {a2 : Int32} {post : Dy → Prop} (E : fX6_require a1 a2 D post) : Ct l G yX6_require cX6_require 6 none 1 0 0 S D [.ref (G.1 + 14), .int a1, .int a2] (PV S post) := by
  refine z_enter (lv0 := [(0, .ref (G.1 + 14)), (1, .int a1), (2, .int a2)]) pl_6 (Nat.le_of_ble_eq_true rfl) rfl ?_
  intro p e s m args below meth c hC hnm
  unfold fX6_require at E
  refine z_iload_n hC dX6_require_0 rfl 2 rfl ?_
  refine z_bipush (v := 7) hC dX6_require_1 rfl ?_
  obtain ⟨K2, hK3, EE⟩ := JN_use E (fun K2 : Int32 → Prop => ∀ (v1 : Int32), K2 v1 → ZM l G p e s m args below meth c 6 1 S (PV S post) S D 16 [(0, .ref (G.1 + 14)), (1, .int a1)] [.int v1]) (by
    intro v1 E
    refine z_istore_n (lv' := [(3, .int v1), (0, .ref (G.1 + 14)), (1, .int a1)]) hC dX6_require_16 rfl (Nat.le_of_ble_eq_true rfl) rfl ?_
    refine z_aload_n hC dX6_require_17 rfl 1 rfl ?_
    refine z_iload_n hC dX6_require_18 rfl 2 rfl ?_
    refine z_callV (ci := 6) (rest := []) hC (ck_mk lk_X6_37 in_X6_withNothing cd_X6_withNothing ds_X6_withNothing (Nat.le_of_ble_eq_true rfl) (Nat.le_of_ble_eq_true rfl)) iy_X6_withNothing sy_X6_withNothing cf_6 (by decide) (kX_14 hF) (ct_X6_withNothing hF E) rfl rfl (Nat.le_of_ble_eq_true rfl) ⟨Nat.le_refl _, Nat.le_refl _⟩ dX6_require_19 ?_
    rintro _ _ _ ⟨v4, rfl, rfl, rfl, E⟩
    refine z_iconst (v := 1) hC dX6_require_22 rfl ?_
    refine z_iload_n hC dX6_require_23 rfl 0 rfl ?_
    refine z_ishl hC dX6_require_24 ?_
    refine z_iconst (v := -1) hC dX6_require_25 rfl ?_
    refine z_ixor hC dX6_require_26 ?_
    refine z_iand hC dX6_require_27 ?_
    refine z_topi (fun v9 h10 => ?_)
    replace E := E v9 h10
    refine z_istore (lv' := [(4, .int v9), (3, .int v1), (0, .ref (G.1 + 14)), (1, .int a1)]) hC dX6_require_28 (Nat.le_of_ble_eq_true rfl) rfl ?_
    refine z_aload_n hC dX6_require_30 rfl 2 rfl ?_
    refine z_get hC lf_X6_34_6 (kX_14 hF) dX6_require_31 (fV_int rfl) ?_
    refine z_aload_n hC dX6_require_34 rfl 2 rfl ?_
    refine z_get hC lf_X6_19_6 (kX_14 hF) dX6_require_35 (fV_ref rfl (rX_14_2 hF)) ?_
    refine z_alen hC (kX_16 hF) (nX_16 hF) dX6_require_38 ?_
    obtain ⟨K12, hK13, EE⟩ := JN_use E (fun K12 : Dy → Prop => ∀ (D11 : Dy), K12 D11 → ZM l G p e s m args below meth c 6 1 S (PV S post) S D11 73 [(0, .ref (G.1 + 14)), (3, .int v1), (4, .int v9)] []) (by
      intro D11 E
      refine z_iconst (v := 0) hC dX6_require_73 rfl ?_
      refine z_istore (lv' := [(5, .int (0 : Int32)), (0, .ref (G.1 + 14)), (3, .int v1), (4, .int v9)]) hC dX6_require_74 (Nat.le_of_ble_eq_true rfl) rfl ?_
      refine z_sub [1, 2, 3, 0] rfl ?_
      refine LP2_use (fun (v14 : Int32) (D15 : Dy) => ZM l G p e s m args below meth c 6 1 S (PV S post) S D15 76 [(0, .ref (G.1 + 14)), (3, .int v1), (4, .int v9), (5, .int v14)] []) ?_ FU (0 : Int32) D11 E
      intro rec16 hrec17 v14 D15 E
      refine z_iload hC dX6_require_76 3 rfl ?_
      refine z_aload_n hC dX6_require_78 rfl 0 rfl ?_
      refine z_get hC lf_X6_9_6 (kX_14 hF) dX6_require_79 (fV_int rfl) ?_
      refine z_icmp_ge (tgt := 114) hC dX6_require_82 (by decide) (fun c18 => ?_) (fun c18 => ?_)
      · replace E := E.1 c18
        exact z_vret hC dX6_require_114 (Nat.le_refl _) (Nat.le_refl _) ⟨rfl, rfl, E⟩
      · replace E := E.2 c18
        refine z_iload hC dX6_require_85 3 rfl ?_
        refine z_iload hC dX6_require_87 2 rfl ?_
        refine z_callSN (rest := []) hC lk_X6_41 in_X11_isIn cd_X11_isIn ds_X11_isIn ⟨Nat.le_of_ble_eq_true rfl, Nat.le_of_ble_eq_true rfl⟩ st_X11_isIn (ct_X11_isIn hF E) rfl rfl (Nat.le_of_ble_eq_true rfl) ⟨Nat.le_refl _, Nat.le_refl _⟩ dX6_require_89 ?_
        rintro _ _ _ ⟨v20, rfl, rfl, rfl, E⟩
        obtain ⟨K25, hK26, EE⟩ := JN_use E (fun K25 : Dy → Prop => ∀ (D24 : Dy), K25 D24 → ZM l G p e s m args below meth c 6 1 S (PV S post) S D24 108 [(0, .ref (G.1 + 14)), (3, .int v1), (4, .int v9), (5, .int v14)] []) (by
          intro D24 E
          obtain ⟨v27, h28⟩ : ∃ y : Int32, y = v14 + 1 := ⟨_, rfl⟩
          replace E := E v27 h28
          refine z_iinc (q := 3) (v := v27) (lv' := [(5, .int v27), (0, .ref (G.1 + 14)), (3, .int v1), (4, .int v9)]) hC dX6_require_108 rfl (by rw [h28]; rfl) (Nat.le_of_ble_eq_true rfl) rfl ?_
          refine z_goto (tgt := 76) hC dX6_require_111 (by decide) ?_
          refine z_sub [1, 2, 3, 0] rfl ?_
          exact hrec17 v27 D24 E)
        replace E := EE
        clear EE
        refine z_if_eq (tgt := 108) hC dX6_require_92 (by decide) (fun c29 => ?_) (fun c29 => ?_)
        · replace E := E.1 c29
          exact hK26 D15 E
        · replace E := E.2 c29
          refine z_aload_n hC dX6_require_95 rfl 0 rfl ?_
          refine z_get hC lf_X6_15_6 (kX_14 hF) dX6_require_96 (fV_ref rfl (rX_14_1 hF)) ?_
          refine z_iload hC dX6_require_99 3 rfl ?_
          refine z_dup2 hC dX6_require_101 rfl rfl ?_
          refine z_iald hC (kX_15 hF) (nX_15 hF) E.1 dX6_require_102 ?_
          replace E := E.2
          refine z_iconst (v := 1) hC dX6_require_103 rfl ?_
          refine z_iload_n hC dX6_require_104 rfl 1 rfl ?_
          refine z_ishl hC dX6_require_105 ?_
          refine z_ior hC dX6_require_106 ?_
          refine z_iast hC (kX_15 hF) (nX_15 hF) E.1 dX6_require_107 ?_
          replace E := E.2
          refine z_topD (fun D30 h31 => ?_)
          replace E := E D30 h31
          exact hK26 D30 E)
    replace E := EE
    clear EE
    refine z_icmp_ge (tgt := 73) hC dX6_require_39 (by decide) (fun c32 => ?_) (fun c32 => ?_)
    · replace E := E.1 c32
      refine z_sub [2, 1, 0] rfl ?_
      exact hK13 D E
    · replace E := E.2 c32
      refine z_aload_n hC dX6_require_42 rfl 2 rfl ?_
      refine z_get hC lf_X6_19_6 (kX_14 hF) dX6_require_43 (fV_ref rfl (rX_14_2 hF)) ?_
      refine z_aload_n hC dX6_require_46 rfl 2 rfl ?_
      refine z_get hC lf_X6_34_6 (kX_14 hF) dX6_require_47 (fV_int rfl) ?_
      refine z_iload_n hC dX6_require_50 rfl 1 rfl ?_
      refine z_iast hC (kX_16 hF) (nX_16 hF) E.1 dX6_require_51 ?_
      replace E := E.2
      refine z_topD (fun D33 h34 => ?_)
      replace E := E D33 h34
      refine z_aload_n hC dX6_require_52 rfl 2 rfl ?_
      refine z_get hC lf_X6_22_6 (kX_14 hF) dX6_require_53 (fV_ref rfl (rX_14_3 hF)) ?_
      refine z_aload_n hC dX6_require_56 rfl 2 rfl ?_
      refine z_get hC lf_X6_34_6 (kX_14 hF) dX6_require_57 (fV_int rfl) ?_
      refine z_iload hC dX6_require_60 0 rfl ?_
      refine z_iast hC (kX_17 hF) (nX_17 hF) E.1 dX6_require_62 ?_
      replace E := E.2
      refine z_topD (fun D35 h36 => ?_)
      replace E := E D35 h36
      refine z_aload_n hC dX6_require_63 rfl 2 rfl ?_
      refine z_dup hC dX6_require_64 rfl ?_
      refine z_get hC lf_X6_34_6 (kX_14 hF) dX6_require_65 (fV_int rfl) ?_
      refine z_iconst (v := 1) hC dX6_require_68 rfl ?_
      refine z_iadd hC dX6_require_69 ?_
      refine z_puti hC lf_X6_34_6 rfl (kX_14 hF) dX6_require_70 ?_
      refine z_topD (fun D37 h38 => ?_)
      replace E := E D37 h38
      refine z_sub [2, 1, 0] rfl ?_
      exact hK13 D37 E)
  replace E := EE
  clear EE
  refine z_icmp_ne (tgt := 15) hC dX6_require_3 (by decide) (fun c39 => ?_) (fun c39 => ?_)
  · replace E := E.1 c39
    refine z_iload_n hC dX6_require_15 rfl 2 rfl ?_
    refine z_sub [0, 1] rfl ?_
    exact hK3 a2 E
  · replace E := E.2 c39
    refine z_aload_n hC dX6_require_6 rfl 0 rfl ?_
    refine z_get hC lf_X6_9_6 (kX_14 hF) dX6_require_7 (fV_int rfl) ?_
    refine z_iconst (v := 1) hC dX6_require_10 rfl ?_
    refine z_isub hC dX6_require_11 ?_
    refine z_goto (tgt := 16) hC dX6_require_12 (by decide) ?_
    refine z_sub [0, 1] rfl ?_
    exact hK3 ((D.1 14 0) - (1 : Int32)) E
def fX6_takenBits  (D : Dy) (post : Int32 → Prop) : Prop :=
  (LP2 (fun (rec3 : Int32 → Int32 → Prop) (v1 : Int32) (v2 : Int32) => (((D.1 14 0) ≤ v2 → post v1) ∧ (¬ (D.1 14 0) ≤ v2 → (vp_in v2 7 ∧ (JN (fun (v6 : Int32) => (∀ v9 : Int32, v9 = v2 + 1 → (rec3 v6 v9))) (fun K7 : Int32 → Prop => (((D.1 20 (v2).toNatClampNeg) ≤ 0 → (K7 v1)) ∧ (¬ (D.1 20 (v2).toNatClampNeg) ≤ 0 → (JN (fun (v12 : Int32) => (∀ v15 : Int32, v15 = (v1 ||| ((1 : Int32) <<< (v12 &&& 31))) → (K7 v15))) (fun K13 : Int32 → Prop => ((¬ v2 = ((D.1 14 0) - (1 : Int32)) → (K13 v2)) ∧ (v2 = ((D.1 14 0) - (1 : Int32)) → (K13 (7 : Int32)))))))))))))) FU (0 : Int32) (0 : Int32))
set_option maxHeartbeats 4000000 in
set_option maxRecDepth 100000 in
theorem ct_X6_takenBits {l : Launch} {G : Gl} {S : Sh} {D : Dy} {mdl : Nat → Option (Nat × Nat)} (hF : FX S mdl)  {post : Int32 → Prop} (E : fX6_takenBits D post) : Ct l G yX6_takenBits cX6_takenBits 3 (some .int) 0 0 0 S D [.ref (G.1 + 14)] (PIr S D post) := by
  refine z_enter (lv0 := [(0, .ref (G.1 + 14))]) pl_6 (Nat.le_of_ble_eq_true rfl) rfl ?_
  intro p e s m args below meth c hC hnm
  unfold fX6_takenBits at E
  refine z_iconst (v := 0) hC dX6_takenBits_0 rfl ?_
  refine z_istore_n (lv' := [(1, .int (0 : Int32)), (0, .ref (G.1 + 14))]) hC dX6_takenBits_1 rfl (Nat.le_of_ble_eq_true rfl) rfl ?_
  refine z_iconst (v := 0) hC dX6_takenBits_2 rfl ?_
  refine z_istore_n (lv' := [(2, .int (0 : Int32)), (1, .int (0 : Int32)), (0, .ref (G.1 + 14))]) hC dX6_takenBits_3 rfl (Nat.le_of_ble_eq_true rfl) rfl ?_
  refine z_sub [2, 1, 0] rfl ?_
  refine LP2_use (fun (v1 : Int32) (v2 : Int32) => ZM l G p e s m args below meth c 3 0 S (PIr S D post) S D 4 [(0, .ref (G.1 + 14)), (1, .int v1), (2, .int v2)] []) ?_ FU (0 : Int32) (0 : Int32) E
  intro rec3 hrec4 v1 v2 E
  refine z_iload_n hC dX6_takenBits_4 rfl 2 rfl ?_
  refine z_aload_n hC dX6_takenBits_5 rfl 0 rfl ?_
  refine z_get hC lf_X6_9_6 (kX_14 hF) dX6_takenBits_6 (fV_int rfl) ?_
  refine z_icmp_ge (tgt := 48) hC dX6_takenBits_9 (by decide) (fun c5 => ?_) (fun c5 => ?_)
  · replace E := E.1 c5
    refine z_iload_n hC dX6_takenBits_48 rfl 1 rfl ?_
    exact z_iret hC dX6_takenBits_49 (Nat.le_refl _) (Nat.le_refl _) ⟨_, rfl, rfl, rfl, E⟩
  · replace E := E.2 c5
    refine z_aload_n hC dX6_takenBits_12 rfl 0 rfl ?_
    refine z_get hC lf_X6_31_6 (kX_14 hF) dX6_takenBits_13 (fV_ref rfl (rX_14_7 hF)) ?_
    refine z_iload_n hC dX6_takenBits_16 rfl 2 rfl ?_
    refine z_iald hC (kX_20 hF) (nX_20 hF) E.1 dX6_takenBits_17 ?_
    replace E := E.2
    obtain ⟨K7, hK8, EE⟩ := JN_use E (fun K7 : Int32 → Prop => ∀ (v6 : Int32), K7 v6 → ZM l G p e s m args below meth c 3 0 S (PIr S D post) S D 42 [(0, .ref (G.1 + 14)), (1, .int v6), (2, .int v2)] []) (by
      intro v6 E
      obtain ⟨v9, h10⟩ : ∃ y : Int32, y = v2 + 1 := ⟨_, rfl⟩
      replace E := E v9 h10
      refine z_iinc (q := 2) (v := v9) (lv' := [(2, .int v9), (0, .ref (G.1 + 14)), (1, .int v6)]) hC dX6_takenBits_42 rfl (by rw [h10]; rfl) (Nat.le_of_ble_eq_true rfl) rfl ?_
      refine z_goto (tgt := 4) hC dX6_takenBits_45 (by decide) ?_
      refine z_sub [1, 2, 0] rfl ?_
      exact hrec4 v6 v9 E)
    replace E := EE
    clear EE
    refine z_if_le (tgt := 42) hC dX6_takenBits_18 (by decide) (fun c11 => ?_) (fun c11 => ?_)
    · replace E := E.1 c11
      exact hK8 v1 E
    · replace E := E.2 c11
      refine z_iload_n hC dX6_takenBits_21 rfl 1 rfl ?_
      refine z_iconst (v := 1) hC dX6_takenBits_22 rfl ?_
      refine z_iload_n hC dX6_takenBits_23 rfl 2 rfl ?_
      refine z_aload_n hC dX6_takenBits_24 rfl 0 rfl ?_
      refine z_get hC lf_X6_9_6 (kX_14 hF) dX6_takenBits_25 (fV_int rfl) ?_
      refine z_iconst (v := 1) hC dX6_takenBits_28 rfl ?_
      refine z_isub hC dX6_takenBits_29 ?_
      obtain ⟨K13, hK14, EE⟩ := JN_use E (fun K13 : Int32 → Prop => ∀ (v12 : Int32), K13 v12 → ZM l G p e s m args below meth c 3 0 S (PIr S D post) S D 39 [(0, .ref (G.1 + 14)), (2, .int v2)] [.int v12, .int (1 : Int32), .int v1]) (by
        intro v12 E
        refine z_ishl hC dX6_takenBits_39 ?_
        refine z_ior hC dX6_takenBits_40 ?_
        refine z_topi (fun v15 h16 => ?_)
        replace E := E v15 h16
        refine z_istore_n (lv' := [(1, .int v15), (0, .ref (G.1 + 14)), (2, .int v2)]) hC dX6_takenBits_41 rfl (Nat.le_of_ble_eq_true rfl) rfl ?_
        refine z_sub [1, 0, 2] rfl ?_
        exact hK8 v15 E)
      replace E := EE
      clear EE
      refine z_icmp_ne (tgt := 38) hC dX6_takenBits_30 (by decide) (fun c17 => ?_) (fun c17 => ?_)
      · replace E := E.1 c17
        refine z_iload_n hC dX6_takenBits_38 rfl 2 rfl ?_
        refine z_sub [0, 2] rfl ?_
        exact hK14 v2 E
      · replace E := E.2 c17
        refine z_bipush (v := 7) hC dX6_takenBits_33 rfl ?_
        refine z_goto (tgt := 39) hC dX6_takenBits_35 (by decide) ?_
        refine z_sub [0, 2] rfl ?_
        exact hK14 (7 : Int32) E
def fX9_holdingFor (t : Nat) (a2 : Int32) (a3 : Int32) (D : Dy) (post : Int32 → Dy → Prop) : Prop :=
  (LP3 (fun (rec4 : Int32 → Int32 → Dy → Prop) (v1 : Int32) (v2 : Int32) (D3 : Dy) => (JN (((v1 ≤ 0 → post (0 : Int32) D3) ∧ (¬ v1 ≤ 0 → (vp_in (0 : Int32) 16 ∧ post (D3.1 (t + 7) ((0 : Int32)).toNatClampNeg) D3)))) (fun K6 : Prop => ((a3 ≤ v2 → K6) ∧ (¬ a3 ≤ v2 → (((Int32.ofNat 120) ≤ v2 → K6) ∧ (¬ (Int32.ofNat 120) ≤ v2 → (vp_in v2 120 ∧ (∀ v11 : Int32, v11 = ((D3.1 (t + 8) (v2).toNatClampNeg) &&& (15 : Int32)) → (JN (fun (v13 : Int32) (D14 : Dy) => (∀ v17 : Int32, v17 = v2 + 1 → (rec4 v13 v17 D14))) (fun K15 : Int32 → Dy → Prop => (JN ((JN ((JN (((v11 ≤ (2 : Int32) → (K15 v1 D3)) ∧ (¬ v11 ≤ (2 : Int32) → (((Int32.ofNat 16) ≤ v1 → (K15 v1 D3)) ∧ (¬ (Int32.ofNat 16) ≤ v1 → (vp_in v2 120 ∧ (fX1_passing v11 ((D3.1 (t + 8) (v2).toNatClampNeg) >>> ((4 : Int32) &&& 31)) D3 (fun (v27 : Int32) => (vp_in v1 16 ∧ (∀ D32 : Dy, D32 = sI D3 (t + 7) (v1).toNatClampNeg v27 → (∀ v34 : Int32, v34 = v1 + 1 → (K15 v34 D32)))))))))))) (fun K23 : Prop => ((¬ v11 = (2 : Int32) → K23) ∧ (v11 = (2 : Int32) → ((v1 ≤ (1 : Int32) → K23) ∧ (¬ v1 ≤ (1 : Int32) → (∀ v38 : Int32, v38 = v1 + (-1) → (∀ v40 : Int32, v40 = (v38 - (1 : Int32)) → (vp_in v40 16 ∧ (vp_in v38 16 ∧ (vp_in v40 16 ∧ (∀ D42 : Dy, D42 = sI D3 (t + 7) (v40).toNatClampNeg ((D3.1 (t + 7) (v40).toNatClampNeg) ||| (D3.1 (t + 7) (v38).toNatClampNeg)) → (K15 v38 D42)))))))))))))) (fun K21 : Prop => ((¬ v11 = (1 : Int32) → K21) ∧ (v11 = (1 : Int32) → ((v1 ≤ (1 : Int32) → K21) ∧ (¬ v1 ≤ (1 : Int32) → (∀ v46 : Int32, v46 = v1 + (-1) → (∀ v48 : Int32, v48 = (v46 - (1 : Int32)) → (vp_in v48 16 ∧ (vp_in v46 16 ∧ (vp_in v48 16 ∧ (∀ D50 : Dy, D50 = sI D3 (t + 7) (v48).toNatClampNeg ((D3.1 (t + 7) (v48).toNatClampNeg) &&& (D3.1 (t + 7) (v46).toNatClampNeg)) → (K15 v46 D50)))))))))))))) (fun K19 : Prop => ((¬ v11 = 0 → K19) ∧ (v11 = 0 → ((v1 ≤ 0 → K19) ∧ (¬ v1 ≤ 0 → (vp_in (v1 - (1 : Int32)) 16 ∧ (vp_in (v1 - (1 : Int32)) 16 ∧ (∀ D54 : Dy, D54 = sI D3 (t + 7) ((v1 - (1 : Int32))).toNatClampNeg ((D3.1 (t + 7) ((v1 - (1 : Int32))).toNatClampNeg) ^^^ (-1 : Int32)) → (K15 v1 D54))))))))))))))))))))) FU (0 : Int32) a2 D)
set_option maxHeartbeats 4000000 in
set_option maxRecDepth 100000 in
theorem ct_X9_holdingFor {l : Launch} {G : Gl} {S : Sh} {D : Dy} {mdl : Nat → Option (Nat × Nat)} (hF : FX S mdl) {t : Nat} (hT : FT S t) {a2 : Int32} {a3 : Int32} {post : Int32 → Dy → Prop} (E : fX9_holdingFor t a2 a3 D post) : Ct l G yX9_holdingFor cX9_holdingFor 7 (some .int) 3 0 0 S D [.ref (G.1 + t), .ref (G.1 + 1), .int a2, .int a3] (PI S post) := by
  refine z_enter (lv0 := [(0, .ref (G.1 + t)), (1, .ref (G.1 + 1)), (2, .int a2), (3, .int a3)]) pl_9 (Nat.le_of_ble_eq_true rfl) rfl ?_
  intro p e s m args below meth c hC hnm
  unfold fX9_holdingFor at E
  refine z_iconst (v := 0) hC dX9_holdingFor_0 rfl ?_
  refine z_istore (lv' := [(4, .int (0 : Int32)), (0, .ref (G.1 + t)), (1, .ref (G.1 + 1)), (2, .int a2), (3, .int a3)]) hC dX9_holdingFor_1 (Nat.le_of_ble_eq_true rfl) rfl ?_
  refine z_iload_n hC dX9_holdingFor_3 rfl 3 rfl ?_
  refine z_istore (lv' := [(5, .int a2), (4, .int (0 : Int32)), (0, .ref (G.1 + t)), (1, .ref (G.1 + 1)), (2, .int a2), (3, .int a3)]) hC dX9_holdingFor_4 (Nat.le_of_ble_eq_true rfl) rfl ?_
  refine z_sub [2, 3, 5, 1, 0] rfl ?_
  refine LP3_use (fun (v1 : Int32) (v2 : Int32) (D3 : Dy) => ZM l G p e s m args below meth c 7 3 S (PI S post) S D3 6 [(0, .ref (G.1 + t)), (1, .ref (G.1 + 1)), (3, .int a3), (4, .int v1), (5, .int v2)] []) ?_ FU (0 : Int32) a2 D E
  intro rec4 hrec5 v1 v2 D3 E
  refine z_iload hC dX9_holdingFor_6 4 rfl ?_
  refine z_iload_n hC dX9_holdingFor_8 rfl 2 rfl ?_
  obtain ⟨K6, hK7, EE⟩ := JN_use E (fun K6 : Prop => K6 → ZM l G p e s m args below meth c 7 3 S (PI S post) S D3 188 [(0, .ref (G.1 + t)), (4, .int v1)] []) (by
    intro E
    refine z_iload hC dX9_holdingFor_188 1 rfl ?_
    refine z_if_le (tgt := 202) hC dX9_holdingFor_190 (by decide) (fun c8 => ?_) (fun c8 => ?_)
    · replace E := E.1 c8
      refine z_iconst (v := 0) hC dX9_holdingFor_202 rfl ?_
      exact z_iret hC dX9_holdingFor_203 (Nat.le_refl _) (Nat.le_refl _) ⟨_, rfl, rfl, E⟩
    · replace E := E.2 c8
      refine z_aload_n hC dX9_holdingFor_193 rfl 0 rfl ?_
      refine z_get hC lf_X9_34_9 (kT_0 hT) dX9_holdingFor_194 (fV_ref rfl (rT_16 hT)) ?_
      refine z_iconst (v := 0) hC dX9_holdingFor_197 rfl ?_
      refine z_iald hC (kT_7 hT) (nT_7 hT) E.1 dX9_holdingFor_198 ?_
      replace E := E.2
      refine z_goto (tgt := 203) hC dX9_holdingFor_199 (by decide) ?_
      exact z_iret hC dX9_holdingFor_203 (Nat.le_refl _) (Nat.le_refl _) ⟨_, rfl, rfl, E⟩)
  replace E := EE
  clear EE
  refine z_icmp_ge (tgt := 188) hC dX9_holdingFor_9 (by decide) (fun c9 => ?_) (fun c9 => ?_)
  · replace E := E.1 c9
    refine z_sub [0, 3] rfl ?_
    exact hK7  E
  · replace E := E.2 c9
    refine z_iload hC dX9_holdingFor_12 4 rfl ?_
    refine z_aload_n hC dX9_holdingFor_14 rfl 0 rfl ?_
    refine z_get hC lf_X9_43_9 (kT_0 hT) dX9_holdingFor_15 (fV_ref rfl (rT_11 hT)) ?_
    refine z_alen hC (kT_8 hT) (nT_8 hT) dX9_holdingFor_18 ?_
    refine z_icmp_ge (tgt := 188) hC dX9_holdingFor_19 (by decide) (fun c10 => ?_) (fun c10 => ?_)
    · replace E := E.1 c10
      refine z_sub [0, 3] rfl ?_
      exact hK7  E
    · replace E := E.2 c10
      refine z_aload_n hC dX9_holdingFor_22 rfl 0 rfl ?_
      refine z_get hC lf_X9_43_9 (kT_0 hT) dX9_holdingFor_23 (fV_ref rfl (rT_11 hT)) ?_
      refine z_iload hC dX9_holdingFor_26 4 rfl ?_
      refine z_iald hC (kT_8 hT) (nT_8 hT) E.1 dX9_holdingFor_28 ?_
      replace E := E.2
      refine z_bipush (v := 15) hC dX9_holdingFor_29 rfl ?_
      refine z_iand hC dX9_holdingFor_31 ?_
      refine z_topi (fun v11 h12 => ?_)
      replace E := E v11 h12
      refine z_istore (lv' := [(6, .int v11), (0, .ref (G.1 + t)), (1, .ref (G.1 + 1)), (3, .int a3), (4, .int v1), (5, .int v2)]) hC dX9_holdingFor_32 (Nat.le_of_ble_eq_true rfl) rfl ?_
      refine z_iload hC dX9_holdingFor_34 0 rfl ?_
      obtain ⟨K15, hK16, EE⟩ := JN_use E (fun K15 : Int32 → Dy → Prop => ∀ (v13 : Int32) (D14 : Dy), K15 v13 D14 → ZM l G p e s m args below meth c 7 3 S (PI S post) S D14 182 [(0, .ref (G.1 + t)), (1, .ref (G.1 + 1)), (3, .int a3), (4, .int v13), (5, .int v2)] []) (by
        intro v13 D14 E
        obtain ⟨v17, h18⟩ : ∃ y : Int32, y = v2 + 1 := ⟨_, rfl⟩
        replace E := E v17 h18
        refine z_iinc (q := 4) (v := v17) (lv' := [(5, .int v17), (0, .ref (G.1 + t)), (1, .ref (G.1 + 1)), (3, .int a3), (4, .int v13)]) hC dX9_holdingFor_182 rfl (by rw [h18]; rfl) (Nat.le_of_ble_eq_true rfl) rfl ?_
        refine z_goto (tgt := 6) hC dX9_holdingFor_185 (by decide) ?_
        refine z_sub [1, 2, 3, 4, 0] rfl ?_
        exact hrec5 v13 v17 D14 E)
      replace E := EE
      clear EE
      obtain ⟨K19, hK20, EE⟩ := JN_use E (fun K19 : Prop => K19 → ZM l G p e s m args below meth c 7 3 S (PI S post) S D3 67 [(0, .ref (G.1 + t)), (1, .ref (G.1 + 1)), (3, .int a3), (4, .int v1), (5, .int v2), (6, .int v11)] []) (by
        intro E
        refine z_iload hC dX9_holdingFor_67 5 rfl ?_
        refine z_iconst (v := 1) hC dX9_holdingFor_69 rfl ?_
        obtain ⟨K21, hK22, EE⟩ := JN_use E (fun K21 : Prop => K21 → ZM l G p e s m args below meth c 7 3 S (PI S post) S D3 104 [(0, .ref (G.1 + t)), (1, .ref (G.1 + 1)), (3, .int a3), (4, .int v1), (5, .int v2), (6, .int v11)] []) (by
          intro E
          refine z_iload hC dX9_holdingFor_104 5 rfl ?_
          refine z_iconst (v := 2) hC dX9_holdingFor_106 rfl ?_
          obtain ⟨K23, hK24, EE⟩ := JN_use E (fun K23 : Prop => K23 → ZM l G p e s m args below meth c 7 3 S (PI S post) S D3 141 [(0, .ref (G.1 + t)), (1, .ref (G.1 + 1)), (3, .int a3), (4, .int v1), (5, .int v2), (6, .int v11)] []) (by
            intro E
            refine z_iload hC dX9_holdingFor_141 5 rfl ?_
            refine z_iconst (v := 2) hC dX9_holdingFor_143 rfl ?_
            refine z_icmp_le (tgt := 182) hC dX9_holdingFor_144 (by decide) (fun c25 => ?_) (fun c25 => ?_)
            · replace E := E.1 c25
              refine z_sub [0, 1, 2, 3, 4] rfl ?_
              exact hK16 v1 D3 E
            · replace E := E.2 c25
              refine z_iload hC dX9_holdingFor_147 3 rfl ?_
              refine z_aload_n hC dX9_holdingFor_149 rfl 0 rfl ?_
              refine z_get hC lf_X9_34_9 (kT_0 hT) dX9_holdingFor_150 (fV_ref rfl (rT_16 hT)) ?_
              refine z_alen hC (kT_7 hT) (nT_7 hT) dX9_holdingFor_153 ?_
              refine z_icmp_ge (tgt := 182) hC dX9_holdingFor_154 (by decide) (fun c26 => ?_) (fun c26 => ?_)
              · replace E := E.1 c26
                refine z_sub [0, 1, 2, 3, 4] rfl ?_
                exact hK16 v1 D3 E
              · replace E := E.2 c26
                refine z_aload_n hC dX9_holdingFor_157 rfl 0 rfl ?_
                refine z_get hC lf_X9_34_9 (kT_0 hT) dX9_holdingFor_158 (fV_ref rfl (rT_16 hT)) ?_
                refine z_iload hC dX9_holdingFor_161 3 rfl ?_
                refine z_aload_n hC dX9_holdingFor_163 rfl 1 rfl ?_
                refine z_iload hC dX9_holdingFor_164 5 rfl ?_
                refine z_aload_n hC dX9_holdingFor_166 rfl 0 rfl ?_
                refine z_get hC lf_X9_43_9 (kT_0 hT) dX9_holdingFor_167 (fV_ref rfl (rT_11 hT)) ?_
                refine z_iload hC dX9_holdingFor_170 4 rfl ?_
                refine z_iald hC (kT_8 hT) (nT_8 hT) E.1 dX9_holdingFor_172 ?_
                replace E := E.2
                refine z_iconst (v := 4) hC dX9_holdingFor_173 rfl ?_
                refine z_ishr hC dX9_holdingFor_174 ?_
                refine z_callV (ci := 1) (rest := [.int v1, .ref (G.1 + (t + 7))]) hC (ck_mk lk_X9_161 in_X1_passing cd_X1_passing ds_X1_passing (Nat.le_of_ble_eq_true rfl) (Nat.le_of_ble_eq_true rfl)) iy_X1_passing sy_X1_passing cf_1 (by decide) (kX_1 hF) (ct_X1_passing hF E) rfl rfl (Nat.le_of_ble_eq_true rfl) ⟨Nat.le_refl _, Nat.le_refl _⟩ dX9_holdingFor_175 ?_
                rintro _ _ _ ⟨v27, rfl, rfl, rfl, E⟩
                refine z_iast hC (kT_7 hT) (nT_7 hT) E.1 dX9_holdingFor_178 ?_
                replace E := E.2
                refine z_topD (fun D32 h33 => ?_)
                replace E := E D32 h33
                obtain ⟨v34, h35⟩ : ∃ y : Int32, y = v1 + 1 := ⟨_, rfl⟩
                replace E := E v34 h35
                refine z_iinc (q := 3) (v := v34) (lv' := [(4, .int v34), (0, .ref (G.1 + t)), (1, .ref (G.1 + 1)), (3, .int a3), (5, .int v2), (6, .int v11)]) hC dX9_holdingFor_179 rfl (by rw [h35]; rfl) (Nat.le_of_ble_eq_true rfl) rfl ?_
                refine z_sub [1, 2, 3, 0, 4] rfl ?_
                exact hK16 v34 D32 E)
          replace E := EE
          clear EE
          refine z_icmp_ne (tgt := 141) hC dX9_holdingFor_107 (by decide) (fun c36 => ?_) (fun c36 => ?_)
          · replace E := E.1 c36
            exact hK24  E
          · replace E := E.2 c36
            refine z_iload hC dX9_holdingFor_110 3 rfl ?_
            refine z_iconst (v := 1) hC dX9_holdingFor_112 rfl ?_
            refine z_icmp_le (tgt := 141) hC dX9_holdingFor_113 (by decide) (fun c37 => ?_) (fun c37 => ?_)
            · replace E := E.1 c37
              exact hK24  E
            · replace E := E.2 c37
              obtain ⟨v38, h39⟩ : ∃ y : Int32, y = v1 + (-1) := ⟨_, rfl⟩
              replace E := E v38 h39
              refine z_iinc (q := 3) (v := v38) (lv' := [(4, .int v38), (0, .ref (G.1 + t)), (1, .ref (G.1 + 1)), (3, .int a3), (5, .int v2), (6, .int v11)]) hC dX9_holdingFor_116 rfl (by rw [h39]; rfl) (Nat.le_of_ble_eq_true rfl) rfl ?_
              refine z_aload_n hC dX9_holdingFor_119 rfl 1 rfl ?_
              refine z_get hC lf_X9_34_9 (kT_0 hT) dX9_holdingFor_120 (fV_ref rfl (rT_16 hT)) ?_
              refine z_iload hC dX9_holdingFor_123 0 rfl ?_
              refine z_iconst (v := 1) hC dX9_holdingFor_125 rfl ?_
              refine z_isub hC dX9_holdingFor_126 ?_
              refine z_topi (fun v40 h41 => ?_)
              replace E := E v40 h41
              refine z_dup2 hC dX9_holdingFor_127 rfl rfl ?_
              refine z_iald hC (kT_7 hT) (nT_7 hT) E.1 dX9_holdingFor_128 ?_
              replace E := E.2
              refine z_aload_n hC dX9_holdingFor_129 rfl 1 rfl ?_
              refine z_get hC lf_X9_34_9 (kT_0 hT) dX9_holdingFor_130 (fV_ref rfl (rT_16 hT)) ?_
              refine z_iload hC dX9_holdingFor_133 0 rfl ?_
              refine z_iald hC (kT_7 hT) (nT_7 hT) E.1 dX9_holdingFor_135 ?_
              replace E := E.2
              refine z_ior hC dX9_holdingFor_136 ?_
              refine z_iast hC (kT_7 hT) (nT_7 hT) E.1 dX9_holdingFor_137 ?_
              replace E := E.2
              refine z_topD (fun D42 h43 => ?_)
              replace E := E D42 h43
              refine z_goto (tgt := 182) hC dX9_holdingFor_138 (by decide) ?_
              refine z_sub [1, 2, 3, 0, 4] rfl ?_
              exact hK16 v38 D42 E)
        replace E := EE
        clear EE
        refine z_icmp_ne (tgt := 104) hC dX9_holdingFor_70 (by decide) (fun c44 => ?_) (fun c44 => ?_)
        · replace E := E.1 c44
          exact hK22  E
        · replace E := E.2 c44
          refine z_iload hC dX9_holdingFor_73 3 rfl ?_
          refine z_iconst (v := 1) hC dX9_holdingFor_75 rfl ?_
          refine z_icmp_le (tgt := 104) hC dX9_holdingFor_76 (by decide) (fun c45 => ?_) (fun c45 => ?_)
          · replace E := E.1 c45
            exact hK22  E
          · replace E := E.2 c45
            obtain ⟨v46, h47⟩ : ∃ y : Int32, y = v1 + (-1) := ⟨_, rfl⟩
            replace E := E v46 h47
            refine z_iinc (q := 3) (v := v46) (lv' := [(4, .int v46), (0, .ref (G.1 + t)), (1, .ref (G.1 + 1)), (3, .int a3), (5, .int v2), (6, .int v11)]) hC dX9_holdingFor_79 rfl (by rw [h47]; rfl) (Nat.le_of_ble_eq_true rfl) rfl ?_
            refine z_aload_n hC dX9_holdingFor_82 rfl 1 rfl ?_
            refine z_get hC lf_X9_34_9 (kT_0 hT) dX9_holdingFor_83 (fV_ref rfl (rT_16 hT)) ?_
            refine z_iload hC dX9_holdingFor_86 0 rfl ?_
            refine z_iconst (v := 1) hC dX9_holdingFor_88 rfl ?_
            refine z_isub hC dX9_holdingFor_89 ?_
            refine z_topi (fun v48 h49 => ?_)
            replace E := E v48 h49
            refine z_dup2 hC dX9_holdingFor_90 rfl rfl ?_
            refine z_iald hC (kT_7 hT) (nT_7 hT) E.1 dX9_holdingFor_91 ?_
            replace E := E.2
            refine z_aload_n hC dX9_holdingFor_92 rfl 1 rfl ?_
            refine z_get hC lf_X9_34_9 (kT_0 hT) dX9_holdingFor_93 (fV_ref rfl (rT_16 hT)) ?_
            refine z_iload hC dX9_holdingFor_96 0 rfl ?_
            refine z_iald hC (kT_7 hT) (nT_7 hT) E.1 dX9_holdingFor_98 ?_
            replace E := E.2
            refine z_iand hC dX9_holdingFor_99 ?_
            refine z_iast hC (kT_7 hT) (nT_7 hT) E.1 dX9_holdingFor_100 ?_
            replace E := E.2
            refine z_topD (fun D50 h51 => ?_)
            replace E := E D50 h51
            refine z_goto (tgt := 182) hC dX9_holdingFor_101 (by decide) ?_
            refine z_sub [1, 2, 3, 0, 4] rfl ?_
            exact hK16 v46 D50 E)
      replace E := EE
      clear EE
      refine z_if_ne (tgt := 67) hC dX9_holdingFor_36 (by decide) (fun c52 => ?_) (fun c52 => ?_)
      · replace E := E.1 c52
        refine z_sub [1, 2, 3, 4, 5, 0] rfl ?_
        exact hK20  E
      · replace E := E.2 c52
        refine z_iload hC dX9_holdingFor_39 4 rfl ?_
        refine z_if_le (tgt := 67) hC dX9_holdingFor_41 (by decide) (fun c53 => ?_) (fun c53 => ?_)
        · replace E := E.1 c53
          refine z_sub [1, 2, 3, 4, 5, 0] rfl ?_
          exact hK20  E
        · replace E := E.2 c53
          refine z_aload_n hC dX9_holdingFor_44 rfl 1 rfl ?_
          refine z_get hC lf_X9_34_9 (kT_0 hT) dX9_holdingFor_45 (fV_ref rfl (rT_16 hT)) ?_
          refine z_iload hC dX9_holdingFor_48 4 rfl ?_
          refine z_iconst (v := 1) hC dX9_holdingFor_50 rfl ?_
          refine z_isub hC dX9_holdingFor_51 ?_
          refine z_aload_n hC dX9_holdingFor_52 rfl 1 rfl ?_
          refine z_get hC lf_X9_34_9 (kT_0 hT) dX9_holdingFor_53 (fV_ref rfl (rT_16 hT)) ?_
          refine z_iload hC dX9_holdingFor_56 4 rfl ?_
          refine z_iconst (v := 1) hC dX9_holdingFor_58 rfl ?_
          refine z_isub hC dX9_holdingFor_59 ?_
          refine z_iald hC (kT_7 hT) (nT_7 hT) E.1 dX9_holdingFor_60 ?_
          replace E := E.2
          refine z_iconst (v := -1) hC dX9_holdingFor_61 rfl ?_
          refine z_ixor hC dX9_holdingFor_62 ?_
          refine z_iast hC (kT_7 hT) (nT_7 hT) E.1 dX9_holdingFor_63 ?_
          replace E := E.2
          refine z_topD (fun D54 h55 => ?_)
          replace E := E D54 h55
          refine z_goto (tgt := 182) hC dX9_holdingFor_64 (by decide) ?_
          refine z_sub [1, 2, 3, 4, 5] rfl ?_
          exact hK16 v1 D54 E
def fX9_runPicks (t : Nat) (D : Dy) (post : Dy → Prop) : Prop :=
  (LP3 (fun (rec4 : Int32 → Int32 → Dy → Prop) (v1 : Int32) (v2 : Int32) (D3 : Dy) => (((D3.1 t 15) ≤ v2 → post D3) ∧ (¬ (D3.1 t 15) ≤ v2 → (vp_in v2 10 ∧ (fX9_holdingFor t v1 (D3.1 (t + 5) (v2).toNatClampNeg) D3 (fun (v7 : Int32) (D12 : Dy) => (vp_in v2 10 ∧ (∀ D13 : Dy, D13 = sI D12 (t + 6) (v2).toNatClampNeg v7 → (vp_in v2 10 ∧ (∀ v15 : Int32, v15 = (D13.1 (t + 5) (v2).toNatClampNeg) → (∀ v17 : Int32, v17 = v2 + 1 → (rec4 v15 v17 D13)))))))))))) FU (0 : Int32) (0 : Int32) D)
set_option maxHeartbeats 4000000 in
set_option maxRecDepth 100000 in
theorem ct_X9_runPicks {l : Launch} {G : Gl} {S : Sh} {D : Dy} {mdl : Nat → Option (Nat × Nat)} (hF : FX S mdl) {t : Nat} (hT : FT S t)  {post : Dy → Prop} (E : fX9_runPicks t D post) : Ct l G yX9_runPicks cX9_runPicks 4 none 4 0 0 S D [.ref (G.1 + t), .ref (G.1 + 1)] (PV S post) := by
  refine z_enter (lv0 := [(0, .ref (G.1 + t)), (1, .ref (G.1 + 1))]) pl_9 (Nat.le_of_ble_eq_true rfl) rfl ?_
  intro p e s m args below meth c hC hnm
  unfold fX9_runPicks at E
  refine z_iconst (v := 0) hC dX9_runPicks_0 rfl ?_
  refine z_istore_n (lv' := [(2, .int (0 : Int32)), (0, .ref (G.1 + t)), (1, .ref (G.1 + 1))]) hC dX9_runPicks_1 rfl (Nat.le_of_ble_eq_true rfl) rfl ?_
  refine z_iconst (v := 0) hC dX9_runPicks_2 rfl ?_
  refine z_istore_n (lv' := [(3, .int (0 : Int32)), (2, .int (0 : Int32)), (0, .ref (G.1 + t)), (1, .ref (G.1 + 1))]) hC dX9_runPicks_3 rfl (Nat.le_of_ble_eq_true rfl) rfl ?_
  refine z_sub [2, 3, 1, 0] rfl ?_
  refine LP3_use (fun (v1 : Int32) (v2 : Int32) (D3 : Dy) => ZM l G p e s m args below meth c 4 4 S (PV S post) S D3 4 [(0, .ref (G.1 + t)), (1, .ref (G.1 + 1)), (2, .int v1), (3, .int v2)] []) ?_ FU (0 : Int32) (0 : Int32) D E
  intro rec4 hrec5 v1 v2 D3 E
  refine z_iload_n hC dX9_runPicks_4 rfl 3 rfl ?_
  refine z_aload_n hC dX9_runPicks_5 rfl 0 rfl ?_
  refine z_get hC lf_X9_123_9 (kT_0 hT) dX9_runPicks_6 (fV_int rfl) ?_
  refine z_icmp_ge (tgt := 43) hC dX9_runPicks_9 (by decide) (fun c6 => ?_) (fun c6 => ?_)
  · replace E := E.1 c6
    exact z_vret hC dX9_runPicks_43 (Nat.le_refl _) (Nat.le_refl _) ⟨rfl, rfl, E⟩
  · replace E := E.2 c6
    refine z_aload_n hC dX9_runPicks_12 rfl 0 rfl ?_
    refine z_get hC lf_X9_31_9 (kT_0 hT) dX9_runPicks_13 (fV_ref rfl (rT_14 hT)) ?_
    refine z_iload_n hC dX9_runPicks_16 rfl 3 rfl ?_
    refine z_aload_n hC dX9_runPicks_17 rfl 0 rfl ?_
    refine z_aload_n hC dX9_runPicks_18 rfl 1 rfl ?_
    refine z_iload_n hC dX9_runPicks_19 rfl 2 rfl ?_
    refine z_aload_n hC dX9_runPicks_20 rfl 0 rfl ?_
    refine z_get hC lf_X9_28_9 (kT_0 hT) dX9_runPicks_21 (fV_ref rfl (rT_13 hT)) ?_
    refine z_iload_n hC dX9_runPicks_24 rfl 3 rfl ?_
    refine z_iald hC (kT_5 hT) (nT_5 hT) E.1 dX9_runPicks_25 ?_
    replace E := E.2
    refine z_callV (ci := 9) (rest := [.int v2, .ref (G.1 + (t + 6))]) hC (ck_mk lk_X9_151 in_X9_holdingFor cd_X9_holdingFor ds_X9_holdingFor (Nat.le_of_ble_eq_true rfl) (Nat.le_of_ble_eq_true rfl)) iy_X9_holdingFor sy_X9_holdingFor cf_9 (by decide) (kT_0 hT) (ct_X9_holdingFor hF hT E) rfl rfl (Nat.le_of_ble_eq_true rfl) ⟨Nat.le_refl _, Nat.le_refl _⟩ dX9_runPicks_26 ?_
    rintro _ _ D12 ⟨v7, rfl, rfl, E⟩
    refine z_iast hC (kT_6 hT) (nT_6 hT) E.1 dX9_runPicks_29 ?_
    replace E := E.2
    refine z_topD (fun D13 h14 => ?_)
    replace E := E D13 h14
    refine z_aload_n hC dX9_runPicks_30 rfl 0 rfl ?_
    refine z_get hC lf_X9_28_9 (kT_0 hT) dX9_runPicks_31 (fV_ref rfl (rT_13 hT)) ?_
    refine z_iload_n hC dX9_runPicks_34 rfl 3 rfl ?_
    refine z_iald hC (kT_5 hT) (nT_5 hT) E.1 dX9_runPicks_35 ?_
    replace E := E.2
    refine z_topi (fun v15 h16 => ?_)
    replace E := E v15 h16
    refine z_istore_n (lv' := [(2, .int v15), (0, .ref (G.1 + t)), (1, .ref (G.1 + 1)), (3, .int v2)]) hC dX9_runPicks_36 rfl (Nat.le_of_ble_eq_true rfl) rfl ?_
    obtain ⟨v17, h18⟩ : ∃ y : Int32, y = v2 + 1 := ⟨_, rfl⟩
    replace E := E v17 h18
    refine z_iinc (q := 3) (v := v17) (lv' := [(3, .int v17), (2, .int v15), (0, .ref (G.1 + t)), (1, .ref (G.1 + 1))]) hC dX9_runPicks_37 rfl (by rw [h18]; rfl) (Nat.le_of_ble_eq_true rfl) rfl ?_
    refine z_goto (tgt := 4) hC dX9_runPicks_40 (by decide) ?_
    refine z_sub [2, 3, 1, 0] rfl ?_
    exact hrec5 v15 v17 D13 E
def fX8_prepare (t : Nat) (D : Dy) (post : Dy → Prop) : Prop :=
  (fX4_prepare t 5 D (fun (D6 : Dy) => (fX9_runPicks t D6 (fun (D12 : Dy) => post D12))))
set_option maxHeartbeats 4000000 in
set_option maxRecDepth 100000 in
theorem ct_X8_prepare {l : Launch} {G : Gl} {S : Sh} {D : Dy} {mdl : Nat → Option (Nat × Nat)} (hF : FX S mdl) {t : Nat} (hM : FMo S t 5)  {post : Dy → Prop} (E : fX8_prepare t D post) : Ct l G yX8_prepare cX8_prepare 2 none 5 0 0 S D [.ref (G.1 + (t + 9)), .ref (G.1 + 1)] (PV S post) := by
  refine z_enter (lv0 := [(0, .ref (G.1 + (t + 9))), (1, .ref (G.1 + 1))]) pl_8 (Nat.le_of_ble_eq_true rfl) rfl ?_
  intro p e s m args below meth c hC hnm
  unfold fX8_prepare at E
  have hT := hM.ft
  refine z_aload_n hC dX8_prepare_0 rfl 0 rfl ?_
  refine z_aload_n hC dX8_prepare_1 rfl 1 rfl ?_
  obtain ⟨C, T, hci, hc13⟩ := cfm hM.kd
  refine z_callSU (rest := []) hC lk_X8_7 sms_X4_prepare sup_X8_X4_prepare iy_X4_prepare in_X4_prepare cd_X4_prepare (by decide) dn_X4_prepare ⟨Nat.le_of_ble_eq_true rfl, Nat.le_of_ble_eq_true rfl⟩ hci hc13 (kO hM) (ct_X4_prepare hF hM E) rfl rfl (Nat.le_of_ble_eq_true rfl) ⟨Nat.le_refl _, Nat.le_refl _⟩ dX8_prepare_2 ?_
  rintro _ _ D6 ⟨rfl, rfl, E⟩
  refine z_aload_n hC dX8_prepare_5 rfl 0 rfl ?_
  refine z_get hC (lfm_X8_11 hM.kd) (kO hM) dX8_prepare_6 (fVm_2 hM) ?_
  refine z_aload_n hC dX8_prepare_9 rfl 1 rfl ?_
  refine z_callV (ci := 9) (rest := []) hC (ck_mk lk_X8_17 in_X9_runPicks cd_X9_runPicks ds_X9_runPicks (Nat.le_of_ble_eq_true rfl) (Nat.le_of_ble_eq_true rfl)) iy_X9_runPicks sy_X9_runPicks cf_9 (by decide) (kT_0 hT) (ct_X9_runPicks hF hT E) rfl rfl (Nat.le_of_ble_eq_true rfl) ⟨Nat.le_refl _, Nat.le_refl _⟩ dX8_prepare_10 ?_
  rintro _ _ D12 ⟨rfl, rfl, E⟩
  exact z_vret hC dX8_prepare_13 (Nat.le_refl _) (Nat.le_refl _) ⟨rfl, rfl, E⟩
def fX9_pickFrom (t : Nat) (a2 : Int32) (D : Dy) (post : Int32 → Prop) : Prop :=
  (LP1 (fun (rec2 : Int32 → Prop) (v1 : Int32) => (((D.1 t 15) ≤ v1 → post (7 : Int32)) ∧ (¬ (D.1 t 15) ≤ v1 → (vp_in v1 10 ∧ ((((D.1 (t + 6) (v1).toNatClampNeg) &&& a2) = 0 → (∀ v6 : Int32, v6 = v1 + 1 → (rec2 v6))) ∧ (¬ ((D.1 (t + 6) (v1).toNatClampNeg) &&& a2) = 0 → (vp_in v1 10 ∧ (fX1_cheapestOf ((D.1 (t + 6) (v1).toNatClampNeg) &&& a2) D (fun (v8 : Int32) => post v8))))))))) FU (0 : Int32))
set_option maxHeartbeats 4000000 in
set_option maxRecDepth 100000 in
theorem ct_X9_pickFrom {l : Launch} {G : Gl} {S : Sh} {D : Dy} {mdl : Nat → Option (Nat × Nat)} (hF : FX S mdl) {t : Nat} (hT : FT S t) {a2 : Int32} {post : Int32 → Prop} (E : fX9_pickFrom t a2 D post) : Ct l G yX9_pickFrom cX9_pickFrom 4 (some .int) 2 0 0 S D [.ref (G.1 + t), .ref (G.1 + 1), .int a2] (PIr S D post) := by
  refine z_enter (lv0 := [(0, .ref (G.1 + t)), (1, .ref (G.1 + 1)), (2, .int a2)]) pl_9 (Nat.le_of_ble_eq_true rfl) rfl ?_
  intro p e s m args below meth c hC hnm
  unfold fX9_pickFrom at E
  refine z_iconst (v := 0) hC dX9_pickFrom_0 rfl ?_
  refine z_istore_n (lv' := [(3, .int (0 : Int32)), (0, .ref (G.1 + t)), (1, .ref (G.1 + 1)), (2, .int a2)]) hC dX9_pickFrom_1 rfl (Nat.le_of_ble_eq_true rfl) rfl ?_
  refine z_sub [1, 2, 3, 0] rfl ?_
  refine LP1_use (fun (v1 : Int32) => ZM l G p e s m args below meth c 4 2 S (PIr S D post) S D 2 [(0, .ref (G.1 + t)), (1, .ref (G.1 + 1)), (2, .int a2), (3, .int v1)] []) ?_ FU (0 : Int32) E
  intro rec2 hrec3 v1 E
  refine z_iload_n hC dX9_pickFrom_2 rfl 3 rfl ?_
  refine z_aload_n hC dX9_pickFrom_3 rfl 0 rfl ?_
  refine z_get hC lf_X9_123_9 (kT_0 hT) dX9_pickFrom_4 (fV_int rfl) ?_
  refine z_icmp_ge (tgt := 40) hC dX9_pickFrom_7 (by decide) (fun c4 => ?_) (fun c4 => ?_)
  · replace E := E.1 c4
    refine z_bipush (v := 7) hC dX9_pickFrom_40 rfl ?_
    exact z_iret hC dX9_pickFrom_42 (Nat.le_refl _) (Nat.le_refl _) ⟨_, rfl, rfl, rfl, E⟩
  · replace E := E.2 c4
    refine z_aload_n hC dX9_pickFrom_10 rfl 0 rfl ?_
    refine z_get hC lf_X9_31_9 (kT_0 hT) dX9_pickFrom_11 (fV_ref rfl (rT_14 hT)) ?_
    refine z_iload_n hC dX9_pickFrom_14 rfl 3 rfl ?_
    refine z_iald hC (kT_6 hT) (nT_6 hT) E.1 dX9_pickFrom_15 ?_
    replace E := E.2
    refine z_iload_n hC dX9_pickFrom_16 rfl 2 rfl ?_
    refine z_iand hC dX9_pickFrom_17 ?_
    refine z_if_eq (tgt := 34) hC dX9_pickFrom_18 (by decide) (fun c5 => ?_) (fun c5 => ?_)
    · replace E := E.1 c5
      obtain ⟨v6, h7⟩ : ∃ y : Int32, y = v1 + 1 := ⟨_, rfl⟩
      replace E := E v6 h7
      refine z_iinc (q := 3) (v := v6) (lv' := [(3, .int v6), (0, .ref (G.1 + t)), (1, .ref (G.1 + 1)), (2, .int a2)]) hC dX9_pickFrom_34 rfl (by rw [h7]; rfl) (Nat.le_of_ble_eq_true rfl) rfl ?_
      refine z_goto (tgt := 2) hC dX9_pickFrom_37 (by decide) ?_
      refine z_sub [1, 2, 3, 0] rfl ?_
      exact hrec3 v6 E
    · replace E := E.2 c5
      refine z_aload_n hC dX9_pickFrom_21 rfl 1 rfl ?_
      refine z_aload_n hC dX9_pickFrom_22 rfl 0 rfl ?_
      refine z_get hC lf_X9_31_9 (kT_0 hT) dX9_pickFrom_23 (fV_ref rfl (rT_14 hT)) ?_
      refine z_iload_n hC dX9_pickFrom_26 rfl 3 rfl ?_
      refine z_iald hC (kT_6 hT) (nT_6 hT) E.1 dX9_pickFrom_27 ?_
      replace E := E.2
      refine z_iload_n hC dX9_pickFrom_28 rfl 2 rfl ?_
      refine z_iand hC dX9_pickFrom_29 ?_
      refine z_callV (ci := 1) (rest := []) hC (ck_mk lk_X9_155 in_X1_cheapestOf cd_X1_cheapestOf ds_X1_cheapestOf (Nat.le_of_ble_eq_true rfl) (Nat.le_of_ble_eq_true rfl)) iy_X1_cheapestOf sy_X1_cheapestOf cf_1 (by decide) (kX_1 hF) (ct_X1_cheapestOf hF E) rfl rfl (Nat.le_of_ble_eq_true rfl) ⟨Nat.le_refl _, Nat.le_refl _⟩ dX9_pickFrom_30 ?_
      rintro _ _ _ ⟨v8, rfl, rfl, rfl, E⟩
      exact z_iret hC dX9_pickFrom_33 (Nat.le_refl _) (Nat.le_refl _) ⟨_, rfl, rfl, rfl, E⟩
theorem cu_X8_22_5 : CU RX8 RX4 ⟨"WhyChosen$Rule", "clearShares", "()V"⟩ yX4_clearShares := ⟨tw_724, tw_725, iy_X4_clearShares, iy_X4_clearShares, ⟨_, _, _, cd_X4_clearShares⟩, by decide +kernel, by decide +kernel⟩
theorem lk_X8_22 : Cond.methodLink RX8 22 ⟨"WhyChosen$Rule", "clearShares", "()V"⟩ ∈ TB := tw_723
section ZVV
variable {p : Program} {l : Launch} {e : Env} {R : Room} {s : State} {m : MethodId} {args : Array Value} {below : List Frame} {meth : Method} {c : Code} {nL : Nat} {k n : Nat} {Q : State → Prop} {pc : Nat} {lv : List (Nat × Value)} {st : List Value}
variable {G : Gl} {cc : ByteArray} {own : String} {ret : Option FieldType} {A : Nat → Prop} {S S' S0 : Sh} {D D' : Dy} {a N : Nat} {Wp : Heap → List Loc → Prop}

set_option maxRecDepth 100000 in
theorem zv_X8_22 (hC : CX G cc RX8 nL ret p s m args meth c) {mdl : Nat → Option (Nat × Nat)} (hF : FX S mdl) {t : Nat} (hM : FMo S t 5)  {post : Dy → Prop} (E : v_clearShares t 5 D post) {rest : List Value} (hstk : st = List.reverse [] ++ .ref (G.1 + (t + 9)) :: rest) (hrm : (rest.map fun v => v.category).sum ≤ 8) (hR : 0 + 1 ≤ R.frames ∧ 8 + (2 + 11) + 60 * 0 ≤ R.locals) (hkn : k + 0 ≤ R.cells ∧ n + 0 ≤ R.slots) (hd : decode cc pc = .ok (.invokevirtual 22, 3)) (kz : ∀ v S1 D1, (PV S post) v S1 D1 → Z p l e R s m args below meth c nL (WM G s A S1 D1) (k + 0) (n + 0) Q (pc + 3) lv (v.toList ++ rest)) : Z p l e R s m args below meth c nL (WM G s A S D) k n Q pc lv st := by
  exact z_callU (ci := 8) (C := RX8) (owner := RX4) (x := ⟨"WhyChosen$Rule", "clearShares", "()V"⟩) (av := []) hC lk_X8_22 in_X4_clearShares cd_X4_clearShares dn_X4_clearShares (by omega) cu_X8_22_5 cf_8 (by decide) (kO hM) (ct_X4_clearShares hF hM (E.2.2.2.2.2 rfl)) rfl hstk hrm hkn hd kz
end ZVV
def fX8_share (t : Nat) (a2 : Int32) (a3 : Int32) (D : Dy) (post : Dy → Prop) : Prop :=
  (v_clearShares t 5 D (fun (D6 : Dy) => (fX9_pickFrom t a2 D6 (fun (v7 : Int32) => (vp_in v7 8 ∧ (∀ D12 : Dy, D12 = sL D6 (t + 11) (v7).toNatClampNeg (1 : Int64) → post D12))))))
set_option maxHeartbeats 4000000 in
set_option maxRecDepth 100000 in
theorem ct_X8_share {l : Launch} {G : Gl} {S : Sh} {D : Dy} {mdl : Nat → Option (Nat × Nat)} (hF : FX S mdl) {t : Nat} (hM : FMo S t 5) {a2 : Int32} {a3 : Int32} {post : Dy → Prop} (E : fX8_share t a2 a3 D post) : Ct l G yX8_share cX8_share 4 none 3 0 0 S D [.ref (G.1 + (t + 9)), .ref (G.1 + 1), .int a2, .int a3] (PV S post) := by
  refine z_enter (lv0 := [(0, .ref (G.1 + (t + 9))), (1, .ref (G.1 + 1)), (2, .int a2), (3, .int a3)]) pl_8 (Nat.le_of_ble_eq_true rfl) rfl ?_
  intro p e s m args below meth c hC hnm
  unfold fX8_share at E
  have hT := hM.ft
  refine z_aload_n hC dX8_share_0 rfl 0 rfl ?_
  refine zv_X8_22 (rest := []) hC hF hM E rfl (Nat.le_of_ble_eq_true rfl) ⟨Nat.le_of_ble_eq_true rfl, Nat.le_of_ble_eq_true rfl⟩ ⟨Nat.le_refl _, Nat.le_refl _⟩ dX8_share_1 ?_
  rintro _ _ D6 ⟨rfl, rfl, E⟩
  refine z_aload_n hC dX8_share_4 rfl 0 rfl ?_
  refine z_get hC (lfm_X8_26 hM.kd) (kO hM) dX8_share_5 (fVm_4 hM) ?_
  refine z_aload_n hC dX8_share_8 rfl 0 rfl ?_
  refine z_get hC (lfm_X8_11 hM.kd) (kO hM) dX8_share_9 (fVm_2 hM) ?_
  refine z_aload_n hC dX8_share_12 rfl 1 rfl ?_
  refine z_iload_n hC dX8_share_13 rfl 2 rfl ?_
  refine z_callV (ci := 9) (rest := [.ref (G.1 + (t + 11))]) hC (ck_mk lk_X8_30 in_X9_pickFrom cd_X9_pickFrom ds_X9_pickFrom (Nat.le_of_ble_eq_true rfl) (Nat.le_of_ble_eq_true rfl)) iy_X9_pickFrom sy_X9_pickFrom cf_9 (by decide) (kT_0 hT) (ct_X9_pickFrom hF hT E) rfl rfl (Nat.le_of_ble_eq_true rfl) ⟨Nat.le_refl _, Nat.le_refl _⟩ dX8_share_14 ?_
  rintro _ _ _ ⟨v7, rfl, rfl, rfl, E⟩
  refine z_lconst (v := 1) hC dX8_share_17 rfl ?_
  refine z_last hC (kO_11 hM) (nO_11 hM) E.1 dX8_share_18 ?_
  replace E := E.2
  refine z_topD (fun D12 h13 => ?_)
  replace E := E D12 h13
  exact z_vret hC dX8_share_19 (Nat.le_refl _) (Nat.le_refl _) ⟨rfl, rfl, E⟩
theorem cu_X8_48_5 : CU RX8 RX4 ⟨"WhyChosen$Rule", "oddsBody", "(ILWhyChosen$Trace;)I"⟩ yX4_oddsBody := ⟨tw_1020, tw_1022, iy_X4_oddsBody, iy_X4_oddsBody, ⟨_, _, _, cd_X4_oddsBody⟩, by decide +kernel, by decide +kernel⟩
theorem lk_X8_48 : Cond.methodLink RX8 48 ⟨"WhyChosen$Rule", "oddsBody", "(ILWhyChosen$Trace;)I"⟩ ∈ TB := tw_1019
section ZVV
variable {p : Program} {l : Launch} {e : Env} {R : Room} {s : State} {m : MethodId} {args : Array Value} {below : List Frame} {meth : Method} {c : Code} {nL : Nat} {k n : Nat} {Q : State → Prop} {pc : Nat} {lv : List (Nat × Value)} {st : List Value}
variable {G : Gl} {cc : ByteArray} {own : String} {ret : Option FieldType} {A : Nat → Prop} {S S' S0 : Sh} {D D' : Dy} {a N : Nat} {Wp : Heap → List Loc → Prop}

set_option maxRecDepth 100000 in
theorem zv_X8_48 (hC : CX G cc RX8 nL ret p s m args meth c) {mdl : Nat → Option (Nat × Nat)} (hF : FX S mdl) {t : Nat} (hM : FMo S t 5) {a1 : Int32} {post : Int32 → Dy → Prop} (E : v_oddsBody t 5 a1 D post) {rest : List Value} (hstk : st = List.reverse [.int a1, .ref (G.1 + 22)] ++ .ref (G.1 + (t + 9)) :: rest) (hrm : (rest.map fun v => v.category).sum ≤ 8) (hR : 3 + 1 ≤ R.frames ∧ 8 + (3 + 11) + 60 * 3 ≤ R.locals) (hkn : k + 0 ≤ R.cells ∧ n + 0 ≤ R.slots) (hd : decode cc pc = .ok (.invokevirtual 48, 3)) (kz : ∀ v S1 D1, (PI S post) v S1 D1 → Z p l e R s m args below meth c nL (WM G s A S1 D1) (k + 0) (n + 0) Q (pc + 3) lv (v.toList ++ rest)) : Z p l e R s m args below meth c nL (WM G s A S D) k n Q pc lv st := by
  exact z_callU (ci := 8) (C := RX8) (owner := RX4) (x := ⟨"WhyChosen$Rule", "oddsBody", "(ILWhyChosen$Trace;)I"⟩) (av := [.int a1, .ref (G.1 + 22)]) hC lk_X8_48 in_X4_oddsBody cd_X4_oddsBody dn_X4_oddsBody (by omega) cu_X8_48_5 cf_8 (by decide) (kO hM) (ct_X4_oddsBody hF hM (E.2.2.2.2.2 rfl)) rfl hstk hrm hkn hd kz
end ZVV
def fX8_tellsBody (t : Nat) (a1 : Int32) (D : Dy) (post : Int32 → Dy → Prop) : Prop :=
  (fX10_note (61 : Int32) D (fun (D6 : Dy) => (v_oddsBody t 5 a1 D6 (fun (v7 : Int32) (D12 : Dy) => (fX4_tellsBody t 5 a1 D12 (fun (v13 : Int32) (D18 : Dy) => post (v7 - v13) D18))))))
set_option maxHeartbeats 4000000 in
set_option maxRecDepth 100000 in
theorem ct_X8_tellsBody {l : Launch} {G : Gl} {S : Sh} {D : Dy} {mdl : Nat → Option (Nat × Nat)} (hF : FX S mdl) {t : Nat} (hM : FMo S t 5) {a1 : Int32} {post : Int32 → Dy → Prop} (E : fX8_tellsBody t a1 D post) : Ct l G yX8_tellsBody cX8_tellsBody 3 (some .int) 7 0 0 S D [.ref (G.1 + (t + 9)), .int a1, .ref (G.1 + 22)] (PI S post) := by
  refine z_enter (lv0 := [(0, .ref (G.1 + (t + 9))), (1, .int a1), (2, .ref (G.1 + 22))]) pl_8 (Nat.le_of_ble_eq_true rfl) rfl ?_
  intro p e s m args below meth c hC hnm
  unfold fX8_tellsBody at E
  have hT := hM.ft
  refine z_aload_n hC dX8_tellsBody_0 rfl 2 rfl ?_
  refine z_bipush (v := 61) hC dX8_tellsBody_1 rfl ?_
  refine z_callV (ci := 10) (rest := []) hC (ck_mk lk_X8_34 in_X10_note cd_X10_note ds_X10_note (Nat.le_of_ble_eq_true rfl) (Nat.le_of_ble_eq_true rfl)) iy_X10_note sy_X10_note cf_10 (by decide) (kX_22 hF) (ct_X10_note hF E) rfl rfl (Nat.le_of_ble_eq_true rfl) ⟨Nat.le_refl _, Nat.le_refl _⟩ dX8_tellsBody_3 ?_
  rintro _ _ D6 ⟨rfl, rfl, E⟩
  refine z_aload_n hC dX8_tellsBody_6 rfl 0 rfl ?_
  refine z_iload_n hC dX8_tellsBody_7 rfl 1 rfl ?_
  refine z_aload_n hC dX8_tellsBody_8 rfl 2 rfl ?_
  refine zv_X8_48 (rest := []) hC hF hM E rfl (Nat.le_of_ble_eq_true rfl) ⟨Nat.le_of_ble_eq_true rfl, Nat.le_of_ble_eq_true rfl⟩ ⟨Nat.le_refl _, Nat.le_refl _⟩ dX8_tellsBody_9 ?_
  rintro _ _ D12 ⟨v7, rfl, rfl, E⟩
  refine z_aload_n hC dX8_tellsBody_12 rfl 0 rfl ?_
  refine z_iload_n hC dX8_tellsBody_13 rfl 1 rfl ?_
  refine z_aload_n hC dX8_tellsBody_14 rfl 2 rfl ?_
  obtain ⟨C, T, hci, hc13⟩ := cfm hM.kd
  refine z_callSU (rest := [.int v7]) hC lk_X8_51 sms_X4_tellsBody sup_X8_X4_tellsBody iy_X4_tellsBody in_X4_tellsBody cd_X4_tellsBody (by decide) dn_X4_tellsBody ⟨Nat.le_of_ble_eq_true rfl, Nat.le_of_ble_eq_true rfl⟩ hci hc13 (kO hM) (ct_X4_tellsBody hF hM E) rfl rfl (Nat.le_of_ble_eq_true rfl) ⟨Nat.le_refl _, Nat.le_refl _⟩ dX8_tellsBody_15 ?_
  rintro _ _ D18 ⟨v13, rfl, rfl, E⟩
  refine z_isub hC dX8_tellsBody_18 ?_
  exact z_iret hC dX8_tellsBody_19 (Nat.le_refl _) (Nat.le_refl _) ⟨_, rfl, rfl, E⟩
def fX9_countAlike (t : Nat) (sx : Nat) (D : Dy) (post : Int32 → Prop) : Prop :=
  (LP1 (fun (rec2 : Int32 → Prop) (v1 : Int32) => (((Int32.ofNat (wLen.getD sx 0)) ≤ v1 → post v1) ∧ (¬ (Int32.ofNat (wLen.getD sx 0)) ≤ v1 → ((((D.1 t 1) - (D.1 t 2)) ≤ v1 → post v1) ∧ (¬ ((D.1 t 1) - (D.1 t 2)) ≤ v1 → (vp_in v1 (wLen.getD sx 0) ∧ (vp_in ((D.1 t 2) + v1) 120 ∧ ((¬ ((wByt.getD sx []).getD (v1).toNatClampNeg 0) = (D.1 12 (((D.1 t 2) + v1)).toNatClampNeg) → post v1) ∧ (((wByt.getD sx []).getD (v1).toNatClampNeg 0) = (D.1 12 (((D.1 t 2) + v1)).toNatClampNeg) → (∀ v7 : Int32, v7 = v1 + 1 → (rec2 v7))))))))))) FU (0 : Int32))
set_option maxHeartbeats 4000000 in
set_option maxRecDepth 100000 in
theorem ct_X9_countAlike {l : Launch} {G : Gl} {S : Sh} {D : Dy} {mdl : Nat → Option (Nat × Nat)} (hF : FX S mdl) {t : Nat} (hT : FT S t) {sx : Nat} (hsx : sx < 7)  {post : Int32 → Prop} (E : fX9_countAlike t sx D post) : Ct l G yX9_countAlike cX9_countAlike 3 (some .int) 4 0 0 S D [.ref (G.1 + t), .ref (G.2.2.2.1 sx)] (PIr S D post) := by
  refine z_enter (lv0 := [(0, .ref (G.1 + t)), (1, .ref (G.2.2.2.1 sx))]) pl_9 (Nat.le_of_ble_eq_true rfl) rfl ?_
  intro p e s m args below meth c hC hnm
  unfold fX9_countAlike at E
  refine z_iconst (v := 0) hC dX9_countAlike_0 rfl ?_
  refine z_istore_n (lv' := [(2, .int (0 : Int32)), (0, .ref (G.1 + t)), (1, .ref (G.2.2.2.1 sx))]) hC dX9_countAlike_1 rfl (Nat.le_of_ble_eq_true rfl) rfl ?_
  refine z_sub [1, 2, 0] rfl ?_
  refine LP1_use (fun (v1 : Int32) => ZM l G p e s m args below meth c 3 4 S (PIr S D post) S D 2 [(0, .ref (G.1 + t)), (1, .ref (G.2.2.2.1 sx)), (2, .int v1)] []) ?_ FU (0 : Int32) E
  intro rec2 hrec3 v1 E
  refine z_iload_n hC dX9_countAlike_2 rfl 2 rfl ?_
  refine z_aload_n hC dX9_countAlike_3 rfl 1 rfl ?_
  refine z_slen hC hsx lk_X9_115 ⟨Nat.le_of_ble_eq_true rfl, Nat.le_of_ble_eq_true rfl⟩ ⟨Nat.zero_le _, Nat.zero_le _⟩ (Nat.le_of_ble_eq_true rfl) dX9_countAlike_4 ?_
  refine z_icmp_ge (tgt := 48) hC dX9_countAlike_7 (by decide) (fun c4 => ?_) (fun c4 => ?_)
  · replace E := E.1 c4
    refine z_iload_n hC dX9_countAlike_48 rfl 2 rfl ?_
    exact z_iret hC dX9_countAlike_49 (Nat.le_refl _) (Nat.le_refl _) ⟨_, rfl, rfl, rfl, E⟩
  · replace E := E.2 c4
    refine z_iload_n hC dX9_countAlike_10 rfl 2 rfl ?_
    refine z_aload_n hC dX9_countAlike_11 rfl 0 rfl ?_
    refine z_get hC lf_X9_40_9 (kT_0 hT) dX9_countAlike_12 (fV_int rfl) ?_
    refine z_aload_n hC dX9_countAlike_15 rfl 0 rfl ?_
    refine z_get hC lf_X9_53_9 (kT_0 hT) dX9_countAlike_16 (fV_int rfl) ?_
    refine z_isub hC dX9_countAlike_19 ?_
    refine z_icmp_ge (tgt := 48) hC dX9_countAlike_20 (by decide) (fun c5 => ?_) (fun c5 => ?_)
    · replace E := E.1 c5
      refine z_iload_n hC dX9_countAlike_48 rfl 2 rfl ?_
      exact z_iret hC dX9_countAlike_49 (Nat.le_refl _) (Nat.le_refl _) ⟨_, rfl, rfl, rfl, E⟩
    · replace E := E.2 c5
      refine z_aload_n hC dX9_countAlike_23 rfl 1 rfl ?_
      refine z_iload_n hC dX9_countAlike_24 rfl 2 rfl ?_
      refine z_schar hC hsx E.1 lk_X9_119 ⟨Nat.le_of_ble_eq_true rfl, Nat.le_of_ble_eq_true rfl⟩ ⟨Nat.zero_le _, Nat.zero_le _⟩ (Nat.le_of_ble_eq_true rfl) dX9_countAlike_25 ?_
      replace E := E.2
      refine z_aload_n hC dX9_countAlike_28 rfl 0 rfl ?_
      refine z_get hC lf_X9_37_9 (kT_0 hT) dX9_countAlike_29 (fV_ref rfl (rT_0 hT)) ?_
      refine z_aload_n hC dX9_countAlike_32 rfl 0 rfl ?_
      refine z_get hC lf_X9_53_9 (kT_0 hT) dX9_countAlike_33 (fV_int rfl) ?_
      refine z_iload_n hC dX9_countAlike_36 rfl 2 rfl ?_
      refine z_iadd hC dX9_countAlike_37 ?_
      refine z_iald hC (kX_12 hF) (nX_12 hF) E.1 dX9_countAlike_38 ?_
      replace E := E.2
      refine z_icmp_ne (tgt := 48) hC dX9_countAlike_39 (by decide) (fun c6 => ?_) (fun c6 => ?_)
      · replace E := E.1 c6
        refine z_iload_n hC dX9_countAlike_48 rfl 2 rfl ?_
        exact z_iret hC dX9_countAlike_49 (Nat.le_refl _) (Nat.le_refl _) ⟨_, rfl, rfl, rfl, E⟩
      · replace E := E.2 c6
        obtain ⟨v7, h8⟩ : ∃ y : Int32, y = v1 + 1 := ⟨_, rfl⟩
        replace E := E v7 h8
        refine z_iinc (q := 2) (v := v7) (lv' := [(2, .int v7), (0, .ref (G.1 + t)), (1, .ref (G.2.2.2.1 sx))]) hC dX9_countAlike_42 rfl (by rw [h8]; rfl) (Nat.le_of_ble_eq_true rfl) rfl ?_
        refine z_goto (tgt := 2) hC dX9_countAlike_45 (by decide) ?_
        refine z_sub [1, 2, 0] rfl ?_
        exact hrec3 v7 E
def fX9_emit (t : Nat) (a1 : Int32) (a2 : Int32) (D : Dy) (post : Dy → Prop) : Prop :=
  (((Int32.ofNat 120) ≤ (D.1 t 12) → post D) ∧ (¬ (Int32.ofNat 120) ≤ (D.1 t 12) → (vp_in (D.1 t 12) 120 ∧ (∀ D2 : Dy, D2 = sI D (t + 8) ((D.1 t 12)).toNatClampNeg ((a2 <<< ((4 : Int32) &&& 31)) ||| a1) → (∀ D4 : Dy, D4 = sI D2 t 12 ((D2.1 t 12) + (1 : Int32)) → post D4)))))
set_option maxHeartbeats 4000000 in
set_option maxRecDepth 100000 in
theorem ct_X9_emit {l : Launch} {G : Gl} {S : Sh} {D : Dy} {mdl : Nat → Option (Nat × Nat)} (hF : FX S mdl) {t : Nat} (hT : FT S t) {a1 : Int32} {a2 : Int32} {post : Dy → Prop} (E : fX9_emit t a1 a2 D post) : Ct l G yX9_emit cX9_emit 3 none 0 0 0 S D [.ref (G.1 + t), .int a1, .int a2] (PV S post) := by
  refine z_enter (lv0 := [(0, .ref (G.1 + t)), (1, .int a1), (2, .int a2)]) pl_9 (Nat.le_of_ble_eq_true rfl) rfl ?_
  intro p e s m args below meth c hC hnm
  unfold fX9_emit at E
  refine z_aload_n hC dX9_emit_0 rfl 0 rfl ?_
  refine z_get hC lf_X9_126_9 (kT_0 hT) dX9_emit_1 (fV_int rfl) ?_
  refine z_aload_n hC dX9_emit_4 rfl 0 rfl ?_
  refine z_get hC lf_X9_43_9 (kT_0 hT) dX9_emit_5 (fV_ref rfl (rT_11 hT)) ?_
  refine z_alen hC (kT_8 hT) (nT_8 hT) dX9_emit_8 ?_
  refine z_icmp_ge (tgt := 36) hC dX9_emit_9 (by decide) (fun c1 => ?_) (fun c1 => ?_)
  · replace E := E.1 c1
    exact z_vret hC dX9_emit_36 (Nat.le_refl _) (Nat.le_refl _) ⟨rfl, rfl, E⟩
  · replace E := E.2 c1
    refine z_aload_n hC dX9_emit_12 rfl 0 rfl ?_
    refine z_get hC lf_X9_43_9 (kT_0 hT) dX9_emit_13 (fV_ref rfl (rT_11 hT)) ?_
    refine z_aload_n hC dX9_emit_16 rfl 0 rfl ?_
    refine z_get hC lf_X9_126_9 (kT_0 hT) dX9_emit_17 (fV_int rfl) ?_
    refine z_iload_n hC dX9_emit_20 rfl 2 rfl ?_
    refine z_iconst (v := 4) hC dX9_emit_21 rfl ?_
    refine z_ishl hC dX9_emit_22 ?_
    refine z_iload_n hC dX9_emit_23 rfl 1 rfl ?_
    refine z_ior hC dX9_emit_24 ?_
    refine z_iast hC (kT_8 hT) (nT_8 hT) E.1 dX9_emit_25 ?_
    replace E := E.2
    refine z_topD (fun D2 h3 => ?_)
    replace E := E D2 h3
    refine z_aload_n hC dX9_emit_26 rfl 0 rfl ?_
    refine z_dup hC dX9_emit_27 rfl ?_
    refine z_get hC lf_X9_126_9 (kT_0 hT) dX9_emit_28 (fV_int rfl) ?_
    refine z_iconst (v := 1) hC dX9_emit_31 rfl ?_
    refine z_iadd hC dX9_emit_32 ?_
    refine z_puti hC lf_X9_126_9 rfl (kT_0 hT) dX9_emit_33 ?_
    refine z_topD (fun D4 h5 => ?_)
    replace E := E D4 h5
    exact z_vret hC dX9_emit_36 (Nat.le_refl _) (Nat.le_refl _) ⟨rfl, rfl, E⟩
def fX9_endPick (t : Nat) (D : Dy) (post : Int32 → Dy → Prop) : Prop :=
  (((D.1 t 15) < (Int32.ofNat 10) → (vp_in (D.1 t 15) 10 ∧ (∀ D2 : Dy, D2 = sI D (t + 5) ((D.1 t 15)).toNatClampNeg (D.1 t 12) → (∀ D4 : Dy, D4 = sI D2 t 15 ((D2.1 t 15) + (1 : Int32)) → post (1 : Int32) D4)))) ∧ (¬ (D.1 t 15) < (Int32.ofNat 10) → post (0 : Int32) D))
set_option maxHeartbeats 4000000 in
set_option maxRecDepth 100000 in
theorem ct_X9_endPick {l : Launch} {G : Gl} {S : Sh} {D : Dy} {mdl : Nat → Option (Nat × Nat)} (hF : FX S mdl) {t : Nat} (hT : FT S t)  {post : Int32 → Dy → Prop} (E : fX9_endPick t D post) : Ct l G yX9_endPick cX9_endPick 1 (some .boolean) 0 0 0 S D [.ref (G.1 + t)] (PI S post) := by
  refine z_enter (lv0 := [(0, .ref (G.1 + t))]) pl_9 (Nat.le_of_ble_eq_true rfl) rfl ?_
  intro p e s m args below meth c hC hnm
  unfold fX9_endPick at E
  refine z_aload_n hC dX9_endPick_0 rfl 0 rfl ?_
  refine z_get hC lf_X9_123_9 (kT_0 hT) dX9_endPick_1 (fV_int rfl) ?_
  refine z_aload_n hC dX9_endPick_4 rfl 0 rfl ?_
  refine z_get hC lf_X9_28_9 (kT_0 hT) dX9_endPick_5 (fV_ref rfl (rT_13 hT)) ?_
  refine z_alen hC (kT_5 hT) (nT_5 hT) dX9_endPick_8 ?_
  refine z_icmp_lt (tgt := 14) hC dX9_endPick_9 (by decide) (fun c1 => ?_) (fun c1 => ?_)
  · replace E := E.1 c1
    refine z_aload_n hC dX9_endPick_14 rfl 0 rfl ?_
    refine z_get hC lf_X9_28_9 (kT_0 hT) dX9_endPick_15 (fV_ref rfl (rT_13 hT)) ?_
    refine z_aload_n hC dX9_endPick_18 rfl 0 rfl ?_
    refine z_get hC lf_X9_123_9 (kT_0 hT) dX9_endPick_19 (fV_int rfl) ?_
    refine z_aload_n hC dX9_endPick_22 rfl 0 rfl ?_
    refine z_get hC lf_X9_126_9 (kT_0 hT) dX9_endPick_23 (fV_int rfl) ?_
    refine z_iast hC (kT_5 hT) (nT_5 hT) E.1 dX9_endPick_26 ?_
    replace E := E.2
    refine z_topD (fun D2 h3 => ?_)
    replace E := E D2 h3
    refine z_aload_n hC dX9_endPick_27 rfl 0 rfl ?_
    refine z_dup hC dX9_endPick_28 rfl ?_
    refine z_get hC lf_X9_123_9 (kT_0 hT) dX9_endPick_29 (fV_int rfl) ?_
    refine z_iconst (v := 1) hC dX9_endPick_32 rfl ?_
    refine z_iadd hC dX9_endPick_33 ?_
    refine z_puti hC lf_X9_123_9 rfl (kT_0 hT) dX9_endPick_34 ?_
    refine z_topD (fun D4 h5 => ?_)
    replace E := E D4 h5
    refine z_iconst (v := 1) hC dX9_endPick_37 rfl ?_
    exact z_zret hC dX9_endPick_38 (Or.inr rfl) (Nat.le_refl _) (Nat.le_refl _) ⟨_, rfl, rfl, E⟩
  · replace E := E.2 c1
    refine z_iconst (v := 0) hC dX9_endPick_12 rfl ?_
    exact z_zret hC dX9_endPick_13 (Or.inl rfl) (Nat.le_refl _) (Nat.le_refl _) ⟨_, rfl, rfl, E⟩
def fX9_take (t : Nat) (a1 : Int32) (D : Dy) (post : Int32 → Dy → Prop) : Prop :=
  (((D.1 t 1) ≤ (D.1 t 2) → post (0 : Int32) D) ∧ (¬ (D.1 t 1) ≤ (D.1 t 2) → (vp_in (D.1 t 2) 120 ∧ (((D.1 12 ((D.1 t 2)).toNatClampNeg) = a1 → (∀ D3 : Dy, D3 = sI D t 2 ((D.1 t 2) + (1 : Int32)) → post (1 : Int32) D3)) ∧ (¬ (D.1 12 ((D.1 t 2)).toNatClampNeg) = a1 → post (0 : Int32) D)))))
set_option maxHeartbeats 4000000 in
set_option maxRecDepth 100000 in
theorem ct_X9_take {l : Launch} {G : Gl} {S : Sh} {D : Dy} {mdl : Nat → Option (Nat × Nat)} (hF : FX S mdl) {t : Nat} (hT : FT S t) {a1 : Int32} {post : Int32 → Dy → Prop} (E : fX9_take t a1 D post) : Ct l G yX9_take cX9_take 2 (some .boolean) 0 0 0 S D [.ref (G.1 + t), .int a1] (PI S post) := by
  refine z_enter (lv0 := [(0, .ref (G.1 + t)), (1, .int a1)]) pl_9 (Nat.le_of_ble_eq_true rfl) rfl ?_
  intro p e s m args below meth c hC hnm
  unfold fX9_take at E
  refine z_aload_n hC dX9_take_0 rfl 0 rfl ?_
  refine z_get hC lf_X9_53_9 (kT_0 hT) dX9_take_1 (fV_int rfl) ?_
  refine z_aload_n hC dX9_take_4 rfl 0 rfl ?_
  refine z_get hC lf_X9_40_9 (kT_0 hT) dX9_take_5 (fV_int rfl) ?_
  refine z_icmp_ge (tgt := 24) hC dX9_take_8 (by decide) (fun c1 => ?_) (fun c1 => ?_)
  · replace E := E.1 c1
    refine z_iconst (v := 0) hC dX9_take_24 rfl ?_
    exact z_zret hC dX9_take_25 (Or.inl rfl) (Nat.le_refl _) (Nat.le_refl _) ⟨_, rfl, rfl, E⟩
  · replace E := E.2 c1
    refine z_aload_n hC dX9_take_11 rfl 0 rfl ?_
    refine z_get hC lf_X9_37_9 (kT_0 hT) dX9_take_12 (fV_ref rfl (rT_0 hT)) ?_
    refine z_aload_n hC dX9_take_15 rfl 0 rfl ?_
    refine z_get hC lf_X9_53_9 (kT_0 hT) dX9_take_16 (fV_int rfl) ?_
    refine z_iald hC (kX_12 hF) (nX_12 hF) E.1 dX9_take_19 ?_
    replace E := E.2
    refine z_iload_n hC dX9_take_20 rfl 1 rfl ?_
    refine z_icmp_eq (tgt := 26) hC dX9_take_21 (by decide) (fun c2 => ?_) (fun c2 => ?_)
    · replace E := E.1 c2
      refine z_aload_n hC dX9_take_26 rfl 0 rfl ?_
      refine z_dup hC dX9_take_27 rfl ?_
      refine z_get hC lf_X9_53_9 (kT_0 hT) dX9_take_28 (fV_int rfl) ?_
      refine z_iconst (v := 1) hC dX9_take_31 rfl ?_
      refine z_iadd hC dX9_take_32 ?_
      refine z_puti hC lf_X9_53_9 rfl (kT_0 hT) dX9_take_33 ?_
      refine z_topD (fun D3 h4 => ?_)
      replace E := E D3 h4
      refine z_iconst (v := 1) hC dX9_take_36 rfl ?_
      exact z_zret hC dX9_take_37 (Or.inr rfl) (Nat.le_refl _) (Nat.le_refl _) ⟨_, rfl, rfl, E⟩
    · replace E := E.2 c2
      refine z_iconst (v := 0) hC dX9_take_24 rfl ?_
      exact z_zret hC dX9_take_25 (Or.inl rfl) (Nat.le_refl _) (Nat.le_refl _) ⟨_, rfl, rfl, E⟩
def fX9_readNumber (t : Nat) (D : Dy) (post : Int32 → Dy → Prop) : Prop :=
  (LP3 (fun (rec4 : Int32 → Int32 → Dy → Prop) (v1 : Int32) (v2 : Int32) (D3 : Dy) => (((3 : Int32) ≤ v2 → post v1 D3) ∧ (¬ (3 : Int32) ≤ v2 → (((D3.1 t 1) ≤ (D3.1 t 2) → post v1 D3) ∧ (¬ (D3.1 t 1) ≤ (D3.1 t 2) → (vp_in (D3.1 t 2) 120 ∧ (∀ v8 : Int32, v8 = ((D3.1 12 ((D3.1 t 2)).toNatClampNeg) - (48 : Int32)) → ((v8 < 0 → post v1 D3) ∧ (¬ v8 < 0 → ((v8 ≤ (9 : Int32) → (JN (fun (v12 : Int32) => (∀ v15 : Int32, v15 = (v12 + v8) → (∀ D17 : Dy, D17 = sI D3 t 2 ((D3.1 t 2) + (1 : Int32)) → (∀ v19 : Int32, v19 = v2 + 1 → (rec4 v15 v19 D17))))) (fun K13 : Int32 → Prop => ((0 ≤ v1 → (K13 ((10 : Int32) * v1))) ∧ (¬ 0 ≤ v1 → (K13 (0 : Int32))))))) ∧ (¬ v8 ≤ (9 : Int32) → post v1 D3))))))))))) FU (-1 : Int32) (0 : Int32) D)
set_option maxHeartbeats 4000000 in
set_option maxRecDepth 100000 in
theorem ct_X9_readNumber {l : Launch} {G : Gl} {S : Sh} {D : Dy} {mdl : Nat → Option (Nat × Nat)} (hF : FX S mdl) {t : Nat} (hT : FT S t)  {post : Int32 → Dy → Prop} (E : fX9_readNumber t D post) : Ct l G yX9_readNumber cX9_readNumber 4 (some .int) 0 0 0 S D [.ref (G.1 + t)] (PI S post) := by
  refine z_enter (lv0 := [(0, .ref (G.1 + t))]) pl_9 (Nat.le_of_ble_eq_true rfl) rfl ?_
  intro p e s m args below meth c hC hnm
  unfold fX9_readNumber at E
  refine z_iconst (v := -1) hC dX9_readNumber_0 rfl ?_
  refine z_istore_n (lv' := [(1, .int (-1 : Int32)), (0, .ref (G.1 + t))]) hC dX9_readNumber_1 rfl (Nat.le_of_ble_eq_true rfl) rfl ?_
  refine z_iconst (v := 0) hC dX9_readNumber_2 rfl ?_
  refine z_istore_n (lv' := [(2, .int (0 : Int32)), (1, .int (-1 : Int32)), (0, .ref (G.1 + t))]) hC dX9_readNumber_3 rfl (Nat.le_of_ble_eq_true rfl) rfl ?_
  refine z_sub [2, 1, 0] rfl ?_
  refine LP3_use (fun (v1 : Int32) (v2 : Int32) (D3 : Dy) => ZM l G p e s m args below meth c 4 0 S (PI S post) S D3 4 [(0, .ref (G.1 + t)), (1, .int v1), (2, .int v2)] []) ?_ FU (-1 : Int32) (0 : Int32) D E
  intro rec4 hrec5 v1 v2 D3 E
  refine z_iload_n hC dX9_readNumber_4 rfl 2 rfl ?_
  refine z_iconst (v := 3) hC dX9_readNumber_5 rfl ?_
  refine z_icmp_ge (tgt := 77) hC dX9_readNumber_6 (by decide) (fun c6 => ?_) (fun c6 => ?_)
  · replace E := E.1 c6
    refine z_iload_n hC dX9_readNumber_77 rfl 1 rfl ?_
    exact z_iret hC dX9_readNumber_78 (Nat.le_refl _) (Nat.le_refl _) ⟨_, rfl, rfl, E⟩
  · replace E := E.2 c6
    refine z_aload_n hC dX9_readNumber_9 rfl 0 rfl ?_
    refine z_get hC lf_X9_53_9 (kT_0 hT) dX9_readNumber_10 (fV_int rfl) ?_
    refine z_aload_n hC dX9_readNumber_13 rfl 0 rfl ?_
    refine z_get hC lf_X9_40_9 (kT_0 hT) dX9_readNumber_14 (fV_int rfl) ?_
    refine z_icmp_ge (tgt := 77) hC dX9_readNumber_17 (by decide) (fun c7 => ?_) (fun c7 => ?_)
    · replace E := E.1 c7
      refine z_iload_n hC dX9_readNumber_77 rfl 1 rfl ?_
      exact z_iret hC dX9_readNumber_78 (Nat.le_refl _) (Nat.le_refl _) ⟨_, rfl, rfl, E⟩
    · replace E := E.2 c7
      refine z_aload_n hC dX9_readNumber_20 rfl 0 rfl ?_
      refine z_get hC lf_X9_37_9 (kT_0 hT) dX9_readNumber_21 (fV_ref rfl (rT_0 hT)) ?_
      refine z_aload_n hC dX9_readNumber_24 rfl 0 rfl ?_
      refine z_get hC lf_X9_53_9 (kT_0 hT) dX9_readNumber_25 (fV_int rfl) ?_
      refine z_iald hC (kX_12 hF) (nX_12 hF) E.1 dX9_readNumber_28 ?_
      replace E := E.2
      refine z_bipush (v := 48) hC dX9_readNumber_29 rfl ?_
      refine z_isub hC dX9_readNumber_31 ?_
      refine z_topi (fun v8 h9 => ?_)
      replace E := E v8 h9
      refine z_istore_n (lv' := [(3, .int v8), (0, .ref (G.1 + t)), (1, .int v1), (2, .int v2)]) hC dX9_readNumber_32 rfl (Nat.le_of_ble_eq_true rfl) rfl ?_
      refine z_iload_n hC dX9_readNumber_33 rfl 0 rfl ?_
      refine z_if_lt (tgt := 77) hC dX9_readNumber_34 (by decide) (fun c10 => ?_) (fun c10 => ?_)
      · replace E := E.1 c10
        refine z_iload_n hC dX9_readNumber_77 rfl 2 rfl ?_
        exact z_iret hC dX9_readNumber_78 (Nat.le_refl _) (Nat.le_refl _) ⟨_, rfl, rfl, E⟩
      · replace E := E.2 c10
        refine z_iload_n hC dX9_readNumber_37 rfl 0 rfl ?_
        refine z_bipush (v := 9) hC dX9_readNumber_38 rfl ?_
        refine z_icmp_le (tgt := 46) hC dX9_readNumber_40 (by decide) (fun c11 => ?_) (fun c11 => ?_)
        · replace E := E.1 c11
          refine z_iload_n hC dX9_readNumber_46 rfl 2 rfl ?_
          obtain ⟨K13, hK14, EE⟩ := JN_use E (fun K13 : Int32 → Prop => ∀ (v12 : Int32), K13 v12 → ZM l G p e s m args below meth c 4 0 S (PI S post) S D3 58 [(0, .ref (G.1 + t)), (2, .int v2), (3, .int v8)] [.int v12]) (by
            intro v12 E
            refine z_iload_n hC dX9_readNumber_58 rfl 2 rfl ?_
            refine z_iadd hC dX9_readNumber_59 ?_
            refine z_topi (fun v15 h16 => ?_)
            replace E := E v15 h16
            refine z_istore_n (lv' := [(1, .int v15), (0, .ref (G.1 + t)), (2, .int v2), (3, .int v8)]) hC dX9_readNumber_60 rfl (Nat.le_of_ble_eq_true rfl) rfl ?_
            refine z_aload_n hC dX9_readNumber_61 rfl 1 rfl ?_
            refine z_dup hC dX9_readNumber_62 rfl ?_
            refine z_get hC lf_X9_53_9 (kT_0 hT) dX9_readNumber_63 (fV_int rfl) ?_
            refine z_iconst (v := 1) hC dX9_readNumber_66 rfl ?_
            refine z_iadd hC dX9_readNumber_67 ?_
            refine z_puti hC lf_X9_53_9 rfl (kT_0 hT) dX9_readNumber_68 ?_
            refine z_topD (fun D17 h18 => ?_)
            replace E := E D17 h18
            obtain ⟨v19, h20⟩ : ∃ y : Int32, y = v2 + 1 := ⟨_, rfl⟩
            replace E := E v19 h20
            refine z_iinc (q := 2) (v := v19) (lv' := [(2, .int v19), (1, .int v15), (0, .ref (G.1 + t)), (3, .int v8)]) hC dX9_readNumber_71 rfl (by rw [h20]; rfl) (Nat.le_of_ble_eq_true rfl) rfl ?_
            refine z_goto (tgt := 4) hC dX9_readNumber_74 (by decide) ?_
            refine z_sub [2, 1, 0] rfl ?_
            exact hrec5 v15 v19 D17 E)
          replace E := EE
          clear EE
          refine z_if_ge (tgt := 54) hC dX9_readNumber_47 (by decide) (fun c21 => ?_) (fun c21 => ?_)
          · replace E := E.1 c21
            refine z_bipush (v := 10) hC dX9_readNumber_54 rfl ?_
            refine z_iload_n hC dX9_readNumber_56 rfl 2 rfl ?_
            refine z_imul hC dX9_readNumber_57 ?_
            refine z_sub [1, 3, 0] rfl ?_
            exact hK14 ((10 : Int32) * v1) E
          · replace E := E.2 c21
            refine z_iconst (v := 0) hC dX9_readNumber_50 rfl ?_
            refine z_goto (tgt := 58) hC dX9_readNumber_51 (by decide) ?_
            refine z_sub [1, 3, 0] rfl ?_
            exact hK14 (0 : Int32) E
        · replace E := E.2 c11
          refine z_goto (tgt := 77) hC dX9_readNumber_43 (by decide) ?_
          refine z_iload_n hC dX9_readNumber_77 rfl 2 rfl ?_
          exact z_iret hC dX9_readNumber_78 (Nat.le_refl _) (Nat.le_refl _) ⟨_, rfl, rfl, E⟩
def fX9_readPriceTest (t : Nat) (D : Dy) (post : Int32 → Dy → Prop) : Prop :=
  (fX9_take t (61 : Int32) D (fun (v2 : Int32) (D6 : Dy) => (JN (fun (v7 : Int32) (D8 : Dy) => (fX9_readNumber t D8 (fun (v11 : Int32) (D16 : Dy) => (fX9_emit t v7 v11 D16 (fun (D22 : Dy) => ((v11 < 0 → post (0 : Int32) D22) ∧ (¬ v11 < 0 → post (1 : Int32) D22))))))) (fun K9 : Int32 → Dy → Prop => ((v2 = 0 → (fX9_take t (62 : Int32) D6 (fun (v26 : Int32) (D30 : Dy) => ((v26 = 0 → (fX9_take t (60 : Int32) D30 (fun (v33 : Int32) (D37 : Dy) => ((¬ v33 = 0 → (K9 (6 : Int32) D37)) ∧ (v33 = 0 → post (0 : Int32) D37))))) ∧ (¬ v26 = 0 → (K9 (8 : Int32) D30)))))) ∧ (¬ v2 = 0 → (K9 (7 : Int32) D6)))))))
set_option maxHeartbeats 4000000 in
set_option maxRecDepth 100000 in
theorem ct_X9_readPriceTest {l : Launch} {G : Gl} {S : Sh} {D : Dy} {mdl : Nat → Option (Nat × Nat)} (hF : FX S mdl) {t : Nat} (hT : FT S t)  {post : Int32 → Dy → Prop} (E : fX9_readPriceTest t D post) : Ct l G yX9_readPriceTest cX9_readPriceTest 3 (some .boolean) 1 0 0 S D [.ref (G.1 + t)] (PI S post) := by
  refine z_enter (lv0 := [(0, .ref (G.1 + t))]) pl_9 (Nat.le_of_ble_eq_true rfl) rfl ?_
  intro p e s m args below meth c hC hnm
  unfold fX9_readPriceTest at E
  refine z_bipush (v := 6) hC dX9_readPriceTest_0 rfl ?_
  refine z_istore_n (lv' := [(1, .int (6 : Int32)), (0, .ref (G.1 + t))]) hC dX9_readPriceTest_2 rfl (Nat.le_of_ble_eq_true rfl) rfl ?_
  refine z_aload_n hC dX9_readPriceTest_3 rfl 1 rfl ?_
  refine z_bipush (v := 61) hC dX9_readPriceTest_4 rfl ?_
  refine z_callV (ci := 9) (rest := []) hC (ck_mk lk_X9_56 in_X9_take cd_X9_take ds_X9_take (Nat.le_of_ble_eq_true rfl) (Nat.le_of_ble_eq_true rfl)) iy_X9_take sy_X9_take cf_9 (by decide) (kT_0 hT) (ct_X9_take hF hT E) rfl rfl (Nat.le_of_ble_eq_true rfl) ⟨Nat.le_refl _, Nat.le_refl _⟩ dX9_readPriceTest_6 ?_
  rintro _ _ D6 ⟨v2, rfl, rfl, E⟩
  obtain ⟨K9, hK10, EE⟩ := JN_use E (fun K9 : Int32 → Dy → Prop => ∀ (v7 : Int32) (D8 : Dy), K9 v7 D8 → ZM l G p e s m args below meth c 3 1 S (PI S post) S D8 44 [(0, .ref (G.1 + t)), (1, .int v7)] []) (by
    intro v7 D8 E
    refine z_aload_n hC dX9_readPriceTest_44 rfl 0 rfl ?_
    refine z_callV (ci := 9) (rest := []) hC (ck_mk lk_X9_148 in_X9_readNumber cd_X9_readNumber ds_X9_readNumber (Nat.le_of_ble_eq_true rfl) (Nat.le_of_ble_eq_true rfl)) iy_X9_readNumber sy_X9_readNumber cf_9 (by decide) (kT_0 hT) (ct_X9_readNumber hF hT E) rfl rfl (Nat.le_of_ble_eq_true rfl) ⟨Nat.le_refl _, Nat.le_refl _⟩ dX9_readPriceTest_45 ?_
    rintro _ _ D16 ⟨v11, rfl, rfl, E⟩
    refine z_istore_n (lv' := [(2, .int v11), (0, .ref (G.1 + t)), (1, .int v7)]) hC dX9_readPriceTest_48 rfl (Nat.le_of_ble_eq_true rfl) rfl ?_
    refine z_aload_n hC dX9_readPriceTest_49 rfl 1 rfl ?_
    refine z_iload_n hC dX9_readPriceTest_50 rfl 2 rfl ?_
    refine z_iload_n hC dX9_readPriceTest_51 rfl 0 rfl ?_
    refine z_callV (ci := 9) (rest := []) hC (ck_mk lk_X9_132 in_X9_emit cd_X9_emit ds_X9_emit (Nat.le_of_ble_eq_true rfl) (Nat.le_of_ble_eq_true rfl)) iy_X9_emit sy_X9_emit cf_9 (by decide) (kT_0 hT) (ct_X9_emit hF hT E) rfl rfl (Nat.le_of_ble_eq_true rfl) ⟨Nat.le_refl _, Nat.le_refl _⟩ dX9_readPriceTest_52 ?_
    rintro _ _ D22 ⟨rfl, rfl, E⟩
    refine z_iload_n hC dX9_readPriceTest_55 rfl 0 rfl ?_
    refine z_if_lt (tgt := 63) hC dX9_readPriceTest_56 (by decide) (fun c23 => ?_) (fun c23 => ?_)
    · replace E := E.1 c23
      refine z_iconst (v := 0) hC dX9_readPriceTest_63 rfl ?_
      exact z_zret hC dX9_readPriceTest_64 (Or.inl rfl) (Nat.le_refl _) (Nat.le_refl _) ⟨_, rfl, rfl, E⟩
    · replace E := E.2 c23
      refine z_iconst (v := 1) hC dX9_readPriceTest_59 rfl ?_
      refine z_goto (tgt := 64) hC dX9_readPriceTest_60 (by decide) ?_
      exact z_zret hC dX9_readPriceTest_64 (Or.inr rfl) (Nat.le_refl _) (Nat.le_refl _) ⟨_, rfl, rfl, E⟩)
  replace E := EE
  clear EE
  refine z_if_eq (tgt := 18) hC dX9_readPriceTest_9 (by decide) (fun c24 => ?_) (fun c24 => ?_)
  · replace E := E.1 c24
    refine z_aload_n hC dX9_readPriceTest_18 rfl 1 rfl ?_
    refine z_bipush (v := 62) hC dX9_readPriceTest_19 rfl ?_
    refine z_callV (ci := 9) (rest := []) hC (ck_mk lk_X9_56 in_X9_take cd_X9_take ds_X9_take (Nat.le_of_ble_eq_true rfl) (Nat.le_of_ble_eq_true rfl)) iy_X9_take sy_X9_take cf_9 (by decide) (kT_0 hT) (ct_X9_take hF hT E) rfl rfl (Nat.le_of_ble_eq_true rfl) ⟨Nat.le_refl _, Nat.le_refl _⟩ dX9_readPriceTest_21 ?_
    rintro _ _ D30 ⟨v26, rfl, rfl, E⟩
    refine z_if_eq (tgt := 33) hC dX9_readPriceTest_24 (by decide) (fun c31 => ?_) (fun c31 => ?_)
    · replace E := E.1 c31
      refine z_aload_n hC dX9_readPriceTest_33 rfl 1 rfl ?_
      refine z_bipush (v := 60) hC dX9_readPriceTest_34 rfl ?_
      refine z_callV (ci := 9) (rest := []) hC (ck_mk lk_X9_56 in_X9_take cd_X9_take ds_X9_take (Nat.le_of_ble_eq_true rfl) (Nat.le_of_ble_eq_true rfl)) iy_X9_take sy_X9_take cf_9 (by decide) (kT_0 hT) (ct_X9_take hF hT E) rfl rfl (Nat.le_of_ble_eq_true rfl) ⟨Nat.le_refl _, Nat.le_refl _⟩ dX9_readPriceTest_36 ?_
      rintro _ _ D37 ⟨v33, rfl, rfl, E⟩
      refine z_if_ne (tgt := 44) hC dX9_readPriceTest_39 (by decide) (fun c38 => ?_) (fun c38 => ?_)
      · replace E := E.1 c38
        refine z_sub [1, 0] rfl ?_
        exact hK10 (6 : Int32) D37 E
      · replace E := E.2 c38
        refine z_iconst (v := 0) hC dX9_readPriceTest_42 rfl ?_
        exact z_zret hC dX9_readPriceTest_43 (Or.inl rfl) (Nat.le_refl _) (Nat.le_refl _) ⟨_, rfl, rfl, E⟩
    · replace E := E.2 c31
      refine z_bipush (v := 8) hC dX9_readPriceTest_27 rfl ?_
      refine z_istore_n (lv' := [(1, .int (8 : Int32)), (0, .ref (G.1 + t))]) hC dX9_readPriceTest_29 rfl (Nat.le_of_ble_eq_true rfl) rfl ?_
      refine z_goto (tgt := 44) hC dX9_readPriceTest_30 (by decide) ?_
      refine z_sub [1, 0] rfl ?_
      exact hK10 (8 : Int32) D30 E
  · replace E := E.2 c24
    refine z_bipush (v := 7) hC dX9_readPriceTest_12 rfl ?_
    refine z_istore_n (lv' := [(1, .int (7 : Int32)), (0, .ref (G.1 + t))]) hC dX9_readPriceTest_14 rfl (Nat.le_of_ble_eq_true rfl) rfl ?_
    refine z_goto (tgt := 44) hC dX9_readPriceTest_15 (by decide) ?_
    refine z_sub [1, 0] rfl ?_
    exact hK10 (7 : Int32) D6 E
def fX9_readFigure (t : Nat) (a1 : Int32) (a2 : Int32) (D : Dy) (post : Int32 → Dy → Prop) : Prop :=
  (((D.1 t 2) < (D.1 t 1) → (vp_in (D.1 t 2) 120 ∧ (∀ v2 : Int32, v2 = ((D.1 12 ((D.1 t 2)).toNatClampNeg) - (48 : Int32)) → ((v2 < a1 → post (-1 : Int32) D) ∧ (¬ v2 < a1 → ((v2 ≤ a2 → (∀ D6 : Dy, D6 = sI D t 2 ((D.1 t 2) + (1 : Int32)) → post v2 D6)) ∧ (¬ v2 ≤ a2 → post (-1 : Int32) D))))))) ∧ (¬ (D.1 t 2) < (D.1 t 1) → post (-1 : Int32) D))
set_option maxHeartbeats 4000000 in
set_option maxRecDepth 100000 in
theorem ct_X9_readFigure {l : Launch} {G : Gl} {S : Sh} {D : Dy} {mdl : Nat → Option (Nat × Nat)} (hF : FX S mdl) {t : Nat} (hT : FT S t) {a1 : Int32} {a2 : Int32} {post : Int32 → Dy → Prop} (E : fX9_readFigure t a1 a2 D post) : Ct l G yX9_readFigure cX9_readFigure 4 (some .int) 0 0 0 S D [.ref (G.1 + t), .int a1, .int a2] (PI S post) := by
  refine z_enter (lv0 := [(0, .ref (G.1 + t)), (1, .int a1), (2, .int a2)]) pl_9 (Nat.le_of_ble_eq_true rfl) rfl ?_
  intro p e s m args below meth c hC hnm
  unfold fX9_readFigure at E
  refine z_aload_n hC dX9_readFigure_0 rfl 0 rfl ?_
  refine z_get hC lf_X9_53_9 (kT_0 hT) dX9_readFigure_1 (fV_int rfl) ?_
  refine z_aload_n hC dX9_readFigure_4 rfl 0 rfl ?_
  refine z_get hC lf_X9_40_9 (kT_0 hT) dX9_readFigure_5 (fV_int rfl) ?_
  refine z_icmp_lt (tgt := 13) hC dX9_readFigure_8 (by decide) (fun c1 => ?_) (fun c1 => ?_)
  · replace E := E.1 c1
    refine z_aload_n hC dX9_readFigure_13 rfl 0 rfl ?_
    refine z_get hC lf_X9_37_9 (kT_0 hT) dX9_readFigure_14 (fV_ref rfl (rT_0 hT)) ?_
    refine z_aload_n hC dX9_readFigure_17 rfl 0 rfl ?_
    refine z_get hC lf_X9_53_9 (kT_0 hT) dX9_readFigure_18 (fV_int rfl) ?_
    refine z_iald hC (kX_12 hF) (nX_12 hF) E.1 dX9_readFigure_21 ?_
    replace E := E.2
    refine z_bipush (v := 48) hC dX9_readFigure_22 rfl ?_
    refine z_isub hC dX9_readFigure_24 ?_
    refine z_topi (fun v2 h3 => ?_)
    replace E := E v2 h3
    refine z_istore_n (lv' := [(3, .int v2), (0, .ref (G.1 + t)), (1, .int a1), (2, .int a2)]) hC dX9_readFigure_25 rfl (Nat.le_of_ble_eq_true rfl) rfl ?_
    refine z_iload_n hC dX9_readFigure_26 rfl 0 rfl ?_
    refine z_iload_n hC dX9_readFigure_27 rfl 2 rfl ?_
    refine z_icmp_lt (tgt := 36) hC dX9_readFigure_28 (by decide) (fun c4 => ?_) (fun c4 => ?_)
    · replace E := E.1 c4
      refine z_iconst (v := -1) hC dX9_readFigure_36 rfl ?_
      exact z_iret hC dX9_readFigure_37 (Nat.le_refl _) (Nat.le_refl _) ⟨_, rfl, rfl, E⟩
    · replace E := E.2 c4
      refine z_iload_n hC dX9_readFigure_31 rfl 0 rfl ?_
      refine z_iload_n hC dX9_readFigure_32 rfl 3 rfl ?_
      refine z_icmp_le (tgt := 38) hC dX9_readFigure_33 (by decide) (fun c5 => ?_) (fun c5 => ?_)
      · replace E := E.1 c5
        refine z_aload_n hC dX9_readFigure_38 rfl 1 rfl ?_
        refine z_dup hC dX9_readFigure_39 rfl ?_
        refine z_get hC lf_X9_53_9 (kT_0 hT) dX9_readFigure_40 (fV_int rfl) ?_
        refine z_iconst (v := 1) hC dX9_readFigure_43 rfl ?_
        refine z_iadd hC dX9_readFigure_44 ?_
        refine z_puti hC lf_X9_53_9 rfl (kT_0 hT) dX9_readFigure_45 ?_
        refine z_topD (fun D6 h7 => ?_)
        replace E := E D6 h7
        refine z_iload_n hC dX9_readFigure_48 rfl 0 rfl ?_
        exact z_iret hC dX9_readFigure_49 (Nat.le_refl _) (Nat.le_refl _) ⟨_, rfl, rfl, E⟩
      · replace E := E.2 c5
        refine z_iconst (v := -1) hC dX9_readFigure_36 rfl ?_
        exact z_iret hC dX9_readFigure_37 (Nat.le_refl _) (Nat.le_refl _) ⟨_, rfl, rfl, E⟩
  · replace E := E.2 c1
    refine z_iconst (v := -1) hC dX9_readFigure_11 rfl ?_
    exact z_iret hC dX9_readFigure_12 (Nat.le_refl _) (Nat.le_refl _) ⟨_, rfl, rfl, E⟩
def fX9_readFigureTest (t : Nat) (a1 : Int32) (D : Dy) (post : Int32 → Dy → Prop) : Prop :=
  (fX9_take t (61 : Int32) D (fun (v2 : Int32) (D6 : Dy) => ((¬ v2 = 0 → (fX9_readFigure t (0 : Int32) (9 : Int32) D6 (fun (v8 : Int32) (D13 : Dy) => (fX9_emit t a1 v8 D13 (fun (D19 : Dy) => ((v8 < 0 → post (0 : Int32) D19) ∧ (¬ v8 < 0 → post (1 : Int32) D19))))))) ∧ (v2 = 0 → post (0 : Int32) D6))))
set_option maxHeartbeats 4000000 in
set_option maxRecDepth 100000 in
theorem ct_X9_readFigureTest {l : Launch} {G : Gl} {S : Sh} {D : Dy} {mdl : Nat → Option (Nat × Nat)} (hF : FX S mdl) {t : Nat} (hT : FT S t) {a1 : Int32} {post : Int32 → Dy → Prop} (E : fX9_readFigureTest t a1 D post) : Ct l G yX9_readFigureTest cX9_readFigureTest 3 (some .boolean) 1 0 0 S D [.ref (G.1 + t), .int a1] (PI S post) := by
  refine z_enter (lv0 := [(0, .ref (G.1 + t)), (1, .int a1)]) pl_9 (Nat.le_of_ble_eq_true rfl) rfl ?_
  intro p e s m args below meth c hC hnm
  unfold fX9_readFigureTest at E
  refine z_aload_n hC dX9_readFigureTest_0 rfl 0 rfl ?_
  refine z_bipush (v := 61) hC dX9_readFigureTest_1 rfl ?_
  refine z_callV (ci := 9) (rest := []) hC (ck_mk lk_X9_56 in_X9_take cd_X9_take ds_X9_take (Nat.le_of_ble_eq_true rfl) (Nat.le_of_ble_eq_true rfl)) iy_X9_take sy_X9_take cf_9 (by decide) (kT_0 hT) (ct_X9_take hF hT E) rfl rfl (Nat.le_of_ble_eq_true rfl) ⟨Nat.le_refl _, Nat.le_refl _⟩ dX9_readFigureTest_3 ?_
  rintro _ _ D6 ⟨v2, rfl, rfl, E⟩
  refine z_if_ne (tgt := 11) hC dX9_readFigureTest_6 (by decide) (fun c7 => ?_) (fun c7 => ?_)
  · replace E := E.1 c7
    refine z_aload_n hC dX9_readFigureTest_11 rfl 0 rfl ?_
    refine z_iconst (v := 0) hC dX9_readFigureTest_12 rfl ?_
    refine z_bipush (v := 9) hC dX9_readFigureTest_13 rfl ?_
    refine z_callV (ci := 9) (rest := []) hC (ck_mk lk_X9_145 in_X9_readFigure cd_X9_readFigure ds_X9_readFigure (Nat.le_of_ble_eq_true rfl) (Nat.le_of_ble_eq_true rfl)) iy_X9_readFigure sy_X9_readFigure cf_9 (by decide) (kT_0 hT) (ct_X9_readFigure hF hT E) rfl rfl (Nat.le_of_ble_eq_true rfl) ⟨Nat.le_refl _, Nat.le_refl _⟩ dX9_readFigureTest_15 ?_
    rintro _ _ D13 ⟨v8, rfl, rfl, E⟩
    refine z_istore_n (lv' := [(2, .int v8), (0, .ref (G.1 + t)), (1, .int a1)]) hC dX9_readFigureTest_18 rfl (Nat.le_of_ble_eq_true rfl) rfl ?_
    refine z_aload_n hC dX9_readFigureTest_19 rfl 1 rfl ?_
    refine z_iload_n hC dX9_readFigureTest_20 rfl 2 rfl ?_
    refine z_iload_n hC dX9_readFigureTest_21 rfl 0 rfl ?_
    refine z_callV (ci := 9) (rest := []) hC (ck_mk lk_X9_132 in_X9_emit cd_X9_emit ds_X9_emit (Nat.le_of_ble_eq_true rfl) (Nat.le_of_ble_eq_true rfl)) iy_X9_emit sy_X9_emit cf_9 (by decide) (kT_0 hT) (ct_X9_emit hF hT E) rfl rfl (Nat.le_of_ble_eq_true rfl) ⟨Nat.le_refl _, Nat.le_refl _⟩ dX9_readFigureTest_22 ?_
    rintro _ _ D19 ⟨rfl, rfl, E⟩
    refine z_iload_n hC dX9_readFigureTest_25 rfl 0 rfl ?_
    refine z_if_lt (tgt := 33) hC dX9_readFigureTest_26 (by decide) (fun c20 => ?_) (fun c20 => ?_)
    · replace E := E.1 c20
      refine z_iconst (v := 0) hC dX9_readFigureTest_33 rfl ?_
      exact z_zret hC dX9_readFigureTest_34 (Or.inl rfl) (Nat.le_refl _) (Nat.le_refl _) ⟨_, rfl, rfl, E⟩
    · replace E := E.2 c20
      refine z_iconst (v := 1) hC dX9_readFigureTest_29 rfl ?_
      refine z_goto (tgt := 34) hC dX9_readFigureTest_30 (by decide) ?_
      exact z_zret hC dX9_readFigureTest_34 (Or.inr rfl) (Nat.le_refl _) (Nat.le_refl _) ⟨_, rfl, rfl, E⟩
  · replace E := E.2 c7
    refine z_iconst (v := 0) hC dX9_readFigureTest_9 rfl ?_
    exact z_zret hC dX9_readFigureTest_10 (Or.inl rfl) (Nat.le_refl _) (Nat.le_refl _) ⟨_, rfl, rfl, E⟩
def fX9_wordAt (a1 : Int32) (post : Nat → Prop) : Prop :=
  ((a1 = (0 : Int32) → post 0) ∧ (¬ a1 = (0 : Int32) → ((a1 = (1 : Int32) → post 1) ∧ (¬ a1 = (1 : Int32) → ((a1 = (2 : Int32) → post 2) ∧ (¬ a1 = (2 : Int32) → ((a1 = (3 : Int32) → post 3) ∧ (¬ a1 = (3 : Int32) → ((a1 = (4 : Int32) → post 4) ∧ (¬ a1 = (4 : Int32) → ((a1 = (5 : Int32) → post 5) ∧ (¬ a1 = (5 : Int32) → post 6))))))))))))
set_option maxHeartbeats 4000000 in
set_option maxRecDepth 100000 in
theorem ct_X9_wordAt {l : Launch} {G : Gl} {S : Sh} {D : Dy} {mdl : Nat → Option (Nat × Nat)} (hF : FX S mdl) {a1 : Int32} {post : Nat → Prop} (E : fX9_wordAt a1 post) : Ct l G yX9_wordAt cX9_wordAt 1 (some (.object "java/lang/String")) 0 0 0 S D [.int a1] (PSr G S D post) := by
  refine z_enter (lv0 := [(0, .int a1)]) pl_9 (Nat.le_of_ble_eq_true rfl) rfl ?_
  intro p e s m args below meth c hC hnm
  unfold fX9_wordAt at E
  refine z_iload_n hC dX9_wordAt_0 rfl 0 rfl ?_
  by_cases c1 : a1 = (0 : Int32)
  · replace E := E.1 c1
    refine z_tableIn (tgt := 40) (off := 39) hC dX9_wordAt_1 c1 (by decide) (by decide) ?_
    refine z_ldcS 0 (by decide) rfl hC dX9_wordAt_40 ?_
    exact z_aretS hC dX9_wordAt_42 (by decide) E
  replace E := E.2 c1
  by_cases c2 : a1 = (1 : Int32)
  · replace E := E.1 c2
    refine z_tableIn (tgt := 43) (off := 42) hC dX9_wordAt_1 c2 (by decide) (by decide) ?_
    refine z_ldcS 1 (by decide) rfl hC dX9_wordAt_43 ?_
    exact z_aretS hC dX9_wordAt_45 (by decide) E
  replace E := E.2 c2
  by_cases c3 : a1 = (2 : Int32)
  · replace E := E.1 c3
    refine z_tableIn (tgt := 46) (off := 45) hC dX9_wordAt_1 c3 (by decide) (by decide) ?_
    refine z_ldcS 2 (by decide) rfl hC dX9_wordAt_46 ?_
    exact z_aretS hC dX9_wordAt_48 (by decide) E
  replace E := E.2 c3
  by_cases c4 : a1 = (3 : Int32)
  · replace E := E.1 c4
    refine z_tableIn (tgt := 49) (off := 48) hC dX9_wordAt_1 c4 (by decide) (by decide) ?_
    refine z_ldcS 3 (by decide) rfl hC dX9_wordAt_49 ?_
    exact z_aretS hC dX9_wordAt_51 (by decide) E
  replace E := E.2 c4
  by_cases c5 : a1 = (4 : Int32)
  · replace E := E.1 c5
    refine z_tableIn (tgt := 52) (off := 51) hC dX9_wordAt_1 c5 (by decide) (by decide) ?_
    refine z_ldcS 4 (by decide) rfl hC dX9_wordAt_52 ?_
    exact z_aretS hC dX9_wordAt_54 (by decide) E
  replace E := E.2 c5
  by_cases c6 : a1 = (5 : Int32)
  · replace E := E.1 c6
    refine z_tableIn (tgt := 55) (off := 54) hC dX9_wordAt_1 c6 (by decide) (by decide) ?_
    refine z_ldcS 5 (by decide) rfl hC dX9_wordAt_55 ?_
    exact z_aretS hC dX9_wordAt_57 (by decide) E
  replace E := E.2 c6
  refine z_tableOut (tgt := 58) hC dX9_wordAt_1 (by have zc1 := sw_ne c1 (show (0 : Int32).toInt = 0 by decide); have zc2 := sw_ne c2 (show (1 : Int32).toInt = 1 by decide); have zc3 := sw_ne c3 (show (2 : Int32).toInt = 2 by decide); have zc4 := sw_ne c4 (show (3 : Int32).toInt = 3 by decide); have zc5 := sw_ne c5 (show (4 : Int32).toInt = 4 by decide); have zc6 := sw_ne c6 (show (5 : Int32).toInt = 5 by decide); omega) (by decide) ?_
  refine z_ldcS 6 (by decide) rfl hC dX9_wordAt_58 ?_
  exact z_aretS hC dX9_wordAt_60 (by decide) E
def fX9_readWord (t : Nat) (D : Dy) (post : Int32 → Dy → Prop) : Prop :=
  (LP2 (fun (rec3 : Int32 → Int32 → Prop) (v1 : Int32) (v2 : Int32) => (((7 : Int32) ≤ v2 → (∀ D6 : Dy, D6 = sI D t 2 ((D.1 t 2) + v1) → post (-1 : Int32) D6)) ∧ (¬ (7 : Int32) ≤ v2 → (fX9_wordAt v2 (fun (sx12 : Nat) => (fX9_countAlike t sx12 D (fun (v13 : Int32) => (∀ v18 : Int32, v18 = (if v1 < v13 then v13 else v1) → ((¬ v13 = (Int32.ofNat (wLen.getD sx12 0)) → (∀ v21 : Int32, v21 = v2 + 1 → (rec3 v18 v21))) ∧ (v13 = (Int32.ofNat (wLen.getD sx12 0)) → (∀ D23 : Dy, D23 = sI D t 2 ((D.1 t 2) + v13) → post v2 D23))))))))))) FU (0 : Int32) (0 : Int32))
set_option maxHeartbeats 4000000 in
set_option maxRecDepth 100000 in
theorem ct_X9_readWord {l : Launch} {G : Gl} {S : Sh} {D : Dy} {mdl : Nat → Option (Nat × Nat)} (hF : FX S mdl) {t : Nat} (hT : FT S t)  {post : Int32 → Dy → Prop} (E : fX9_readWord t D post) : Ct l G yX9_readWord cX9_readWord 5 (some .int) 5 0 0 S D [.ref (G.1 + t)] (PI S post) := by
  refine z_enter (lv0 := [(0, .ref (G.1 + t))]) pl_9 (Nat.le_of_ble_eq_true rfl) rfl ?_
  intro p e s m args below meth c hC hnm
  unfold fX9_readWord at E
  refine z_iconst (v := 0) hC dX9_readWord_0 rfl ?_
  refine z_istore_n (lv' := [(1, .int (0 : Int32)), (0, .ref (G.1 + t))]) hC dX9_readWord_1 rfl (Nat.le_of_ble_eq_true rfl) rfl ?_
  refine z_iconst (v := 0) hC dX9_readWord_2 rfl ?_
  refine z_istore_n (lv' := [(2, .int (0 : Int32)), (1, .int (0 : Int32)), (0, .ref (G.1 + t))]) hC dX9_readWord_3 rfl (Nat.le_of_ble_eq_true rfl) rfl ?_
  refine z_sub [2, 1, 0] rfl ?_
  refine LP2_use (fun (v1 : Int32) (v2 : Int32) => ZM l G p e s m args below meth c 5 5 S (PI S post) S D 4 [(0, .ref (G.1 + t)), (1, .int v1), (2, .int v2)] []) ?_ FU (0 : Int32) (0 : Int32) E
  intro rec3 hrec4 v1 v2 E
  refine z_iload_n hC dX9_readWord_4 rfl 2 rfl ?_
  refine z_bipush (v := 7) hC dX9_readWord_5 rfl ?_
  refine z_icmp_ge (tgt := 57) hC dX9_readWord_7 (by decide) (fun c5 => ?_) (fun c5 => ?_)
  · replace E := E.1 c5
    refine z_aload_n hC dX9_readWord_57 rfl 0 rfl ?_
    refine z_dup hC dX9_readWord_58 rfl ?_
    refine z_get hC lf_X9_53_9 (kT_0 hT) dX9_readWord_59 (fV_int rfl) ?_
    refine z_iload_n hC dX9_readWord_62 rfl 1 rfl ?_
    refine z_iadd hC dX9_readWord_63 ?_
    refine z_puti hC lf_X9_53_9 rfl (kT_0 hT) dX9_readWord_64 ?_
    refine z_topD (fun D6 h7 => ?_)
    replace E := E D6 h7
    refine z_iconst (v := -1) hC dX9_readWord_67 rfl ?_
    exact z_iret hC dX9_readWord_68 (Nat.le_refl _) (Nat.le_refl _) ⟨_, rfl, rfl, E⟩
  · replace E := E.2 c5
    refine z_iload_n hC dX9_readWord_10 rfl 2 rfl ?_
    refine z_callS (rest := []) hC (ck_mk lk_X9_102 in_X9_wordAt cd_X9_wordAt ds_X9_wordAt (Nat.le_of_ble_eq_true rfl) (Nat.le_of_ble_eq_true rfl)) st_X9_wordAt (ct_X9_wordAt hF E) rfl rfl (Nat.le_of_ble_eq_true rfl) ⟨Nat.le_refl _, Nat.le_refl _⟩ dX9_readWord_11 ?_
    rintro _ _ _ ⟨sx12, rfl, rfl, rfl, hsx, E⟩
    refine z_astore_n (lv' := [(3, .ref (G.2.2.2.1 sx12)), (0, .ref (G.1 + t)), (1, .int v1), (2, .int v2)]) hC dX9_readWord_14 rfl (Nat.le_of_ble_eq_true rfl) rfl ?_
    refine z_aload_n hC dX9_readWord_15 rfl 1 rfl ?_
    refine z_aload_n hC dX9_readWord_16 rfl 0 rfl ?_
    refine z_callV (ci := 9) (rest := []) hC (ck_mk lk_X9_106 in_X9_countAlike cd_X9_countAlike ds_X9_countAlike (Nat.le_of_ble_eq_true rfl) (Nat.le_of_ble_eq_true rfl)) iy_X9_countAlike sy_X9_countAlike cf_9 (by decide) (kT_0 hT) (ct_X9_countAlike hF hT hsx E) rfl rfl (Nat.le_of_ble_eq_true rfl) ⟨Nat.le_refl _, Nat.le_refl _⟩ dX9_readWord_17 ?_
    rintro _ _ _ ⟨v13, rfl, rfl, rfl, E⟩
    refine z_istore (lv' := [(4, .int v13), (3, .ref (G.2.2.2.1 sx12)), (0, .ref (G.1 + t)), (1, .int v1), (2, .int v2)]) hC dX9_readWord_20 (Nat.le_of_ble_eq_true rfl) rfl ?_
    refine z_iload_n hC dX9_readWord_22 rfl 3 rfl ?_
    refine z_iload hC dX9_readWord_23 0 rfl ?_
    refine z_mmax hC lk_X9_110 sm_max im_Math cm_max ⟨Nat.le_of_ble_eq_true rfl, Nat.le_of_ble_eq_true rfl⟩ ⟨Nat.zero_le _, Nat.zero_le _⟩ (Nat.le_of_ble_eq_true rfl) dX9_readWord_25 ?_
    refine z_topi (fun v18 h19 => ?_)
    replace E := E v18 h19
    refine z_istore_n (lv' := [(1, .int v18), (4, .int v13), (3, .ref (G.2.2.2.1 sx12)), (0, .ref (G.1 + t)), (2, .int v2)]) hC dX9_readWord_28 rfl (Nat.le_of_ble_eq_true rfl) rfl ?_
    refine z_iload hC dX9_readWord_29 1 rfl ?_
    refine z_aload_n hC dX9_readWord_31 rfl 2 rfl ?_
    refine z_slen hC hsx lk_X9_115 ⟨Nat.le_of_ble_eq_true rfl, Nat.le_of_ble_eq_true rfl⟩ ⟨Nat.zero_le _, Nat.zero_le _⟩ (Nat.le_of_ble_eq_true rfl) dX9_readWord_32 ?_
    refine z_icmp_ne (tgt := 51) hC dX9_readWord_35 (by decide) (fun c20 => ?_) (fun c20 => ?_)
    · replace E := E.1 c20
      obtain ⟨v21, h22⟩ : ∃ y : Int32, y = v2 + 1 := ⟨_, rfl⟩
      replace E := E v21 h22
      refine z_iinc (q := 4) (v := v21) (lv' := [(2, .int v21), (1, .int v18), (4, .int v13), (3, .ref (G.2.2.2.1 sx12)), (0, .ref (G.1 + t))]) hC dX9_readWord_51 rfl (by rw [h22]; rfl) (Nat.le_of_ble_eq_true rfl) rfl ?_
      refine z_goto (tgt := 4) hC dX9_readWord_54 (by decide) ?_
      refine z_sub [4, 1, 0] rfl ?_
      exact hrec4 v18 v21 E
    · replace E := E.2 c20
      refine z_aload_n hC dX9_readWord_38 rfl 3 rfl ?_
      refine z_dup hC dX9_readWord_39 rfl ?_
      refine z_get hC lf_X9_53_9 (kT_0 hT) dX9_readWord_40 (fV_int rfl) ?_
      refine z_iload hC dX9_readWord_43 1 rfl ?_
      refine z_iadd hC dX9_readWord_45 ?_
      refine z_puti hC lf_X9_53_9 rfl (kT_0 hT) dX9_readWord_46 ?_
      refine z_topD (fun D23 h24 => ?_)
      replace E := E D23 h24
      refine z_iload_n hC dX9_readWord_49 rfl 4 rfl ?_
      exact z_iret hC dX9_readWord_50 (Nat.le_refl _) (Nat.le_refl _) ⟨_, rfl, rfl, E⟩
def fX9_readFigurePart (t : Nat) (a1 : Int32) (a2 : Int32) (D : Dy) (post : Int32 → Dy → Prop) : Prop :=
  (fX9_take t (32 : Int32) D (fun (v2 : Int32) (D6 : Dy) => ((v2 = 0 → post (-1 : Int32) D6) ∧ (¬ v2 = 0 → (fX9_readFigure t a1 a2 D6 (fun (v8 : Int32) (D13 : Dy) => post v8 D13))))))
set_option maxHeartbeats 4000000 in
set_option maxRecDepth 100000 in
theorem ct_X9_readFigurePart {l : Launch} {G : Gl} {S : Sh} {D : Dy} {mdl : Nat → Option (Nat × Nat)} (hF : FX S mdl) {t : Nat} (hT : FT S t) {a1 : Int32} {a2 : Int32} {post : Int32 → Dy → Prop} (E : fX9_readFigurePart t a1 a2 D post) : Ct l G yX9_readFigurePart cX9_readFigurePart 3 (some .int) 1 0 0 S D [.ref (G.1 + t), .int a1, .int a2] (PI S post) := by
  refine z_enter (lv0 := [(0, .ref (G.1 + t)), (1, .int a1), (2, .int a2)]) pl_9 (Nat.le_of_ble_eq_true rfl) rfl ?_
  intro p e s m args below meth c hC hnm
  unfold fX9_readFigurePart at E
  refine z_aload_n hC dX9_readFigurePart_0 rfl 0 rfl ?_
  refine z_bipush (v := 32) hC dX9_readFigurePart_1 rfl ?_
  refine z_callV (ci := 9) (rest := []) hC (ck_mk lk_X9_56 in_X9_take cd_X9_take ds_X9_take (Nat.le_of_ble_eq_true rfl) (Nat.le_of_ble_eq_true rfl)) iy_X9_take sy_X9_take cf_9 (by decide) (kT_0 hT) (ct_X9_take hF hT E) rfl rfl (Nat.le_of_ble_eq_true rfl) ⟨Nat.le_refl _, Nat.le_refl _⟩ dX9_readFigurePart_3 ?_
  rintro _ _ D6 ⟨v2, rfl, rfl, E⟩
  refine z_if_eq (tgt := 18) hC dX9_readFigurePart_6 (by decide) (fun c7 => ?_) (fun c7 => ?_)
  · replace E := E.1 c7
    refine z_iconst (v := -1) hC dX9_readFigurePart_18 rfl ?_
    exact z_iret hC dX9_readFigurePart_19 (Nat.le_refl _) (Nat.le_refl _) ⟨_, rfl, rfl, E⟩
  · replace E := E.2 c7
    refine z_aload_n hC dX9_readFigurePart_9 rfl 0 rfl ?_
    refine z_iload_n hC dX9_readFigurePart_10 rfl 1 rfl ?_
    refine z_iload_n hC dX9_readFigurePart_11 rfl 2 rfl ?_
    refine z_callV (ci := 9) (rest := []) hC (ck_mk lk_X9_145 in_X9_readFigure cd_X9_readFigure ds_X9_readFigure (Nat.le_of_ble_eq_true rfl) (Nat.le_of_ble_eq_true rfl)) iy_X9_readFigure sy_X9_readFigure cf_9 (by decide) (kT_0 hT) (ct_X9_readFigure hF hT E) rfl rfl (Nat.le_of_ble_eq_true rfl) ⟨Nat.le_refl _, Nat.le_refl _⟩ dX9_readFigurePart_12 ?_
    rintro _ _ D13 ⟨v8, rfl, rfl, E⟩
    refine z_goto (tgt := 19) hC dX9_readFigurePart_15 (by decide) ?_
    exact z_iret hC dX9_readFigurePart_19 (Nat.le_refl _) (Nat.le_refl _) ⟨_, rfl, rfl, E⟩
def fX9_readPart (t : Nat) (D : Dy) (post : Int32 → Dy → Prop) : Prop :=
  (fX9_take t (32 : Int32) D (fun (v2 : Int32) (D6 : Dy) => ((v2 = 0 → post (-1 : Int32) D6) ∧ (¬ v2 = 0 → (fX9_readNumber t D6 (fun (v8 : Int32) (D13 : Dy) => post v8 D13))))))
set_option maxHeartbeats 4000000 in
set_option maxRecDepth 100000 in
theorem ct_X9_readPart {l : Launch} {G : Gl} {S : Sh} {D : Dy} {mdl : Nat → Option (Nat × Nat)} (hF : FX S mdl) {t : Nat} (hT : FT S t)  {post : Int32 → Dy → Prop} (E : fX9_readPart t D post) : Ct l G yX9_readPart cX9_readPart 1 (some .int) 1 0 0 S D [.ref (G.1 + t)] (PI S post) := by
  refine z_enter (lv0 := [(0, .ref (G.1 + t))]) pl_9 (Nat.le_of_ble_eq_true rfl) rfl ?_
  intro p e s m args below meth c hC hnm
  unfold fX9_readPart at E
  refine z_aload_n hC dX9_readPart_0 rfl 0 rfl ?_
  refine z_bipush (v := 32) hC dX9_readPart_1 rfl ?_
  refine z_callV (ci := 9) (rest := []) hC (ck_mk lk_X9_56 in_X9_take cd_X9_take ds_X9_take (Nat.le_of_ble_eq_true rfl) (Nat.le_of_ble_eq_true rfl)) iy_X9_take sy_X9_take cf_9 (by decide) (kT_0 hT) (ct_X9_take hF hT E) rfl rfl (Nat.le_of_ble_eq_true rfl) ⟨Nat.le_refl _, Nat.le_refl _⟩ dX9_readPart_3 ?_
  rintro _ _ D6 ⟨v2, rfl, rfl, E⟩
  refine z_if_eq (tgt := 16) hC dX9_readPart_6 (by decide) (fun c7 => ?_) (fun c7 => ?_)
  · replace E := E.1 c7
    refine z_iconst (v := -1) hC dX9_readPart_16 rfl ?_
    exact z_iret hC dX9_readPart_17 (Nat.le_refl _) (Nat.le_refl _) ⟨_, rfl, rfl, E⟩
  · replace E := E.2 c7
    refine z_aload_n hC dX9_readPart_9 rfl 0 rfl ?_
    refine z_callV (ci := 9) (rest := []) hC (ck_mk lk_X9_148 in_X9_readNumber cd_X9_readNumber ds_X9_readNumber (Nat.le_of_ble_eq_true rfl) (Nat.le_of_ble_eq_true rfl)) iy_X9_readNumber sy_X9_readNumber cf_9 (by decide) (kT_0 hT) (ct_X9_readNumber hF hT E) rfl rfl (Nat.le_of_ble_eq_true rfl) ⟨Nat.le_refl _, Nat.le_refl _⟩ dX9_readPart_10 ?_
    rintro _ _ D13 ⟨v8, rfl, rfl, E⟩
    refine z_goto (tgt := 17) hC dX9_readPart_13 (by decide) ?_
    exact z_iret hC dX9_readPart_17 (Nat.le_refl _) (Nat.le_refl _) ⟨_, rfl, rfl, E⟩
def fX9_readWorth (t : Nat) (ra : Nat) (rn : Nat) (D : Dy) (post : Int32 → Dy → Prop) : Prop :=
  (fX9_readFigurePart t (0 : Int32) ((Int32.ofNat rn) - (1 : Int32)) D (fun (v1 : Int32) (D6 : Dy) => ((0 ≤ v1 → (fX9_readPart t D6 (fun (v8 : Int32) (D13 : Dy) => ((0 ≤ v8 → (vp_in v1 rn ∧ (∀ D15 : Dy, D15 = sI D13 ra (v1).toNatClampNeg v8 → post (1 : Int32) D15))) ∧ (¬ 0 ≤ v8 → post (0 : Int32) D13))))) ∧ (¬ 0 ≤ v1 → post (0 : Int32) D6))))
set_option maxHeartbeats 4000000 in
set_option maxRecDepth 100000 in
theorem ct_X9_readWorth {l : Launch} {G : Gl} {S : Sh} {D : Dy} {mdl : Nat → Option (Nat × Nat)} (hF : FX S mdl) {t : Nat} (hT : FT S t) {ra rn : Nat} (hra : S.2.1 ra = 20) (hrn : S.2.2.1 ra = rn)  {post : Int32 → Dy → Prop} (E : fX9_readWorth t ra rn D post) : Ct l G yX9_readWorth cX9_readWorth 4 (some .boolean) 2 0 0 S D [.ref (G.1 + t), .ref (G.1 + ra)] (PI S post) := by
  refine z_enter (lv0 := [(0, .ref (G.1 + t)), (1, .ref (G.1 + ra))]) pl_9 (Nat.le_of_ble_eq_true rfl) rfl ?_
  intro p e s m args below meth c hC hnm
  unfold fX9_readWorth at E
  refine z_aload_n hC dX9_readWorth_0 rfl 0 rfl ?_
  refine z_iconst (v := 0) hC dX9_readWorth_1 rfl ?_
  refine z_aload_n hC dX9_readWorth_2 rfl 1 rfl ?_
  refine z_alen hC hra hrn dX9_readWorth_3 ?_
  refine z_iconst (v := 1) hC dX9_readWorth_4 rfl ?_
  refine z_isub hC dX9_readWorth_5 ?_
  refine z_callV (ci := 9) (rest := []) hC (ck_mk lk_X9_77 in_X9_readFigurePart cd_X9_readFigurePart ds_X9_readFigurePart (Nat.le_of_ble_eq_true rfl) (Nat.le_of_ble_eq_true rfl)) iy_X9_readFigurePart sy_X9_readFigurePart cf_9 (by decide) (kT_0 hT) (ct_X9_readFigurePart hF hT E) rfl rfl (Nat.le_of_ble_eq_true rfl) ⟨Nat.le_refl _, Nat.le_refl _⟩ dX9_readWorth_6 ?_
  rintro _ _ D6 ⟨v1, rfl, rfl, E⟩
  refine z_istore_n (lv' := [(2, .int v1), (0, .ref (G.1 + t)), (1, .ref (G.1 + ra))]) hC dX9_readWorth_9 rfl (Nat.le_of_ble_eq_true rfl) rfl ?_
  refine z_iload_n hC dX9_readWorth_10 rfl 0 rfl ?_
  refine z_if_ge (tgt := 16) hC dX9_readWorth_11 (by decide) (fun c7 => ?_) (fun c7 => ?_)
  · replace E := E.1 c7
    refine z_aload_n hC dX9_readWorth_16 rfl 1 rfl ?_
    refine z_callV (ci := 9) (rest := []) hC (ck_mk lk_X9_68 in_X9_readPart cd_X9_readPart ds_X9_readPart (Nat.le_of_ble_eq_true rfl) (Nat.le_of_ble_eq_true rfl)) iy_X9_readPart sy_X9_readPart cf_9 (by decide) (kT_0 hT) (ct_X9_readPart hF hT E) rfl rfl (Nat.le_of_ble_eq_true rfl) ⟨Nat.le_refl _, Nat.le_refl _⟩ dX9_readWorth_17 ?_
    rintro _ _ D13 ⟨v8, rfl, rfl, E⟩
    refine z_istore_n (lv' := [(3, .int v8), (2, .int v1), (0, .ref (G.1 + t)), (1, .ref (G.1 + ra))]) hC dX9_readWorth_20 rfl (Nat.le_of_ble_eq_true rfl) rfl ?_
    refine z_iload_n hC dX9_readWorth_21 rfl 0 rfl ?_
    refine z_if_ge (tgt := 27) hC dX9_readWorth_22 (by decide) (fun c14 => ?_) (fun c14 => ?_)
    · replace E := E.1 c14
      refine z_aload_n hC dX9_readWorth_27 rfl 3 rfl ?_
      refine z_iload_n hC dX9_readWorth_28 rfl 1 rfl ?_
      refine z_iload_n hC dX9_readWorth_29 rfl 0 rfl ?_
      refine z_iast hC hra hrn E.1 dX9_readWorth_30 ?_
      replace E := E.2
      refine z_topD (fun D15 h16 => ?_)
      replace E := E D15 h16
      refine z_iconst (v := 1) hC dX9_readWorth_31 rfl ?_
      exact z_zret hC dX9_readWorth_32 (Or.inr rfl) (Nat.le_refl _) (Nat.le_refl _) ⟨_, rfl, rfl, E⟩
    · replace E := E.2 c14
      refine z_iconst (v := 0) hC dX9_readWorth_25 rfl ?_
      exact z_zret hC dX9_readWorth_26 (Or.inl rfl) (Nat.le_refl _) (Nat.le_refl _) ⟨_, rfl, rfl, E⟩
  · replace E := E.2 c7
    refine z_iconst (v := 0) hC dX9_readWorth_14 rfl ?_
    exact z_zret hC dX9_readWorth_15 (Or.inl rfl) (Nat.le_refl _) (Nat.le_refl _) ⟨_, rfl, rfl, E⟩
def fX9_readKind (t : Nat) (D : Dy) (post : Int32 → Dy → Prop) : Prop :=
  (fX9_readFigurePart t (0 : Int32) (2 : Int32) D (fun (v1 : Int32) (D6 : Dy) => ((0 ≤ v1 → (fX9_readFigurePart t (0 : Int32) (9 : Int32) D6 (fun (v8 : Int32) (D13 : Dy) => (vp_in v1 3 ∧ (∀ D14 : Dy, D14 = sI D13 (t + 3) (v1).toNatClampNeg v8 → (vp_in v1 3 ∧ ((0 ≤ (D14.1 (t + 3) (v1).toNatClampNeg) → (fX9_readPart t D14 (fun (v17 : Int32) (D22 : Dy) => (vp_in v1 3 ∧ (∀ D23 : Dy, D23 = sI D22 (t + 4) (v1).toNatClampNeg v17 → (vp_in v1 3 ∧ (((D23.1 (t + 4) (v1).toNatClampNeg) < 0 → post (0 : Int32) D23) ∧ (¬ (D23.1 (t + 4) (v1).toNatClampNeg) < 0 → post (1 : Int32) D23)))))))) ∧ (¬ 0 ≤ (D14.1 (t + 3) (v1).toNatClampNeg) → post (0 : Int32) D14)))))))) ∧ (¬ 0 ≤ v1 → post (0 : Int32) D6))))
set_option maxHeartbeats 4000000 in
set_option maxRecDepth 100000 in
theorem ct_X9_readKind {l : Launch} {G : Gl} {S : Sh} {D : Dy} {mdl : Nat → Option (Nat × Nat)} (hF : FX S mdl) {t : Nat} (hT : FT S t)  {post : Int32 → Dy → Prop} (E : fX9_readKind t D post) : Ct l G yX9_readKind cX9_readKind 2 (some .boolean) 2 0 0 S D [.ref (G.1 + t)] (PI S post) := by
  refine z_enter (lv0 := [(0, .ref (G.1 + t))]) pl_9 (Nat.le_of_ble_eq_true rfl) rfl ?_
  intro p e s m args below meth c hC hnm
  unfold fX9_readKind at E
  refine z_aload_n hC dX9_readKind_0 rfl 0 rfl ?_
  refine z_iconst (v := 0) hC dX9_readKind_1 rfl ?_
  refine z_iconst (v := 2) hC dX9_readKind_2 rfl ?_
  refine z_callV (ci := 9) (rest := []) hC (ck_mk lk_X9_77 in_X9_readFigurePart cd_X9_readFigurePart ds_X9_readFigurePart (Nat.le_of_ble_eq_true rfl) (Nat.le_of_ble_eq_true rfl)) iy_X9_readFigurePart sy_X9_readFigurePart cf_9 (by decide) (kT_0 hT) (ct_X9_readFigurePart hF hT E) rfl rfl (Nat.le_of_ble_eq_true rfl) ⟨Nat.le_refl _, Nat.le_refl _⟩ dX9_readKind_3 ?_
  rintro _ _ D6 ⟨v1, rfl, rfl, E⟩
  refine z_istore_n (lv' := [(1, .int v1), (0, .ref (G.1 + t))]) hC dX9_readKind_6 rfl (Nat.le_of_ble_eq_true rfl) rfl ?_
  refine z_iload_n hC dX9_readKind_7 rfl 0 rfl ?_
  refine z_if_ge (tgt := 13) hC dX9_readKind_8 (by decide) (fun c7 => ?_) (fun c7 => ?_)
  · replace E := E.1 c7
    refine z_aload_n hC dX9_readKind_13 rfl 1 rfl ?_
    refine z_get hC lf_X9_22_9 (kT_0 hT) dX9_readKind_14 (fV_ref rfl (rT_9 hT)) ?_
    refine z_iload_n hC dX9_readKind_17 rfl 0 rfl ?_
    refine z_aload_n hC dX9_readKind_18 rfl 1 rfl ?_
    refine z_iconst (v := 0) hC dX9_readKind_19 rfl ?_
    refine z_bipush (v := 9) hC dX9_readKind_20 rfl ?_
    refine z_callV (ci := 9) (rest := [.int v1, .ref (G.1 + (t + 3))]) hC (ck_mk lk_X9_77 in_X9_readFigurePart cd_X9_readFigurePart ds_X9_readFigurePart (Nat.le_of_ble_eq_true rfl) (Nat.le_of_ble_eq_true rfl)) iy_X9_readFigurePart sy_X9_readFigurePart cf_9 (by decide) (kT_0 hT) (ct_X9_readFigurePart hF hT E) rfl rfl (Nat.le_of_ble_eq_true rfl) ⟨Nat.le_refl _, Nat.le_refl _⟩ dX9_readKind_22 ?_
    rintro _ _ D13 ⟨v8, rfl, rfl, E⟩
    refine z_iast hC (kT_3 hT) (nT_3 hT) E.1 dX9_readKind_25 ?_
    replace E := E.2
    refine z_topD (fun D14 h15 => ?_)
    replace E := E D14 h15
    refine z_aload_n hC dX9_readKind_26 rfl 1 rfl ?_
    refine z_get hC lf_X9_22_9 (kT_0 hT) dX9_readKind_27 (fV_ref rfl (rT_9 hT)) ?_
    refine z_iload_n hC dX9_readKind_30 rfl 0 rfl ?_
    refine z_iald hC (kT_3 hT) (nT_3 hT) E.1 dX9_readKind_31 ?_
    replace E := E.2
    refine z_if_ge (tgt := 37) hC dX9_readKind_32 (by decide) (fun c16 => ?_) (fun c16 => ?_)
    · replace E := E.1 c16
      refine z_aload_n hC dX9_readKind_37 rfl 1 rfl ?_
      refine z_get hC lf_X9_25_9 (kT_0 hT) dX9_readKind_38 (fV_ref rfl (rT_10 hT)) ?_
      refine z_iload_n hC dX9_readKind_41 rfl 0 rfl ?_
      refine z_aload_n hC dX9_readKind_42 rfl 1 rfl ?_
      refine z_callV (ci := 9) (rest := [.int v1, .ref (G.1 + (t + 4))]) hC (ck_mk lk_X9_68 in_X9_readPart cd_X9_readPart ds_X9_readPart (Nat.le_of_ble_eq_true rfl) (Nat.le_of_ble_eq_true rfl)) iy_X9_readPart sy_X9_readPart cf_9 (by decide) (kT_0 hT) (ct_X9_readPart hF hT E) rfl rfl (Nat.le_of_ble_eq_true rfl) ⟨Nat.le_refl _, Nat.le_refl _⟩ dX9_readKind_43 ?_
      rintro _ _ D22 ⟨v17, rfl, rfl, E⟩
      refine z_iast hC (kT_4 hT) (nT_4 hT) E.1 dX9_readKind_46 ?_
      replace E := E.2
      refine z_topD (fun D23 h24 => ?_)
      replace E := E D23 h24
      refine z_aload_n hC dX9_readKind_47 rfl 1 rfl ?_
      refine z_get hC lf_X9_25_9 (kT_0 hT) dX9_readKind_48 (fV_ref rfl (rT_10 hT)) ?_
      refine z_iload_n hC dX9_readKind_51 rfl 0 rfl ?_
      refine z_iald hC (kT_4 hT) (nT_4 hT) E.1 dX9_readKind_52 ?_
      replace E := E.2
      refine z_if_lt (tgt := 60) hC dX9_readKind_53 (by decide) (fun c25 => ?_) (fun c25 => ?_)
      · replace E := E.1 c25
        refine z_iconst (v := 0) hC dX9_readKind_60 rfl ?_
        exact z_zret hC dX9_readKind_61 (Or.inl rfl) (Nat.le_refl _) (Nat.le_refl _) ⟨_, rfl, rfl, E⟩
      · replace E := E.2 c25
        refine z_iconst (v := 1) hC dX9_readKind_56 rfl ?_
        refine z_goto (tgt := 61) hC dX9_readKind_57 (by decide) ?_
        exact z_zret hC dX9_readKind_61 (Or.inr rfl) (Nat.le_refl _) (Nat.le_refl _) ⟨_, rfl, rfl, E⟩
    · replace E := E.2 c16
      refine z_iconst (v := 0) hC dX9_readKind_35 rfl ?_
      exact z_zret hC dX9_readKind_36 (Or.inl rfl) (Nat.le_refl _) (Nat.le_refl _) ⟨_, rfl, rfl, E⟩
  · replace E := E.2 c7
    refine z_iconst (v := 0) hC dX9_readKind_11 rfl ?_
    exact z_zret hC dX9_readKind_12 (Or.inl rfl) (Nat.le_refl _) (Nat.le_refl _) ⟨_, rfl, rfl, E⟩
def fX9_rec : Nat → Nat → Nat → Int32 → Dy → (Int32 → Dy → Prop) → Prop
  | 0, _, _, _, _, _ => False
  | n + 1, 0, t, a1, D, post => (JN (fun (v1 : Int32) => (JN (fun (D4 : Dy) => (JN (fun (D7 : Dy) => (fX9_take t (112 : Int32) D7 (fun (v11 : Int32) (D15 : Dy) => ((v11 = 0 → (fX9_take t (109 : Int32) D15 (fun (v18 : Int32) (D22 : Dy) => ((v18 = 0 → (fX9_take t (116 : Int32) D22 (fun (v25 : Int32) (D29 : Dy) => ((v25 = 0 → (fX9_take t (110 : Int32) D29 (fun (v32 : Int32) (D36 : Dy) => (JN (fun (D37 : Dy) => post (0 : Int32) D37) (fun K38 : Dy → Prop => ((v32 = 0 → (K38 D36)) ∧ (¬ v32 = 0 → (fX9_readFigureTest t (5 : Int32) D36 (fun (v42 : Int32) (D46 : Dy) => ((v42 = 0 → (K38 D46)) ∧ (¬ v42 = 0 → post (1 : Int32) D46))))))))))) ∧ (¬ v25 = 0 → (fX9_readFigureTest t (4 : Int32) D29 (fun (v49 : Int32) (D53 : Dy) => ((v49 = 0 ∨ v49 = 1) ∧ post v49 D53)))))))) ∧ (¬ v18 = 0 → (fX9_readFigureTest t (3 : Int32) D22 (fun (v55 : Int32) (D59 : Dy) => ((v55 = 0 ∨ v55 = 1) ∧ post v55 D59)))))))) ∧ (¬ v11 = 0 → (fX9_readPriceTest t D15 (fun (v61 : Int32) (D65 : Dy) => ((v61 = 0 ∨ v61 = 1) ∧ post v61 D65)))))))) (fun K8 : Dy → Prop => ((v1 = 0 → (K8 D4)) ∧ (¬ v1 = 0 → (fX9_take t (40 : Int32) D4 (fun (v68 : Int32) (D72 : Dy) => ((v68 = 0 → (K8 D72)) ∧ (¬ v68 = 0 → (fX9_rec n 2 t (a1 + (1 : Int32)) D72 (fun (v75 : Int32) (D79 : Dy) => (JN (fun (D80 : Dy) => post (0 : Int32) D80) (fun K81 : Dy → Prop => ((v75 = 0 → (K81 D79)) ∧ (¬ v75 = 0 → (fX9_take t (41 : Int32) D79 (fun (v85 : Int32) (D89 : Dy) => ((v85 = 0 → (K81 D89)) ∧ (¬ v85 = 0 → post (1 : Int32) D89))))))))))))))))))) (fun K5 : Dy → Prop => ((v1 = 0 → (K5 D)) ∧ (¬ v1 = 0 → (fX9_take t (33 : Int32) D (fun (v93 : Int32) (D97 : Dy) => ((v93 = 0 → (K5 D97)) ∧ (¬ v93 = 0 → (fX9_rec n 0 t (a1 + (1 : Int32)) D97 (fun (v100 : Int32) (D104 : Dy) => ((¬ v100 = 0 → (fX9_emit t (0 : Int32) (0 : Int32) D104 (fun (D111 : Dy) => post (1 : Int32) D111))) ∧ (v100 = 0 → post (0 : Int32) D104))))))))))))) (fun K2 : Int32 → Prop => (((4 : Int32) ≤ a1 → (K2 (0 : Int32))) ∧ (¬ (4 : Int32) ≤ a1 → (K2 (1 : Int32))))))
  | n + 1, 1, t, a1, D, post => (fX9_rec n 0 t a1 D (fun (v2 : Int32) (D6 : Dy) => ((¬ v2 = 0 → (LP2 (fun (rec10 : Int32 → Dy → Prop) (v8 : Int32) (D9 : Dy) => (((120 : Int32) ≤ v8 → post (1 : Int32) D9) ∧ (¬ (120 : Int32) ≤ v8 → (fX9_take t (38 : Int32) D9 (fun (v14 : Int32) (D18 : Dy) => ((v14 = 0 → post (1 : Int32) D18) ∧ (¬ v14 = 0 → (fX9_rec n 0 t a1 D18 (fun (v21 : Int32) (D25 : Dy) => ((¬ v21 = 0 → (fX9_emit t (1 : Int32) (0 : Int32) D25 (fun (D32 : Dy) => (∀ v33 : Int32, v33 = v8 + 1 → (rec10 v33 D32))))) ∧ (v21 = 0 → post (0 : Int32) D25))))))))))) FU (0 : Int32) D6)) ∧ (v2 = 0 → post (0 : Int32) D6))))
  | n + 1, _ + 2, t, a1, D, post => (fX9_rec n 1 t a1 D (fun (v2 : Int32) (D6 : Dy) => ((¬ v2 = 0 → (LP2 (fun (rec10 : Int32 → Dy → Prop) (v8 : Int32) (D9 : Dy) => (((120 : Int32) ≤ v8 → post (1 : Int32) D9) ∧ (¬ (120 : Int32) ≤ v8 → (fX9_take t (124 : Int32) D9 (fun (v14 : Int32) (D18 : Dy) => ((v14 = 0 → post (1 : Int32) D18) ∧ (¬ v14 = 0 → (fX9_rec n 1 t a1 D18 (fun (v21 : Int32) (D25 : Dy) => ((¬ v21 = 0 → (fX9_emit t (2 : Int32) (0 : Int32) D25 (fun (D32 : Dy) => (∀ v33 : Int32, v33 = v8 + 1 → (rec10 v33 D32))))) ∧ (v21 = 0 → post (0 : Int32) D25))))))))))) FU (0 : Int32) D6)) ∧ (v2 = 0 → post (0 : Int32) D6))))
theorem fX9_rec_0 {n t : Nat} {a1 : Int32} {D : Dy} {post : Int32 → Dy → Prop} : fX9_rec (n + 1) 0 t a1 D post = (JN (fun (v1 : Int32) => (JN (fun (D4 : Dy) => (JN (fun (D7 : Dy) => (fX9_take t (112 : Int32) D7 (fun (v11 : Int32) (D15 : Dy) => ((v11 = 0 → (fX9_take t (109 : Int32) D15 (fun (v18 : Int32) (D22 : Dy) => ((v18 = 0 → (fX9_take t (116 : Int32) D22 (fun (v25 : Int32) (D29 : Dy) => ((v25 = 0 → (fX9_take t (110 : Int32) D29 (fun (v32 : Int32) (D36 : Dy) => (JN (fun (D37 : Dy) => post (0 : Int32) D37) (fun K38 : Dy → Prop => ((v32 = 0 → (K38 D36)) ∧ (¬ v32 = 0 → (fX9_readFigureTest t (5 : Int32) D36 (fun (v42 : Int32) (D46 : Dy) => ((v42 = 0 → (K38 D46)) ∧ (¬ v42 = 0 → post (1 : Int32) D46))))))))))) ∧ (¬ v25 = 0 → (fX9_readFigureTest t (4 : Int32) D29 (fun (v49 : Int32) (D53 : Dy) => ((v49 = 0 ∨ v49 = 1) ∧ post v49 D53)))))))) ∧ (¬ v18 = 0 → (fX9_readFigureTest t (3 : Int32) D22 (fun (v55 : Int32) (D59 : Dy) => ((v55 = 0 ∨ v55 = 1) ∧ post v55 D59)))))))) ∧ (¬ v11 = 0 → (fX9_readPriceTest t D15 (fun (v61 : Int32) (D65 : Dy) => ((v61 = 0 ∨ v61 = 1) ∧ post v61 D65)))))))) (fun K8 : Dy → Prop => ((v1 = 0 → (K8 D4)) ∧ (¬ v1 = 0 → (fX9_take t (40 : Int32) D4 (fun (v68 : Int32) (D72 : Dy) => ((v68 = 0 → (K8 D72)) ∧ (¬ v68 = 0 → (fX9_rec n 2 t (a1 + (1 : Int32)) D72 (fun (v75 : Int32) (D79 : Dy) => (JN (fun (D80 : Dy) => post (0 : Int32) D80) (fun K81 : Dy → Prop => ((v75 = 0 → (K81 D79)) ∧ (¬ v75 = 0 → (fX9_take t (41 : Int32) D79 (fun (v85 : Int32) (D89 : Dy) => ((v85 = 0 → (K81 D89)) ∧ (¬ v85 = 0 → post (1 : Int32) D89))))))))))))))))))) (fun K5 : Dy → Prop => ((v1 = 0 → (K5 D)) ∧ (¬ v1 = 0 → (fX9_take t (33 : Int32) D (fun (v93 : Int32) (D97 : Dy) => ((v93 = 0 → (K5 D97)) ∧ (¬ v93 = 0 → (fX9_rec n 0 t (a1 + (1 : Int32)) D97 (fun (v100 : Int32) (D104 : Dy) => ((¬ v100 = 0 → (fX9_emit t (0 : Int32) (0 : Int32) D104 (fun (D111 : Dy) => post (1 : Int32) D111))) ∧ (v100 = 0 → post (0 : Int32) D104))))))))))))) (fun K2 : Int32 → Prop => (((4 : Int32) ≤ a1 → (K2 (0 : Int32))) ∧ (¬ (4 : Int32) ≤ a1 → (K2 (1 : Int32)))))) := rfl
theorem fX9_rec_1 {n t : Nat} {a1 : Int32} {D : Dy} {post : Int32 → Dy → Prop} : fX9_rec (n + 1) 1 t a1 D post = (fX9_rec n 0 t a1 D (fun (v2 : Int32) (D6 : Dy) => ((¬ v2 = 0 → (LP2 (fun (rec10 : Int32 → Dy → Prop) (v8 : Int32) (D9 : Dy) => (((120 : Int32) ≤ v8 → post (1 : Int32) D9) ∧ (¬ (120 : Int32) ≤ v8 → (fX9_take t (38 : Int32) D9 (fun (v14 : Int32) (D18 : Dy) => ((v14 = 0 → post (1 : Int32) D18) ∧ (¬ v14 = 0 → (fX9_rec n 0 t a1 D18 (fun (v21 : Int32) (D25 : Dy) => ((¬ v21 = 0 → (fX9_emit t (1 : Int32) (0 : Int32) D25 (fun (D32 : Dy) => (∀ v33 : Int32, v33 = v8 + 1 → (rec10 v33 D32))))) ∧ (v21 = 0 → post (0 : Int32) D25))))))))))) FU (0 : Int32) D6)) ∧ (v2 = 0 → post (0 : Int32) D6)))) := rfl
theorem fX9_rec_2 {n t : Nat} {a1 : Int32} {D : Dy} {post : Int32 → Dy → Prop} : fX9_rec (n + 1) 2 t a1 D post = (fX9_rec n 1 t a1 D (fun (v2 : Int32) (D6 : Dy) => ((¬ v2 = 0 → (LP2 (fun (rec10 : Int32 → Dy → Prop) (v8 : Int32) (D9 : Dy) => (((120 : Int32) ≤ v8 → post (1 : Int32) D9) ∧ (¬ (120 : Int32) ≤ v8 → (fX9_take t (124 : Int32) D9 (fun (v14 : Int32) (D18 : Dy) => ((v14 = 0 → post (1 : Int32) D18) ∧ (¬ v14 = 0 → (fX9_rec n 1 t a1 D18 (fun (v21 : Int32) (D25 : Dy) => ((¬ v21 = 0 → (fX9_emit t (2 : Int32) (0 : Int32) D25 (fun (D32 : Dy) => (∀ v33 : Int32, v33 = v8 + 1 → (rec10 v33 D32))))) ∧ (v21 = 0 → post (0 : Int32) D25))))))))))) FU (0 : Int32) D6)) ∧ (v2 = 0 → post (0 : Int32) D6)))) := rfl
def RecC (n : Nat) (l : Launch) (G : Gl) (S : Sh) (t : Nat) : Prop := (∀ {D : Dy} {a1 : Int32} {post : Int32 → Dy → Prop}, fX9_rec n 0 t a1 D post → Ct l G yX9_readOne cX9_readOne 3 (some .boolean) (2 + n) 0 0 S D [.ref (G.1 + t), .int a1] (PI S post)) ∧ (∀ {D : Dy} {a1 : Int32} {post : Int32 → Dy → Prop}, fX9_rec n 1 t a1 D post → Ct l G yX9_readAll cX9_readAll 3 (some .boolean) (2 + n) 0 0 S D [.ref (G.1 + t), .int a1] (PI S post)) ∧ (∀ {D : Dy} {a1 : Int32} {post : Int32 → Dy → Prop}, fX9_rec n 2 t a1 D post → Ct l G yX9_readAny cX9_readAny 3 (some .boolean) (2 + n) 0 0 S D [.ref (G.1 + t), .int a1] (PI S post))
set_option maxHeartbeats 4000000 in
set_option maxRecDepth 100000 in
theorem rec_readOne {l : Launch} {G : Gl} {S : Sh} {mdl : Nat → Option (Nat × Nat)} (hF : FX S mdl) {n : Nat} (ih : ∀ {t : Nat}, FT S t → RecC n l G S t) {t : Nat} (hT : FT S t) {D : Dy} {a1 : Int32} {post : Int32 → Dy → Prop} (E : fX9_rec (n + 1) 0 t a1 D post) : Ct l G yX9_readOne cX9_readOne 3 (some .boolean) (2 + (n + 1)) 0 0 S D [.ref (G.1 + t), .int a1] (PI S post) := by
  refine z_enter (lv0 := [(0, .ref (G.1 + t)), (1, .int a1)]) pl_9 (by first | exact Nat.le_of_ble_eq_true rfl | (simp only [rmH]; omega)) rfl ?_
  intro p e s m args below meth c hC hnm
  rw [fX9_rec_0] at E
  refine z_iload_n hC dX9_readOne_0 rfl 1 rfl ?_
  refine z_iconst (v := 4) hC dX9_readOne_1 rfl ?_
  obtain ⟨K2, hK3, EE⟩ := JN_use E (fun K2 : Int32 → Prop => ∀ (v1 : Int32), K2 v1 → ZM l G p e s m args below meth c 3 (2 + (n + 1)) S (PI S post) S D 10 [(0, .ref (G.1 + t)), (1, .int a1)] [.int v1]) (by
    intro v1 E
    refine z_istore_n (lv' := [(2, .int v1), (0, .ref (G.1 + t)), (1, .int a1)]) hC dX9_readOne_10 rfl (by first | exact Nat.le_of_ble_eq_true rfl | (simp only [rmH]; omega)) rfl ?_
    refine z_iload_n hC dX9_readOne_11 rfl 0 rfl ?_
    obtain ⟨K5, hK6, EE⟩ := JN_use E (fun K5 : Dy → Prop => ∀ (D4 : Dy), K5 D4 → ZM l G p e s m args below meth c 3 (2 + (n + 1)) S (PI S post) S D4 44 [(0, .ref (G.1 + t)), (1, .int a1), (2, .int v1)] []) (by
      intro D4 E
      refine z_iload_n hC dX9_readOne_44 rfl 2 rfl ?_
      obtain ⟨K8, hK9, EE⟩ := JN_use E (fun K8 : Dy → Prop => ∀ (D7 : Dy), K8 D7 → ZM l G p e s m args below meth c 3 (2 + (n + 1)) S (PI S post) S D7 82 [(0, .ref (G.1 + t))] []) (by
        intro D7 E
        refine z_aload_n hC dX9_readOne_82 rfl 0 rfl ?_
        refine z_bipush (v := 112) hC dX9_readOne_83 rfl ?_
        refine z_callV (ci := 9) (rest := []) hC (ck_mk lk_X9_56 in_X9_take cd_X9_take ds_X9_take (by first | exact Nat.le_of_ble_eq_true rfl | (simp only [rmH]; omega)) (by first | exact Nat.le_of_ble_eq_true rfl | (simp only [rmH]; omega))) iy_X9_take sy_X9_take cf_9 (by decide) (kT_0 hT) (ct_X9_take hF hT E) rfl rfl (by first | exact Nat.le_of_ble_eq_true rfl | (simp only [rmH]; omega)) ⟨Nat.le_refl _, Nat.le_refl _⟩ dX9_readOne_85 ?_
        rintro _ _ D15 ⟨v11, rfl, rfl, E⟩
        refine z_if_eq (tgt := 96) hC dX9_readOne_88 (by decide) (fun c16 => ?_) (fun c16 => ?_)
        · replace E := E.1 c16
          refine z_aload_n hC dX9_readOne_96 rfl 0 rfl ?_
          refine z_bipush (v := 109) hC dX9_readOne_97 rfl ?_
          refine z_callV (ci := 9) (rest := []) hC (ck_mk lk_X9_56 in_X9_take cd_X9_take ds_X9_take (by first | exact Nat.le_of_ble_eq_true rfl | (simp only [rmH]; omega)) (by first | exact Nat.le_of_ble_eq_true rfl | (simp only [rmH]; omega))) iy_X9_take sy_X9_take cf_9 (by decide) (kT_0 hT) (ct_X9_take hF hT E) rfl rfl (by first | exact Nat.le_of_ble_eq_true rfl | (simp only [rmH]; omega)) ⟨Nat.le_refl _, Nat.le_refl _⟩ dX9_readOne_99 ?_
          rintro _ _ D22 ⟨v18, rfl, rfl, E⟩
          refine z_if_eq (tgt := 111) hC dX9_readOne_102 (by decide) (fun c23 => ?_) (fun c23 => ?_)
          · replace E := E.1 c23
            refine z_aload_n hC dX9_readOne_111 rfl 0 rfl ?_
            refine z_bipush (v := 116) hC dX9_readOne_112 rfl ?_
            refine z_callV (ci := 9) (rest := []) hC (ck_mk lk_X9_56 in_X9_take cd_X9_take ds_X9_take (by first | exact Nat.le_of_ble_eq_true rfl | (simp only [rmH]; omega)) (by first | exact Nat.le_of_ble_eq_true rfl | (simp only [rmH]; omega))) iy_X9_take sy_X9_take cf_9 (by decide) (kT_0 hT) (ct_X9_take hF hT E) rfl rfl (by first | exact Nat.le_of_ble_eq_true rfl | (simp only [rmH]; omega)) ⟨Nat.le_refl _, Nat.le_refl _⟩ dX9_readOne_114 ?_
            rintro _ _ D29 ⟨v25, rfl, rfl, E⟩
            refine z_if_eq (tgt := 126) hC dX9_readOne_117 (by decide) (fun c30 => ?_) (fun c30 => ?_)
            · replace E := E.1 c30
              refine z_aload_n hC dX9_readOne_126 rfl 0 rfl ?_
              refine z_bipush (v := 110) hC dX9_readOne_127 rfl ?_
              refine z_callV (ci := 9) (rest := []) hC (ck_mk lk_X9_56 in_X9_take cd_X9_take ds_X9_take (by first | exact Nat.le_of_ble_eq_true rfl | (simp only [rmH]; omega)) (by first | exact Nat.le_of_ble_eq_true rfl | (simp only [rmH]; omega))) iy_X9_take sy_X9_take cf_9 (by decide) (kT_0 hT) (ct_X9_take hF hT E) rfl rfl (by first | exact Nat.le_of_ble_eq_true rfl | (simp only [rmH]; omega)) ⟨Nat.le_refl _, Nat.le_refl _⟩ dX9_readOne_129 ?_
              rintro _ _ D36 ⟨v32, rfl, rfl, E⟩
              obtain ⟨K38, hK39, EE⟩ := JN_use E (fun K38 : Dy → Prop => ∀ (D37 : Dy), K38 D37 → ZM l G p e s m args below meth c 3 (2 + (n + 1)) S (PI S post) S D37 147 [] []) (by
                intro D37 E
                refine z_iconst (v := 0) hC dX9_readOne_147 rfl ?_
                exact z_zret hC dX9_readOne_148 (Or.inl rfl) (Nat.le_refl _) (Nat.le_refl _) ⟨_, rfl, rfl, E⟩)
              replace E := EE
              clear EE
              refine z_if_eq (tgt := 147) hC dX9_readOne_132 (by decide) (fun c40 => ?_) (fun c40 => ?_)
              · replace E := E.1 c40
                refine z_sub [] rfl ?_
                exact hK39 D36 E
              · replace E := E.2 c40
                refine z_aload_n hC dX9_readOne_135 rfl 0 rfl ?_
                refine z_iconst (v := 5) hC dX9_readOne_136 rfl ?_
                refine z_callV (ci := 9) (rest := []) hC (ck_mk lk_X9_142 in_X9_readFigureTest cd_X9_readFigureTest ds_X9_readFigureTest (by first | exact Nat.le_of_ble_eq_true rfl | (simp only [rmH]; omega)) (by first | exact Nat.le_of_ble_eq_true rfl | (simp only [rmH]; omega))) iy_X9_readFigureTest sy_X9_readFigureTest cf_9 (by decide) (kT_0 hT) (ct_X9_readFigureTest hF hT E) rfl rfl (by first | exact Nat.le_of_ble_eq_true rfl | (simp only [rmH]; omega)) ⟨Nat.le_refl _, Nat.le_refl _⟩ dX9_readOne_137 ?_
                rintro _ _ D46 ⟨v42, rfl, rfl, E⟩
                refine z_if_eq (tgt := 147) hC dX9_readOne_140 (by decide) (fun c47 => ?_) (fun c47 => ?_)
                · replace E := E.1 c47
                  refine z_sub [] rfl ?_
                  exact hK39 D46 E
                · replace E := E.2 c47
                  refine z_iconst (v := 1) hC dX9_readOne_143 rfl ?_
                  refine z_goto (tgt := 148) hC dX9_readOne_144 (by decide) ?_
                  exact z_zret hC dX9_readOne_148 (Or.inr rfl) (Nat.le_refl _) (Nat.le_refl _) ⟨_, rfl, rfl, E⟩
            · replace E := E.2 c30
              refine z_aload_n hC dX9_readOne_120 rfl 0 rfl ?_
              refine z_iconst (v := 4) hC dX9_readOne_121 rfl ?_
              refine z_callV (ci := 9) (rest := []) hC (ck_mk lk_X9_142 in_X9_readFigureTest cd_X9_readFigureTest ds_X9_readFigureTest (by first | exact Nat.le_of_ble_eq_true rfl | (simp only [rmH]; omega)) (by first | exact Nat.le_of_ble_eq_true rfl | (simp only [rmH]; omega))) iy_X9_readFigureTest sy_X9_readFigureTest cf_9 (by decide) (kT_0 hT) (ct_X9_readFigureTest hF hT E) rfl rfl (by first | exact Nat.le_of_ble_eq_true rfl | (simp only [rmH]; omega)) ⟨Nat.le_refl _, Nat.le_refl _⟩ dX9_readOne_122 ?_
              rintro _ _ D53 ⟨v49, rfl, rfl, E⟩
              exact z_zret hC dX9_readOne_125 E.1 (Nat.le_refl _) (Nat.le_refl _) ⟨_, rfl, rfl, E.2⟩
          · replace E := E.2 c23
            refine z_aload_n hC dX9_readOne_105 rfl 0 rfl ?_
            refine z_iconst (v := 3) hC dX9_readOne_106 rfl ?_
            refine z_callV (ci := 9) (rest := []) hC (ck_mk lk_X9_142 in_X9_readFigureTest cd_X9_readFigureTest ds_X9_readFigureTest (by first | exact Nat.le_of_ble_eq_true rfl | (simp only [rmH]; omega)) (by first | exact Nat.le_of_ble_eq_true rfl | (simp only [rmH]; omega))) iy_X9_readFigureTest sy_X9_readFigureTest cf_9 (by decide) (kT_0 hT) (ct_X9_readFigureTest hF hT E) rfl rfl (by first | exact Nat.le_of_ble_eq_true rfl | (simp only [rmH]; omega)) ⟨Nat.le_refl _, Nat.le_refl _⟩ dX9_readOne_107 ?_
            rintro _ _ D59 ⟨v55, rfl, rfl, E⟩
            exact z_zret hC dX9_readOne_110 E.1 (Nat.le_refl _) (Nat.le_refl _) ⟨_, rfl, rfl, E.2⟩
        · replace E := E.2 c16
          refine z_aload_n hC dX9_readOne_91 rfl 0 rfl ?_
          refine z_callV (ci := 9) (rest := []) hC (ck_mk lk_X9_139 in_X9_readPriceTest cd_X9_readPriceTest ds_X9_readPriceTest (by first | exact Nat.le_of_ble_eq_true rfl | (simp only [rmH]; omega)) (by first | exact Nat.le_of_ble_eq_true rfl | (simp only [rmH]; omega))) iy_X9_readPriceTest sy_X9_readPriceTest cf_9 (by decide) (kT_0 hT) (ct_X9_readPriceTest hF hT E) rfl rfl (by first | exact Nat.le_of_ble_eq_true rfl | (simp only [rmH]; omega)) ⟨Nat.le_refl _, Nat.le_refl _⟩ dX9_readOne_92 ?_
          rintro _ _ D65 ⟨v61, rfl, rfl, E⟩
          exact z_zret hC dX9_readOne_95 E.1 (Nat.le_refl _) (Nat.le_refl _) ⟨_, rfl, rfl, E.2⟩)
      replace E := EE
      clear EE
      refine z_if_eq (tgt := 82) hC dX9_readOne_45 (by decide) (fun c66 => ?_) (fun c66 => ?_)
      · replace E := E.1 c66
        refine z_sub [0] rfl ?_
        exact hK9 D4 E
      · replace E := E.2 c66
        refine z_aload_n hC dX9_readOne_48 rfl 0 rfl ?_
        refine z_bipush (v := 40) hC dX9_readOne_49 rfl ?_
        refine z_callV (ci := 9) (rest := []) hC (ck_mk lk_X9_56 in_X9_take cd_X9_take ds_X9_take (by first | exact Nat.le_of_ble_eq_true rfl | (simp only [rmH]; omega)) (by first | exact Nat.le_of_ble_eq_true rfl | (simp only [rmH]; omega))) iy_X9_take sy_X9_take cf_9 (by decide) (kT_0 hT) (ct_X9_take hF hT E) rfl rfl (by first | exact Nat.le_of_ble_eq_true rfl | (simp only [rmH]; omega)) ⟨Nat.le_refl _, Nat.le_refl _⟩ dX9_readOne_51 ?_
        rintro _ _ D72 ⟨v68, rfl, rfl, E⟩
        refine z_if_eq (tgt := 82) hC dX9_readOne_54 (by decide) (fun c73 => ?_) (fun c73 => ?_)
        · replace E := E.1 c73
          refine z_sub [0] rfl ?_
          exact hK9 D72 E
        · replace E := E.2 c73
          refine z_aload_n hC dX9_readOne_57 rfl 0 rfl ?_
          refine z_iload_n hC dX9_readOne_58 rfl 1 rfl ?_
          refine z_iconst (v := 1) hC dX9_readOne_59 rfl ?_
          refine z_iadd hC dX9_readOne_60 ?_
          refine z_callV (ci := 9) (rest := []) hC (ck_mk lk_X9_84 in_X9_readAny cd_X9_readAny ds_X9_readAny (by first | exact Nat.le_of_ble_eq_true rfl | (simp only [rmH]; omega)) (by first | exact Nat.le_of_ble_eq_true rfl | (simp only [rmH]; omega))) iy_X9_readAny sy_X9_readAny cf_9 (by decide) (kT_0 hT) (((ih hT).2.2) E) rfl rfl (by first | exact Nat.le_of_ble_eq_true rfl | (simp only [rmH]; omega)) ⟨Nat.le_refl _, Nat.le_refl _⟩ dX9_readOne_61 ?_
          rintro _ _ D79 ⟨v75, rfl, rfl, E⟩
          obtain ⟨K81, hK82, EE⟩ := JN_use E (fun K81 : Dy → Prop => ∀ (D80 : Dy), K81 D80 → ZM l G p e s m args below meth c 3 (2 + (n + 1)) S (PI S post) S D80 80 [] []) (by
            intro D80 E
            refine z_iconst (v := 0) hC dX9_readOne_80 rfl ?_
            exact z_zret hC dX9_readOne_81 (Or.inl rfl) (Nat.le_refl _) (Nat.le_refl _) ⟨_, rfl, rfl, E⟩)
          replace E := EE
          clear EE
          refine z_if_eq (tgt := 80) hC dX9_readOne_64 (by decide) (fun c83 => ?_) (fun c83 => ?_)
          · replace E := E.1 c83
            refine z_sub [] rfl ?_
            exact hK82 D79 E
          · replace E := E.2 c83
            refine z_aload_n hC dX9_readOne_67 rfl 0 rfl ?_
            refine z_bipush (v := 41) hC dX9_readOne_68 rfl ?_
            refine z_callV (ci := 9) (rest := []) hC (ck_mk lk_X9_56 in_X9_take cd_X9_take ds_X9_take (by first | exact Nat.le_of_ble_eq_true rfl | (simp only [rmH]; omega)) (by first | exact Nat.le_of_ble_eq_true rfl | (simp only [rmH]; omega))) iy_X9_take sy_X9_take cf_9 (by decide) (kT_0 hT) (ct_X9_take hF hT E) rfl rfl (by first | exact Nat.le_of_ble_eq_true rfl | (simp only [rmH]; omega)) ⟨Nat.le_refl _, Nat.le_refl _⟩ dX9_readOne_70 ?_
            rintro _ _ D89 ⟨v85, rfl, rfl, E⟩
            refine z_if_eq (tgt := 80) hC dX9_readOne_73 (by decide) (fun c90 => ?_) (fun c90 => ?_)
            · replace E := E.1 c90
              refine z_sub [] rfl ?_
              exact hK82 D89 E
            · replace E := E.2 c90
              refine z_iconst (v := 1) hC dX9_readOne_76 rfl ?_
              refine z_goto (tgt := 81) hC dX9_readOne_77 (by decide) ?_
              exact z_zret hC dX9_readOne_81 (Or.inr rfl) (Nat.le_refl _) (Nat.le_refl _) ⟨_, rfl, rfl, E⟩)
    replace E := EE
    clear EE
    refine z_if_eq (tgt := 44) hC dX9_readOne_12 (by decide) (fun c91 => ?_) (fun c91 => ?_)
    · replace E := E.1 c91
      refine z_sub [1, 2, 0] rfl ?_
      exact hK6 D E
    · replace E := E.2 c91
      refine z_aload_n hC dX9_readOne_15 rfl 1 rfl ?_
      refine z_bipush (v := 33) hC dX9_readOne_16 rfl ?_
      refine z_callV (ci := 9) (rest := []) hC (ck_mk lk_X9_56 in_X9_take cd_X9_take ds_X9_take (by first | exact Nat.le_of_ble_eq_true rfl | (simp only [rmH]; omega)) (by first | exact Nat.le_of_ble_eq_true rfl | (simp only [rmH]; omega))) iy_X9_take sy_X9_take cf_9 (by decide) (kT_0 hT) (ct_X9_take hF hT E) rfl rfl (by first | exact Nat.le_of_ble_eq_true rfl | (simp only [rmH]; omega)) ⟨Nat.le_refl _, Nat.le_refl _⟩ dX9_readOne_18 ?_
      rintro _ _ D97 ⟨v93, rfl, rfl, E⟩
      refine z_if_eq (tgt := 44) hC dX9_readOne_21 (by decide) (fun c98 => ?_) (fun c98 => ?_)
      · replace E := E.1 c98
        refine z_sub [1, 2, 0] rfl ?_
        exact hK6 D97 E
      · replace E := E.2 c98
        refine z_aload_n hC dX9_readOne_24 rfl 1 rfl ?_
        refine z_iload_n hC dX9_readOne_25 rfl 2 rfl ?_
        refine z_iconst (v := 1) hC dX9_readOne_26 rfl ?_
        refine z_iadd hC dX9_readOne_27 ?_
        refine z_callV (ci := 9) (rest := []) hC (ck_mk lk_X9_136 in_X9_readOne cd_X9_readOne ds_X9_readOne (by first | exact Nat.le_of_ble_eq_true rfl | (simp only [rmH]; omega)) (by first | exact Nat.le_of_ble_eq_true rfl | (simp only [rmH]; omega))) iy_X9_readOne sy_X9_readOne cf_9 (by decide) (kT_0 hT) (((ih hT).1) E) rfl rfl (by first | exact Nat.le_of_ble_eq_true rfl | (simp only [rmH]; omega)) ⟨Nat.le_refl _, Nat.le_refl _⟩ dX9_readOne_28 ?_
        rintro _ _ D104 ⟨v100, rfl, rfl, E⟩
        refine z_if_ne (tgt := 36) hC dX9_readOne_31 (by decide) (fun c105 => ?_) (fun c105 => ?_)
        · replace E := E.1 c105
          refine z_aload_n hC dX9_readOne_36 rfl 1 rfl ?_
          refine z_iconst (v := 0) hC dX9_readOne_37 rfl ?_
          refine z_iconst (v := 0) hC dX9_readOne_38 rfl ?_
          refine z_callV (ci := 9) (rest := []) hC (ck_mk lk_X9_132 in_X9_emit cd_X9_emit ds_X9_emit (by first | exact Nat.le_of_ble_eq_true rfl | (simp only [rmH]; omega)) (by first | exact Nat.le_of_ble_eq_true rfl | (simp only [rmH]; omega))) iy_X9_emit sy_X9_emit cf_9 (by decide) (kT_0 hT) (ct_X9_emit hF hT E) rfl rfl (by first | exact Nat.le_of_ble_eq_true rfl | (simp only [rmH]; omega)) ⟨Nat.le_refl _, Nat.le_refl _⟩ dX9_readOne_39 ?_
          rintro _ _ D111 ⟨rfl, rfl, E⟩
          refine z_iconst (v := 1) hC dX9_readOne_42 rfl ?_
          exact z_zret hC dX9_readOne_43 (Or.inr rfl) (Nat.le_refl _) (Nat.le_refl _) ⟨_, rfl, rfl, E⟩
        · replace E := E.2 c105
          refine z_iconst (v := 0) hC dX9_readOne_34 rfl ?_
          exact z_zret hC dX9_readOne_35 (Or.inl rfl) (Nat.le_refl _) (Nat.le_refl _) ⟨_, rfl, rfl, E⟩)
  replace E := EE
  clear EE
  refine z_icmp_ge (tgt := 9) hC dX9_readOne_2 (by decide) (fun c112 => ?_) (fun c112 => ?_)
  · replace E := E.1 c112
    refine z_iconst (v := 0) hC dX9_readOne_9 rfl ?_
    exact hK3 (0 : Int32) E
  · replace E := E.2 c112
    refine z_iconst (v := 1) hC dX9_readOne_5 rfl ?_
    refine z_goto (tgt := 10) hC dX9_readOne_6 (by decide) ?_
    exact hK3 (1 : Int32) E
set_option maxHeartbeats 4000000 in
set_option maxRecDepth 100000 in
theorem rec_readAll {l : Launch} {G : Gl} {S : Sh} {mdl : Nat → Option (Nat × Nat)} (hF : FX S mdl) {n : Nat} (ih : ∀ {t : Nat}, FT S t → RecC n l G S t) {t : Nat} (hT : FT S t) {D : Dy} {a1 : Int32} {post : Int32 → Dy → Prop} (E : fX9_rec (n + 1) 1 t a1 D post) : Ct l G yX9_readAll cX9_readAll 3 (some .boolean) (2 + (n + 1)) 0 0 S D [.ref (G.1 + t), .int a1] (PI S post) := by
  refine z_enter (lv0 := [(0, .ref (G.1 + t)), (1, .int a1)]) pl_9 (by first | exact Nat.le_of_ble_eq_true rfl | (simp only [rmH]; omega)) rfl ?_
  intro p e s m args below meth c hC hnm
  rw [fX9_rec_1] at E
  refine z_aload_n hC dX9_readAll_0 rfl 0 rfl ?_
  refine z_iload_n hC dX9_readAll_1 rfl 1 rfl ?_
  refine z_callV (ci := 9) (rest := []) hC (ck_mk lk_X9_136 in_X9_readOne cd_X9_readOne ds_X9_readOne (by first | exact Nat.le_of_ble_eq_true rfl | (simp only [rmH]; omega)) (by first | exact Nat.le_of_ble_eq_true rfl | (simp only [rmH]; omega))) iy_X9_readOne sy_X9_readOne cf_9 (by decide) (kT_0 hT) (((ih hT).1) E) rfl rfl (by first | exact Nat.le_of_ble_eq_true rfl | (simp only [rmH]; omega)) ⟨Nat.le_refl _, Nat.le_refl _⟩ dX9_readAll_2 ?_
  rintro _ _ D6 ⟨v2, rfl, rfl, E⟩
  refine z_if_ne (tgt := 10) hC dX9_readAll_5 (by decide) (fun c7 => ?_) (fun c7 => ?_)
  · replace E := E.1 c7
    refine z_iconst (v := 0) hC dX9_readAll_10 rfl ?_
    refine z_istore_n (lv' := [(2, .int (0 : Int32)), (0, .ref (G.1 + t)), (1, .int a1)]) hC dX9_readAll_11 rfl (by first | exact Nat.le_of_ble_eq_true rfl | (simp only [rmH]; omega)) rfl ?_
    refine z_sub [1, 2, 0] rfl ?_
    refine LP2_use (fun (v8 : Int32) (D9 : Dy) => ZM l G p e s m args below meth c 3 (2 + (n + 1)) S (PI S post) S D9 12 [(0, .ref (G.1 + t)), (1, .int a1), (2, .int v8)] []) ?_ FU (0 : Int32) D6 E
    intro rec10 hrec11 v8 D9 E
    refine z_iload_n hC dX9_readAll_12 rfl 2 rfl ?_
    refine z_bipush (v := 120) hC dX9_readAll_13 rfl ?_
    refine z_icmp_ge (tgt := 49) hC dX9_readAll_15 (by decide) (fun c12 => ?_) (fun c12 => ?_)
    · replace E := E.1 c12
      refine z_iconst (v := 1) hC dX9_readAll_49 rfl ?_
      exact z_zret hC dX9_readAll_50 (Or.inr rfl) (Nat.le_refl _) (Nat.le_refl _) ⟨_, rfl, rfl, E⟩
    · replace E := E.2 c12
      refine z_aload_n hC dX9_readAll_18 rfl 0 rfl ?_
      refine z_bipush (v := 38) hC dX9_readAll_19 rfl ?_
      refine z_callV (ci := 9) (rest := []) hC (ck_mk lk_X9_56 in_X9_take cd_X9_take ds_X9_take (by first | exact Nat.le_of_ble_eq_true rfl | (simp only [rmH]; omega)) (by first | exact Nat.le_of_ble_eq_true rfl | (simp only [rmH]; omega))) iy_X9_take sy_X9_take cf_9 (by decide) (kT_0 hT) (ct_X9_take hF hT E) rfl rfl (by first | exact Nat.le_of_ble_eq_true rfl | (simp only [rmH]; omega)) ⟨Nat.le_refl _, Nat.le_refl _⟩ dX9_readAll_21 ?_
      rintro _ _ D18 ⟨v14, rfl, rfl, E⟩
      refine z_if_eq (tgt := 49) hC dX9_readAll_24 (by decide) (fun c19 => ?_) (fun c19 => ?_)
      · replace E := E.1 c19
        refine z_iconst (v := 1) hC dX9_readAll_49 rfl ?_
        exact z_zret hC dX9_readAll_50 (Or.inr rfl) (Nat.le_refl _) (Nat.le_refl _) ⟨_, rfl, rfl, E⟩
      · replace E := E.2 c19
        refine z_aload_n hC dX9_readAll_27 rfl 0 rfl ?_
        refine z_iload_n hC dX9_readAll_28 rfl 1 rfl ?_
        refine z_callV (ci := 9) (rest := []) hC (ck_mk lk_X9_136 in_X9_readOne cd_X9_readOne ds_X9_readOne (by first | exact Nat.le_of_ble_eq_true rfl | (simp only [rmH]; omega)) (by first | exact Nat.le_of_ble_eq_true rfl | (simp only [rmH]; omega))) iy_X9_readOne sy_X9_readOne cf_9 (by decide) (kT_0 hT) (((ih hT).1) E) rfl rfl (by first | exact Nat.le_of_ble_eq_true rfl | (simp only [rmH]; omega)) ⟨Nat.le_refl _, Nat.le_refl _⟩ dX9_readAll_29 ?_
        rintro _ _ D25 ⟨v21, rfl, rfl, E⟩
        refine z_if_ne (tgt := 37) hC dX9_readAll_32 (by decide) (fun c26 => ?_) (fun c26 => ?_)
        · replace E := E.1 c26
          refine z_aload_n hC dX9_readAll_37 rfl 0 rfl ?_
          refine z_iconst (v := 1) hC dX9_readAll_38 rfl ?_
          refine z_iconst (v := 0) hC dX9_readAll_39 rfl ?_
          refine z_callV (ci := 9) (rest := []) hC (ck_mk lk_X9_132 in_X9_emit cd_X9_emit ds_X9_emit (by first | exact Nat.le_of_ble_eq_true rfl | (simp only [rmH]; omega)) (by first | exact Nat.le_of_ble_eq_true rfl | (simp only [rmH]; omega))) iy_X9_emit sy_X9_emit cf_9 (by decide) (kT_0 hT) (ct_X9_emit hF hT E) rfl rfl (by first | exact Nat.le_of_ble_eq_true rfl | (simp only [rmH]; omega)) ⟨Nat.le_refl _, Nat.le_refl _⟩ dX9_readAll_40 ?_
          rintro _ _ D32 ⟨rfl, rfl, E⟩
          obtain ⟨v33, h34⟩ : ∃ y : Int32, y = v8 + 1 := ⟨_, rfl⟩
          replace E := E v33 h34
          refine z_iinc (q := 2) (v := v33) (lv' := [(2, .int v33), (0, .ref (G.1 + t)), (1, .int a1)]) hC dX9_readAll_43 rfl (by rw [h34]; rfl) (by first | exact Nat.le_of_ble_eq_true rfl | (simp only [rmH]; omega)) rfl ?_
          refine z_goto (tgt := 12) hC dX9_readAll_46 (by decide) ?_
          refine z_sub [1, 2, 0] rfl ?_
          exact hrec11 v33 D32 E
        · replace E := E.2 c26
          refine z_iconst (v := 0) hC dX9_readAll_35 rfl ?_
          exact z_zret hC dX9_readAll_36 (Or.inl rfl) (Nat.le_refl _) (Nat.le_refl _) ⟨_, rfl, rfl, E⟩
  · replace E := E.2 c7
    refine z_iconst (v := 0) hC dX9_readAll_8 rfl ?_
    exact z_zret hC dX9_readAll_9 (Or.inl rfl) (Nat.le_refl _) (Nat.le_refl _) ⟨_, rfl, rfl, E⟩
set_option maxHeartbeats 4000000 in
set_option maxRecDepth 100000 in
theorem rec_readAny {l : Launch} {G : Gl} {S : Sh} {mdl : Nat → Option (Nat × Nat)} (hF : FX S mdl) {n : Nat} (ih : ∀ {t : Nat}, FT S t → RecC n l G S t) {t : Nat} (hT : FT S t) {D : Dy} {a1 : Int32} {post : Int32 → Dy → Prop} (E : fX9_rec (n + 1) 2 t a1 D post) : Ct l G yX9_readAny cX9_readAny 3 (some .boolean) (2 + (n + 1)) 0 0 S D [.ref (G.1 + t), .int a1] (PI S post) := by
  refine z_enter (lv0 := [(0, .ref (G.1 + t)), (1, .int a1)]) pl_9 (by first | exact Nat.le_of_ble_eq_true rfl | (simp only [rmH]; omega)) rfl ?_
  intro p e s m args below meth c hC hnm
  rw [fX9_rec_2] at E
  refine z_aload_n hC dX9_readAny_0 rfl 0 rfl ?_
  refine z_iload_n hC dX9_readAny_1 rfl 1 rfl ?_
  refine z_callV (ci := 9) (rest := []) hC (ck_mk lk_X9_129 in_X9_readAll cd_X9_readAll ds_X9_readAll (by first | exact Nat.le_of_ble_eq_true rfl | (simp only [rmH]; omega)) (by first | exact Nat.le_of_ble_eq_true rfl | (simp only [rmH]; omega))) iy_X9_readAll sy_X9_readAll cf_9 (by decide) (kT_0 hT) (((ih hT).2.1) E) rfl rfl (by first | exact Nat.le_of_ble_eq_true rfl | (simp only [rmH]; omega)) ⟨Nat.le_refl _, Nat.le_refl _⟩ dX9_readAny_2 ?_
  rintro _ _ D6 ⟨v2, rfl, rfl, E⟩
  refine z_if_ne (tgt := 10) hC dX9_readAny_5 (by decide) (fun c7 => ?_) (fun c7 => ?_)
  · replace E := E.1 c7
    refine z_iconst (v := 0) hC dX9_readAny_10 rfl ?_
    refine z_istore_n (lv' := [(2, .int (0 : Int32)), (0, .ref (G.1 + t)), (1, .int a1)]) hC dX9_readAny_11 rfl (by first | exact Nat.le_of_ble_eq_true rfl | (simp only [rmH]; omega)) rfl ?_
    refine z_sub [1, 2, 0] rfl ?_
    refine LP2_use (fun (v8 : Int32) (D9 : Dy) => ZM l G p e s m args below meth c 3 (2 + (n + 1)) S (PI S post) S D9 12 [(0, .ref (G.1 + t)), (1, .int a1), (2, .int v8)] []) ?_ FU (0 : Int32) D6 E
    intro rec10 hrec11 v8 D9 E
    refine z_iload_n hC dX9_readAny_12 rfl 2 rfl ?_
    refine z_bipush (v := 120) hC dX9_readAny_13 rfl ?_
    refine z_icmp_ge (tgt := 49) hC dX9_readAny_15 (by decide) (fun c12 => ?_) (fun c12 => ?_)
    · replace E := E.1 c12
      refine z_iconst (v := 1) hC dX9_readAny_49 rfl ?_
      exact z_zret hC dX9_readAny_50 (Or.inr rfl) (Nat.le_refl _) (Nat.le_refl _) ⟨_, rfl, rfl, E⟩
    · replace E := E.2 c12
      refine z_aload_n hC dX9_readAny_18 rfl 0 rfl ?_
      refine z_bipush (v := 124) hC dX9_readAny_19 rfl ?_
      refine z_callV (ci := 9) (rest := []) hC (ck_mk lk_X9_56 in_X9_take cd_X9_take ds_X9_take (by first | exact Nat.le_of_ble_eq_true rfl | (simp only [rmH]; omega)) (by first | exact Nat.le_of_ble_eq_true rfl | (simp only [rmH]; omega))) iy_X9_take sy_X9_take cf_9 (by decide) (kT_0 hT) (ct_X9_take hF hT E) rfl rfl (by first | exact Nat.le_of_ble_eq_true rfl | (simp only [rmH]; omega)) ⟨Nat.le_refl _, Nat.le_refl _⟩ dX9_readAny_21 ?_
      rintro _ _ D18 ⟨v14, rfl, rfl, E⟩
      refine z_if_eq (tgt := 49) hC dX9_readAny_24 (by decide) (fun c19 => ?_) (fun c19 => ?_)
      · replace E := E.1 c19
        refine z_iconst (v := 1) hC dX9_readAny_49 rfl ?_
        exact z_zret hC dX9_readAny_50 (Or.inr rfl) (Nat.le_refl _) (Nat.le_refl _) ⟨_, rfl, rfl, E⟩
      · replace E := E.2 c19
        refine z_aload_n hC dX9_readAny_27 rfl 0 rfl ?_
        refine z_iload_n hC dX9_readAny_28 rfl 1 rfl ?_
        refine z_callV (ci := 9) (rest := []) hC (ck_mk lk_X9_129 in_X9_readAll cd_X9_readAll ds_X9_readAll (by first | exact Nat.le_of_ble_eq_true rfl | (simp only [rmH]; omega)) (by first | exact Nat.le_of_ble_eq_true rfl | (simp only [rmH]; omega))) iy_X9_readAll sy_X9_readAll cf_9 (by decide) (kT_0 hT) (((ih hT).2.1) E) rfl rfl (by first | exact Nat.le_of_ble_eq_true rfl | (simp only [rmH]; omega)) ⟨Nat.le_refl _, Nat.le_refl _⟩ dX9_readAny_29 ?_
        rintro _ _ D25 ⟨v21, rfl, rfl, E⟩
        refine z_if_ne (tgt := 37) hC dX9_readAny_32 (by decide) (fun c26 => ?_) (fun c26 => ?_)
        · replace E := E.1 c26
          refine z_aload_n hC dX9_readAny_37 rfl 0 rfl ?_
          refine z_iconst (v := 2) hC dX9_readAny_38 rfl ?_
          refine z_iconst (v := 0) hC dX9_readAny_39 rfl ?_
          refine z_callV (ci := 9) (rest := []) hC (ck_mk lk_X9_132 in_X9_emit cd_X9_emit ds_X9_emit (by first | exact Nat.le_of_ble_eq_true rfl | (simp only [rmH]; omega)) (by first | exact Nat.le_of_ble_eq_true rfl | (simp only [rmH]; omega))) iy_X9_emit sy_X9_emit cf_9 (by decide) (kT_0 hT) (ct_X9_emit hF hT E) rfl rfl (by first | exact Nat.le_of_ble_eq_true rfl | (simp only [rmH]; omega)) ⟨Nat.le_refl _, Nat.le_refl _⟩ dX9_readAny_40 ?_
          rintro _ _ D32 ⟨rfl, rfl, E⟩
          obtain ⟨v33, h34⟩ : ∃ y : Int32, y = v8 + 1 := ⟨_, rfl⟩
          replace E := E v33 h34
          refine z_iinc (q := 2) (v := v33) (lv' := [(2, .int v33), (0, .ref (G.1 + t)), (1, .int a1)]) hC dX9_readAny_43 rfl (by rw [h34]; rfl) (by first | exact Nat.le_of_ble_eq_true rfl | (simp only [rmH]; omega)) rfl ?_
          refine z_goto (tgt := 12) hC dX9_readAny_46 (by decide) ?_
          refine z_sub [1, 2, 0] rfl ?_
          exact hrec11 v33 D32 E
        · replace E := E.2 c26
          refine z_iconst (v := 0) hC dX9_readAny_35 rfl ?_
          exact z_zret hC dX9_readAny_36 (Or.inl rfl) (Nat.le_refl _) (Nat.le_refl _) ⟨_, rfl, rfl, E⟩
  · replace E := E.2 c7
    refine z_iconst (v := 0) hC dX9_readAny_8 rfl ?_
    exact z_zret hC dX9_readAny_9 (Or.inl rfl) (Nat.le_refl _) (Nat.le_refl _) ⟨_, rfl, rfl, E⟩
theorem rec_all {l : Launch} {G : Gl} {S : Sh} {mdl : Nat → Option (Nat × Nat)} (hF : FX S mdl) (n : Nat) : ∀ {t : Nat}, FT S t → RecC n l G S t := by
  induction n with
  | zero => exact fun hT => ⟨fun E => E.elim, fun E => E.elim, fun E => E.elim⟩
  | succ n ih => exact fun hT => ⟨fun E => rec_readOne hF ih hT E, fun E => rec_readAll hF ih hT E, fun E => rec_readAny hF ih hT E⟩
def fX9_readOne (t : Nat) (a1 : Int32) (D : Dy) (post : Int32 → Dy → Prop) : Prop := fX9_rec 16 0 t a1 D post
theorem ct_X9_readOne {l : Launch} {G : Gl} {S : Sh} {D : Dy} {mdl : Nat → Option (Nat × Nat)} (hF : FX S mdl) {t : Nat} (hT : FT S t) {a1 : Int32} {post : Int32 → Dy → Prop} (E : fX9_readOne t a1 D post) : Ct l G yX9_readOne cX9_readOne 3 (some .boolean) 18 0 0 S D [.ref (G.1 + t), .int a1] (PI S post) := (rec_all hF 16 hT).1 E
def fX9_readAll (t : Nat) (a1 : Int32) (D : Dy) (post : Int32 → Dy → Prop) : Prop := fX9_rec 16 1 t a1 D post
theorem ct_X9_readAll {l : Launch} {G : Gl} {S : Sh} {D : Dy} {mdl : Nat → Option (Nat × Nat)} (hF : FX S mdl) {t : Nat} (hT : FT S t) {a1 : Int32} {post : Int32 → Dy → Prop} (E : fX9_readAll t a1 D post) : Ct l G yX9_readAll cX9_readAll 3 (some .boolean) 18 0 0 S D [.ref (G.1 + t), .int a1] (PI S post) := (rec_all hF 16 hT).2.1 E
def fX9_readAny (t : Nat) (a1 : Int32) (D : Dy) (post : Int32 → Dy → Prop) : Prop := fX9_rec 16 2 t a1 D post
theorem ct_X9_readAny {l : Launch} {G : Gl} {S : Sh} {D : Dy} {mdl : Nat → Option (Nat × Nat)} (hF : FX S mdl) {t : Nat} (hT : FT S t) {a1 : Int32} {post : Int32 → Dy → Prop} (E : fX9_readAny t a1 D post) : Ct l G yX9_readAny cX9_readAny 3 (some .boolean) 18 0 0 S D [.ref (G.1 + t), .int a1] (PI S post) := (rec_all hF 16 hT).2.2 E
def fX9_readClause (t : Nat) (D : Dy) (post : Int32 → Dy → Prop) : Prop :=
  (fX9_readWord t D (fun (v1 : Int32) (D6 : Dy) => ((v1 = (0 : Int32) → (fX9_readWorth t (t + 1) 6 D6 (fun (v9 : Int32) (D13 : Dy) => ((v9 = 0 ∨ v9 = 1) ∧ post v9 D13)))) ∧ (¬ v1 = (0 : Int32) → ((v1 = (1 : Int32) → (fX9_readWorth t (t + 2) 8 D6 (fun (v16 : Int32) (D20 : Dy) => ((v16 = 0 ∨ v16 = 1) ∧ post v16 D20)))) ∧ (¬ v1 = (1 : Int32) → ((v1 = (2 : Int32) → (fX9_readPart t D6 (fun (v22 : Int32) (D27 : Dy) => (∀ D28 : Dy, D28 = sI D27 t 6 v22 → (((D28.1 t 6) < 0 → post (0 : Int32) D28) ∧ (¬ (D28.1 t 6) < 0 → post (1 : Int32) D28)))))) ∧ (¬ v1 = (2 : Int32) → ((v1 = (3 : Int32) → (fX9_readPart t D6 (fun (v32 : Int32) (D37 : Dy) => (∀ D38 : Dy, D38 = sI D37 t 7 v32 → (((D38.1 t 7) < 0 → post (0 : Int32) D38) ∧ (¬ (D38.1 t 7) < 0 → post (1 : Int32) D38)))))) ∧ (¬ v1 = (3 : Int32) → ((v1 = (4 : Int32) → (fX9_readFigurePart t (1 : Int32) (9 : Int32) D6 (fun (v42 : Int32) (D47 : Dy) => (∀ D48 : Dy, D48 = sI D47 t 8 v42 → (((D48.1 t 8) < 0 → post (0 : Int32) D48) ∧ (¬ (D48.1 t 8) < 0 → post (1 : Int32) D48)))))) ∧ (¬ v1 = (4 : Int32) → ((v1 = (5 : Int32) → (fX9_readKind t D6 (fun (v53 : Int32) (D57 : Dy) => ((v53 = 0 ∨ v53 = 1) ∧ post v53 D57)))) ∧ (¬ v1 = (5 : Int32) → ((v1 = (6 : Int32) → (fX9_take t (32 : Int32) D6 (fun (v60 : Int32) (D64 : Dy) => (JN (fun (D65 : Dy) => post (0 : Int32) D65) (fun K66 : Dy → Prop => ((v60 = 0 → (K66 D64)) ∧ (¬ v60 = 0 → (fX9_readAny t (0 : Int32) D64 (fun (v70 : Int32) (D74 : Dy) => ((v70 = 0 → (K66 D74)) ∧ (¬ v70 = 0 → (fX9_endPick t D74 (fun (v77 : Int32) (D81 : Dy) => ((v77 = 0 → (K66 D81)) ∧ (¬ v77 = 0 → post (1 : Int32) D81))))))))))))))) ∧ (¬ v1 = (6 : Int32) → post (0 : Int32) D6))))))))))))))))
set_option maxHeartbeats 4000000 in
set_option maxRecDepth 100000 in
theorem ct_X9_readClause {l : Launch} {G : Gl} {S : Sh} {D : Dy} {mdl : Nat → Option (Nat × Nat)} (hF : FX S mdl) {t : Nat} (hT : FT S t)  {post : Int32 → Dy → Prop} (E : fX9_readClause t D post) : Ct l G yX9_readClause cX9_readClause 1 (some .boolean) 19 0 0 S D [.ref (G.1 + t)] (PI S post) := by
  refine z_enter (lv0 := [(0, .ref (G.1 + t))]) pl_9 (Nat.le_of_ble_eq_true rfl) rfl ?_
  intro p e s m args below meth c hC hnm
  unfold fX9_readClause at E
  refine z_aload_n hC dX9_readClause_0 rfl 0 rfl ?_
  refine z_callV (ci := 9) (rest := []) hC (ck_mk lk_X9_60 in_X9_readWord cd_X9_readWord ds_X9_readWord (Nat.le_of_ble_eq_true rfl) (Nat.le_of_ble_eq_true rfl)) iy_X9_readWord sy_X9_readWord cf_9 (by decide) (kT_0 hT) (ct_X9_readWord hF hT E) rfl rfl (Nat.le_of_ble_eq_true rfl) ⟨Nat.le_refl _, Nat.le_refl _⟩ dX9_readClause_1 ?_
  rintro _ _ D6 ⟨v1, rfl, rfl, E⟩
  by_cases c7 : v1 = (0 : Int32)
  · replace E := E.1 c7
    refine z_tableIn (tgt := 48) (off := 44) hC dX9_readClause_4 c7 (by decide) (by decide) ?_
    refine z_aload_n hC dX9_readClause_48 rfl 0 rfl ?_
    refine z_aload_n hC dX9_readClause_49 rfl 0 rfl ?_
    refine z_get hC lf_X9_9_9 (kT_0 hT) dX9_readClause_50 (fV_ref rfl (rT_4 hT)) ?_
    refine z_callV (ci := 9) (rest := []) hC (ck_mk lk_X9_64 in_X9_readWorth cd_X9_readWorth ds_X9_readWorth (Nat.le_of_ble_eq_true rfl) (Nat.le_of_ble_eq_true rfl)) iy_X9_readWorth sy_X9_readWorth cf_9 (by decide) (kT_0 hT) (ct_X9_readWorth hF hT (kT_1 hT) (nT_1 hT) E) rfl rfl (Nat.le_of_ble_eq_true rfl) ⟨Nat.le_refl _, Nat.le_refl _⟩ dX9_readClause_53 ?_
    rintro _ _ D13 ⟨v9, rfl, rfl, E⟩
    exact z_zret hC dX9_readClause_56 E.1 (Nat.le_refl _) (Nat.le_refl _) ⟨_, rfl, rfl, E.2⟩
  replace E := E.2 c7
  by_cases c14 : v1 = (1 : Int32)
  · replace E := E.1 c14
    refine z_tableIn (tgt := 57) (off := 53) hC dX9_readClause_4 c14 (by decide) (by decide) ?_
    refine z_aload_n hC dX9_readClause_57 rfl 0 rfl ?_
    refine z_aload_n hC dX9_readClause_58 rfl 0 rfl ?_
    refine z_get hC lf_X9_15_9 (kT_0 hT) dX9_readClause_59 (fV_ref rfl (rT_5 hT)) ?_
    refine z_callV (ci := 9) (rest := []) hC (ck_mk lk_X9_64 in_X9_readWorth cd_X9_readWorth ds_X9_readWorth (Nat.le_of_ble_eq_true rfl) (Nat.le_of_ble_eq_true rfl)) iy_X9_readWorth sy_X9_readWorth cf_9 (by decide) (kT_0 hT) (ct_X9_readWorth hF hT (kT_2 hT) (nT_2 hT) E) rfl rfl (Nat.le_of_ble_eq_true rfl) ⟨Nat.le_refl _, Nat.le_refl _⟩ dX9_readClause_62 ?_
    rintro _ _ D20 ⟨v16, rfl, rfl, E⟩
    exact z_zret hC dX9_readClause_65 E.1 (Nat.le_refl _) (Nat.le_refl _) ⟨_, rfl, rfl, E.2⟩
  replace E := E.2 c14
  by_cases c21 : v1 = (2 : Int32)
  · replace E := E.1 c21
    refine z_tableIn (tgt := 66) (off := 62) hC dX9_readClause_4 c21 (by decide) (by decide) ?_
    refine z_aload_n hC dX9_readClause_66 rfl 0 rfl ?_
    refine z_aload_n hC dX9_readClause_67 rfl 0 rfl ?_
    refine z_callV (ci := 9) (rest := [.ref (G.1 + t)]) hC (ck_mk lk_X9_68 in_X9_readPart cd_X9_readPart ds_X9_readPart (Nat.le_of_ble_eq_true rfl) (Nat.le_of_ble_eq_true rfl)) iy_X9_readPart sy_X9_readPart cf_9 (by decide) (kT_0 hT) (ct_X9_readPart hF hT E) rfl rfl (Nat.le_of_ble_eq_true rfl) ⟨Nat.le_refl _, Nat.le_refl _⟩ dX9_readClause_68 ?_
    rintro _ _ D27 ⟨v22, rfl, rfl, E⟩
    refine z_puti hC lf_X9_71_9 rfl (kT_0 hT) dX9_readClause_71 ?_
    refine z_topD (fun D28 h29 => ?_)
    replace E := E D28 h29
    refine z_aload_n hC dX9_readClause_74 rfl 0 rfl ?_
    refine z_get hC lf_X9_71_9 (kT_0 hT) dX9_readClause_75 (fV_int rfl) ?_
    refine z_if_lt (tgt := 85) hC dX9_readClause_78 (by decide) (fun c30 => ?_) (fun c30 => ?_)
    · replace E := E.1 c30
      refine z_iconst (v := 0) hC dX9_readClause_85 rfl ?_
      exact z_zret hC dX9_readClause_86 (Or.inl rfl) (Nat.le_refl _) (Nat.le_refl _) ⟨_, rfl, rfl, E⟩
    · replace E := E.2 c30
      refine z_iconst (v := 1) hC dX9_readClause_81 rfl ?_
      refine z_goto (tgt := 86) hC dX9_readClause_82 (by decide) ?_
      exact z_zret hC dX9_readClause_86 (Or.inr rfl) (Nat.le_refl _) (Nat.le_refl _) ⟨_, rfl, rfl, E⟩
  replace E := E.2 c21
  by_cases c31 : v1 = (3 : Int32)
  · replace E := E.1 c31
    refine z_tableIn (tgt := 87) (off := 83) hC dX9_readClause_4 c31 (by decide) (by decide) ?_
    refine z_aload_n hC dX9_readClause_87 rfl 0 rfl ?_
    refine z_aload_n hC dX9_readClause_88 rfl 0 rfl ?_
    refine z_callV (ci := 9) (rest := [.ref (G.1 + t)]) hC (ck_mk lk_X9_68 in_X9_readPart cd_X9_readPart ds_X9_readPart (Nat.le_of_ble_eq_true rfl) (Nat.le_of_ble_eq_true rfl)) iy_X9_readPart sy_X9_readPart cf_9 (by decide) (kT_0 hT) (ct_X9_readPart hF hT E) rfl rfl (Nat.le_of_ble_eq_true rfl) ⟨Nat.le_refl _, Nat.le_refl _⟩ dX9_readClause_89 ?_
    rintro _ _ D37 ⟨v32, rfl, rfl, E⟩
    refine z_puti hC lf_X9_74_9 rfl (kT_0 hT) dX9_readClause_92 ?_
    refine z_topD (fun D38 h39 => ?_)
    replace E := E D38 h39
    refine z_aload_n hC dX9_readClause_95 rfl 0 rfl ?_
    refine z_get hC lf_X9_74_9 (kT_0 hT) dX9_readClause_96 (fV_int rfl) ?_
    refine z_if_lt (tgt := 106) hC dX9_readClause_99 (by decide) (fun c40 => ?_) (fun c40 => ?_)
    · replace E := E.1 c40
      refine z_iconst (v := 0) hC dX9_readClause_106 rfl ?_
      exact z_zret hC dX9_readClause_107 (Or.inl rfl) (Nat.le_refl _) (Nat.le_refl _) ⟨_, rfl, rfl, E⟩
    · replace E := E.2 c40
      refine z_iconst (v := 1) hC dX9_readClause_102 rfl ?_
      refine z_goto (tgt := 107) hC dX9_readClause_103 (by decide) ?_
      exact z_zret hC dX9_readClause_107 (Or.inr rfl) (Nat.le_refl _) (Nat.le_refl _) ⟨_, rfl, rfl, E⟩
  replace E := E.2 c31
  by_cases c41 : v1 = (4 : Int32)
  · replace E := E.1 c41
    refine z_tableIn (tgt := 108) (off := 104) hC dX9_readClause_4 c41 (by decide) (by decide) ?_
    refine z_aload_n hC dX9_readClause_108 rfl 0 rfl ?_
    refine z_aload_n hC dX9_readClause_109 rfl 0 rfl ?_
    refine z_iconst (v := 1) hC dX9_readClause_110 rfl ?_
    refine z_bipush (v := 9) hC dX9_readClause_111 rfl ?_
    refine z_callV (ci := 9) (rest := [.ref (G.1 + t)]) hC (ck_mk lk_X9_77 in_X9_readFigurePart cd_X9_readFigurePart ds_X9_readFigurePart (Nat.le_of_ble_eq_true rfl) (Nat.le_of_ble_eq_true rfl)) iy_X9_readFigurePart sy_X9_readFigurePart cf_9 (by decide) (kT_0 hT) (ct_X9_readFigurePart hF hT E) rfl rfl (Nat.le_of_ble_eq_true rfl) ⟨Nat.le_refl _, Nat.le_refl _⟩ dX9_readClause_113 ?_
    rintro _ _ D47 ⟨v42, rfl, rfl, E⟩
    refine z_puti hC lf_X9_18_9 rfl (kT_0 hT) dX9_readClause_116 ?_
    refine z_topD (fun D48 h49 => ?_)
    replace E := E D48 h49
    refine z_aload_n hC dX9_readClause_119 rfl 0 rfl ?_
    refine z_get hC lf_X9_18_9 (kT_0 hT) dX9_readClause_120 (fV_int rfl) ?_
    refine z_if_lt (tgt := 130) hC dX9_readClause_123 (by decide) (fun c50 => ?_) (fun c50 => ?_)
    · replace E := E.1 c50
      refine z_iconst (v := 0) hC dX9_readClause_130 rfl ?_
      exact z_zret hC dX9_readClause_131 (Or.inl rfl) (Nat.le_refl _) (Nat.le_refl _) ⟨_, rfl, rfl, E⟩
    · replace E := E.2 c50
      refine z_iconst (v := 1) hC dX9_readClause_126 rfl ?_
      refine z_goto (tgt := 131) hC dX9_readClause_127 (by decide) ?_
      exact z_zret hC dX9_readClause_131 (Or.inr rfl) (Nat.le_refl _) (Nat.le_refl _) ⟨_, rfl, rfl, E⟩
  replace E := E.2 c41
  by_cases c51 : v1 = (5 : Int32)
  · replace E := E.1 c51
    refine z_tableIn (tgt := 132) (off := 128) hC dX9_readClause_4 c51 (by decide) (by decide) ?_
    refine z_aload_n hC dX9_readClause_132 rfl 0 rfl ?_
    refine z_callV (ci := 9) (rest := []) hC (ck_mk lk_X9_81 in_X9_readKind cd_X9_readKind ds_X9_readKind (Nat.le_of_ble_eq_true rfl) (Nat.le_of_ble_eq_true rfl)) iy_X9_readKind sy_X9_readKind cf_9 (by decide) (kT_0 hT) (ct_X9_readKind hF hT E) rfl rfl (Nat.le_of_ble_eq_true rfl) ⟨Nat.le_refl _, Nat.le_refl _⟩ dX9_readClause_133 ?_
    rintro _ _ D57 ⟨v53, rfl, rfl, E⟩
    exact z_zret hC dX9_readClause_136 E.1 (Nat.le_refl _) (Nat.le_refl _) ⟨_, rfl, rfl, E.2⟩
  replace E := E.2 c51
  by_cases c58 : v1 = (6 : Int32)
  · replace E := E.1 c58
    refine z_tableIn (tgt := 137) (off := 133) hC dX9_readClause_4 c58 (by decide) (by decide) ?_
    refine z_aload_n hC dX9_readClause_137 rfl 0 rfl ?_
    refine z_bipush (v := 32) hC dX9_readClause_138 rfl ?_
    refine z_callV (ci := 9) (rest := []) hC (ck_mk lk_X9_56 in_X9_take cd_X9_take ds_X9_take (Nat.le_of_ble_eq_true rfl) (Nat.le_of_ble_eq_true rfl)) iy_X9_take sy_X9_take cf_9 (by decide) (kT_0 hT) (ct_X9_take hF hT E) rfl rfl (Nat.le_of_ble_eq_true rfl) ⟨Nat.le_refl _, Nat.le_refl _⟩ dX9_readClause_140 ?_
    rintro _ _ D64 ⟨v60, rfl, rfl, E⟩
    obtain ⟨K66, hK67, EE⟩ := JN_use E (fun K66 : Dy → Prop => ∀ (D65 : Dy), K66 D65 → ZM l G p e s m args below meth c 1 19 S (PI S post) S D65 165 [] []) (by
      intro D65 E
      refine z_iconst (v := 0) hC dX9_readClause_165 rfl ?_
      exact z_zret hC dX9_readClause_166 (Or.inl rfl) (Nat.le_refl _) (Nat.le_refl _) ⟨_, rfl, rfl, E⟩)
    replace E := EE
    clear EE
    refine z_if_eq (tgt := 165) hC dX9_readClause_143 (by decide) (fun c68 => ?_) (fun c68 => ?_)
    · replace E := E.1 c68
      refine z_sub [] rfl ?_
      exact hK67 D64 E
    · replace E := E.2 c68
      refine z_aload_n hC dX9_readClause_146 rfl 0 rfl ?_
      refine z_iconst (v := 0) hC dX9_readClause_147 rfl ?_
      refine z_callV (ci := 9) (rest := []) hC (ck_mk lk_X9_84 in_X9_readAny cd_X9_readAny ds_X9_readAny (Nat.le_of_ble_eq_true rfl) (Nat.le_of_ble_eq_true rfl)) iy_X9_readAny sy_X9_readAny cf_9 (by decide) (kT_0 hT) (ct_X9_readAny hF hT E) rfl rfl (Nat.le_of_ble_eq_true rfl) ⟨Nat.le_refl _, Nat.le_refl _⟩ dX9_readClause_148 ?_
      rintro _ _ D74 ⟨v70, rfl, rfl, E⟩
      refine z_if_eq (tgt := 165) hC dX9_readClause_151 (by decide) (fun c75 => ?_) (fun c75 => ?_)
      · replace E := E.1 c75
        refine z_sub [] rfl ?_
        exact hK67 D74 E
      · replace E := E.2 c75
        refine z_aload_n hC dX9_readClause_154 rfl 0 rfl ?_
        refine z_callV (ci := 9) (rest := []) hC (ck_mk lk_X9_88 in_X9_endPick cd_X9_endPick ds_X9_endPick (Nat.le_of_ble_eq_true rfl) (Nat.le_of_ble_eq_true rfl)) iy_X9_endPick sy_X9_endPick cf_9 (by decide) (kT_0 hT) (ct_X9_endPick hF hT E) rfl rfl (Nat.le_of_ble_eq_true rfl) ⟨Nat.le_refl _, Nat.le_refl _⟩ dX9_readClause_155 ?_
        rintro _ _ D81 ⟨v77, rfl, rfl, E⟩
        refine z_if_eq (tgt := 165) hC dX9_readClause_158 (by decide) (fun c82 => ?_) (fun c82 => ?_)
        · replace E := E.1 c82
          refine z_sub [] rfl ?_
          exact hK67 D81 E
        · replace E := E.2 c82
          refine z_iconst (v := 1) hC dX9_readClause_161 rfl ?_
          refine z_goto (tgt := 166) hC dX9_readClause_162 (by decide) ?_
          exact z_zret hC dX9_readClause_166 (Or.inr rfl) (Nat.le_refl _) (Nat.le_refl _) ⟨_, rfl, rfl, E⟩
  replace E := E.2 c58
  refine z_tableOut (tgt := 167) hC dX9_readClause_4 (by have zc7 := sw_ne c7 (show (0 : Int32).toInt = 0 by decide); have zc14 := sw_ne c14 (show (1 : Int32).toInt = 1 by decide); have zc21 := sw_ne c21 (show (2 : Int32).toInt = 2 by decide); have zc31 := sw_ne c31 (show (3 : Int32).toInt = 3 by decide); have zc41 := sw_ne c41 (show (4 : Int32).toInt = 4 by decide); have zc51 := sw_ne c51 (show (5 : Int32).toInt = 5 by decide); have zc58 := sw_ne c58 (show (6 : Int32).toInt = 6 by decide); omega) (by decide) ?_
  refine z_iconst (v := 0) hC dX9_readClause_167 rfl ?_
  exact z_zret hC dX9_readClause_168 (Or.inl rfl) (Nat.le_refl _) (Nat.le_refl _) ⟨_, rfl, rfl, E⟩
def fX9_readClauses (t : Nat) (D : Dy) (post : Int32 → Dy → Prop) : Prop :=
  (LP2 (fun (rec3 : Int32 → Dy → Prop) (v1 : Int32) (D2 : Dy) => (((10 : Int32) ≤ v1 → post (0 : Int32) D2) ∧ (¬ (10 : Int32) ≤ v1 → (fX9_readClause t D2 (fun (v7 : Int32) (D11 : Dy) => ((¬ v7 = 0 → (∀ D13 : Dy, D13 = sI D11 t 3 ((D11.1 t 3) + (1 : Int32)) → ((¬ (D13.1 t 2) = (D13.1 t 1) → ((v1 = (9 : Int32) → post (0 : Int32) D13) ∧ (¬ v1 = (9 : Int32) → (fX9_take t (59 : Int32) D13 (fun (v18 : Int32) (D22 : Dy) => ((¬ v18 = 0 → (∀ v24 : Int32, v24 = v1 + 1 → (rec3 v24 D22))) ∧ (v18 = 0 → post (0 : Int32) D22))))))) ∧ ((D13.1 t 2) = (D13.1 t 1) → post (1 : Int32) D13)))) ∧ (v7 = 0 → post (0 : Int32) D11))))))) FU (0 : Int32) D)
set_option maxHeartbeats 4000000 in
set_option maxRecDepth 100000 in
theorem ct_X9_readClauses {l : Launch} {G : Gl} {S : Sh} {D : Dy} {mdl : Nat → Option (Nat × Nat)} (hF : FX S mdl) {t : Nat} (hT : FT S t)  {post : Int32 → Dy → Prop} (E : fX9_readClauses t D post) : Ct l G yX9_readClauses cX9_readClauses 2 (some .boolean) 20 0 0 S D [.ref (G.1 + t)] (PI S post) := by
  refine z_enter (lv0 := [(0, .ref (G.1 + t))]) pl_9 (Nat.le_of_ble_eq_true rfl) rfl ?_
  intro p e s m args below meth c hC hnm
  unfold fX9_readClauses at E
  refine z_iconst (v := 0) hC dX9_readClauses_0 rfl ?_
  refine z_istore_n (lv' := [(1, .int (0 : Int32)), (0, .ref (G.1 + t))]) hC dX9_readClauses_1 rfl (Nat.le_of_ble_eq_true rfl) rfl ?_
  refine z_sub [1, 0] rfl ?_
  refine LP2_use (fun (v1 : Int32) (D2 : Dy) => ZM l G p e s m args below meth c 2 20 S (PI S post) S D2 2 [(0, .ref (G.1 + t)), (1, .int v1)] []) ?_ FU (0 : Int32) D E
  intro rec3 hrec4 v1 D2 E
  refine z_iload_n hC dX9_readClauses_2 rfl 1 rfl ?_
  refine z_bipush (v := 10) hC dX9_readClauses_3 rfl ?_
  refine z_icmp_ge (tgt := 63) hC dX9_readClauses_5 (by decide) (fun c5 => ?_) (fun c5 => ?_)
  · replace E := E.1 c5
    refine z_iconst (v := 0) hC dX9_readClauses_63 rfl ?_
    exact z_zret hC dX9_readClauses_64 (Or.inl rfl) (Nat.le_refl _) (Nat.le_refl _) ⟨_, rfl, rfl, E⟩
  · replace E := E.2 c5
    refine z_aload_n hC dX9_readClauses_8 rfl 0 rfl ?_
    refine z_callV (ci := 9) (rest := []) hC (ck_mk lk_X9_46 in_X9_readClause cd_X9_readClause ds_X9_readClause (Nat.le_of_ble_eq_true rfl) (Nat.le_of_ble_eq_true rfl)) iy_X9_readClause sy_X9_readClause cf_9 (by decide) (kT_0 hT) (ct_X9_readClause hF hT E) rfl rfl (Nat.le_of_ble_eq_true rfl) ⟨Nat.le_refl _, Nat.le_refl _⟩ dX9_readClauses_9 ?_
    rintro _ _ D11 ⟨v7, rfl, rfl, E⟩
    refine z_if_ne (tgt := 17) hC dX9_readClauses_12 (by decide) (fun c12 => ?_) (fun c12 => ?_)
    · replace E := E.1 c12
      refine z_aload_n hC dX9_readClauses_17 rfl 0 rfl ?_
      refine z_dup hC dX9_readClauses_18 rfl ?_
      refine z_get hC lf_X9_50_9 (kT_0 hT) dX9_readClauses_19 (fV_int rfl) ?_
      refine z_iconst (v := 1) hC dX9_readClauses_22 rfl ?_
      refine z_iadd hC dX9_readClauses_23 ?_
      refine z_puti hC lf_X9_50_9 rfl (kT_0 hT) dX9_readClauses_24 ?_
      refine z_topD (fun D13 h14 => ?_)
      replace E := E D13 h14
      refine z_aload_n hC dX9_readClauses_27 rfl 0 rfl ?_
      refine z_get hC lf_X9_53_9 (kT_0 hT) dX9_readClauses_28 (fV_int rfl) ?_
      refine z_aload_n hC dX9_readClauses_31 rfl 0 rfl ?_
      refine z_get hC lf_X9_40_9 (kT_0 hT) dX9_readClauses_32 (fV_int rfl) ?_
      refine z_icmp_ne (tgt := 40) hC dX9_readClauses_35 (by decide) (fun c15 => ?_) (fun c15 => ?_)
      · replace E := E.1 c15
        refine z_iload_n hC dX9_readClauses_40 rfl 1 rfl ?_
        refine z_bipush (v := 9) hC dX9_readClauses_41 rfl ?_
        refine z_icmp_eq (tgt := 55) hC dX9_readClauses_43 (by decide) (fun c16 => ?_) (fun c16 => ?_)
        · replace E := E.1 c16
          refine z_iconst (v := 0) hC dX9_readClauses_55 rfl ?_
          exact z_zret hC dX9_readClauses_56 (Or.inl rfl) (Nat.le_refl _) (Nat.le_refl _) ⟨_, rfl, rfl, E⟩
        · replace E := E.2 c16
          refine z_aload_n hC dX9_readClauses_46 rfl 0 rfl ?_
          refine z_bipush (v := 59) hC dX9_readClauses_47 rfl ?_
          refine z_callV (ci := 9) (rest := []) hC (ck_mk lk_X9_56 in_X9_take cd_X9_take ds_X9_take (Nat.le_of_ble_eq_true rfl) (Nat.le_of_ble_eq_true rfl)) iy_X9_take sy_X9_take cf_9 (by decide) (kT_0 hT) (ct_X9_take hF hT E) rfl rfl (Nat.le_of_ble_eq_true rfl) ⟨Nat.le_refl _, Nat.le_refl _⟩ dX9_readClauses_49 ?_
          rintro _ _ D22 ⟨v18, rfl, rfl, E⟩
          refine z_if_ne (tgt := 57) hC dX9_readClauses_52 (by decide) (fun c23 => ?_) (fun c23 => ?_)
          · replace E := E.1 c23
            obtain ⟨v24, h25⟩ : ∃ y : Int32, y = v1 + 1 := ⟨_, rfl⟩
            replace E := E v24 h25
            refine z_iinc (q := 1) (v := v24) (lv' := [(1, .int v24), (0, .ref (G.1 + t))]) hC dX9_readClauses_57 rfl (by rw [h25]; rfl) (Nat.le_of_ble_eq_true rfl) rfl ?_
            refine z_goto (tgt := 2) hC dX9_readClauses_60 (by decide) ?_
            refine z_sub [1, 0] rfl ?_
            exact hrec4 v24 D22 E
          · replace E := E.2 c23
            refine z_iconst (v := 0) hC dX9_readClauses_55 rfl ?_
            exact z_zret hC dX9_readClauses_56 (Or.inl rfl) (Nat.le_refl _) (Nat.le_refl _) ⟨_, rfl, rfl, E⟩
      · replace E := E.2 c15
        refine z_iconst (v := 1) hC dX9_readClauses_38 rfl ?_
        exact z_zret hC dX9_readClauses_39 (Or.inr rfl) (Nat.le_refl _) (Nat.le_refl _) ⟨_, rfl, rfl, E⟩
    · replace E := E.2 c12
      refine z_iconst (v := 0) hC dX9_readClauses_15 rfl ?_
      exact z_zret hC dX9_readClauses_16 (Or.inl rfl) (Nat.le_refl _) (Nat.le_refl _) ⟨_, rfl, rfl, E⟩
def fX10_clear  (D : Dy) (post : Dy → Prop) : Prop :=
  (∀ D1 : Dy, D1 = sI D 22 1 (0 : Int32) → post D1)
set_option maxHeartbeats 4000000 in
set_option maxRecDepth 100000 in
theorem ct_X10_clear {l : Launch} {G : Gl} {S : Sh} {D : Dy} {mdl : Nat → Option (Nat × Nat)} (hF : FX S mdl)  {post : Dy → Prop} (E : fX10_clear D post) : Ct l G yX10_clear cX10_clear 1 none 0 0 0 S D [.ref (G.1 + 22)] (PV S post) := by
  refine z_enter (lv0 := [(0, .ref (G.1 + 22))]) pl_10 (Nat.le_of_ble_eq_true rfl) rfl ?_
  intro p e s m args below meth c hC hnm
  unfold fX10_clear at E
  refine z_aload_n hC dX10_clear_0 rfl 0 rfl ?_
  refine z_iconst (v := 0) hC dX10_clear_1 rfl ?_
  refine z_puti hC lf_X10_13_10 rfl (kX_22 hF) dX10_clear_2 ?_
  refine z_topD (fun D1 h2 => ?_)
  replace E := E D1 h2
  exact z_vret hC dX10_clear_5 (Nat.le_refl _) (Nat.le_refl _) ⟨rfl, rfl, E⟩
def fX10_kept  (D : Dy) (post : Int32 → Prop) : Prop :=
  (∀ v1 : Int32, v1 = (D.1 22 1) → (∀ v3 : Int32, v3 = (if (20 : Int32) < v1 then (20 : Int32) else v1) → post v3))
set_option maxHeartbeats 4000000 in
set_option maxRecDepth 100000 in
theorem ct_X10_kept {l : Launch} {G : Gl} {S : Sh} {D : Dy} {mdl : Nat → Option (Nat × Nat)} (hF : FX S mdl)  {post : Int32 → Prop} (E : fX10_kept D post) : Ct l G yX10_kept cX10_kept 1 (some .int) 1 0 0 S D [.ref (G.1 + 22)] (PIr S D post) := by
  refine z_enter (lv0 := [(0, .ref (G.1 + 22))]) pl_10 (Nat.le_of_ble_eq_true rfl) rfl ?_
  intro p e s m args below meth c hC hnm
  unfold fX10_kept at E
  refine z_aload_n hC dX10_kept_0 rfl 0 rfl ?_
  refine z_get hC lf_X10_13_10 (kX_22 hF) dX10_kept_1 (fV_int rfl) ?_
  refine z_bipush (v := 20) hC dX10_kept_4 rfl ?_
  obtain ⟨v1, h2⟩ : ∃ y : Int32, y = (D.1 22 1) := ⟨_, rfl⟩
  replace E := E v1 h2
  rw [← h2]
  refine z_mmin hC lk_X10_17 sm_min im_Math cm_min ⟨Nat.le_of_ble_eq_true rfl, Nat.le_of_ble_eq_true rfl⟩ ⟨Nat.zero_le _, Nat.zero_le _⟩ (Nat.le_of_ble_eq_true rfl) dX10_kept_6 ?_
  refine z_topi (fun v3 h4 => ?_)
  replace E := E v3 h4
  exact z_iret hC dX10_kept_9 (Nat.le_refl _) (Nat.le_refl _) ⟨_, rfl, rfl, rfl, E⟩
def fX11_modelAt (mdl : Nat → Option (Nat × Nat)) (a1 : Int32) (D : Dy) (post : Option (Nat × Nat) → Prop) : Prop :=
  (fX11_within a1 (D.1 0 8) (fun (v2 : Int32) => ((v2 = 0 → post none) ∧ (¬ v2 = 0 → (vp_in a1 10 ∧ post (mdl (a1).toNatClampNeg))))))
set_option maxHeartbeats 4000000 in
set_option maxRecDepth 100000 in
theorem ct_X11_modelAt {l : Launch} {G : Gl} {S : Sh} {D : Dy} {mdl : Nat → Option (Nat × Nat)} (hF : FX S mdl) {a1 : Int32} {post : Option (Nat × Nat) → Prop} (E : fX11_modelAt mdl a1 D post) : Ct l G yX11_modelAt cX11_modelAt 2 (some (.object "WhyChosen$Model")) 1 0 0 S D [.ref (G.1 + 0), .int a1] (PQr G S D post) := by
  refine z_enter (lv0 := [(0, .ref (G.1 + 0)), (1, .int a1)]) pl_11 (Nat.le_of_ble_eq_true rfl) rfl ?_
  intro p e s m args below meth c hC hnm
  unfold fX11_modelAt at E
  refine z_iload_n hC dX11_modelAt_0 rfl 1 rfl ?_
  refine z_aload_n hC dX11_modelAt_1 rfl 0 rfl ?_
  refine z_get hC lf_X11_111_11 (kX_0 hF) dX11_modelAt_2 (fV_int rfl) ?_
  refine z_callS (rest := []) hC (ck_mk lk_X11_69 in_X11_within cd_X11_within ds_X11_within (Nat.le_of_ble_eq_true rfl) (Nat.le_of_ble_eq_true rfl)) st_X11_within (ct_X11_within hF E) rfl rfl (Nat.le_of_ble_eq_true rfl) ⟨Nat.le_refl _, Nat.le_refl _⟩ dX11_modelAt_5 ?_
  rintro _ _ _ ⟨v2, rfl, rfl, rfl, E⟩
  refine z_if_eq (tgt := 20) hC dX11_modelAt_8 (by decide) (fun c6 => ?_) (fun c6 => ?_)
  · replace E := E.1 c6
    refine z_null hC dX11_modelAt_20 ?_
    exact z_aretQ hC (r := none) (fun _ _ h => by cases h) dX11_modelAt_21 E
  · replace E := E.2 c6
    refine z_aload_n hC dX11_modelAt_11 rfl 0 rfl ?_
    refine z_get hC lf_X11_37_11 (kX_0 hF) dX11_modelAt_12 (fV_ref rfl (rX_0_7 hF)) ?_
    refine z_iload_n hC dX11_modelAt_15 rfl 1 rfl ?_
    have b7 := E.1
    refine z_aldMdl hC hF b7 dX11_modelAt_16 ?_
    replace E := E.2
    refine z_goto (tgt := 21) hC dX11_modelAt_17 (by decide) ?_
    exact z_aretQ hC (fun t kd h => hF.mo (vp_lt b7) h) dX11_modelAt_21 E
def v_tellsBody (t kd : Nat) (a1 : Int32) (D : Dy) (post : Int32 → Dy → Prop) : Prop :=
  (kd = 0 → fX4_tellsBody t 0 a1 D post) ∧ (kd = 1 → fX4_tellsBody t 1 a1 D post) ∧ (kd = 2 → fX5_tellsBody t a1 D post) ∧ (kd = 3 → fX4_tellsBody t 3 a1 D post) ∧ (kd = 4 → fX2_tellsBody t a1 D post) ∧ (kd = 5 → fX8_tellsBody t a1 D post)
theorem v_tellsBody_0 {t : Nat} {a1 : Int32} {D : Dy} {post : Int32 → Dy → Prop} (h : fX4_tellsBody t 0 a1 D post) : v_tellsBody t 0 a1 D post := ⟨fun _ => h, fun q => absurd q (by decide), fun q => absurd q (by decide), fun q => absurd q (by decide), fun q => absurd q (by decide), fun q => absurd q (by decide)⟩
theorem v_tellsBody_1 {t : Nat} {a1 : Int32} {D : Dy} {post : Int32 → Dy → Prop} (h : fX4_tellsBody t 1 a1 D post) : v_tellsBody t 1 a1 D post := ⟨fun q => absurd q (by decide), fun _ => h, fun q => absurd q (by decide), fun q => absurd q (by decide), fun q => absurd q (by decide), fun q => absurd q (by decide)⟩
theorem v_tellsBody_2 {t : Nat} {a1 : Int32} {D : Dy} {post : Int32 → Dy → Prop} (h : fX5_tellsBody t a1 D post) : v_tellsBody t 2 a1 D post := ⟨fun q => absurd q (by decide), fun q => absurd q (by decide), fun _ => h, fun q => absurd q (by decide), fun q => absurd q (by decide), fun q => absurd q (by decide)⟩
theorem v_tellsBody_3 {t : Nat} {a1 : Int32} {D : Dy} {post : Int32 → Dy → Prop} (h : fX4_tellsBody t 3 a1 D post) : v_tellsBody t 3 a1 D post := ⟨fun q => absurd q (by decide), fun q => absurd q (by decide), fun q => absurd q (by decide), fun _ => h, fun q => absurd q (by decide), fun q => absurd q (by decide)⟩
theorem v_tellsBody_4 {t : Nat} {a1 : Int32} {D : Dy} {post : Int32 → Dy → Prop} (h : fX2_tellsBody t a1 D post) : v_tellsBody t 4 a1 D post := ⟨fun q => absurd q (by decide), fun q => absurd q (by decide), fun q => absurd q (by decide), fun q => absurd q (by decide), fun _ => h, fun q => absurd q (by decide)⟩
theorem v_tellsBody_5 {t : Nat} {a1 : Int32} {D : Dy} {post : Int32 → Dy → Prop} (h : fX8_tellsBody t a1 D post) : v_tellsBody t 5 a1 D post := ⟨fun q => absurd q (by decide), fun q => absurd q (by decide), fun q => absurd q (by decide), fun q => absurd q (by decide), fun q => absurd q (by decide), fun _ => h⟩
theorem cu_X11_237_0 : CU RX4 RX4 ⟨"WhyChosen$Model", "weighsBody", "(ILWhyChosen$Trace;)I"⟩ yX4_weighsBody := ⟨tw_951, tw_950, iy_X4_weighsBody, iy_X4_weighsBody, ⟨_, _, _, cd_X4_weighsBody⟩, by decide +kernel, by decide +kernel⟩
theorem cu_X11_237_1 : CU RX7 RX4 ⟨"WhyChosen$Model", "weighsBody", "(ILWhyChosen$Trace;)I"⟩ yX4_weighsBody := ⟨tw_951, tw_964, iy_X4_weighsBody, iy_X4_weighsBody, ⟨_, _, _, cd_X4_weighsBody⟩, by decide +kernel, by decide +kernel⟩
theorem cu_X11_237_2 : CU RX5 RX4 ⟨"WhyChosen$Model", "weighsBody", "(ILWhyChosen$Trace;)I"⟩ yX5_weighsBody := ⟨tw_951, tw_954, iy_X5_weighsBody, iy_X4_weighsBody, ⟨_, _, _, cd_X4_weighsBody⟩, by decide +kernel, by decide +kernel⟩
theorem cu_X11_237_3 : CU RX3 RX4 ⟨"WhyChosen$Model", "weighsBody", "(ILWhyChosen$Trace;)I"⟩ yX4_weighsBody := ⟨tw_951, tw_953, iy_X4_weighsBody, iy_X4_weighsBody, ⟨_, _, _, cd_X4_weighsBody⟩, by decide +kernel, by decide +kernel⟩
theorem cu_X11_237_4 : CU RX2 RX4 ⟨"WhyChosen$Model", "weighsBody", "(ILWhyChosen$Trace;)I"⟩ yX4_weighsBody := ⟨tw_951, tw_952, iy_X4_weighsBody, iy_X4_weighsBody, ⟨_, _, _, cd_X4_weighsBody⟩, by decide +kernel, by decide +kernel⟩
theorem cu_X11_237_5 : CU RX8 RX4 ⟨"WhyChosen$Model", "weighsBody", "(ILWhyChosen$Trace;)I"⟩ yX8_weighsBody := ⟨tw_951, tw_965, iy_X8_weighsBody, iy_X4_weighsBody, ⟨_, _, _, cd_X4_weighsBody⟩, by decide +kernel, by decide +kernel⟩
theorem lk_X11_237 : Cond.methodLink RX11 237 ⟨"WhyChosen$Model", "weighsBody", "(ILWhyChosen$Trace;)I"⟩ ∈ TB := tw_948
section ZVV
variable {p : Program} {l : Launch} {e : Env} {R : Room} {s : State} {m : MethodId} {args : Array Value} {below : List Frame} {meth : Method} {c : Code} {nL : Nat} {k n : Nat} {Q : State → Prop} {pc : Nat} {lv : List (Nat × Value)} {st : List Value}
variable {G : Gl} {cc : ByteArray} {own : String} {ret : Option FieldType} {A : Nat → Prop} {S S' S0 : Sh} {D D' : Dy} {a N : Nat} {Wp : Heap → List Loc → Prop}

set_option maxRecDepth 100000 in
theorem zv_X11_237 (hC : CX G cc RX11 nL ret p s m args meth c) {mdl : Nat → Option (Nat × Nat)} (hF : FX S mdl) {t kd : Nat} (hM : FMo S t kd) (hk : kd < 6) {a1 : Int32} {post : Int32 → Dy → Prop} (E : v_weighsBody t kd a1 D post) {rest : List Value} (hstk : st = List.reverse [.int a1, .ref (G.1 + 22)] ++ .ref (G.1 + (t + 9)) :: rest) (hrm : (rest.map fun v => v.category).sum ≤ 8) (hR : 2 + 1 ≤ R.frames ∧ 8 + (3 + 11) + 60 * 2 ≤ R.locals) (hkn : k + 0 ≤ R.cells ∧ n + 0 ≤ R.slots) (hd : decode cc pc = .ok (.invokevirtual 237, 3)) (kz : ∀ v S1 D1, (PI S post) v S1 D1 → Z p l e R s m args below meth c nL (WM G s A S1 D1) (k + 0) (n + 0) Q (pc + 3) lv (v.toList ++ rest)) : Z p l e R s m args below meth c nL (WM G s A S D) k n Q pc lv st := by
  obtain rfl | rfl | rfl | rfl | rfl | rfl : kd = 0 ∨ kd = 1 ∨ kd = 2 ∨ kd = 3 ∨ kd = 4 ∨ kd = 5 := by omega
  · exact z_callU (ci := 4) (C := RX4) (owner := RX4) (x := ⟨"WhyChosen$Model", "weighsBody", "(ILWhyChosen$Trace;)I"⟩) (av := [.int a1, .ref (G.1 + 22)]) hC lk_X11_237 in_X4_weighsBody cd_X4_weighsBody dn_X4_weighsBody (by omega) cu_X11_237_0 cf_4 (by decide) (kO hM) (ct_X4_weighsBody hF hM (E.1 rfl)) rfl hstk hrm hkn hd kz
  · exact z_callU (ci := 7) (C := RX7) (owner := RX4) (x := ⟨"WhyChosen$Model", "weighsBody", "(ILWhyChosen$Trace;)I"⟩) (av := [.int a1, .ref (G.1 + 22)]) hC lk_X11_237 in_X4_weighsBody cd_X4_weighsBody dn_X4_weighsBody (by omega) cu_X11_237_1 cf_7 (by decide) (kO hM) (ct_X4_weighsBody hF hM (E.2.1 rfl)) rfl hstk hrm hkn hd kz
  · exact z_callU (ci := 5) (C := RX5) (owner := RX4) (x := ⟨"WhyChosen$Model", "weighsBody", "(ILWhyChosen$Trace;)I"⟩) (av := [.int a1, .ref (G.1 + 22)]) hC lk_X11_237 in_X5_weighsBody cd_X5_weighsBody dn_X5_weighsBody (by omega) cu_X11_237_2 cf_5 (by decide) (kO hM) (ct_X5_weighsBody hF hM (E.2.2.1 rfl)) rfl hstk hrm hkn hd kz
  · exact z_callU (ci := 3) (C := RX3) (owner := RX4) (x := ⟨"WhyChosen$Model", "weighsBody", "(ILWhyChosen$Trace;)I"⟩) (av := [.int a1, .ref (G.1 + 22)]) hC lk_X11_237 in_X4_weighsBody cd_X4_weighsBody dn_X4_weighsBody (by omega) cu_X11_237_3 cf_3 (by decide) (kO hM) (ct_X4_weighsBody hF hM (E.2.2.2.1 rfl)) rfl hstk hrm hkn hd kz
  · exact z_callU (ci := 2) (C := RX2) (owner := RX4) (x := ⟨"WhyChosen$Model", "weighsBody", "(ILWhyChosen$Trace;)I"⟩) (av := [.int a1, .ref (G.1 + 22)]) hC lk_X11_237 in_X4_weighsBody cd_X4_weighsBody dn_X4_weighsBody (by omega) cu_X11_237_4 cf_2 (by decide) (kO hM) (ct_X4_weighsBody hF hM (E.2.2.2.2.1 rfl)) rfl hstk hrm hkn hd kz
  · exact z_callU (ci := 8) (C := RX8) (owner := RX4) (x := ⟨"WhyChosen$Model", "weighsBody", "(ILWhyChosen$Trace;)I"⟩) (av := [.int a1, .ref (G.1 + 22)]) hC lk_X11_237 in_X8_weighsBody cd_X8_weighsBody dn_X8_weighsBody (by omega) cu_X11_237_5 cf_8 (by decide) (kO hM) (ct_X8_weighsBody hF hM (E.2.2.2.2.2 rfl)) rfl hstk hrm hkn hd kz
end ZVV
theorem cu_X11_241_0 : CU RX4 RX4 ⟨"WhyChosen$Model", "oddsBody", "(ILWhyChosen$Trace;)I"⟩ yX4_oddsBody := ⟨tw_975, tw_974, iy_X4_oddsBody, iy_X4_oddsBody, ⟨_, _, _, cd_X4_oddsBody⟩, by decide +kernel, by decide +kernel⟩
theorem cu_X11_241_1 : CU RX7 RX4 ⟨"WhyChosen$Model", "oddsBody", "(ILWhyChosen$Trace;)I"⟩ yX7_oddsBody := ⟨tw_975, tw_992, iy_X7_oddsBody, iy_X4_oddsBody, ⟨_, _, _, cd_X4_oddsBody⟩, by decide +kernel, by decide +kernel⟩
theorem cu_X11_241_2 : CU RX5 RX4 ⟨"WhyChosen$Model", "oddsBody", "(ILWhyChosen$Trace;)I"⟩ yX7_oddsBody := ⟨tw_975, tw_991, iy_X7_oddsBody, iy_X4_oddsBody, ⟨_, _, _, cd_X4_oddsBody⟩, by decide +kernel, by decide +kernel⟩
theorem cu_X11_241_3 : CU RX3 RX4 ⟨"WhyChosen$Model", "oddsBody", "(ILWhyChosen$Trace;)I"⟩ yX3_oddsBody := ⟨tw_975, tw_986, iy_X3_oddsBody, iy_X4_oddsBody, ⟨_, _, _, cd_X4_oddsBody⟩, by decide +kernel, by decide +kernel⟩
theorem cu_X11_241_4 : CU RX2 RX4 ⟨"WhyChosen$Model", "oddsBody", "(ILWhyChosen$Trace;)I"⟩ yX2_oddsBody := ⟨tw_975, tw_976, iy_X2_oddsBody, iy_X4_oddsBody, ⟨_, _, _, cd_X4_oddsBody⟩, by decide +kernel, by decide +kernel⟩
theorem cu_X11_241_5 : CU RX8 RX4 ⟨"WhyChosen$Model", "oddsBody", "(ILWhyChosen$Trace;)I"⟩ yX4_oddsBody := ⟨tw_975, tw_993, iy_X4_oddsBody, iy_X4_oddsBody, ⟨_, _, _, cd_X4_oddsBody⟩, by decide +kernel, by decide +kernel⟩
theorem lk_X11_241 : Cond.methodLink RX11 241 ⟨"WhyChosen$Model", "oddsBody", "(ILWhyChosen$Trace;)I"⟩ ∈ TB := tw_972
section ZVV
variable {p : Program} {l : Launch} {e : Env} {R : Room} {s : State} {m : MethodId} {args : Array Value} {below : List Frame} {meth : Method} {c : Code} {nL : Nat} {k n : Nat} {Q : State → Prop} {pc : Nat} {lv : List (Nat × Value)} {st : List Value}
variable {G : Gl} {cc : ByteArray} {own : String} {ret : Option FieldType} {A : Nat → Prop} {S S' S0 : Sh} {D D' : Dy} {a N : Nat} {Wp : Heap → List Loc → Prop}

set_option maxRecDepth 100000 in
theorem zv_X11_241 (hC : CX G cc RX11 nL ret p s m args meth c) {mdl : Nat → Option (Nat × Nat)} (hF : FX S mdl) {t kd : Nat} (hM : FMo S t kd) (hk : kd < 6) {a1 : Int32} {post : Int32 → Dy → Prop} (E : v_oddsBody t kd a1 D post) {rest : List Value} (hstk : st = List.reverse [.int a1, .ref (G.1 + 22)] ++ .ref (G.1 + (t + 9)) :: rest) (hrm : (rest.map fun v => v.category).sum ≤ 8) (hR : 5 + 1 ≤ R.frames ∧ 8 + (3 + 11) + 60 * 5 ≤ R.locals) (hkn : k + 0 ≤ R.cells ∧ n + 0 ≤ R.slots) (hd : decode cc pc = .ok (.invokevirtual 241, 3)) (kz : ∀ v S1 D1, (PI S post) v S1 D1 → Z p l e R s m args below meth c nL (WM G s A S1 D1) (k + 0) (n + 0) Q (pc + 3) lv (v.toList ++ rest)) : Z p l e R s m args below meth c nL (WM G s A S D) k n Q pc lv st := by
  obtain rfl | rfl | rfl | rfl | rfl | rfl : kd = 0 ∨ kd = 1 ∨ kd = 2 ∨ kd = 3 ∨ kd = 4 ∨ kd = 5 := by omega
  · exact z_callU (ci := 4) (C := RX4) (owner := RX4) (x := ⟨"WhyChosen$Model", "oddsBody", "(ILWhyChosen$Trace;)I"⟩) (av := [.int a1, .ref (G.1 + 22)]) hC lk_X11_241 in_X4_oddsBody cd_X4_oddsBody dn_X4_oddsBody (by omega) cu_X11_241_0 cf_4 (by decide) (kO hM) (ct_X4_oddsBody hF hM (E.1 rfl)) rfl hstk hrm hkn hd kz
  · exact z_callU (ci := 7) (C := RX7) (owner := RX4) (x := ⟨"WhyChosen$Model", "oddsBody", "(ILWhyChosen$Trace;)I"⟩) (av := [.int a1, .ref (G.1 + 22)]) hC lk_X11_241 in_X7_oddsBody cd_X7_oddsBody dn_X7_oddsBody (by omega) cu_X11_241_1 cf_7 (by decide) (kO hM) (ct_X7_oddsBody hF hM (by decide) (E.2.1 rfl)) rfl hstk hrm hkn hd kz
  · exact z_callU (ci := 5) (C := RX5) (owner := RX4) (x := ⟨"WhyChosen$Model", "oddsBody", "(ILWhyChosen$Trace;)I"⟩) (av := [.int a1, .ref (G.1 + 22)]) hC lk_X11_241 in_X7_oddsBody cd_X7_oddsBody dn_X7_oddsBody (by omega) cu_X11_241_2 cf_5 (by decide) (kO hM) (ct_X7_oddsBody hF hM (by decide) (E.2.2.1 rfl)) rfl hstk hrm hkn hd kz
  · exact z_callU (ci := 3) (C := RX3) (owner := RX4) (x := ⟨"WhyChosen$Model", "oddsBody", "(ILWhyChosen$Trace;)I"⟩) (av := [.int a1, .ref (G.1 + 22)]) hC lk_X11_241 in_X3_oddsBody cd_X3_oddsBody dn_X3_oddsBody (by omega) cu_X11_241_3 cf_3 (by decide) (kO hM) (ct_X3_oddsBody hF hM (E.2.2.2.1 rfl)) rfl hstk hrm hkn hd kz
  · exact z_callU (ci := 2) (C := RX2) (owner := RX4) (x := ⟨"WhyChosen$Model", "oddsBody", "(ILWhyChosen$Trace;)I"⟩) (av := [.int a1, .ref (G.1 + 22)]) hC lk_X11_241 in_X2_oddsBody cd_X2_oddsBody dn_X2_oddsBody (by omega) cu_X11_241_4 cf_2 (by decide) (kO hM) (ct_X2_oddsBody hF hM (E.2.2.2.2.1 rfl)) rfl hstk hrm hkn hd kz
  · exact z_callU (ci := 8) (C := RX8) (owner := RX4) (x := ⟨"WhyChosen$Model", "oddsBody", "(ILWhyChosen$Trace;)I"⟩) (av := [.int a1, .ref (G.1 + 22)]) hC lk_X11_241 in_X4_oddsBody cd_X4_oddsBody dn_X4_oddsBody (by omega) cu_X11_241_5 cf_8 (by decide) (kO hM) (ct_X4_oddsBody hF hM (E.2.2.2.2.2 rfl)) rfl hstk hrm hkn hd kz
end ZVV
theorem cu_X11_244_0 : CU RX4 RX4 ⟨"WhyChosen$Model", "tellsBody", "(ILWhyChosen$Trace;)I"⟩ yX4_tellsBody := ⟨tw_999, tw_998, iy_X4_tellsBody, iy_X4_tellsBody, ⟨_, _, _, cd_X4_tellsBody⟩, by decide +kernel, by decide +kernel⟩
theorem cu_X11_244_1 : CU RX7 RX4 ⟨"WhyChosen$Model", "tellsBody", "(ILWhyChosen$Trace;)I"⟩ yX4_tellsBody := ⟨tw_999, tw_1015, iy_X4_tellsBody, iy_X4_tellsBody, ⟨_, _, _, cd_X4_tellsBody⟩, by decide +kernel, by decide +kernel⟩
theorem cu_X11_244_2 : CU RX5 RX4 ⟨"WhyChosen$Model", "tellsBody", "(ILWhyChosen$Trace;)I"⟩ yX5_tellsBody := ⟨tw_999, tw_1007, iy_X5_tellsBody, iy_X4_tellsBody, ⟨_, _, _, cd_X4_tellsBody⟩, by decide +kernel, by decide +kernel⟩
theorem cu_X11_244_3 : CU RX3 RX4 ⟨"WhyChosen$Model", "tellsBody", "(ILWhyChosen$Trace;)I"⟩ yX4_tellsBody := ⟨tw_999, tw_1006, iy_X4_tellsBody, iy_X4_tellsBody, ⟨_, _, _, cd_X4_tellsBody⟩, by decide +kernel, by decide +kernel⟩
theorem cu_X11_244_4 : CU RX2 RX4 ⟨"WhyChosen$Model", "tellsBody", "(ILWhyChosen$Trace;)I"⟩ yX2_tellsBody := ⟨tw_999, tw_1000, iy_X2_tellsBody, iy_X4_tellsBody, ⟨_, _, _, cd_X4_tellsBody⟩, by decide +kernel, by decide +kernel⟩
theorem cu_X11_244_5 : CU RX8 RX4 ⟨"WhyChosen$Model", "tellsBody", "(ILWhyChosen$Trace;)I"⟩ yX8_tellsBody := ⟨tw_999, tw_1016, iy_X8_tellsBody, iy_X4_tellsBody, ⟨_, _, _, cd_X4_tellsBody⟩, by decide +kernel, by decide +kernel⟩
theorem lk_X11_244 : Cond.methodLink RX11 244 ⟨"WhyChosen$Model", "tellsBody", "(ILWhyChosen$Trace;)I"⟩ ∈ TB := tw_996
section ZVV
variable {p : Program} {l : Launch} {e : Env} {R : Room} {s : State} {m : MethodId} {args : Array Value} {below : List Frame} {meth : Method} {c : Code} {nL : Nat} {k n : Nat} {Q : State → Prop} {pc : Nat} {lv : List (Nat × Value)} {st : List Value}
variable {G : Gl} {cc : ByteArray} {own : String} {ret : Option FieldType} {A : Nat → Prop} {S S' S0 : Sh} {D D' : Dy} {a N : Nat} {Wp : Heap → List Loc → Prop}

set_option maxRecDepth 100000 in
theorem zv_X11_244 (hC : CX G cc RX11 nL ret p s m args meth c) {mdl : Nat → Option (Nat × Nat)} (hF : FX S mdl) {t kd : Nat} (hM : FMo S t kd) (hk : kd < 6) {a1 : Int32} {post : Int32 → Dy → Prop} (E : v_tellsBody t kd a1 D post) {rest : List Value} (hstk : st = List.reverse [.int a1, .ref (G.1 + 22)] ++ .ref (G.1 + (t + 9)) :: rest) (hrm : (rest.map fun v => v.category).sum ≤ 8) (hR : 7 + 1 ≤ R.frames ∧ 8 + (3 + 11) + 60 * 7 ≤ R.locals) (hkn : k + 0 ≤ R.cells ∧ n + 0 ≤ R.slots) (hd : decode cc pc = .ok (.invokevirtual 244, 3)) (kz : ∀ v S1 D1, (PI S post) v S1 D1 → Z p l e R s m args below meth c nL (WM G s A S1 D1) (k + 0) (n + 0) Q (pc + 3) lv (v.toList ++ rest)) : Z p l e R s m args below meth c nL (WM G s A S D) k n Q pc lv st := by
  obtain rfl | rfl | rfl | rfl | rfl | rfl : kd = 0 ∨ kd = 1 ∨ kd = 2 ∨ kd = 3 ∨ kd = 4 ∨ kd = 5 := by omega
  · exact z_callU (ci := 4) (C := RX4) (owner := RX4) (x := ⟨"WhyChosen$Model", "tellsBody", "(ILWhyChosen$Trace;)I"⟩) (av := [.int a1, .ref (G.1 + 22)]) hC lk_X11_244 in_X4_tellsBody cd_X4_tellsBody dn_X4_tellsBody (by omega) cu_X11_244_0 cf_4 (by decide) (kO hM) (ct_X4_tellsBody hF hM (E.1 rfl)) rfl hstk hrm hkn hd kz
  · exact z_callU (ci := 7) (C := RX7) (owner := RX4) (x := ⟨"WhyChosen$Model", "tellsBody", "(ILWhyChosen$Trace;)I"⟩) (av := [.int a1, .ref (G.1 + 22)]) hC lk_X11_244 in_X4_tellsBody cd_X4_tellsBody dn_X4_tellsBody (by omega) cu_X11_244_1 cf_7 (by decide) (kO hM) (ct_X4_tellsBody hF hM (E.2.1 rfl)) rfl hstk hrm hkn hd kz
  · exact z_callU (ci := 5) (C := RX5) (owner := RX4) (x := ⟨"WhyChosen$Model", "tellsBody", "(ILWhyChosen$Trace;)I"⟩) (av := [.int a1, .ref (G.1 + 22)]) hC lk_X11_244 in_X5_tellsBody cd_X5_tellsBody dn_X5_tellsBody (by omega) cu_X11_244_2 cf_5 (by decide) (kO hM) (ct_X5_tellsBody hF hM (E.2.2.1 rfl)) rfl hstk hrm hkn hd kz
  · exact z_callU (ci := 3) (C := RX3) (owner := RX4) (x := ⟨"WhyChosen$Model", "tellsBody", "(ILWhyChosen$Trace;)I"⟩) (av := [.int a1, .ref (G.1 + 22)]) hC lk_X11_244 in_X4_tellsBody cd_X4_tellsBody dn_X4_tellsBody (by omega) cu_X11_244_3 cf_3 (by decide) (kO hM) (ct_X4_tellsBody hF hM (E.2.2.2.1 rfl)) rfl hstk hrm hkn hd kz
  · exact z_callU (ci := 2) (C := RX2) (owner := RX4) (x := ⟨"WhyChosen$Model", "tellsBody", "(ILWhyChosen$Trace;)I"⟩) (av := [.int a1, .ref (G.1 + 22)]) hC lk_X11_244 in_X2_tellsBody cd_X2_tellsBody dn_X2_tellsBody (by omega) cu_X11_244_4 cf_2 (by decide) (kO hM) (ct_X2_tellsBody hF hM (E.2.2.2.2.1 rfl)) rfl hstk hrm hkn hd kz
  · exact z_callU (ci := 8) (C := RX8) (owner := RX4) (x := ⟨"WhyChosen$Model", "tellsBody", "(ILWhyChosen$Trace;)I"⟩) (av := [.int a1, .ref (G.1 + 22)]) hC lk_X11_244 in_X8_tellsBody cd_X8_tellsBody dn_X8_tellsBody (by omega) cu_X11_244_5 cf_8 (by decide) (kO hM) (ct_X8_tellsBody hF hM (E.2.2.2.2.2 rfl)) rfl hstk hrm hkn hd kz
end ZVV
def fX11_act (mdl : Nat → Option (Nat × Nat)) (a1 : Int32) (a2 : Int32) (a3 : Int32) (D : Dy) (post : Int32 → Dy → Prop) : Prop :=
  (fX10_clear D (fun (D6 : Dy) => (fX11_modelAt mdl a1 D6 (fun (r10 : Option (Nat × Nat)) => ((r10 = none → post (0 : Int32) D6) ∧ (∀ t kd : Nat, r10 = some (t, kd) → (fX11_within a2 (3 : Int32) (fun (v14 : Int32) => ((¬ v14 = 0 → ((¬ a2 = 0 → ((¬ a2 = (1 : Int32) → (v_tellsBody t kd a3 D6 (fun (v21 : Int32) (D26 : Dy) => post v21 D26))) ∧ (a2 = (1 : Int32) → (v_oddsBody t kd a3 D6 (fun (v27 : Int32) (D32 : Dy) => post v27 D32))))) ∧ (a2 = 0 → (v_weighsBody t kd a3 D6 (fun (v33 : Int32) (D38 : Dy) => post v33 D38))))) ∧ (v14 = 0 → post (0 : Int32) D6))))))))))
set_option maxHeartbeats 4000000 in
set_option maxRecDepth 100000 in
theorem ct_X11_act {l : Launch} {G : Gl} {S : Sh} {D : Dy} {mdl : Nat → Option (Nat × Nat)} (hF : FX S mdl) {a1 : Int32} {a2 : Int32} {a3 : Int32} {post : Int32 → Dy → Prop} (E : fX11_act mdl a1 a2 a3 D post) : Ct l G yX11_act cX11_act 5 (some .int) 8 0 0 S D [.ref (G.1 + 0), .int a1, .int a2, .int a3] (PI S post) := by
  refine z_enter (lv0 := [(0, .ref (G.1 + 0)), (1, .int a1), (2, .int a2), (3, .int a3)]) pl_11 (Nat.le_of_ble_eq_true rfl) rfl ?_
  intro p e s m args below meth c hC hnm
  unfold fX11_act at E
  refine z_aload_n hC dX11_act_0 rfl 0 rfl ?_
  refine z_get hC lf_X11_54_11 (kX_0 hF) dX11_act_1 (fV_ref rfl (rX_0_12 hF)) ?_
  refine z_callV (ci := 10) (rest := []) hC (ck_mk lk_X11_234 in_X10_clear cd_X10_clear ds_X10_clear (Nat.le_of_ble_eq_true rfl) (Nat.le_of_ble_eq_true rfl)) iy_X10_clear sy_X10_clear cf_10 (by decide) (kX_22 hF) (ct_X10_clear hF E) rfl rfl (Nat.le_of_ble_eq_true rfl) ⟨Nat.le_refl _, Nat.le_refl _⟩ dX11_act_4 ?_
  rintro _ _ D6 ⟨rfl, rfl, E⟩
  refine z_aload_n hC dX11_act_7 rfl 0 rfl ?_
  refine z_iload_n hC dX11_act_8 rfl 1 rfl ?_
  refine z_callV (ci := 11) (rest := []) hC (ck_mk lk_X11_130 in_X11_modelAt cd_X11_modelAt ds_X11_modelAt (Nat.le_of_ble_eq_true rfl) (Nat.le_of_ble_eq_true rfl)) iy_X11_modelAt sy_X11_modelAt cf_11 (by decide) (kX_0 hF) (ct_X11_modelAt hF E) rfl rfl (Nat.le_of_ble_eq_true rfl) ⟨Nat.le_refl _, Nat.le_refl _⟩ dX11_act_9 ?_
  rintro _ _ _ ⟨r10, rfl, rfl, rfl, hq_r10, E⟩
  refine z_astoreq (lv' := [(4, va_rf (mq G r10)), (0, .ref (G.1 + 0)), (1, .int a1), (2, .int a2), (3, .int a3)]) hC dX11_act_12 (Nat.le_of_ble_eq_true rfl) rfl ?_
  refine z_aloadq hC dX11_act_14 0 rfl ?_
  refine z_ifnullM (tgt := 27) hC hq_r10 dX11_act_16 (by decide) ?_ ?_
  · intro c12
    replace E := E.1 c12
    refine z_iconst (v := 0) hC dX11_act_27 rfl ?_
    exact z_iret hC dX11_act_28 (Nat.le_refl _) (Nat.le_refl _) ⟨_, rfl, rfl, E⟩
  · intro t kd hM c12
    replace E := E.2 t kd c12
    subst c12
    have hT := hM.ft
    refine z_iload_n hC dX11_act_19 rfl 3 rfl ?_
    refine z_iconst (v := 3) hC dX11_act_20 rfl ?_
    refine z_callS (rest := []) hC (ck_mk lk_X11_69 in_X11_within cd_X11_within ds_X11_within (Nat.le_of_ble_eq_true rfl) (Nat.le_of_ble_eq_true rfl)) st_X11_within (ct_X11_within hF E) rfl rfl (Nat.le_of_ble_eq_true rfl) ⟨Nat.le_refl _, Nat.le_refl _⟩ dX11_act_21 ?_
    rintro _ _ _ ⟨v14, rfl, rfl, rfl, E⟩
    refine z_if_ne (tgt := 29) hC dX11_act_24 (by decide) (fun c18 => ?_) (fun c18 => ?_)
    · replace E := E.1 c18
      refine z_iload_n hC dX11_act_29 rfl 3 rfl ?_
      refine z_if_ne (tgt := 44) hC dX11_act_30 (by decide) (fun c19 => ?_) (fun c19 => ?_)
      · replace E := E.1 c19
        refine z_iload_n hC dX11_act_44 rfl 3 rfl ?_
        refine z_iconst (v := 1) hC dX11_act_45 rfl ?_
        refine z_icmp_ne (tgt := 62) hC dX11_act_46 (by decide) (fun c20 => ?_) (fun c20 => ?_)
        · replace E := E.1 c20
          refine z_aload hC dX11_act_62 0 rfl ?_
          refine z_iload_n hC dX11_act_64 rfl 4 rfl ?_
          refine z_aload_n hC dX11_act_65 rfl 1 rfl ?_
          refine z_get hC lf_X11_54_11 (kX_0 hF) dX11_act_66 (fV_ref rfl (rX_0_12 hF)) ?_
          refine zv_X11_244 (rest := []) hC hF hM (by have := hM.kd; omega) E rfl (Nat.le_of_ble_eq_true rfl) ⟨Nat.le_of_ble_eq_true rfl, Nat.le_of_ble_eq_true rfl⟩ ⟨Nat.le_refl _, Nat.le_refl _⟩ dX11_act_69 ?_
          rintro _ _ D26 ⟨v21, rfl, rfl, E⟩
          exact z_iret hC dX11_act_72 (Nat.le_refl _) (Nat.le_refl _) ⟨_, rfl, rfl, E⟩
        · replace E := E.2 c20
          refine z_aload hC dX11_act_49 0 rfl ?_
          refine z_iload_n hC dX11_act_51 rfl 4 rfl ?_
          refine z_aload_n hC dX11_act_52 rfl 1 rfl ?_
          refine z_get hC lf_X11_54_11 (kX_0 hF) dX11_act_53 (fV_ref rfl (rX_0_12 hF)) ?_
          refine zv_X11_241 (rest := []) hC hF hM (by have := hM.kd; omega) E rfl (Nat.le_of_ble_eq_true rfl) ⟨Nat.le_of_ble_eq_true rfl, Nat.le_of_ble_eq_true rfl⟩ ⟨Nat.le_refl _, Nat.le_refl _⟩ dX11_act_56 ?_
          rintro _ _ D32 ⟨v27, rfl, rfl, E⟩
          refine z_goto (tgt := 72) hC dX11_act_59 (by decide) ?_
          exact z_iret hC dX11_act_72 (Nat.le_refl _) (Nat.le_refl _) ⟨_, rfl, rfl, E⟩
      · replace E := E.2 c19
        refine z_aload hC dX11_act_33 0 rfl ?_
        refine z_iload_n hC dX11_act_35 rfl 4 rfl ?_
        refine z_aload_n hC dX11_act_36 rfl 1 rfl ?_
        refine z_get hC lf_X11_54_11 (kX_0 hF) dX11_act_37 (fV_ref rfl (rX_0_12 hF)) ?_
        refine zv_X11_237 (rest := []) hC hF hM (by have := hM.kd; omega) E rfl (Nat.le_of_ble_eq_true rfl) ⟨Nat.le_of_ble_eq_true rfl, Nat.le_of_ble_eq_true rfl⟩ ⟨Nat.le_refl _, Nat.le_refl _⟩ dX11_act_40 ?_
        rintro _ _ D38 ⟨v33, rfl, rfl, E⟩
        exact z_iret hC dX11_act_43 (Nat.le_refl _) (Nat.le_refl _) ⟨_, rfl, rfl, E⟩
    · replace E := E.2 c18
      refine z_iconst (v := 0) hC dX11_act_27 rfl ?_
      exact z_iret hC dX11_act_28 (Nat.le_refl _) (Nat.le_refl _) ⟨_, rfl, rfl, E⟩
def fX11_gatherMore (a1 : Int32) (D : Dy) (post : Dy → Prop) : Prop :=
  (LP2 (fun (rec3 : Int32 → Dy → Prop) (v1 : Int32) (D2 : Dy) => (((D2.1 7 4) ≤ v1 → post D2) ∧ (¬ (D2.1 7 4) ≤ v1 → (vp_in v1 80 ∧ (JN (fun (D6 : Dy) => (∀ v9 : Int32, v9 = v1 + 1 → (rec3 v9 D6))) (fun K7 : Dy → Prop => ((¬ (D2.1 8 (v1).toNatClampNeg) = a1 → (K7 D2)) ∧ ((D2.1 8 (v1).toNatClampNeg) = a1 → (vp_in v1 80 ∧ ((¬ (D2.1 11 (v1).toNatClampNeg) = 0 → (K7 D2)) ∧ ((D2.1 11 (v1).toNatClampNeg) = 0 → (vp_in v1 80 ∧ (vp_in v1 80 ∧ (fX6_require (D2.1 9 (v1).toNatClampNeg) (D2.1 10 (v1).toNatClampNeg) D2 (fun (D18 : Dy) => (K7 D18)))))))))))))))) FU (0 : Int32) D)
set_option maxHeartbeats 4000000 in
set_option maxRecDepth 100000 in
theorem ct_X11_gatherMore {l : Launch} {G : Gl} {S : Sh} {D : Dy} {mdl : Nat → Option (Nat × Nat)} (hF : FX S mdl) {a1 : Int32} {post : Dy → Prop} (E : fX11_gatherMore a1 D post) : Ct l G yX11_gatherMore cX11_gatherMore 3 none 2 0 0 S D [.ref (G.1 + 0), .int a1] (PV S post) := by
  refine z_enter (lv0 := [(0, .ref (G.1 + 0)), (1, .int a1)]) pl_11 (Nat.le_of_ble_eq_true rfl) rfl ?_
  intro p e s m args below meth c hC hnm
  unfold fX11_gatherMore at E
  refine z_iconst (v := 0) hC dX11_gatherMore_0 rfl ?_
  refine z_istore_n (lv' := [(2, .int (0 : Int32)), (0, .ref (G.1 + 0)), (1, .int a1)]) hC dX11_gatherMore_1 rfl (Nat.le_of_ble_eq_true rfl) rfl ?_
  refine z_sub [1, 2, 0] rfl ?_
  refine LP2_use (fun (v1 : Int32) (D2 : Dy) => ZM l G p e s m args below meth c 3 2 S (PV S post) S D2 2 [(0, .ref (G.1 + 0)), (1, .int a1), (2, .int v1)] []) ?_ FU (0 : Int32) D E
  intro rec3 hrec4 v1 D2 E
  refine z_iload_n hC dX11_gatherMore_2 rfl 2 rfl ?_
  refine z_aload_n hC dX11_gatherMore_3 rfl 0 rfl ?_
  refine z_get hC lf_X11_28_11 (kX_0 hF) dX11_gatherMore_4 (fV_ref rfl (rX_0_4 hF)) ?_
  refine z_get hC lf_X11_73_0 (kX_7 hF) dX11_gatherMore_7 (fV_int rfl) ?_
  refine z_icmp_ge (tgt := 69) hC dX11_gatherMore_10 (by decide) (fun c5 => ?_) (fun c5 => ?_)
  · replace E := E.1 c5
    exact z_vret hC dX11_gatherMore_69 (Nat.le_refl _) (Nat.le_refl _) ⟨rfl, rfl, E⟩
  · replace E := E.2 c5
    refine z_aload_n hC dX11_gatherMore_13 rfl 0 rfl ?_
    refine z_get hC lf_X11_28_11 (kX_0 hF) dX11_gatherMore_14 (fV_ref rfl (rX_0_4 hF)) ?_
    refine z_get hC lf_X11_100_0 (kX_7 hF) dX11_gatherMore_17 (fV_ref rfl (rX_7_0 hF)) ?_
    refine z_iload_n hC dX11_gatherMore_20 rfl 2 rfl ?_
    refine z_iald hC (kX_8 hF) (nX_8 hF) E.1 dX11_gatherMore_21 ?_
    replace E := E.2
    refine z_iload_n hC dX11_gatherMore_22 rfl 1 rfl ?_
    obtain ⟨K7, hK8, EE⟩ := JN_use E (fun K7 : Dy → Prop => ∀ (D6 : Dy), K7 D6 → ZM l G p e s m args below meth c 3 2 S (PV S post) S D6 63 [(0, .ref (G.1 + 0)), (1, .int a1), (2, .int v1)] []) (by
      intro D6 E
      obtain ⟨v9, h10⟩ : ∃ y : Int32, y = v1 + 1 := ⟨_, rfl⟩
      replace E := E v9 h10
      refine z_iinc (q := 2) (v := v9) (lv' := [(2, .int v9), (0, .ref (G.1 + 0)), (1, .int a1)]) hC dX11_gatherMore_63 rfl (by rw [h10]; rfl) (Nat.le_of_ble_eq_true rfl) rfl ?_
      refine z_goto (tgt := 2) hC dX11_gatherMore_66 (by decide) ?_
      refine z_sub [1, 2, 0] rfl ?_
      exact hrec4 v9 D6 E)
    replace E := EE
    clear EE
    refine z_icmp_ne (tgt := 63) hC dX11_gatherMore_23 (by decide) (fun c11 => ?_) (fun c11 => ?_)
    · replace E := E.1 c11
      exact hK8 D2 E
    · replace E := E.2 c11
      refine z_aload_n hC dX11_gatherMore_26 rfl 0 rfl ?_
      refine z_get hC lf_X11_28_11 (kX_0 hF) dX11_gatherMore_27 (fV_ref rfl (rX_0_4 hF)) ?_
      refine z_get hC lf_X11_97_0 (kX_7 hF) dX11_gatherMore_30 (fV_ref rfl (rX_7_3 hF)) ?_
      refine z_iload_n hC dX11_gatherMore_33 rfl 2 rfl ?_
      refine z_iald hC (kX_11 hF) (nX_11 hF) E.1 dX11_gatherMore_34 ?_
      replace E := E.2
      refine z_if_ne (tgt := 63) hC dX11_gatherMore_35 (by decide) (fun c12 => ?_) (fun c12 => ?_)
      · replace E := E.1 c12
        exact hK8 D2 E
      · replace E := E.2 c12
        refine z_aload_n hC dX11_gatherMore_38 rfl 0 rfl ?_
        refine z_get hC lf_X11_44_11 (kX_0 hF) dX11_gatherMore_39 (fV_ref rfl (rX_0_9 hF)) ?_
        refine z_aload_n hC dX11_gatherMore_42 rfl 0 rfl ?_
        refine z_get hC lf_X11_28_11 (kX_0 hF) dX11_gatherMore_43 (fV_ref rfl (rX_0_4 hF)) ?_
        refine z_get hC lf_X11_102_0 (kX_7 hF) dX11_gatherMore_46 (fV_ref rfl (rX_7_1 hF)) ?_
        refine z_iload_n hC dX11_gatherMore_49 rfl 2 rfl ?_
        refine z_iald hC (kX_9 hF) (nX_9 hF) E.1 dX11_gatherMore_50 ?_
        replace E := E.2
        refine z_aload_n hC dX11_gatherMore_51 rfl 0 rfl ?_
        refine z_get hC lf_X11_28_11 (kX_0 hF) dX11_gatherMore_52 (fV_ref rfl (rX_0_4 hF)) ?_
        refine z_get hC lf_X11_105_0 (kX_7 hF) dX11_gatherMore_55 (fV_ref rfl (rX_7_2 hF)) ?_
        refine z_iload_n hC dX11_gatherMore_58 rfl 2 rfl ?_
        refine z_iald hC (kX_10 hF) (nX_10 hF) E.1 dX11_gatherMore_59 ?_
        replace E := E.2
        refine z_callV (ci := 6) (rest := []) hC (ck_mk lk_X11_315 in_X6_require cd_X6_require ds_X6_require (Nat.le_of_ble_eq_true rfl) (Nat.le_of_ble_eq_true rfl)) iy_X6_require sy_X6_require cf_6 (by decide) (kX_14 hF) (ct_X6_require hF E) rfl rfl (Nat.le_of_ble_eq_true rfl) ⟨Nat.le_refl _, Nat.le_refl _⟩ dX11_gatherMore_60 ?_
        rintro _ _ D18 ⟨rfl, rfl, E⟩
        exact hK8 D18 E
def fX11_gatherOne (a1 : Int32) (D : Dy) (post : Dy → Prop) : Prop :=
  (fX6_clear (D.1 1 3) D (fun (D6 : Dy) => (fX11_gatherMore a1 D6 (fun (D12 : Dy) => post D12))))
set_option maxHeartbeats 4000000 in
set_option maxRecDepth 100000 in
theorem ct_X11_gatherOne {l : Launch} {G : Gl} {S : Sh} {D : Dy} {mdl : Nat → Option (Nat × Nat)} (hF : FX S mdl) {a1 : Int32} {post : Dy → Prop} (E : fX11_gatherOne a1 D post) : Ct l G yX11_gatherOne cX11_gatherOne 2 none 3 0 0 S D [.ref (G.1 + 0), .int a1] (PV S post) := by
  refine z_enter (lv0 := [(0, .ref (G.1 + 0)), (1, .int a1)]) pl_11 (Nat.le_of_ble_eq_true rfl) rfl ?_
  intro p e s m args below meth c hC hnm
  unfold fX11_gatherOne at E
  refine z_aload_n hC dX11_gatherOne_0 rfl 0 rfl ?_
  refine z_get hC lf_X11_44_11 (kX_0 hF) dX11_gatherOne_1 (fV_ref rfl (rX_0_9 hF)) ?_
  refine z_aload_n hC dX11_gatherOne_4 rfl 0 rfl ?_
  refine z_get hC lf_X11_12_11 (kX_0 hF) dX11_gatherOne_5 (fV_ref rfl (rX_0_0 hF)) ?_
  refine z_get hC lf_X11_224_1 (kX_1 hF) dX11_gatherOne_8 (fV_int rfl) ?_
  refine z_callV (ci := 6) (rest := []) hC (ck_mk lk_X11_313 in_X6_clear cd_X6_clear ds_X6_clear (Nat.le_of_ble_eq_true rfl) (Nat.le_of_ble_eq_true rfl)) iy_X6_clear sy_X6_clear cf_6 (by decide) (kX_14 hF) (ct_X6_clear hF E) rfl rfl (Nat.le_of_ble_eq_true rfl) ⟨Nat.le_refl _, Nat.le_refl _⟩ dX11_gatherOne_11 ?_
  rintro _ _ D6 ⟨rfl, rfl, E⟩
  refine z_aload_n hC dX11_gatherOne_14 rfl 0 rfl ?_
  refine z_iload_n hC dX11_gatherOne_15 rfl 1 rfl ?_
  refine z_callV (ci := 11) (rest := []) hC (ck_mk lk_X11_192 in_X11_gatherMore cd_X11_gatherMore ds_X11_gatherMore (Nat.le_of_ble_eq_true rfl) (Nat.le_of_ble_eq_true rfl)) iy_X11_gatherMore sy_X11_gatherMore cf_11 (by decide) (kX_0 hF) (ct_X11_gatherMore hF E) rfl rfl (Nat.le_of_ble_eq_true rfl) ⟨Nat.le_refl _, Nat.le_refl _⟩ dX11_gatherOne_16 ?_
  rintro _ _ D12 ⟨rfl, rfl, E⟩
  exact z_vret hC dX11_gatherOne_19 (Nat.le_refl _) (Nat.le_refl _) ⟨rfl, rfl, E⟩
def fX11_agree (a1 : Int32) (D : Dy) (post : Int32 → Dy → Prop) : Prop :=
  (fX11_within a1 (D.1 0 3) (fun (v2 : Int32) => ((¬ v2 = 0 → (fX11_gatherOne a1 D (fun (D12 : Dy) => (fX6_countAgreeing D12 (fun (v13 : Int32) (D18 : Dy) => post v13 D18))))) ∧ (v2 = 0 → post (-1 : Int32) D))))
set_option maxHeartbeats 4000000 in
set_option maxRecDepth 100000 in
theorem ct_X11_agree {l : Launch} {G : Gl} {S : Sh} {D : Dy} {mdl : Nat → Option (Nat × Nat)} (hF : FX S mdl) {a1 : Int32} {post : Int32 → Dy → Prop} (E : fX11_agree a1 D post) : Ct l G yX11_agree cX11_agree 2 (some .int) 4 0 0 S D [.ref (G.1 + 0), .int a1] (PI S post) := by
  refine z_enter (lv0 := [(0, .ref (G.1 + 0)), (1, .int a1)]) pl_11 (Nat.le_of_ble_eq_true rfl) rfl ?_
  intro p e s m args below meth c hC hnm
  unfold fX11_agree at E
  refine z_iload_n hC dX11_agree_0 rfl 1 rfl ?_
  refine z_aload_n hC dX11_agree_1 rfl 0 rfl ?_
  refine z_get hC lf_X11_91_11 (kX_0 hF) dX11_agree_2 (fV_int rfl) ?_
  refine z_callS (rest := []) hC (ck_mk lk_X11_69 in_X11_within cd_X11_within ds_X11_within (Nat.le_of_ble_eq_true rfl) (Nat.le_of_ble_eq_true rfl)) st_X11_within (ct_X11_within hF E) rfl rfl (Nat.le_of_ble_eq_true rfl) ⟨Nat.le_refl _, Nat.le_refl _⟩ dX11_agree_5 ?_
  rintro _ _ _ ⟨v2, rfl, rfl, rfl, E⟩
  refine z_if_ne (tgt := 13) hC dX11_agree_8 (by decide) (fun c6 => ?_) (fun c6 => ?_)
  · replace E := E.1 c6
    refine z_aload_n hC dX11_agree_13 rfl 0 rfl ?_
    refine z_iload_n hC dX11_agree_14 rfl 1 rfl ?_
    refine z_callV (ci := 11) (rest := []) hC (ck_mk lk_X11_181 in_X11_gatherOne cd_X11_gatherOne ds_X11_gatherOne (Nat.le_of_ble_eq_true rfl) (Nat.le_of_ble_eq_true rfl)) iy_X11_gatherOne sy_X11_gatherOne cf_11 (by decide) (kX_0 hF) (ct_X11_gatherOne hF E) rfl rfl (Nat.le_of_ble_eq_true rfl) ⟨Nat.le_refl _, Nat.le_refl _⟩ dX11_agree_15 ?_
    rintro _ _ D12 ⟨rfl, rfl, E⟩
    refine z_aload_n hC dX11_agree_18 rfl 0 rfl ?_
    refine z_get hC lf_X11_44_11 (kX_0 hF) dX11_agree_19 (fV_ref rfl (rX_0_9 hF)) ?_
    refine z_callV (ci := 6) (rest := []) hC (ck_mk lk_X11_185 in_X6_countAgreeing cd_X6_countAgreeing ds_X6_countAgreeing (Nat.le_of_ble_eq_true rfl) (Nat.le_of_ble_eq_true rfl)) iy_X6_countAgreeing sy_X6_countAgreeing cf_6 (by decide) (kX_14 hF) (ct_X6_countAgreeing hF E) rfl rfl (Nat.le_of_ble_eq_true rfl) ⟨Nat.le_refl _, Nat.le_refl _⟩ dX11_agree_22 ?_
    rintro _ _ D18 ⟨v13, rfl, rfl, E⟩
    exact z_iret hC dX11_agree_25 (Nat.le_refl _) (Nat.le_refl _) ⟨_, rfl, rfl, E⟩
  · replace E := E.2 c6
    refine z_iconst (v := -1) hC dX11_agree_11 rfl ?_
    exact z_iret hC dX11_agree_12 (Nat.le_refl _) (Nat.le_refl _) ⟨_, rfl, rfl, E⟩
def fX11_asItem (a1 : Int32) (a2 : Int64) (post : Int64 → Prop) : Prop :=
  ((a1 = (0 : Int32) → post ((((a2).toInt32).toInt8).toInt32).toInt64) ∧ (¬ a1 = (0 : Int32) → ((a1 = (1 : Int32) → post ((((a2).toInt32).toInt16).toInt32).toInt64) ∧ (¬ a1 = (1 : Int32) → ((a1 = (2 : Int32) → post ((a2).toInt32).toInt64) ∧ (¬ a1 = (2 : Int32) → ((a1 = (3 : Int32) → post a2) ∧ (¬ a1 = (3 : Int32) → (((lg_cmp a2 (0 : Int64)) = 0 → post (0 : Int64)) ∧ (¬ (lg_cmp a2 (0 : Int64)) = 0 → post (1 : Int64)))))))))))
set_option maxHeartbeats 4000000 in
set_option maxRecDepth 100000 in
theorem ct_X11_asItem {l : Launch} {G : Gl} {S : Sh} {D : Dy} {mdl : Nat → Option (Nat × Nat)} (hF : FX S mdl) {a1 : Int32} {a2 : Int64} {post : Int64 → Prop} (E : fX11_asItem a1 a2 post) : Ct l G yX11_asItem cX11_asItem 3 (some .long) 0 0 0 S D [.int a1, .long a2] (PLr S D post) := by
  refine z_enter (lv0 := [(0, .int a1), (1, .long a2)]) pl_11 (Nat.le_of_ble_eq_true rfl) rfl ?_
  intro p e s m args below meth c hC hnm
  unfold fX11_asItem at E
  refine z_iload_n hC dX11_asItem_0 rfl 0 rfl ?_
  by_cases c1 : a1 = (0 : Int32)
  · replace E := E.1 c1
    refine z_tableIn (tgt := 32) (off := 31) hC dX11_asItem_1 c1 (by decide) (by decide) ?_
    refine z_lload_n hC dX11_asItem_32 rfl 1 rfl ?_
    refine z_l2i hC dX11_asItem_33 ?_
    refine z_i2b hC dX11_asItem_34 ?_
    refine z_i2l hC dX11_asItem_35 ?_
    exact z_lret hC dX11_asItem_36 (Nat.le_refl _) (Nat.le_refl _) ⟨_, rfl, rfl, rfl, E⟩
  replace E := E.2 c1
  by_cases c2 : a1 = (1 : Int32)
  · replace E := E.1 c2
    refine z_tableIn (tgt := 37) (off := 36) hC dX11_asItem_1 c2 (by decide) (by decide) ?_
    refine z_lload_n hC dX11_asItem_37 rfl 1 rfl ?_
    refine z_l2i hC dX11_asItem_38 ?_
    refine z_i2s hC dX11_asItem_39 ?_
    refine z_i2l hC dX11_asItem_40 ?_
    exact z_lret hC dX11_asItem_41 (Nat.le_refl _) (Nat.le_refl _) ⟨_, rfl, rfl, rfl, E⟩
  replace E := E.2 c2
  by_cases c3 : a1 = (2 : Int32)
  · replace E := E.1 c3
    refine z_tableIn (tgt := 42) (off := 41) hC dX11_asItem_1 c3 (by decide) (by decide) ?_
    refine z_lload_n hC dX11_asItem_42 rfl 1 rfl ?_
    refine z_l2i hC dX11_asItem_43 ?_
    refine z_i2l hC dX11_asItem_44 ?_
    exact z_lret hC dX11_asItem_45 (Nat.le_refl _) (Nat.le_refl _) ⟨_, rfl, rfl, rfl, E⟩
  replace E := E.2 c3
  by_cases c4 : a1 = (3 : Int32)
  · replace E := E.1 c4
    refine z_tableIn (tgt := 46) (off := 45) hC dX11_asItem_1 c4 (by decide) (by decide) ?_
    refine z_lload_n hC dX11_asItem_46 rfl 1 rfl ?_
    exact z_lret hC dX11_asItem_47 (Nat.le_refl _) (Nat.le_refl _) ⟨_, rfl, rfl, rfl, E⟩
  replace E := E.2 c4
  refine z_tableOut (tgt := 48) hC dX11_asItem_1 (by have zc1 := sw_ne c1 (show (0 : Int32).toInt = 0 by decide); have zc2 := sw_ne c2 (show (1 : Int32).toInt = 1 by decide); have zc3 := sw_ne c3 (show (2 : Int32).toInt = 2 by decide); have zc4 := sw_ne c4 (show (3 : Int32).toInt = 3 by decide); omega) (by decide) ?_
  refine z_lload_n hC dX11_asItem_48 rfl 1 rfl ?_
  refine z_lconst (v := 0) hC dX11_asItem_49 rfl ?_
  refine z_lcmp hC dX11_asItem_50 ?_
  refine z_if_eq (tgt := 58) hC dX11_asItem_51 (by decide) (fun c5 => ?_) (fun c5 => ?_)
  · replace E := E.1 c5
    refine z_lconst (v := 0) hC dX11_asItem_58 rfl ?_
    exact z_lret hC dX11_asItem_59 (Nat.le_refl _) (Nat.le_refl _) ⟨_, rfl, rfl, rfl, E⟩
  · replace E := E.2 c5
    refine z_lconst (v := 1) hC dX11_asItem_54 rfl ?_
    refine z_goto (tgt := 59) hC dX11_asItem_55 (by decide) ?_
    exact z_lret hC dX11_asItem_59 (Nat.le_refl _) (Nat.le_refl _) ⟨_, rfl, rfl, rfl, E⟩
def fX11_ask (a1 : Int32) (D : Dy) (post : Int32 → Dy → Prop) : Prop :=
  (fX1_hasSome a1 D (fun (v2 : Int32) => ((¬ v2 = 0 → (((D.1 0 11) < (10 : Int32) → (vp_in (D.1 0 11) 10 ∧ (∀ D8 : Dy, D8 = sI D 21 ((D.1 0 11)).toNatClampNeg a1 → (∀ v10 : Int32, v10 = (D8.1 0 11) → (∀ D12 : Dy, D12 = sI D8 0 11 (v10 + (1 : Int32)) → post v10 D12))))) ∧ (¬ (D.1 0 11) < (10 : Int32) → post (-4 : Int32) D))) ∧ (v2 = 0 → post (-2 : Int32) D))))
set_option maxHeartbeats 4000000 in
set_option maxRecDepth 100000 in
theorem ct_X11_ask {l : Launch} {G : Gl} {S : Sh} {D : Dy} {mdl : Nat → Option (Nat × Nat)} (hF : FX S mdl) {a1 : Int32} {post : Int32 → Dy → Prop} (E : fX11_ask a1 D post) : Ct l G yX11_ask cX11_ask 2 (some .int) 2 0 0 S D [.ref (G.1 + 0), .int a1] (PI S post) := by
  refine z_enter (lv0 := [(0, .ref (G.1 + 0)), (1, .int a1)]) pl_11 (Nat.le_of_ble_eq_true rfl) rfl ?_
  intro p e s m args below meth c hC hnm
  unfold fX11_ask at E
  refine z_aload_n hC dX11_ask_0 rfl 0 rfl ?_
  refine z_get hC lf_X11_12_11 (kX_0 hF) dX11_ask_1 (fV_ref rfl (rX_0_0 hF)) ?_
  refine z_iload_n hC dX11_ask_4 rfl 1 rfl ?_
  refine z_callV (ci := 1) (rest := []) hC (ck_mk lk_X11_143 in_X1_hasSome cd_X1_hasSome ds_X1_hasSome (Nat.le_of_ble_eq_true rfl) (Nat.le_of_ble_eq_true rfl)) iy_X1_hasSome sy_X1_hasSome cf_1 (by decide) (kX_1 hF) (ct_X1_hasSome hF E) rfl rfl (Nat.le_of_ble_eq_true rfl) ⟨Nat.le_refl _, Nat.le_refl _⟩ dX11_ask_5 ?_
  rintro _ _ _ ⟨v2, rfl, rfl, rfl, E⟩
  refine z_if_ne (tgt := 14) hC dX11_ask_8 (by decide) (fun c6 => ?_) (fun c6 => ?_)
  · replace E := E.1 c6
    refine z_aload_n hC dX11_ask_14 rfl 0 rfl ?_
    refine z_get hC lf_X11_77_11 (kX_0 hF) dX11_ask_15 (fV_int rfl) ?_
    refine z_bipush (v := 10) hC dX11_ask_18 rfl ?_
    refine z_icmp_lt (tgt := 26) hC dX11_ask_20 (by decide) (fun c7 => ?_) (fun c7 => ?_)
    · replace E := E.1 c7
      refine z_aload_n hC dX11_ask_26 rfl 0 rfl ?_
      refine z_get hC lf_X11_48_11 (kX_0 hF) dX11_ask_27 (fV_ref rfl (rX_0_10 hF)) ?_
      refine z_aload_n hC dX11_ask_30 rfl 0 rfl ?_
      refine z_get hC lf_X11_77_11 (kX_0 hF) dX11_ask_31 (fV_int rfl) ?_
      refine z_iload_n hC dX11_ask_34 rfl 1 rfl ?_
      refine z_iast hC (kX_21 hF) (nX_21 hF) E.1 dX11_ask_35 ?_
      replace E := E.2
      refine z_topD (fun D8 h9 => ?_)
      replace E := E D8 h9
      refine z_aload_n hC dX11_ask_36 rfl 0 rfl ?_
      refine z_dup hC dX11_ask_37 rfl ?_
      refine z_get hC lf_X11_77_11 (kX_0 hF) dX11_ask_38 (fV_int rfl) ?_
      refine z_topi (fun v10 h11 => ?_)
      replace E := E v10 h11
      refine z_dup_x1 hC dX11_ask_41 rfl rfl ?_
      refine z_iconst (v := 1) hC dX11_ask_42 rfl ?_
      refine z_iadd hC dX11_ask_43 ?_
      refine z_puti hC lf_X11_77_11 rfl (kX_0 hF) dX11_ask_44 ?_
      refine z_topD (fun D12 h13 => ?_)
      replace E := E D12 h13
      exact z_iret hC dX11_ask_47 (Nat.le_refl _) (Nat.le_refl _) ⟨_, rfl, rfl, E⟩
    · replace E := E.2 c7
      refine z_bipush (v := -4) hC dX11_ask_23 rfl ?_
      exact z_iret hC dX11_ask_25 (Nat.le_refl _) (Nat.le_refl _) ⟨_, rfl, rfl, E⟩
  · replace E := E.2 c6
    refine z_bipush (v := -2) hC dX11_ask_11 rfl ?_
    exact z_iret hC dX11_ask_13 (Nat.le_refl _) (Nat.le_refl _) ⟨_, rfl, rfl, E⟩
def fX11_compareAway (a1 : Int32) (a2 : Int32) (D : Dy) (post : Int32 → Prop) : Prop :=
  (fX0_countWith a1 a2 (1 : Int32) (1 : Int32) D (fun (v1 : Int32) => (fX0_countWith a1 a2 (1 : Int32) (0 : Int32) D (fun (v6 : Int32) => (fX0_countWith a1 a2 (0 : Int32) (1 : Int32) D (fun (v11 : Int32) => (fX0_countWith a1 a2 (0 : Int32) (0 : Int32) D (fun (v16 : Int32) => ((v6 = 0 → post (-6 : Int32)) ∧ (¬ v6 = 0 → ((¬ v16 = 0 → (∀ v23 : Int32, v23 = (v11 * v6) → (∀ v25 : Int32, v25 = (v1 * v16) → ((¬ v23 = v25 → ((v23 ≤ v25 → post (-5 : Int32)) ∧ (¬ v23 ≤ v25 → post (1 : Int32)))) ∧ (v23 = v25 → post (0 : Int32)))))) ∧ (v16 = 0 → post (-6 : Int32)))))))))))))
set_option maxHeartbeats 4000000 in
set_option maxRecDepth 100000 in
theorem ct_X11_compareAway {l : Launch} {G : Gl} {S : Sh} {D : Dy} {mdl : Nat → Option (Nat × Nat)} (hF : FX S mdl) {a1 : Int32} {a2 : Int32} {post : Int32 → Prop} (E : fX11_compareAway a1 a2 D post) : Ct l G yX11_compareAway cX11_compareAway 9 (some .int) 2 0 0 S D [.ref (G.1 + 0), .int a1, .int a2] (PIr S D post) := by
  refine z_enter (lv0 := [(0, .ref (G.1 + 0)), (1, .int a1), (2, .int a2)]) pl_11 (Nat.le_of_ble_eq_true rfl) rfl ?_
  intro p e s m args below meth c hC hnm
  unfold fX11_compareAway at E
  refine z_aload_n hC dX11_compareAway_0 rfl 0 rfl ?_
  refine z_get hC lf_X11_28_11 (kX_0 hF) dX11_compareAway_1 (fV_ref rfl (rX_0_4 hF)) ?_
  refine z_iload_n hC dX11_compareAway_4 rfl 1 rfl ?_
  refine z_iload_n hC dX11_compareAway_5 rfl 2 rfl ?_
  refine z_iconst (v := 1) hC dX11_compareAway_6 rfl ?_
  refine z_iconst (v := 1) hC dX11_compareAway_7 rfl ?_
  refine z_callV (ci := 0) (rest := []) hC (ck_mk lk_X11_214 in_X0_countWith cd_X0_countWith ds_X0_countWith (Nat.le_of_ble_eq_true rfl) (Nat.le_of_ble_eq_true rfl)) iy_X0_countWith sy_X0_countWith cf_0 (by decide) (kX_7 hF) (ct_X0_countWith hF E) rfl rfl (Nat.le_of_ble_eq_true rfl) ⟨Nat.le_refl _, Nat.le_refl _⟩ dX11_compareAway_8 ?_
  rintro _ _ _ ⟨v1, rfl, rfl, rfl, E⟩
  refine z_istore_n (lv' := [(3, .int v1), (0, .ref (G.1 + 0)), (1, .int a1), (2, .int a2)]) hC dX11_compareAway_11 rfl (Nat.le_of_ble_eq_true rfl) rfl ?_
  refine z_aload_n hC dX11_compareAway_12 rfl 1 rfl ?_
  refine z_get hC lf_X11_28_11 (kX_0 hF) dX11_compareAway_13 (fV_ref rfl (rX_0_4 hF)) ?_
  refine z_iload_n hC dX11_compareAway_16 rfl 2 rfl ?_
  refine z_iload_n hC dX11_compareAway_17 rfl 3 rfl ?_
  refine z_iconst (v := 1) hC dX11_compareAway_18 rfl ?_
  refine z_iconst (v := 0) hC dX11_compareAway_19 rfl ?_
  refine z_callV (ci := 0) (rest := []) hC (ck_mk lk_X11_214 in_X0_countWith cd_X0_countWith ds_X0_countWith (Nat.le_of_ble_eq_true rfl) (Nat.le_of_ble_eq_true rfl)) iy_X0_countWith sy_X0_countWith cf_0 (by decide) (kX_7 hF) (ct_X0_countWith hF E) rfl rfl (Nat.le_of_ble_eq_true rfl) ⟨Nat.le_refl _, Nat.le_refl _⟩ dX11_compareAway_20 ?_
  rintro _ _ _ ⟨v6, rfl, rfl, rfl, E⟩
  refine z_istore (lv' := [(4, .int v6), (3, .int v1), (0, .ref (G.1 + 0)), (1, .int a1), (2, .int a2)]) hC dX11_compareAway_23 (Nat.le_of_ble_eq_true rfl) rfl ?_
  refine z_aload_n hC dX11_compareAway_25 rfl 2 rfl ?_
  refine z_get hC lf_X11_28_11 (kX_0 hF) dX11_compareAway_26 (fV_ref rfl (rX_0_4 hF)) ?_
  refine z_iload_n hC dX11_compareAway_29 rfl 3 rfl ?_
  refine z_iload_n hC dX11_compareAway_30 rfl 4 rfl ?_
  refine z_iconst (v := 0) hC dX11_compareAway_31 rfl ?_
  refine z_iconst (v := 1) hC dX11_compareAway_32 rfl ?_
  refine z_callV (ci := 0) (rest := []) hC (ck_mk lk_X11_214 in_X0_countWith cd_X0_countWith ds_X0_countWith (Nat.le_of_ble_eq_true rfl) (Nat.le_of_ble_eq_true rfl)) iy_X0_countWith sy_X0_countWith cf_0 (by decide) (kX_7 hF) (ct_X0_countWith hF E) rfl rfl (Nat.le_of_ble_eq_true rfl) ⟨Nat.le_refl _, Nat.le_refl _⟩ dX11_compareAway_33 ?_
  rintro _ _ _ ⟨v11, rfl, rfl, rfl, E⟩
  refine z_istore (lv' := [(5, .int v11), (4, .int v6), (3, .int v1), (0, .ref (G.1 + 0)), (1, .int a1), (2, .int a2)]) hC dX11_compareAway_36 (Nat.le_of_ble_eq_true rfl) rfl ?_
  refine z_aload_n hC dX11_compareAway_38 rfl 3 rfl ?_
  refine z_get hC lf_X11_28_11 (kX_0 hF) dX11_compareAway_39 (fV_ref rfl (rX_0_4 hF)) ?_
  refine z_iload_n hC dX11_compareAway_42 rfl 4 rfl ?_
  refine z_iload_n hC dX11_compareAway_43 rfl 5 rfl ?_
  refine z_iconst (v := 0) hC dX11_compareAway_44 rfl ?_
  refine z_iconst (v := 0) hC dX11_compareAway_45 rfl ?_
  refine z_callV (ci := 0) (rest := []) hC (ck_mk lk_X11_214 in_X0_countWith cd_X0_countWith ds_X0_countWith (Nat.le_of_ble_eq_true rfl) (Nat.le_of_ble_eq_true rfl)) iy_X0_countWith sy_X0_countWith cf_0 (by decide) (kX_7 hF) (ct_X0_countWith hF E) rfl rfl (Nat.le_of_ble_eq_true rfl) ⟨Nat.le_refl _, Nat.le_refl _⟩ dX11_compareAway_46 ?_
  rintro _ _ _ ⟨v16, rfl, rfl, rfl, E⟩
  refine z_istore (lv' := [(6, .int v16), (5, .int v11), (4, .int v6), (3, .int v1), (0, .ref (G.1 + 0)), (1, .int a1), (2, .int a2)]) hC dX11_compareAway_49 (Nat.le_of_ble_eq_true rfl) rfl ?_
  refine z_iload hC dX11_compareAway_51 2 rfl ?_
  refine z_if_eq (tgt := 61) hC dX11_compareAway_53 (by decide) (fun c21 => ?_) (fun c21 => ?_)
  · replace E := E.1 c21
    refine z_bipush (v := -6) hC dX11_compareAway_61 rfl ?_
    exact z_iret hC dX11_compareAway_63 (Nat.le_refl _) (Nat.le_refl _) ⟨_, rfl, rfl, rfl, E⟩
  · replace E := E.2 c21
    refine z_iload hC dX11_compareAway_56 0 rfl ?_
    refine z_if_ne (tgt := 64) hC dX11_compareAway_58 (by decide) (fun c22 => ?_) (fun c22 => ?_)
    · replace E := E.1 c22
      refine z_iload hC dX11_compareAway_64 1 rfl ?_
      refine z_iload hC dX11_compareAway_66 2 rfl ?_
      refine z_imul hC dX11_compareAway_68 ?_
      refine z_topi (fun v23 h24 => ?_)
      replace E := E v23 h24
      refine z_istore (lv' := [(7, .int v23), (6, .int v16), (5, .int v11), (4, .int v6), (3, .int v1), (0, .ref (G.1 + 0)), (1, .int a1), (2, .int a2)]) hC dX11_compareAway_69 (Nat.le_of_ble_eq_true rfl) rfl ?_
      refine z_iload_n hC dX11_compareAway_71 rfl 4 rfl ?_
      refine z_iload hC dX11_compareAway_72 1 rfl ?_
      refine z_imul hC dX11_compareAway_74 ?_
      refine z_topi (fun v25 h26 => ?_)
      replace E := E v25 h26
      refine z_istore (lv' := [(8, .int v25), (7, .int v23), (6, .int v16), (5, .int v11), (4, .int v6), (3, .int v1), (0, .ref (G.1 + 0)), (1, .int a1), (2, .int a2)]) hC dX11_compareAway_75 (Nat.le_of_ble_eq_true rfl) rfl ?_
      refine z_iload hC dX11_compareAway_77 1 rfl ?_
      refine z_iload hC dX11_compareAway_79 0 rfl ?_
      refine z_icmp_ne (tgt := 86) hC dX11_compareAway_81 (by decide) (fun c27 => ?_) (fun c27 => ?_)
      · replace E := E.1 c27
        refine z_iload hC dX11_compareAway_86 1 rfl ?_
        refine z_iload hC dX11_compareAway_88 0 rfl ?_
        refine z_icmp_le (tgt := 97) hC dX11_compareAway_90 (by decide) (fun c28 => ?_) (fun c28 => ?_)
        · replace E := E.1 c28
          refine z_bipush (v := -5) hC dX11_compareAway_97 rfl ?_
          exact z_iret hC dX11_compareAway_99 (Nat.le_refl _) (Nat.le_refl _) ⟨_, rfl, rfl, rfl, E⟩
        · replace E := E.2 c28
          refine z_iconst (v := 1) hC dX11_compareAway_93 rfl ?_
          refine z_goto (tgt := 99) hC dX11_compareAway_94 (by decide) ?_
          exact z_iret hC dX11_compareAway_99 (Nat.le_refl _) (Nat.le_refl _) ⟨_, rfl, rfl, rfl, E⟩
      · replace E := E.2 c27
        refine z_iconst (v := 0) hC dX11_compareAway_84 rfl ?_
        exact z_iret hC dX11_compareAway_85 (Nat.le_refl _) (Nat.le_refl _) ⟨_, rfl, rfl, rfl, E⟩
    · replace E := E.2 c22
      refine z_bipush (v := -6) hC dX11_compareAway_61 rfl ?_
      exact z_iret hC dX11_compareAway_63 (Nat.le_refl _) (Nat.le_refl _) ⟨_, rfl, rfl, rfl, E⟩
def fX11_away (a1 : Int32) (a2 : Int32) (a3 : Int32) (D : Dy) (post : Int32 → Prop) : Prop :=
  (fX1_has a1 D (fun (v2 : Int32) => ((v2 = 0 → post (-1 : Int32)) ∧ (¬ v2 = 0 → (fX1_has a2 D (fun (v8 : Int32) => ((v8 = 0 → post (-1 : Int32)) ∧ (¬ v8 = 0 → (fX11_within a3 (5 : Int32) (fun (v14 : Int32) => ((¬ v14 = 0 → ((¬ a1 = a2 → (((2 : Int32) ≤ a3 → (((4 : Int32) ≤ a3 → (fX11_compareAway a1 a2 D (fun (v22 : Int32) => post v22))) ∧ (¬ (4 : Int32) ≤ a3 → (JN (fun (v27 : Int32) => (fX0_countWith a1 a2 (0 : Int32) v27 D (fun (v30 : Int32) => post v30))) (fun K28 : Int32 → Prop => ((¬ a3 = (2 : Int32) → (K28 (0 : Int32))) ∧ (a3 = (2 : Int32) → (K28 (1 : Int32))))))))) ∧ (¬ (2 : Int32) ≤ a3 → ((¬ a3 = 0 → (fX0_countWith a1 a2 (1 : Int32) (0 : Int32) D (fun (v37 : Int32) => post v37))) ∧ (a3 = 0 → (fX0_countWith a1 a2 (1 : Int32) (1 : Int32) D (fun (v42 : Int32) => post v42))))))) ∧ (a1 = a2 → post (-2 : Int32)))) ∧ (v14 = 0 → post (-1 : Int32)))))))))))))
