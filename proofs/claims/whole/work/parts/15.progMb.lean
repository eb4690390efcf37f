set_option maxHeartbeats 4000000 in
set_option maxRecDepth 100000 in
theorem ct_X12_weightOf {l : Launch} {G : Gl} {S : Sh} {D : Dy} (hF : FM S) {a1 : Int32} {a2 : Int32} {post : Int32 → Prop} (E : fX12_weightOf a1 a2 D post) : Ct l G yX12_weightOf cX12_weightOf 5 (some .int) 1 0 0 S D [.ref (G.1 + 33), .int a1, .int a2] (PIr S D post) := by
  refine z_enter (lv0 := [(0, .ref (G.1 + 33)), (1, .int a1), (2, .int a2)]) pl_12 (Nat.le_of_ble_eq_true rfl) rfl ?_
  intro p e s m args below meth c hC hnm
  unfold fX12_weightOf at E
  refine z_iload_n hC dX12_weightOf_0 rfl 1 rfl ?_
  refine z_bipush (v := 7) hC dX12_weightOf_1 rfl ?_
  refine z_icmp_ne (tgt := 25) hC dX12_weightOf_3 (by decide) (fun c1 => ?_) (fun c1 => ?_)
  · replace E := E.1 c1
    refine z_aload_n hC dX12_weightOf_25 rfl 0 rfl ?_
    refine z_get hC lf_X12_83_12 (kM_33 hF) dX12_weightOf_26 (fV_ref rfl (rM_33_24 hF)) ?_
    refine z_iload_n hC dX12_weightOf_29 rfl 1 rfl ?_
    refine z_iald hC (kM_47 hF) (nM_47 hF) E.1 dX12_weightOf_30 ?_
    replace E := E.2
    refine z_topi (fun v2 h3 => ?_)
    replace E := E v2 h3
    refine z_istore_n (lv' := [(3, .int v2), (0, .ref (G.1 + 33)), (1, .int a1), (2, .int a2)]) hC dX12_weightOf_31 rfl (Nat.le_of_ble_eq_true rfl) rfl ?_
    refine z_iconst (v := 0) hC dX12_weightOf_32 rfl ?_
    refine z_istore (lv' := [(4, .int (0 : Int32)), (3, .int v2), (0, .ref (G.1 + 33)), (1, .int a1), (2, .int a2)]) hC dX12_weightOf_33 (Nat.le_of_ble_eq_true rfl) rfl ?_
    refine z_sub [2, 3, 4, 1, 0] rfl ?_
    refine LP2_use (fun (v4 : Int32) (v5 : Int32) => ZM l G p e s m args below meth c 5 1 S (PIr S D post) S D 35 [(0, .ref (G.1 + 33)), (1, .int a1), (2, .int a2), (3, .int v4), (4, .int v5)] []) ?_ FU v2 (0 : Int32) E
    intro rec6 hrec7 v4 v5 E
    refine z_iload hC dX12_weightOf_35 4 rfl ?_
    refine z_bipush (v := 8) hC dX12_weightOf_37 rfl ?_
    refine z_icmp_ge (tgt := 77) hC dX12_weightOf_39 (by decide) (fun c8 => ?_) (fun c8 => ?_)
    · replace E := E.1 c8
      refine z_iload_n hC dX12_weightOf_77 rfl 3 rfl ?_
      refine z_aload_n hC dX12_weightOf_78 rfl 0 rfl ?_
      refine z_get hC lf_X12_95_12 (kM_33 hF) dX12_weightOf_79 (fV_int rfl) ?_
      refine z_aload_n hC dX12_weightOf_82 rfl 0 rfl ?_
      refine z_get hC lf_X12_26_12 (kM_33 hF) dX12_weightOf_83 (fV_ref rfl (rM_33_5 hF)) ?_
      refine z_iload_n hC dX12_weightOf_86 rfl 1 rfl ?_
      refine z_iald hC (kM_35 hF) (nM_35 hF) E.1 dX12_weightOf_87 ?_
      replace E := E.2
      refine z_imul hC dX12_weightOf_88 ?_
      refine z_bipush (v := 10) hC dX12_weightOf_89 rfl ?_
      refine z_idiv hC dX12_weightOf_91 (by decide) ?_
      refine z_isub hC dX12_weightOf_92 ?_
      refine z_topi (fun v9 h10 => ?_)
      replace E := E v9 h10
      refine z_istore_n (lv' := [(3, .int v9), (0, .ref (G.1 + 33)), (1, .int a1), (2, .int a2), (4, .int v5)]) hC dX12_weightOf_93 rfl (Nat.le_of_ble_eq_true rfl) rfl ?_
      refine z_iload_n hC dX12_weightOf_94 rfl 0 rfl ?_
      refine z_iconst (v := 1) hC dX12_weightOf_95 rfl ?_
      obtain ⟨K12, hK13, EE⟩ := JN_use E (fun K12 : Int32 → Prop => ∀ (v11 : Int32), K12 v11 → ZM l G p e s m args below meth c 5 1 S (PIr S D post) S D 101 [(0, .ref (G.1 + 33)), (1, .int a1), (2, .int a2), (3, .int v11)] []) (by
        intro v11 E
        refine z_iload_n hC dX12_weightOf_101 rfl 1 rfl ?_
        refine z_iconst (v := 3) hC dX12_weightOf_102 rfl ?_
        refine z_irem hC dX12_weightOf_103 (by decide) ?_
        refine z_iload_n hC dX12_weightOf_104 rfl 2 rfl ?_
        obtain ⟨K15, hK16, EE⟩ := JN_use E (fun K15 : Int32 → Prop => ∀ (v14 : Int32), K15 v14 → ZM l G p e s m args below meth c 5 1 S (PIr S D post) S D 127 [(3, .int v14)] []) (by
          intro v14 E
          refine z_iload_n hC dX12_weightOf_127 rfl 0 rfl ?_
          refine z_bipush (v := 50) hC dX12_weightOf_128 rfl ?_
          refine z_icmp_le (tgt := 138) hC dX12_weightOf_130 (by decide) (fun c17 => ?_) (fun c17 => ?_)
          · replace E := E.1 c17
            refine z_iload_n hC dX12_weightOf_138 rfl 0 rfl ?_
            exact z_iret hC dX12_weightOf_139 (Nat.le_refl _) (Nat.le_refl _) ⟨_, rfl, rfl, rfl, E⟩
          · replace E := E.2 c17
            refine z_bipush (v := 50) hC dX12_weightOf_133 rfl ?_
            refine z_goto (tgt := 139) hC dX12_weightOf_135 (by decide) ?_
            exact z_iret hC dX12_weightOf_139 (Nat.le_refl _) (Nat.le_refl _) ⟨_, rfl, rfl, rfl, E⟩)
        replace E := EE
        clear EE
        refine z_icmp_ne (tgt := 127) hC dX12_weightOf_105 (by decide) (fun c18 => ?_) (fun c18 => ?_)
        · replace E := E.1 c18
          refine z_sub [3] rfl ?_
          exact hK16 v11 E
        · replace E := E.2 c18
          refine z_aload_n hC dX12_weightOf_108 rfl 0 rfl ?_
          refine z_get hC lf_X12_92_12 (kM_33 hF) dX12_weightOf_109 (fV_ref rfl (rM_33_27 hF)) ?_
          refine z_iload_n hC dX12_weightOf_112 rfl 2 rfl ?_
          refine z_iald hC (kM_50 hF) (nM_50 hF) E.1 dX12_weightOf_113 ?_
          replace E := E.2
          refine z_iconst (v := 1) hC dX12_weightOf_114 rfl ?_
          refine z_icmp_le (tgt := 127) hC dX12_weightOf_115 (by decide) (fun c19 => ?_) (fun c19 => ?_)
          · replace E := E.1 c19
            refine z_sub [3] rfl ?_
            exact hK16 v11 E
          · replace E := E.2 c19
            refine z_iload_n hC dX12_weightOf_118 rfl 3 rfl ?_
            refine z_aload_n hC dX12_weightOf_119 rfl 0 rfl ?_
            refine z_get hC lf_X12_92_12 (kM_33 hF) dX12_weightOf_120 (fV_ref rfl (rM_33_27 hF)) ?_
            refine z_iload_n hC dX12_weightOf_123 rfl 2 rfl ?_
            refine z_iald hC (kM_50 hF) (nM_50 hF) E.1 dX12_weightOf_124 ?_
            replace E := E.2
            refine z_imul hC dX12_weightOf_125 ?_
            refine z_topi (fun v20 h21 => ?_)
            replace E := E v20 h21
            refine z_istore_n (lv' := [(3, .int v20), (0, .ref (G.1 + 33)), (1, .int a1), (2, .int a2)]) hC dX12_weightOf_126 rfl (Nat.le_of_ble_eq_true rfl) rfl ?_
            refine z_sub [0] rfl ?_
            exact hK16 v20 E)
      replace E := EE
      clear EE
      refine z_icmp_ge (tgt := 101) hC dX12_weightOf_96 (by decide) (fun c22 => ?_) (fun c22 => ?_)
      · replace E := E.1 c22
        refine z_sub [1, 2, 3, 0] rfl ?_
        exact hK13 v9 E
      · replace E := E.2 c22
        refine z_iconst (v := 1) hC dX12_weightOf_99 rfl ?_
        refine z_istore_n (lv' := [(3, .int (1 : Int32)), (0, .ref (G.1 + 33)), (1, .int a1), (2, .int a2), (4, .int v5)]) hC dX12_weightOf_100 rfl (Nat.le_of_ble_eq_true rfl) rfl ?_
        refine z_sub [1, 2, 3, 0] rfl ?_
        exact hK13 (1 : Int32) E
    · replace E := E.2 c8
      refine z_iload_n hC dX12_weightOf_42 rfl 3 rfl ?_
      refine z_aload_n hC dX12_weightOf_43 rfl 0 rfl ?_
      refine z_aload_n hC dX12_weightOf_44 rfl 0 rfl ?_
      refine z_get hC lf_X12_22_12 (kM_33 hF) dX12_weightOf_45 (fV_ref rfl (rM_33_4 hF)) ?_
      refine z_iload_n hC dX12_weightOf_48 rfl 1 rfl ?_
      refine z_iald hC (kM_34 hF) (nM_34 hF) E.1 dX12_weightOf_49 ?_
      replace E := E.2
      refine z_iload hC dX12_weightOf_50 4 rfl ?_
      refine z_callV (ci := 12) (rest := [.int v4]) hC (ck_mk lk_X12_192 in_X12_has cd_X12_has ds_X12_has (Nat.le_of_ble_eq_true rfl) (Nat.le_of_ble_eq_true rfl)) iy_X12_has sy_X12_has cf_12 (by decide) (kM_33 hF) (ct_X12_has hF E) rfl rfl (Nat.le_of_ble_eq_true rfl) ⟨Nat.le_refl _, Nat.le_refl _⟩ dX12_weightOf_52 ?_
      rintro _ _ _ ⟨v24, rfl, rfl, rfl, E⟩
      obtain ⟨K29, hK30, EE⟩ := JN_use E (fun K29 : Int32 → Prop => ∀ (v28 : Int32), K29 v28 → ZM l G p e s m args below meth c 5 1 S (PIr S D post) S D 69 [(0, .ref (G.1 + 33)), (1, .int a1), (2, .int a2), (4, .int v5)] [.int v28, .int v4]) (by
        intro v28 E
        refine z_iadd hC dX12_weightOf_69 ?_
        refine z_topi (fun v31 h32 => ?_)
        replace E := E v31 h32
        refine z_istore_n (lv' := [(3, .int v31), (0, .ref (G.1 + 33)), (1, .int a1), (2, .int a2), (4, .int v5)]) hC dX12_weightOf_70 rfl (Nat.le_of_ble_eq_true rfl) rfl ?_
        obtain ⟨v33, h34⟩ : ∃ y : Int32, y = v5 + 1 := ⟨_, rfl⟩
        replace E := E v33 h34
        refine z_iinc (q := 4) (v := v33) (lv' := [(4, .int v33), (3, .int v31), (0, .ref (G.1 + 33)), (1, .int a1), (2, .int a2)]) hC dX12_weightOf_71 rfl (by rw [h34]; rfl) (Nat.le_of_ble_eq_true rfl) rfl ?_
        refine z_goto (tgt := 35) hC dX12_weightOf_74 (by decide) ?_
        refine z_sub [2, 3, 4, 1, 0] rfl ?_
        exact hrec7 v31 v33 E)
      replace E := EE
      clear EE
      refine z_if_eq (tgt := 68) hC dX12_weightOf_55 (by decide) (fun c35 => ?_) (fun c35 => ?_)
      · replace E := E.1 c35
        refine z_iconst (v := 0) hC dX12_weightOf_68 rfl ?_
        refine z_sub [0, 1, 2, 4] rfl ?_
        exact hK30 (0 : Int32) E
      · replace E := E.2 c35
        refine z_aload_n hC dX12_weightOf_58 rfl 0 rfl ?_
        refine z_get hC lf_X12_86_12 (kM_33 hF) dX12_weightOf_59 (fV_ref rfl (rM_33_25 hF)) ?_
        refine z_iload hC dX12_weightOf_62 4 rfl ?_
        refine z_iald hC (kM_48 hF) (nM_48 hF) E.1 dX12_weightOf_64 ?_
        replace E := E.2
        refine z_goto (tgt := 69) hC dX12_weightOf_65 (by decide) ?_
        refine z_sub [0, 1, 2, 4] rfl ?_
        exact hK30 (D.1 48 (v5).toNatClampNeg) E
  · replace E := E.2 c1
    refine z_aload_n hC dX12_weightOf_6 rfl 0 rfl ?_
    refine z_get hC lf_X12_98_12 (kM_33 hF) dX12_weightOf_7 (fV_int rfl) ?_
    refine z_bipush (v := 50) hC dX12_weightOf_10 rfl ?_
    refine z_icmp_le (tgt := 20) hC dX12_weightOf_12 (by decide) (fun c36 => ?_) (fun c36 => ?_)
    · replace E := E.1 c36
      refine z_aload_n hC dX12_weightOf_20 rfl 0 rfl ?_
      refine z_get hC lf_X12_98_12 (kM_33 hF) dX12_weightOf_21 (fV_int rfl) ?_
      exact z_iret hC dX12_weightOf_24 (Nat.le_refl _) (Nat.le_refl _) ⟨_, rfl, rfl, rfl, E⟩
    · replace E := E.2 c36
      refine z_bipush (v := 50) hC dX12_weightOf_15 rfl ?_
      refine z_goto (tgt := 24) hC dX12_weightOf_17 (by decide) ?_
      exact z_iret hC dX12_weightOf_24 (Nat.le_refl _) (Nat.le_refl _) ⟨_, rfl, rfl, rfl, E⟩
def fX12_plain (a1 : Int32) (a2 : Int32) (a3 : Int32) (D : Dy) (post : Dy → Prop) : Prop :=
  (fX12_weightOf (7 : Int32) a3 D (fun (v1 : Int32) => (∀ w6 : Int64, w6 = (v1).toInt64 → (LP2 (fun (rec10 : Int64 → Int32 → Prop) (w8 : Int64) (v9 : Int32) => (((D.1 33 0) ≤ v9 → (JN ((fX12_weightOf a1 a3 D (fun (v15 : Int32) => (fX12_putOdds (v15).toInt64 w8 D (fun (D25 : Dy) => post D25))))) (fun K13 : Prop => ((a1 = (7 : Int32) → K13) ∧ (¬ a1 = (7 : Int32) → (fX12_has a2 a1 (fun (v28 : Int32) => ((v28 = 0 → (fX12_putOdds (0 : Int64) (1 : Int64) D (fun (D38 : Dy) => post D38))) ∧ (¬ v28 = 0 → K13))))))))) ∧ (¬ (D.1 33 0) ≤ v9 → (fX12_has a2 v9 (fun (v40 : Int32) => (JN (fun (w44 : Int64) => (∀ w47 : Int64, w47 = (w8 + w44) → (∀ v49 : Int32, v49 = v9 + 1 → (rec10 w47 v49)))) (fun K45 : Int64 → Prop => ((v40 = 0 → (K45 (0 : Int64))) ∧ (¬ v40 = 0 → (fX12_weightOf v9 a3 D (fun (v52 : Int32) => (K45 (v52).toInt64)))))))))))) FU w6 (0 : Int32)))))
set_option maxHeartbeats 4000000 in
set_option maxRecDepth 100000 in
theorem ct_X12_plain {l : Launch} {G : Gl} {S : Sh} {D : Dy} (hF : FM S) {a1 : Int32} {a2 : Int32} {a3 : Int32} {post : Dy → Prop} (E : fX12_plain a1 a2 a3 D post) : Ct l G yX12_plain cX12_plain 7 none 2 0 0 S D [.ref (G.1 + 33), .int a1, .int a2, .int a3] (PV S post) := by
  refine z_enter (lv0 := [(0, .ref (G.1 + 33)), (1, .int a1), (2, .int a2), (3, .int a3)]) pl_12 (Nat.le_of_ble_eq_true rfl) rfl ?_
  intro p e s m args below meth c hC hnm
  unfold fX12_plain at E
  refine z_aload_n hC dX12_plain_0 rfl 0 rfl ?_
  refine z_bipush (v := 7) hC dX12_plain_1 rfl ?_
  refine z_iload_n hC dX12_plain_3 rfl 3 rfl ?_
  refine z_callV (ci := 12) (rest := []) hC (ck_mk lk_X12_264 in_X12_weightOf cd_X12_weightOf ds_X12_weightOf (Nat.le_of_ble_eq_true rfl) (Nat.le_of_ble_eq_true rfl)) iy_X12_weightOf sy_X12_weightOf cf_12 (by decide) (kM_33 hF) (ct_X12_weightOf hF E) rfl rfl (Nat.le_of_ble_eq_true rfl) ⟨Nat.le_refl _, Nat.le_refl _⟩ dX12_plain_4 ?_
  rintro _ _ _ ⟨v1, rfl, rfl, rfl, E⟩
  refine z_i2l hC dX12_plain_7 ?_
  refine z_topl (fun w6 h7 => ?_)
  replace E := E w6 h7
  refine z_lstore (lv' := [(4, .long w6), (0, .ref (G.1 + 33)), (1, .int a1), (2, .int a2), (3, .int a3)]) hC dX12_plain_8 (Nat.le_of_ble_eq_true rfl) rfl ?_
  refine z_iconst (v := 0) hC dX12_plain_10 rfl ?_
  refine z_istore (lv' := [(6, .int (0 : Int32)), (4, .long w6), (0, .ref (G.1 + 33)), (1, .int a1), (2, .int a2), (3, .int a3)]) hC dX12_plain_11 (Nat.le_of_ble_eq_true rfl) rfl ?_
  refine z_sub [2, 3, 4, 5, 1, 0] rfl ?_
  refine LP2_use (fun (w8 : Int64) (v9 : Int32) => ZM l G p e s m args below meth c 7 2 S (PV S post) S D 13 [(0, .ref (G.1 + 33)), (1, .int a1), (2, .int a2), (3, .int a3), (4, .long w8), (6, .int v9)] []) ?_ FU w6 (0 : Int32) E
  intro rec10 hrec11 w8 v9 E
  refine z_iload hC dX12_plain_13 5 rfl ?_
  refine z_aload_n hC dX12_plain_15 rfl 0 rfl ?_
  refine z_get hC lf_X12_7_12 (kM_33 hF) dX12_plain_16 (fV_int rfl) ?_
  refine z_icmp_ge (tgt := 55) hC dX12_plain_19 (by decide) (fun c12 => ?_) (fun c12 => ?_)
  · replace E := E.1 c12
    refine z_iload_n hC dX12_plain_55 rfl 1 rfl ?_
    refine z_bipush (v := 7) hC dX12_plain_56 rfl ?_
    obtain ⟨K13, hK14, EE⟩ := JN_use E (fun K13 : Prop => K13 → ZM l G p e s m args below meth c 7 2 S (PV S post) S D 70 [(0, .ref (G.1 + 33)), (1, .int a1), (3, .int a3), (4, .long w8)] []) (by
      intro E
      refine z_aload_n hC dX12_plain_70 rfl 0 rfl ?_
      refine z_aload_n hC dX12_plain_71 rfl 0 rfl ?_
      refine z_iload_n hC dX12_plain_72 rfl 1 rfl ?_
      refine z_iload_n hC dX12_plain_73 rfl 2 rfl ?_
      refine z_callV (ci := 12) (rest := [.ref (G.1 + 33)]) hC (ck_mk lk_X12_264 in_X12_weightOf cd_X12_weightOf ds_X12_weightOf (Nat.le_of_ble_eq_true rfl) (Nat.le_of_ble_eq_true rfl)) iy_X12_weightOf sy_X12_weightOf cf_12 (by decide) (kM_33 hF) (ct_X12_weightOf hF E) rfl rfl (Nat.le_of_ble_eq_true rfl) ⟨Nat.le_refl _, Nat.le_refl _⟩ dX12_plain_74 ?_
      rintro _ _ _ ⟨v15, rfl, rfl, rfl, E⟩
      refine z_i2l hC dX12_plain_77 ?_
      refine z_lload hC dX12_plain_78 3 rfl ?_
      refine z_callV (ci := 12) (rest := []) hC (ck_mk lk_X12_268 in_X12_putOdds cd_X12_putOdds ds_X12_putOdds (Nat.le_of_ble_eq_true rfl) (Nat.le_of_ble_eq_true rfl)) iy_X12_putOdds sy_X12_putOdds cf_12 (by decide) (kM_33 hF) (ct_X12_putOdds hF E) rfl rfl (Nat.le_of_ble_eq_true rfl) ⟨Nat.le_refl _, Nat.le_refl _⟩ dX12_plain_80 ?_
      rintro _ _ D25 ⟨rfl, rfl, E⟩
      refine z_goto (tgt := 92) hC dX12_plain_83 (by decide) ?_
      exact z_vret hC dX12_plain_92 (Nat.le_refl _) (Nat.le_refl _) ⟨rfl, rfl, E⟩)
    replace E := EE
    clear EE
    refine z_icmp_eq (tgt := 70) hC dX12_plain_58 (by decide) (fun c26 => ?_) (fun c26 => ?_)
    · replace E := E.1 c26
      refine z_sub [0, 1, 3, 4] rfl ?_
      exact hK14  E
    · replace E := E.2 c26
      refine z_aload_n hC dX12_plain_61 rfl 0 rfl ?_
      refine z_iload_n hC dX12_plain_62 rfl 2 rfl ?_
      refine z_iload_n hC dX12_plain_63 rfl 1 rfl ?_
      refine z_callV (ci := 12) (rest := []) hC (ck_mk lk_X12_192 in_X12_has cd_X12_has ds_X12_has (Nat.le_of_ble_eq_true rfl) (Nat.le_of_ble_eq_true rfl)) iy_X12_has sy_X12_has cf_12 (by decide) (kM_33 hF) (ct_X12_has hF E) rfl rfl (Nat.le_of_ble_eq_true rfl) ⟨Nat.le_refl _, Nat.le_refl _⟩ dX12_plain_64 ?_
      rintro _ _ _ ⟨v28, rfl, rfl, rfl, E⟩
      refine z_if_eq (tgt := 86) hC dX12_plain_67 (by decide) (fun c32 => ?_) (fun c32 => ?_)
      · replace E := E.1 c32
        refine z_aload_n hC dX12_plain_86 rfl 0 rfl ?_
        refine z_lconst (v := 0) hC dX12_plain_87 rfl ?_
        refine z_lconst (v := 1) hC dX12_plain_88 rfl ?_
        refine z_callV (ci := 12) (rest := []) hC (ck_mk lk_X12_268 in_X12_putOdds cd_X12_putOdds ds_X12_putOdds (Nat.le_of_ble_eq_true rfl) (Nat.le_of_ble_eq_true rfl)) iy_X12_putOdds sy_X12_putOdds cf_12 (by decide) (kM_33 hF) (ct_X12_putOdds hF E) rfl rfl (Nat.le_of_ble_eq_true rfl) ⟨Nat.le_refl _, Nat.le_refl _⟩ dX12_plain_89 ?_
        rintro _ _ D38 ⟨rfl, rfl, E⟩
        exact z_vret hC dX12_plain_92 (Nat.le_refl _) (Nat.le_refl _) ⟨rfl, rfl, E⟩
      · replace E := E.2 c32
        refine z_sub [0, 1, 3, 4] rfl ?_
        exact hK14  E
  · replace E := E.2 c12
    refine z_lload hC dX12_plain_22 4 rfl ?_
    refine z_aload_n hC dX12_plain_24 rfl 0 rfl ?_
    refine z_iload_n hC dX12_plain_25 rfl 2 rfl ?_
    refine z_iload hC dX12_plain_26 5 rfl ?_
    refine z_callV (ci := 12) (rest := [.long w8]) hC (ck_mk lk_X12_192 in_X12_has cd_X12_has ds_X12_has (Nat.le_of_ble_eq_true rfl) (Nat.le_of_ble_eq_true rfl)) iy_X12_has sy_X12_has cf_12 (by decide) (kM_33 hF) (ct_X12_has hF E) rfl rfl (Nat.le_of_ble_eq_true rfl) ⟨Nat.le_refl _, Nat.le_refl _⟩ dX12_plain_28 ?_
    rintro _ _ _ ⟨v40, rfl, rfl, rfl, E⟩
    obtain ⟨K45, hK46, EE⟩ := JN_use E (fun K45 : Int64 → Prop => ∀ (w44 : Int64), K45 w44 → ZM l G p e s m args below meth c 7 2 S (PV S post) S D 46 [(0, .ref (G.1 + 33)), (1, .int a1), (2, .int a2), (3, .int a3), (6, .int v9)] [.long w44, .long w8]) (by
      intro w44 E
      refine z_ladd hC dX12_plain_46 ?_
      refine z_topl (fun w47 h48 => ?_)
      replace E := E w47 h48
      refine z_lstore (lv' := [(4, .long w47), (0, .ref (G.1 + 33)), (1, .int a1), (2, .int a2), (3, .int a3), (6, .int v9)]) hC dX12_plain_47 (Nat.le_of_ble_eq_true rfl) rfl ?_
      obtain ⟨v49, h50⟩ : ∃ y : Int32, y = v9 + 1 := ⟨_, rfl⟩
      replace E := E v49 h50
      refine z_iinc (q := 5) (v := v49) (lv' := [(6, .int v49), (4, .long w47), (0, .ref (G.1 + 33)), (1, .int a1), (2, .int a2), (3, .int a3)]) hC dX12_plain_49 rfl (by rw [h50]; rfl) (Nat.le_of_ble_eq_true rfl) rfl ?_
      refine z_goto (tgt := 13) hC dX12_plain_52 (by decide) ?_
      refine z_sub [2, 3, 4, 5, 1, 0] rfl ?_
      exact hrec11 w47 v49 E)
    replace E := EE
    clear EE
    refine z_if_eq (tgt := 45) hC dX12_plain_31 (by decide) (fun c51 => ?_) (fun c51 => ?_)
    · replace E := E.1 c51
      refine z_lconst (v := 0) hC dX12_plain_45 rfl ?_
      refine z_sub [0, 1, 2, 3, 5] rfl ?_
      exact hK46 (0 : Int64) E
    · replace E := E.2 c51
      refine z_aload_n hC dX12_plain_34 rfl 0 rfl ?_
      refine z_iload hC dX12_plain_35 5 rfl ?_
      refine z_iload_n hC dX12_plain_37 rfl 3 rfl ?_
      refine z_callV (ci := 12) (rest := [.long w8]) hC (ck_mk lk_X12_264 in_X12_weightOf cd_X12_weightOf ds_X12_weightOf (Nat.le_of_ble_eq_true rfl) (Nat.le_of_ble_eq_true rfl)) iy_X12_weightOf sy_X12_weightOf cf_12 (by decide) (kM_33 hF) (ct_X12_weightOf hF E) rfl rfl (Nat.le_of_ble_eq_true rfl) ⟨Nat.le_refl _, Nat.le_refl _⟩ dX12_plain_38 ?_
      rintro _ _ _ ⟨v52, rfl, rfl, rfl, E⟩
      refine z_i2l hC dX12_plain_41 ?_
      refine z_goto (tgt := 46) hC dX12_plain_42 (by decide) ?_
      refine z_sub [0, 1, 2, 3, 5] rfl ?_
      exact hK46 (v52).toInt64 E
def fX12_greatestOf (a1 : Int32) (a2 : Int32) (a3 : Int32) (D : Dy) (post : Int32 → Prop) : Prop :=
  (LP2 (fun (rec3 : Int32 → Int32 → Prop) (v1 : Int32) (v2 : Int32) => (((D.1 33 0) ≤ v2 → post v1) ∧ (¬ (D.1 33 0) ≤ v2 → (fX12_has a2 v2 (fun (v7 : Int32) => (JN (fun (v11 : Int32) => (∀ v14 : Int32, v14 = v2 + 1 → (rec3 v11 v14))) (fun K12 : Int32 → Prop => ((v7 = 0 → (K12 v1)) ∧ (¬ v7 = 0 → (vp_in v2 6 ∧ ((¬ (D.1 36 (v2).toNatClampNeg) = a1 → (K12 v1)) ∧ ((D.1 36 (v2).toNatClampNeg) = a1 → (fX12_weightOf v2 a3 D (fun (v18 : Int32) => ((v18 ≤ v1 → (K12 v1)) ∧ (¬ v18 ≤ v1 → (fX12_weightOf v2 a3 D (fun (v24 : Int32) => (K12 v24))))))))))))))))))) FU (0 : Int32) (0 : Int32))
set_option maxHeartbeats 4000000 in
set_option maxRecDepth 100000 in
theorem ct_X12_greatestOf {l : Launch} {G : Gl} {S : Sh} {D : Dy} (hF : FM S) {a1 : Int32} {a2 : Int32} {a3 : Int32} {post : Int32 → Prop} (E : fX12_greatestOf a1 a2 a3 D post) : Ct l G yX12_greatestOf cX12_greatestOf 6 (some .int) 2 0 0 S D [.ref (G.1 + 33), .int a1, .int a2, .int a3] (PIr S D post) := by
  refine z_enter (lv0 := [(0, .ref (G.1 + 33)), (1, .int a1), (2, .int a2), (3, .int a3)]) pl_12 (Nat.le_of_ble_eq_true rfl) rfl ?_
  intro p e s m args below meth c hC hnm
  unfold fX12_greatestOf at E
  refine z_iconst (v := 0) hC dX12_greatestOf_0 rfl ?_
  refine z_istore (lv' := [(4, .int (0 : Int32)), (0, .ref (G.1 + 33)), (1, .int a1), (2, .int a2), (3, .int a3)]) hC dX12_greatestOf_1 (Nat.le_of_ble_eq_true rfl) rfl ?_
  refine z_iconst (v := 0) hC dX12_greatestOf_3 rfl ?_
  refine z_istore (lv' := [(5, .int (0 : Int32)), (4, .int (0 : Int32)), (0, .ref (G.1 + 33)), (1, .int a1), (2, .int a2), (3, .int a3)]) hC dX12_greatestOf_4 (Nat.le_of_ble_eq_true rfl) rfl ?_
  refine z_sub [2, 3, 4, 5, 1, 0] rfl ?_
  refine LP2_use (fun (v1 : Int32) (v2 : Int32) => ZM l G p e s m args below meth c 6 2 S (PIr S D post) S D 6 [(0, .ref (G.1 + 33)), (1, .int a1), (2, .int a2), (3, .int a3), (4, .int v1), (5, .int v2)] []) ?_ FU (0 : Int32) (0 : Int32) E
  intro rec3 hrec4 v1 v2 E
  refine z_iload hC dX12_greatestOf_6 5 rfl ?_
  refine z_aload_n hC dX12_greatestOf_8 rfl 0 rfl ?_
  refine z_get hC lf_X12_7_12 (kM_33 hF) dX12_greatestOf_9 (fV_int rfl) ?_
  refine z_icmp_ge (tgt := 63) hC dX12_greatestOf_12 (by decide) (fun c5 => ?_) (fun c5 => ?_)
  · replace E := E.1 c5
    refine z_iload hC dX12_greatestOf_63 4 rfl ?_
    exact z_iret hC dX12_greatestOf_65 (Nat.le_refl _) (Nat.le_refl _) ⟨_, rfl, rfl, rfl, E⟩
  · replace E := E.2 c5
    refine z_aload_n hC dX12_greatestOf_15 rfl 0 rfl ?_
    refine z_iload_n hC dX12_greatestOf_16 rfl 2 rfl ?_
    refine z_iload hC dX12_greatestOf_17 5 rfl ?_
    refine z_callV (ci := 12) (rest := []) hC (ck_mk lk_X12_192 in_X12_has cd_X12_has ds_X12_has (Nat.le_of_ble_eq_true rfl) (Nat.le_of_ble_eq_true rfl)) iy_X12_has sy_X12_has cf_12 (by decide) (kM_33 hF) (ct_X12_has hF E) rfl rfl (Nat.le_of_ble_eq_true rfl) ⟨Nat.le_refl _, Nat.le_refl _⟩ dX12_greatestOf_19 ?_
    rintro _ _ _ ⟨v7, rfl, rfl, rfl, E⟩
    obtain ⟨K12, hK13, EE⟩ := JN_use E (fun K12 : Int32 → Prop => ∀ (v11 : Int32), K12 v11 → ZM l G p e s m args below meth c 6 2 S (PIr S D post) S D 57 [(0, .ref (G.1 + 33)), (1, .int a1), (2, .int a2), (3, .int a3), (4, .int v11), (5, .int v2)] []) (by
      intro v11 E
      obtain ⟨v14, h15⟩ : ∃ y : Int32, y = v2 + 1 := ⟨_, rfl⟩
      replace E := E v14 h15
      refine z_iinc (q := 5) (v := v14) (lv' := [(5, .int v14), (0, .ref (G.1 + 33)), (1, .int a1), (2, .int a2), (3, .int a3), (4, .int v11)]) hC dX12_greatestOf_57 rfl (by rw [h15]; rfl) (Nat.le_of_ble_eq_true rfl) rfl ?_
      refine z_goto (tgt := 6) hC dX12_greatestOf_60 (by decide) ?_
      refine z_sub [1, 2, 3, 4, 5, 0] rfl ?_
      exact hrec4 v11 v14 E)
    replace E := EE
    clear EE
    refine z_if_eq (tgt := 57) hC dX12_greatestOf_22 (by decide) (fun c16 => ?_) (fun c16 => ?_)
    · replace E := E.1 c16
      exact hK13 v1 E
    · replace E := E.2 c16
      refine z_aload_n hC dX12_greatestOf_25 rfl 0 rfl ?_
      refine z_get hC lf_X12_29_12 (kM_33 hF) dX12_greatestOf_26 (fV_ref rfl (rM_33_6 hF)) ?_
      refine z_iload hC dX12_greatestOf_29 5 rfl ?_
      refine z_iald hC (kM_36 hF) (nM_36 hF) E.1 dX12_greatestOf_31 ?_
      replace E := E.2
      refine z_iload_n hC dX12_greatestOf_32 rfl 1 rfl ?_
      refine z_icmp_ne (tgt := 57) hC dX12_greatestOf_33 (by decide) (fun c17 => ?_) (fun c17 => ?_)
      · replace E := E.1 c17
        exact hK13 v1 E
      · replace E := E.2 c17
        refine z_aload_n hC dX12_greatestOf_36 rfl 0 rfl ?_
        refine z_iload hC dX12_greatestOf_37 5 rfl ?_
        refine z_iload_n hC dX12_greatestOf_39 rfl 3 rfl ?_
        refine z_callV (ci := 12) (rest := []) hC (ck_mk lk_X12_264 in_X12_weightOf cd_X12_weightOf ds_X12_weightOf (Nat.le_of_ble_eq_true rfl) (Nat.le_of_ble_eq_true rfl)) iy_X12_weightOf sy_X12_weightOf cf_12 (by decide) (kM_33 hF) (ct_X12_weightOf hF E) rfl rfl (Nat.le_of_ble_eq_true rfl) ⟨Nat.le_refl _, Nat.le_refl _⟩ dX12_greatestOf_40 ?_
        rintro _ _ _ ⟨v18, rfl, rfl, rfl, E⟩
        refine z_iload hC dX12_greatestOf_43 4 rfl ?_
        refine z_icmp_le (tgt := 57) hC dX12_greatestOf_45 (by decide) (fun c23 => ?_) (fun c23 => ?_)
        · replace E := E.1 c23
          exact hK13 v1 E
        · replace E := E.2 c23
          refine z_aload_n hC dX12_greatestOf_48 rfl 0 rfl ?_
          refine z_iload hC dX12_greatestOf_49 5 rfl ?_
          refine z_iload_n hC dX12_greatestOf_51 rfl 3 rfl ?_
          refine z_callV (ci := 12) (rest := []) hC (ck_mk lk_X12_264 in_X12_weightOf cd_X12_weightOf ds_X12_weightOf (Nat.le_of_ble_eq_true rfl) (Nat.le_of_ble_eq_true rfl)) iy_X12_weightOf sy_X12_weightOf cf_12 (by decide) (kM_33 hF) (ct_X12_weightOf hF E) rfl rfl (Nat.le_of_ble_eq_true rfl) ⟨Nat.le_refl _, Nat.le_refl _⟩ dX12_greatestOf_52 ?_
          rintro _ _ _ ⟨v24, rfl, rfl, rfl, E⟩
          refine z_istore (lv' := [(4, .int v24), (0, .ref (G.1 + 33)), (1, .int a1), (2, .int a2), (3, .int a3), (5, .int v2)]) hC dX12_greatestOf_55 (Nat.le_of_ble_eq_true rfl) rfl ?_
          refine z_sub [1, 2, 3, 4, 0, 5] rfl ?_
          exact hK13 v24 E
def fX12_nested (a1 : Int32) (a2 : Int32) (a3 : Int32) (D : Dy) (post : Dy → Prop) : Prop :=
  (fX12_weightOf (7 : Int32) a3 D (fun (v1 : Int32) => (∀ w6 : Int64, w6 = (v1).toInt64 → (LP2 (fun (rec10 : Int64 → Int32 → Prop) (w8 : Int64) (v9 : Int32) => (((4 : Int32) ≤ v9 → ((¬ a1 = (7 : Int32) → (LP2 (fun (rec16 : Int64 → Int32 → Prop) (w14 : Int64) (v15 : Int32) => (((D.1 33 0) ≤ v15 → (vp_in a1 6 ∧ (fX12_greatestOf (D.1 36 (a1).toNatClampNeg) a2 a3 D (fun (v19 : Int32) => (fX12_weightOf a1 a3 D (fun (v24 : Int32) => (fX12_putOdds ((v19).toInt64 * (v24).toInt64) (w8 * w14) D (fun (D34 : Dy) => post D34)))))))) ∧ (¬ (D.1 33 0) ≤ v15 → (fX12_has a2 v15 (fun (v36 : Int32) => (JN (fun (w40 : Int64) => (∀ w43 : Int64, w43 = (w14 + w40) → (∀ v45 : Int32, v45 = v15 + 1 → (rec16 w43 v45)))) (fun K41 : Int64 → Prop => (JN ((K41 (0 : Int64))) (fun K47 : Prop => ((v36 = 0 → K47) ∧ (¬ v36 = 0 → (vp_in v15 6 ∧ (vp_in a1 6 ∧ ((¬ (D.1 36 (v15).toNatClampNeg) = (D.1 36 (a1).toNatClampNeg) → K47) ∧ ((D.1 36 (v15).toNatClampNeg) = (D.1 36 (a1).toNatClampNeg) → (fX12_weightOf v15 a3 D (fun (v51 : Int32) => (K41 (v51).toInt64)))))))))))))))))) FU (0 : Int64) (0 : Int32))) ∧ (a1 = (7 : Int32) → (fX12_weightOf (7 : Int32) a3 D (fun (v56 : Int32) => (fX12_putOdds (v56).toInt64 w8 D (fun (D66 : Dy) => post D66))))))) ∧ (¬ (4 : Int32) ≤ v9 → (fX12_greatestOf v9 a2 a3 D (fun (v67 : Int32) => (∀ w72 : Int64, w72 = (w8 + (v67).toInt64) → (∀ v74 : Int32, v74 = v9 + 1 → (rec10 w72 v74)))))))) FU w6 (0 : Int32)))))
set_option maxHeartbeats 4000000 in
set_option maxRecDepth 100000 in
theorem ct_X12_nested {l : Launch} {G : Gl} {S : Sh} {D : Dy} (hF : FM S) {a1 : Int32} {a2 : Int32} {a3 : Int32} {post : Dy → Prop} (E : fX12_nested a1 a2 a3 D post) : Ct l G yX12_nested cX12_nested 9 none 3 0 0 S D [.ref (G.1 + 33), .int a1, .int a2, .int a3] (PV S post) := by
  refine z_enter (lv0 := [(0, .ref (G.1 + 33)), (1, .int a1), (2, .int a2), (3, .int a3)]) pl_12 (Nat.le_of_ble_eq_true rfl) rfl ?_
  intro p e s m args below meth c hC hnm
  unfold fX12_nested at E
  refine z_aload_n hC dX12_nested_0 rfl 0 rfl ?_
  refine z_bipush (v := 7) hC dX12_nested_1 rfl ?_
  refine z_iload_n hC dX12_nested_3 rfl 3 rfl ?_
  refine z_callV (ci := 12) (rest := []) hC (ck_mk lk_X12_264 in_X12_weightOf cd_X12_weightOf ds_X12_weightOf (Nat.le_of_ble_eq_true rfl) (Nat.le_of_ble_eq_true rfl)) iy_X12_weightOf sy_X12_weightOf cf_12 (by decide) (kM_33 hF) (ct_X12_weightOf hF E) rfl rfl (Nat.le_of_ble_eq_true rfl) ⟨Nat.le_refl _, Nat.le_refl _⟩ dX12_nested_4 ?_
  rintro _ _ _ ⟨v1, rfl, rfl, rfl, E⟩
  refine z_i2l hC dX12_nested_7 ?_
  refine z_topl (fun w6 h7 => ?_)
  replace E := E w6 h7
  refine z_lstore (lv' := [(4, .long w6), (0, .ref (G.1 + 33)), (1, .int a1), (2, .int a2), (3, .int a3)]) hC dX12_nested_8 (Nat.le_of_ble_eq_true rfl) rfl ?_
  refine z_iconst (v := 0) hC dX12_nested_10 rfl ?_
  refine z_istore (lv' := [(6, .int (0 : Int32)), (4, .long w6), (0, .ref (G.1 + 33)), (1, .int a1), (2, .int a2), (3, .int a3)]) hC dX12_nested_11 (Nat.le_of_ble_eq_true rfl) rfl ?_
  refine z_sub [2, 3, 4, 5, 1, 0] rfl ?_
  refine LP2_use (fun (w8 : Int64) (v9 : Int32) => ZM l G p e s m args below meth c 9 3 S (PV S post) S D 13 [(0, .ref (G.1 + 33)), (1, .int a1), (2, .int a2), (3, .int a3), (4, .long w8), (6, .int v9)] []) ?_ FU w6 (0 : Int32) E
  intro rec10 hrec11 w8 v9 E
  refine z_iload hC dX12_nested_13 5 rfl ?_
  refine z_iconst (v := 4) hC dX12_nested_15 rfl ?_
  refine z_icmp_ge (tgt := 39) hC dX12_nested_16 (by decide) (fun c12 => ?_) (fun c12 => ?_)
  · replace E := E.1 c12
    refine z_iload_n hC dX12_nested_39 rfl 1 rfl ?_
    refine z_bipush (v := 7) hC dX12_nested_40 rfl ?_
    refine z_icmp_ne (tgt := 60) hC dX12_nested_42 (by decide) (fun c13 => ?_) (fun c13 => ?_)
    · replace E := E.1 c13
      refine z_lconst (v := 0) hC dX12_nested_60 rfl ?_
      refine z_lstore (lv' := [(6, .long (0 : Int64)), (0, .ref (G.1 + 33)), (1, .int a1), (2, .int a2), (3, .int a3), (4, .long w8)]) hC dX12_nested_61 (Nat.le_of_ble_eq_true rfl) rfl ?_
      refine z_iconst (v := 0) hC dX12_nested_63 rfl ?_
      refine z_istore (lv' := [(8, .int (0 : Int32)), (6, .long (0 : Int64)), (0, .ref (G.1 + 33)), (1, .int a1), (2, .int a2), (3, .int a3), (4, .long w8)]) hC dX12_nested_64 (Nat.le_of_ble_eq_true rfl) rfl ?_
      refine z_sub [2, 3, 4, 5, 6, 1, 0] rfl ?_
      refine LP2_use (fun (w14 : Int64) (v15 : Int32) => ZM l G p e s m args below meth c 9 3 S (PV S post) S D 66 [(0, .ref (G.1 + 33)), (1, .int a1), (2, .int a2), (3, .int a3), (4, .long w8), (6, .long w14), (8, .int v15)] []) ?_ FU (0 : Int64) (0 : Int32) E
      intro rec16 hrec17 w14 v15 E
      refine z_iload hC dX12_nested_66 6 rfl ?_
      refine z_aload_n hC dX12_nested_68 rfl 0 rfl ?_
      refine z_get hC lf_X12_7_12 (kM_33 hF) dX12_nested_69 (fV_int rfl) ?_
      refine z_icmp_ge (tgt := 124) hC dX12_nested_72 (by decide) (fun c18 => ?_) (fun c18 => ?_)
      · replace E := E.1 c18
        refine z_aload_n hC dX12_nested_124 rfl 0 rfl ?_
        refine z_aload_n hC dX12_nested_125 rfl 0 rfl ?_
        refine z_aload_n hC dX12_nested_126 rfl 0 rfl ?_
        refine z_get hC lf_X12_29_12 (kM_33 hF) dX12_nested_127 (fV_ref rfl (rM_33_6 hF)) ?_
        refine z_iload_n hC dX12_nested_130 rfl 1 rfl ?_
        refine z_iald hC (kM_36 hF) (nM_36 hF) E.1 dX12_nested_131 ?_
        replace E := E.2
        refine z_iload_n hC dX12_nested_132 rfl 2 rfl ?_
        refine z_iload_n hC dX12_nested_133 rfl 3 rfl ?_
        refine z_callV (ci := 12) (rest := [.ref (G.1 + 33)]) hC (ck_mk lk_X12_272 in_X12_greatestOf cd_X12_greatestOf ds_X12_greatestOf (Nat.le_of_ble_eq_true rfl) (Nat.le_of_ble_eq_true rfl)) iy_X12_greatestOf sy_X12_greatestOf cf_12 (by decide) (kM_33 hF) (ct_X12_greatestOf hF E) rfl rfl (Nat.le_of_ble_eq_true rfl) ⟨Nat.le_refl _, Nat.le_refl _⟩ dX12_nested_134 ?_
        rintro _ _ _ ⟨v19, rfl, rfl, rfl, E⟩
        refine z_i2l hC dX12_nested_137 ?_
        refine z_aload_n hC dX12_nested_138 rfl 0 rfl ?_
        refine z_iload_n hC dX12_nested_139 rfl 1 rfl ?_
        refine z_iload_n hC dX12_nested_140 rfl 3 rfl ?_
        refine z_callV (ci := 12) (rest := [.long (v19).toInt64, .ref (G.1 + 33)]) hC (ck_mk lk_X12_264 in_X12_weightOf cd_X12_weightOf ds_X12_weightOf (Nat.le_of_ble_eq_true rfl) (Nat.le_of_ble_eq_true rfl)) iy_X12_weightOf sy_X12_weightOf cf_12 (by decide) (kM_33 hF) (ct_X12_weightOf hF E) rfl rfl (Nat.le_of_ble_eq_true rfl) ⟨Nat.le_refl _, Nat.le_refl _⟩ dX12_nested_141 ?_
        rintro _ _ _ ⟨v24, rfl, rfl, rfl, E⟩
        refine z_i2l hC dX12_nested_144 ?_
        refine z_lmul hC dX12_nested_145 ?_
        refine z_lload hC dX12_nested_146 4 rfl ?_
        refine z_lload hC dX12_nested_148 5 rfl ?_
        refine z_lmul hC dX12_nested_150 ?_
        refine z_callV (ci := 12) (rest := []) hC (ck_mk lk_X12_268 in_X12_putOdds cd_X12_putOdds ds_X12_putOdds (Nat.le_of_ble_eq_true rfl) (Nat.le_of_ble_eq_true rfl)) iy_X12_putOdds sy_X12_putOdds cf_12 (by decide) (kM_33 hF) (ct_X12_putOdds hF E) rfl rfl (Nat.le_of_ble_eq_true rfl) ⟨Nat.le_refl _, Nat.le_refl _⟩ dX12_nested_151 ?_
        rintro _ _ D34 ⟨rfl, rfl, E⟩
        exact z_vret hC dX12_nested_154 (Nat.le_refl _) (Nat.le_refl _) ⟨rfl, rfl, E⟩
      · replace E := E.2 c18
        refine z_lload hC dX12_nested_75 5 rfl ?_
        refine z_aload_n hC dX12_nested_77 rfl 0 rfl ?_
        refine z_iload_n hC dX12_nested_78 rfl 2 rfl ?_
        refine z_iload hC dX12_nested_79 6 rfl ?_
        refine z_callV (ci := 12) (rest := [.long w14]) hC (ck_mk lk_X12_192 in_X12_has cd_X12_has ds_X12_has (Nat.le_of_ble_eq_true rfl) (Nat.le_of_ble_eq_true rfl)) iy_X12_has sy_X12_has cf_12 (by decide) (kM_33 hF) (ct_X12_has hF E) rfl rfl (Nat.le_of_ble_eq_true rfl) ⟨Nat.le_refl _, Nat.le_refl _⟩ dX12_nested_81 ?_
        rintro _ _ _ ⟨v36, rfl, rfl, rfl, E⟩
        obtain ⟨K41, hK42, EE⟩ := JN_use E (fun K41 : Int64 → Prop => ∀ (w40 : Int64), K41 w40 → ZM l G p e s m args below meth c 9 3 S (PV S post) S D 115 [(0, .ref (G.1 + 33)), (1, .int a1), (2, .int a2), (3, .int a3), (4, .long w8), (8, .int v15)] [.long w40, .long w14]) (by
          intro w40 E
          refine z_ladd hC dX12_nested_115 ?_
          refine z_topl (fun w43 h44 => ?_)
          replace E := E w43 h44
          refine z_lstore (lv' := [(6, .long w43), (0, .ref (G.1 + 33)), (1, .int a1), (2, .int a2), (3, .int a3), (4, .long w8), (8, .int v15)]) hC dX12_nested_116 (Nat.le_of_ble_eq_true rfl) rfl ?_
          obtain ⟨v45, h46⟩ : ∃ y : Int32, y = v15 + 1 := ⟨_, rfl⟩
          replace E := E v45 h46
          refine z_iinc (q := 6) (v := v45) (lv' := [(8, .int v45), (6, .long w43), (0, .ref (G.1 + 33)), (1, .int a1), (2, .int a2), (3, .int a3), (4, .long w8)]) hC dX12_nested_118 rfl (by rw [h46]; rfl) (Nat.le_of_ble_eq_true rfl) rfl ?_
          refine z_goto (tgt := 66) hC dX12_nested_121 (by decide) ?_
          refine z_sub [2, 3, 4, 5, 6, 1, 0] rfl ?_
          exact hrec17 w43 v45 E)
        replace E := EE
        clear EE
        obtain ⟨K47, hK48, EE⟩ := JN_use E (fun K47 : Prop => K47 → ZM l G p e s m args below meth c 9 3 S (PV S post) S D 114 [(0, .ref (G.1 + 33)), (1, .int a1), (2, .int a2), (3, .int a3), (4, .long w8), (8, .int v15)] [.long w14]) (by
          intro E
          refine z_lconst (v := 0) hC dX12_nested_114 rfl ?_
          exact hK42 (0 : Int64) E)
        replace E := EE
        clear EE
        refine z_if_eq (tgt := 114) hC dX12_nested_84 (by decide) (fun c49 => ?_) (fun c49 => ?_)
        · replace E := E.1 c49
          refine z_sub [0, 1, 2, 3, 4, 6] rfl ?_
          exact hK48  E
        · replace E := E.2 c49
          refine z_aload_n hC dX12_nested_87 rfl 0 rfl ?_
          refine z_get hC lf_X12_29_12 (kM_33 hF) dX12_nested_88 (fV_ref rfl (rM_33_6 hF)) ?_
          refine z_iload hC dX12_nested_91 6 rfl ?_
          refine z_iald hC (kM_36 hF) (nM_36 hF) E.1 dX12_nested_93 ?_
          replace E := E.2
          refine z_aload_n hC dX12_nested_94 rfl 0 rfl ?_
          refine z_get hC lf_X12_29_12 (kM_33 hF) dX12_nested_95 (fV_ref rfl (rM_33_6 hF)) ?_
          refine z_iload_n hC dX12_nested_98 rfl 1 rfl ?_
          refine z_iald hC (kM_36 hF) (nM_36 hF) E.1 dX12_nested_99 ?_
          replace E := E.2
          refine z_icmp_ne (tgt := 114) hC dX12_nested_100 (by decide) (fun c50 => ?_) (fun c50 => ?_)
          · replace E := E.1 c50
            refine z_sub [0, 1, 2, 3, 4, 6] rfl ?_
            exact hK48  E
          · replace E := E.2 c50
            refine z_aload_n hC dX12_nested_103 rfl 0 rfl ?_
            refine z_iload hC dX12_nested_104 6 rfl ?_
            refine z_iload_n hC dX12_nested_106 rfl 3 rfl ?_
            refine z_callV (ci := 12) (rest := [.long w14]) hC (ck_mk lk_X12_264 in_X12_weightOf cd_X12_weightOf ds_X12_weightOf (Nat.le_of_ble_eq_true rfl) (Nat.le_of_ble_eq_true rfl)) iy_X12_weightOf sy_X12_weightOf cf_12 (by decide) (kM_33 hF) (ct_X12_weightOf hF E) rfl rfl (Nat.le_of_ble_eq_true rfl) ⟨Nat.le_refl _, Nat.le_refl _⟩ dX12_nested_107 ?_
            rintro _ _ _ ⟨v51, rfl, rfl, rfl, E⟩
            refine z_i2l hC dX12_nested_110 ?_
            refine z_goto (tgt := 115) hC dX12_nested_111 (by decide) ?_
            refine z_sub [0, 1, 2, 3, 4, 6] rfl ?_
            exact hK42 (v51).toInt64 E
    · replace E := E.2 c13
      refine z_aload_n hC dX12_nested_45 rfl 0 rfl ?_
      refine z_aload_n hC dX12_nested_46 rfl 0 rfl ?_
      refine z_bipush (v := 7) hC dX12_nested_47 rfl ?_
      refine z_iload_n hC dX12_nested_49 rfl 3 rfl ?_
      refine z_callV (ci := 12) (rest := [.ref (G.1 + 33)]) hC (ck_mk lk_X12_264 in_X12_weightOf cd_X12_weightOf ds_X12_weightOf (Nat.le_of_ble_eq_true rfl) (Nat.le_of_ble_eq_true rfl)) iy_X12_weightOf sy_X12_weightOf cf_12 (by decide) (kM_33 hF) (ct_X12_weightOf hF E) rfl rfl (Nat.le_of_ble_eq_true rfl) ⟨Nat.le_refl _, Nat.le_refl _⟩ dX12_nested_50 ?_
      rintro _ _ _ ⟨v56, rfl, rfl, rfl, E⟩
      refine z_i2l hC dX12_nested_53 ?_
      refine z_lload hC dX12_nested_54 4 rfl ?_
      refine z_callV (ci := 12) (rest := []) hC (ck_mk lk_X12_268 in_X12_putOdds cd_X12_putOdds ds_X12_putOdds (Nat.le_of_ble_eq_true rfl) (Nat.le_of_ble_eq_true rfl)) iy_X12_putOdds sy_X12_putOdds cf_12 (by decide) (kM_33 hF) (ct_X12_putOdds hF E) rfl rfl (Nat.le_of_ble_eq_true rfl) ⟨Nat.le_refl _, Nat.le_refl _⟩ dX12_nested_56 ?_
      rintro _ _ D66 ⟨rfl, rfl, E⟩
      exact z_vret hC dX12_nested_59 (Nat.le_refl _) (Nat.le_refl _) ⟨rfl, rfl, E⟩
  · replace E := E.2 c12
    refine z_lload hC dX12_nested_19 4 rfl ?_
    refine z_aload_n hC dX12_nested_21 rfl 0 rfl ?_
    refine z_iload hC dX12_nested_22 5 rfl ?_
    refine z_iload_n hC dX12_nested_24 rfl 2 rfl ?_
    refine z_iload_n hC dX12_nested_25 rfl 3 rfl ?_
    refine z_callV (ci := 12) (rest := [.long w8]) hC (ck_mk lk_X12_272 in_X12_greatestOf cd_X12_greatestOf ds_X12_greatestOf (Nat.le_of_ble_eq_true rfl) (Nat.le_of_ble_eq_true rfl)) iy_X12_greatestOf sy_X12_greatestOf cf_12 (by decide) (kM_33 hF) (ct_X12_greatestOf hF E) rfl rfl (Nat.le_of_ble_eq_true rfl) ⟨Nat.le_refl _, Nat.le_refl _⟩ dX12_nested_26 ?_
    rintro _ _ _ ⟨v67, rfl, rfl, rfl, E⟩
    refine z_i2l hC dX12_nested_29 ?_
    refine z_ladd hC dX12_nested_30 ?_
    refine z_topl (fun w72 h73 => ?_)
    replace E := E w72 h73
    refine z_lstore (lv' := [(4, .long w72), (0, .ref (G.1 + 33)), (1, .int a1), (2, .int a2), (3, .int a3), (6, .int v9)]) hC dX12_nested_31 (Nat.le_of_ble_eq_true rfl) rfl ?_
    obtain ⟨v74, h75⟩ : ∃ y : Int32, y = v9 + 1 := ⟨_, rfl⟩
    replace E := E v74 h75
    refine z_iinc (q := 5) (v := v74) (lv' := [(6, .int v74), (4, .long w72), (0, .ref (G.1 + 33)), (1, .int a1), (2, .int a2), (3, .int a3)]) hC dX12_nested_33 rfl (by rw [h75]; rfl) (Nat.le_of_ble_eq_true rfl) rfl ?_
    refine z_goto (tgt := 13) hC dX12_nested_36 (by decide) ?_
    refine z_sub [2, 3, 4, 5, 1, 0] rfl ?_
    exact hrec11 w72 v74 E
def fX12_mixed (a1 : Int32) (a2 : Int32) (a3 : Int32) (D : Dy) (post : Dy → Prop) : Prop :=
  (vp_in (0 : Int32) 3 ∧ (vp_in (1 : Int32) 3 ∧ (vp_in (2 : Int32) 3 ∧ (∀ v1 : Int32, v1 = (((D.1 49 ((0 : Int32)).toNatClampNeg) + (D.1 49 ((1 : Int32)).toNatClampNeg)) + (D.1 49 ((2 : Int32)).toNatClampNeg)) → ((¬ v1 = 0 → (LP4 (fun (rec8 : Int64 → Int64 → Int32 → Dy → Prop) (w4 : Int64) (w5 : Int64) (v6 : Int32) (D7 : Dy) => (((3 : Int32) ≤ v6 → (fX12_putOdds w4 (w5 * (v1).toInt64) D7 (fun (D16 : Dy) => post D16))) ∧ (¬ (3 : Int32) ≤ v6 → (fX12_plain a1 a2 v6 D7 (fun (D22 : Dy) => (vp_in v6 3 ∧ (∀ w23 : Int64, w23 = ((w4 * (D22.2 33 40)) + ((((D22.1 49 (v6).toNatClampNeg)).toInt64 * (D22.2 33 39)) * w5)) → (∀ w25 : Int64, w25 = (w5 * (D22.2 33 40)) → (∀ v27 : Int32, v27 = v6 + 1 → (rec8 w23 w25 v27 D22)))))))))) FU (0 : Int64) (1 : Int64) (0 : Int32) D)) ∧ (v1 = 0 → (fX12_plain a1 a2 a3 D (fun (D34 : Dy) => post D34))))))))
set_option maxHeartbeats 4000000 in
set_option maxRecDepth 100000 in
theorem ct_X12_mixed {l : Launch} {G : Gl} {S : Sh} {D : Dy} (hF : FM S) {a1 : Int32} {a2 : Int32} {a3 : Int32} {post : Dy → Prop} (E : fX12_mixed a1 a2 a3 D post) : Ct l G yX12_mixed cX12_mixed 10 none 3 0 0 S D [.ref (G.1 + 33), .int a1, .int a2, .int a3] (PV S post) := by
  refine z_enter (lv0 := [(0, .ref (G.1 + 33)), (1, .int a1), (2, .int a2), (3, .int a3)]) pl_12 (Nat.le_of_ble_eq_true rfl) rfl ?_
  intro p e s m args below meth c hC hnm
  unfold fX12_mixed at E
  refine z_aload_n hC dX12_mixed_0 rfl 0 rfl ?_
  refine z_get hC lf_X12_89_12 (kM_33 hF) dX12_mixed_1 (fV_ref rfl (rM_33_26 hF)) ?_
  refine z_iconst (v := 0) hC dX12_mixed_4 rfl ?_
  refine z_iald hC (kM_49 hF) (nM_49 hF) E.1 dX12_mixed_5 ?_
  replace E := E.2
  refine z_aload_n hC dX12_mixed_6 rfl 0 rfl ?_
  refine z_get hC lf_X12_89_12 (kM_33 hF) dX12_mixed_7 (fV_ref rfl (rM_33_26 hF)) ?_
  refine z_iconst (v := 1) hC dX12_mixed_10 rfl ?_
  refine z_iald hC (kM_49 hF) (nM_49 hF) E.1 dX12_mixed_11 ?_
  replace E := E.2
  refine z_iadd hC dX12_mixed_12 ?_
  refine z_aload_n hC dX12_mixed_13 rfl 0 rfl ?_
  refine z_get hC lf_X12_89_12 (kM_33 hF) dX12_mixed_14 (fV_ref rfl (rM_33_26 hF)) ?_
  refine z_iconst (v := 2) hC dX12_mixed_17 rfl ?_
  refine z_iald hC (kM_49 hF) (nM_49 hF) E.1 dX12_mixed_18 ?_
  replace E := E.2
  refine z_iadd hC dX12_mixed_19 ?_
  refine z_topi (fun v1 h2 => ?_)
  replace E := E v1 h2
  refine z_istore (lv' := [(4, .int v1), (0, .ref (G.1 + 33)), (1, .int a1), (2, .int a2), (3, .int a3)]) hC dX12_mixed_20 (Nat.le_of_ble_eq_true rfl) rfl ?_
  refine z_iload hC dX12_mixed_22 0 rfl ?_
  refine z_if_ne (tgt := 35) hC dX12_mixed_24 (by decide) (fun c3 => ?_) (fun c3 => ?_)
  · replace E := E.1 c3
    refine z_lconst (v := 0) hC dX12_mixed_35 rfl ?_
    refine z_lstore (lv' := [(5, .long (0 : Int64)), (4, .int v1), (0, .ref (G.1 + 33)), (1, .int a1), (2, .int a2), (3, .int a3)]) hC dX12_mixed_36 (Nat.le_of_ble_eq_true rfl) rfl ?_
    refine z_lconst (v := 1) hC dX12_mixed_38 rfl ?_
    refine z_lstore (lv' := [(7, .long (1 : Int64)), (5, .long (0 : Int64)), (4, .int v1), (0, .ref (G.1 + 33)), (1, .int a1), (2, .int a2), (3, .int a3)]) hC dX12_mixed_39 (Nat.le_of_ble_eq_true rfl) rfl ?_
    refine z_iconst (v := 0) hC dX12_mixed_41 rfl ?_
    refine z_istore (lv' := [(9, .int (0 : Int32)), (7, .long (1 : Int64)), (5, .long (0 : Int64)), (4, .int v1), (0, .ref (G.1 + 33)), (1, .int a1), (2, .int a2), (3, .int a3)]) hC dX12_mixed_42 (Nat.le_of_ble_eq_true rfl) rfl ?_
    refine z_sub [4, 5, 6, 3, 2, 1, 0] rfl ?_
    refine LP4_use (fun (w4 : Int64) (w5 : Int64) (v6 : Int32) (D7 : Dy) => ZM l G p e s m args below meth c 10 3 S (PV S post) S D7 44 [(0, .ref (G.1 + 33)), (1, .int a1), (2, .int a2), (4, .int v1), (5, .long w4), (7, .long w5), (9, .int v6)] []) ?_ FU (0 : Int64) (1 : Int64) (0 : Int32) D E
    intro rec8 hrec9 w4 w5 v6 D7 E
    refine z_iload hC dX12_mixed_44 6 rfl ?_
    refine z_iconst (v := 3) hC dX12_mixed_46 rfl ?_
    refine z_icmp_ge (tgt := 99) hC dX12_mixed_47 (by decide) (fun c10 => ?_) (fun c10 => ?_)
    · replace E := E.1 c10
      refine z_aload_n hC dX12_mixed_99 rfl 0 rfl ?_
      refine z_lload hC dX12_mixed_100 4 rfl ?_
      refine z_lload hC dX12_mixed_102 5 rfl ?_
      refine z_iload hC dX12_mixed_104 3 rfl ?_
      refine z_i2l hC dX12_mixed_106 ?_
      refine z_lmul hC dX12_mixed_107 ?_
      refine z_callV (ci := 12) (rest := []) hC (ck_mk lk_X12_268 in_X12_putOdds cd_X12_putOdds ds_X12_putOdds (Nat.le_of_ble_eq_true rfl) (Nat.le_of_ble_eq_true rfl)) iy_X12_putOdds sy_X12_putOdds cf_12 (by decide) (kM_33 hF) (ct_X12_putOdds hF E) rfl rfl (Nat.le_of_ble_eq_true rfl) ⟨Nat.le_refl _, Nat.le_refl _⟩ dX12_mixed_108 ?_
      rintro _ _ D16 ⟨rfl, rfl, E⟩
      exact z_vret hC dX12_mixed_111 (Nat.le_refl _) (Nat.le_refl _) ⟨rfl, rfl, E⟩
    · replace E := E.2 c10
      refine z_aload_n hC dX12_mixed_50 rfl 0 rfl ?_
      refine z_iload_n hC dX12_mixed_51 rfl 1 rfl ?_
      refine z_iload_n hC dX12_mixed_52 rfl 2 rfl ?_
      refine z_iload hC dX12_mixed_53 6 rfl ?_
      refine z_callV (ci := 12) (rest := []) hC (ck_mk lk_X12_276 in_X12_plain cd_X12_plain ds_X12_plain (Nat.le_of_ble_eq_true rfl) (Nat.le_of_ble_eq_true rfl)) iy_X12_plain sy_X12_plain cf_12 (by decide) (kM_33 hF) (ct_X12_plain hF E) rfl rfl (Nat.le_of_ble_eq_true rfl) ⟨Nat.le_refl _, Nat.le_refl _⟩ dX12_mixed_55 ?_
      rintro _ _ D22 ⟨rfl, rfl, E⟩
      refine z_lload hC dX12_mixed_58 4 rfl ?_
      refine z_aload_n hC dX12_mixed_60 rfl 0 rfl ?_
      refine z_get hC lf_X12_133_12 (kM_33 hF) dX12_mixed_61 (fV_long rfl) ?_
      refine z_lmul hC dX12_mixed_64 ?_
      refine z_aload_n hC dX12_mixed_65 rfl 0 rfl ?_
      refine z_get hC lf_X12_89_12 (kM_33 hF) dX12_mixed_66 (fV_ref rfl (rM_33_26 hF)) ?_
      refine z_iload hC dX12_mixed_69 6 rfl ?_
      refine z_iald hC (kM_49 hF) (nM_49 hF) E.1 dX12_mixed_71 ?_
      replace E := E.2
      refine z_i2l hC dX12_mixed_72 ?_
      refine z_aload_n hC dX12_mixed_73 rfl 0 rfl ?_
      refine z_get hC lf_X12_129_12 (kM_33 hF) dX12_mixed_74 (fV_long rfl) ?_
      refine z_lmul hC dX12_mixed_77 ?_
      refine z_lload hC dX12_mixed_78 5 rfl ?_
      refine z_lmul hC dX12_mixed_80 ?_
      refine z_ladd hC dX12_mixed_81 ?_
      refine z_topl (fun w23 h24 => ?_)
      replace E := E w23 h24
      refine z_lstore (lv' := [(5, .long w23), (0, .ref (G.1 + 33)), (1, .int a1), (2, .int a2), (4, .int v1), (7, .long w5), (9, .int v6)]) hC dX12_mixed_82 (Nat.le_of_ble_eq_true rfl) rfl ?_
      refine z_lload hC dX12_mixed_84 5 rfl ?_
      refine z_aload_n hC dX12_mixed_86 rfl 1 rfl ?_
      refine z_get hC lf_X12_133_12 (kM_33 hF) dX12_mixed_87 (fV_long rfl) ?_
      refine z_lmul hC dX12_mixed_90 ?_
      refine z_topl (fun w25 h26 => ?_)
      replace E := E w25 h26
      refine z_lstore (lv' := [(7, .long w25), (5, .long w23), (0, .ref (G.1 + 33)), (1, .int a1), (2, .int a2), (4, .int v1), (9, .int v6)]) hC dX12_mixed_91 (Nat.le_of_ble_eq_true rfl) rfl ?_
      obtain ⟨v27, h28⟩ : ∃ y : Int32, y = v6 + 1 := ⟨_, rfl⟩
      replace E := E v27 h28
      refine z_iinc (q := 6) (v := v27) (lv' := [(9, .int v27), (7, .long w25), (5, .long w23), (0, .ref (G.1 + 33)), (1, .int a1), (2, .int a2), (4, .int v1)]) hC dX12_mixed_93 rfl (by rw [h28]; rfl) (Nat.le_of_ble_eq_true rfl) rfl ?_
      refine z_goto (tgt := 44) hC dX12_mixed_96 (by decide) ?_
      refine z_sub [3, 4, 5, 6, 2, 1, 0] rfl ?_
      exact hrec9 w23 w25 v27 D22 E
  · replace E := E.2 c3
    refine z_aload_n hC dX12_mixed_27 rfl 1 rfl ?_
    refine z_iload_n hC dX12_mixed_28 rfl 2 rfl ?_
    refine z_iload_n hC dX12_mixed_29 rfl 3 rfl ?_
    refine z_iload_n hC dX12_mixed_30 rfl 4 rfl ?_
    refine z_callV (ci := 12) (rest := []) hC (ck_mk lk_X12_276 in_X12_plain cd_X12_plain ds_X12_plain (Nat.le_of_ble_eq_true rfl) (Nat.le_of_ble_eq_true rfl)) iy_X12_plain sy_X12_plain cf_12 (by decide) (kM_33 hF) (ct_X12_plain hF E) rfl rfl (Nat.le_of_ble_eq_true rfl) ⟨Nat.le_refl _, Nat.le_refl _⟩ dX12_mixed_31 ?_
    rintro _ _ D34 ⟨rfl, rfl, E⟩
    exact z_vret hC dX12_mixed_34 (Nat.le_refl _) (Nat.le_refl _) ⟨rfl, rfl, E⟩
def fX12_ones (a1 : Int32) (post : Int32 → Prop) : Prop :=
  (LP2 (fun (rec3 : Int32 → Int32 → Prop) (v1 : Int32) (v2 : Int32) => ((v2 = 0 → post v1) ∧ (¬ v2 = 0 → (∀ v6 : Int32, v6 = v1 + 1 → (∀ v8 : Int32, v8 = (v2 &&& (v2 - (1 : Int32))) → (rec3 v6 v8)))))) FU (0 : Int32) a1)
set_option maxHeartbeats 4000000 in
set_option maxRecDepth 100000 in
theorem ct_X12_ones {l : Launch} {G : Gl} {S : Sh} {D : Dy} (hF : FM S) {a1 : Int32} {post : Int32 → Prop} (E : fX12_ones a1 post) : Ct l G yX12_ones cX12_ones 4 (some .int) 0 0 0 S D [.ref (G.1 + 33), .int a1] (PIr S D post) := by
  refine z_enter (lv0 := [(0, .ref (G.1 + 33)), (1, .int a1)]) pl_12 (Nat.le_of_ble_eq_true rfl) rfl ?_
  intro p e s m args below meth c hC hnm
  unfold fX12_ones at E
  refine z_iconst (v := 0) hC dX12_ones_0 rfl ?_
  refine z_istore_n (lv' := [(2, .int (0 : Int32)), (0, .ref (G.1 + 33)), (1, .int a1)]) hC dX12_ones_1 rfl (Nat.le_of_ble_eq_true rfl) rfl ?_
  refine z_iload_n hC dX12_ones_2 rfl 2 rfl ?_
  refine z_istore_n (lv' := [(3, .int a1), (2, .int (0 : Int32)), (0, .ref (G.1 + 33)), (1, .int a1)]) hC dX12_ones_3 rfl (Nat.le_of_ble_eq_true rfl) rfl ?_
  refine z_sub [1, 0] rfl ?_
  refine LP2_use (fun (v1 : Int32) (v2 : Int32) => ZM l G p e s m args below meth c 4 0 S (PIr S D post) S D 4 [(2, .int v1), (3, .int v2)] []) ?_ FU (0 : Int32) a1 E
  intro rec3 hrec4 v1 v2 E
  refine z_iload_n hC dX12_ones_4 rfl 1 rfl ?_
  refine z_if_eq (tgt := 20) hC dX12_ones_5 (by decide) (fun c5 => ?_) (fun c5 => ?_)
  · replace E := E.1 c5
    refine z_iload_n hC dX12_ones_20 rfl 0 rfl ?_
    exact z_iret hC dX12_ones_21 (Nat.le_refl _) (Nat.le_refl _) ⟨_, rfl, rfl, rfl, E⟩
  · replace E := E.2 c5
    obtain ⟨v6, h7⟩ : ∃ y : Int32, y = v1 + 1 := ⟨_, rfl⟩
    replace E := E v6 h7
    refine z_iinc (q := 0) (v := v6) (lv' := [(2, .int v6), (3, .int v2)]) hC dX12_ones_8 rfl (by rw [h7]; rfl) (Nat.le_of_ble_eq_true rfl) rfl ?_
    refine z_iload_n hC dX12_ones_11 rfl 1 rfl ?_
    refine z_iload_n hC dX12_ones_12 rfl 1 rfl ?_
    refine z_iconst (v := 1) hC dX12_ones_13 rfl ?_
    refine z_isub hC dX12_ones_14 ?_
    refine z_iand hC dX12_ones_15 ?_
    refine z_topi (fun v8 h9 => ?_)
    replace E := E v8 h9
    refine z_istore_n (lv' := [(3, .int v8), (2, .int v6)]) hC dX12_ones_16 rfl (Nat.le_of_ble_eq_true rfl) rfl ?_
    refine z_goto (tgt := 4) hC dX12_ones_17 (by decide) ?_
    refine z_sub [1, 0] rfl ?_
    exact hrec4 v6 v8 E
def fX12_seenOf (a1 : Int32) (D : Dy) (post : Int32 → Prop) : Prop :=
  (LP2 (fun (rec3 : Int32 → Int32 → Prop) (v1 : Int32) (v2 : Int32) => (((D.1 33 0) ≤ v2 → post v1) ∧ (¬ (D.1 33 0) ≤ v2 → (LP2 (fun (rec8 : Int32 → Int32 → Prop) (v6 : Int32) (v7 : Int32) => (((D.1 33 0) ≤ v7 → (fX12_has a1 v2 (fun (v12 : Int32) => (JN (fun (v16 : Int32) => (∀ v19 : Int32, v19 = v2 + 1 → (rec3 v16 v19))) (fun K17 : Int32 → Prop => ((v12 = 0 → (K17 v1)) ∧ (¬ v12 = 0 → (((D.1 33 30) ≤ v6 → (K17 v1)) ∧ (¬ (D.1 33 30) ≤ v6 → (∀ v23 : Int32, v23 = (v1 ||| ((1 : Int32) <<< (v2 &&& 31))) → (K17 v23))))))))))) ∧ (¬ (D.1 33 0) ≤ v7 → (fX12_has a1 v7 (fun (v26 : Int32) => (JN (fun (v30 : Int32) => (∀ v33 : Int32, v33 = (v6 + v30) → (∀ v35 : Int32, v35 = v7 + 1 → (rec8 v33 v35)))) (fun K31 : Int32 → Prop => (JN ((K31 (0 : Int32))) (fun K37 : Prop => ((v26 = 0 → K37) ∧ (¬ v26 = 0 → (vp_in v7 6 ∧ (fX12_ones (D.1 34 (v7).toNatClampNeg) (fun (v40 : Int32) => (vp_in v2 6 ∧ (fX12_ones (D.1 34 (v2).toNatClampNeg) (fun (v45 : Int32) => (JN ((K31 (1 : Int32))) (fun K50 : Prop => ((v45 < v40 → K50) ∧ (¬ v45 < v40 → (vp_in v7 6 ∧ (fX12_ones (D.1 34 (v7).toNatClampNeg) (fun (v53 : Int32) => (vp_in v2 6 ∧ (fX12_ones (D.1 34 (v2).toNatClampNeg) (fun (v58 : Int32) => ((¬ v53 = v58 → K37) ∧ (v53 = v58 → ((v2 ≤ v7 → K37) ∧ (¬ v2 ≤ v7 → K50))))))))))))))))))))))))))))))) FU (0 : Int32) (0 : Int32))))) FU (0 : Int32) (0 : Int32))
set_option maxHeartbeats 4000000 in
set_option maxRecDepth 100000 in
theorem ct_X12_seenOf {l : Launch} {G : Gl} {S : Sh} {D : Dy} (hF : FM S) {a1 : Int32} {post : Int32 → Prop} (E : fX12_seenOf a1 D post) : Ct l G yX12_seenOf cX12_seenOf 6 (some .int) 1 0 0 S D [.ref (G.1 + 33), .int a1] (PIr S D post) := by
  refine z_enter (lv0 := [(0, .ref (G.1 + 33)), (1, .int a1)]) pl_12 (Nat.le_of_ble_eq_true rfl) rfl ?_
  intro p e s m args below meth c hC hnm
  unfold fX12_seenOf at E
  refine z_iconst (v := 0) hC dX12_seenOf_0 rfl ?_
  refine z_istore_n (lv' := [(2, .int (0 : Int32)), (0, .ref (G.1 + 33)), (1, .int a1)]) hC dX12_seenOf_1 rfl (Nat.le_of_ble_eq_true rfl) rfl ?_
  refine z_iconst (v := 0) hC dX12_seenOf_2 rfl ?_
  refine z_istore_n (lv' := [(3, .int (0 : Int32)), (2, .int (0 : Int32)), (0, .ref (G.1 + 33)), (1, .int a1)]) hC dX12_seenOf_3 rfl (Nat.le_of_ble_eq_true rfl) rfl ?_
  refine z_sub [2, 3, 1, 0] rfl ?_
  refine LP2_use (fun (v1 : Int32) (v2 : Int32) => ZM l G p e s m args below meth c 6 1 S (PIr S D post) S D 4 [(0, .ref (G.1 + 33)), (1, .int a1), (2, .int v1), (3, .int v2)] []) ?_ FU (0 : Int32) (0 : Int32) E
  intro rec3 hrec4 v1 v2 E
  refine z_iload_n hC dX12_seenOf_4 rfl 3 rfl ?_
  refine z_aload_n hC dX12_seenOf_5 rfl 0 rfl ?_
  refine z_get hC lf_X12_7_12 (kM_33 hF) dX12_seenOf_6 (fV_int rfl) ?_
  refine z_icmp_ge (tgt := 137) hC dX12_seenOf_9 (by decide) (fun c5 => ?_) (fun c5 => ?_)
  · replace E := E.1 c5
    refine z_iload_n hC dX12_seenOf_137 rfl 2 rfl ?_
    exact z_iret hC dX12_seenOf_138 (Nat.le_refl _) (Nat.le_refl _) ⟨_, rfl, rfl, rfl, E⟩
  · replace E := E.2 c5
    refine z_iconst (v := 0) hC dX12_seenOf_12 rfl ?_
    refine z_istore (lv' := [(4, .int (0 : Int32)), (0, .ref (G.1 + 33)), (1, .int a1), (2, .int v1), (3, .int v2)]) hC dX12_seenOf_13 (Nat.le_of_ble_eq_true rfl) rfl ?_
    refine z_iconst (v := 0) hC dX12_seenOf_15 rfl ?_
    refine z_istore (lv' := [(5, .int (0 : Int32)), (4, .int (0 : Int32)), (0, .ref (G.1 + 33)), (1, .int a1), (2, .int v1), (3, .int v2)]) hC dX12_seenOf_16 (Nat.le_of_ble_eq_true rfl) rfl ?_
    refine z_sub [2, 3, 4, 5, 1, 0] rfl ?_
    refine LP2_use (fun (v6 : Int32) (v7 : Int32) => ZM l G p e s m args below meth c 6 1 S (PIr S D post) S D 18 [(0, .ref (G.1 + 33)), (1, .int a1), (2, .int v1), (3, .int v2), (4, .int v6), (5, .int v7)] []) ?_ FU (0 : Int32) (0 : Int32) E
    intro rec8 hrec9 v6 v7 E
    refine z_iload hC dX12_seenOf_18 5 rfl ?_
    refine z_aload_n hC dX12_seenOf_20 rfl 0 rfl ?_
    refine z_get hC lf_X12_7_12 (kM_33 hF) dX12_seenOf_21 (fV_int rfl) ?_
    refine z_icmp_ge (tgt := 107) hC dX12_seenOf_24 (by decide) (fun c10 => ?_) (fun c10 => ?_)
    · replace E := E.1 c10
      refine z_aload_n hC dX12_seenOf_107 rfl 0 rfl ?_
      refine z_iload_n hC dX12_seenOf_108 rfl 1 rfl ?_
      refine z_iload_n hC dX12_seenOf_109 rfl 3 rfl ?_
      refine z_callV (ci := 12) (rest := []) hC (ck_mk lk_X12_192 in_X12_has cd_X12_has ds_X12_has (Nat.le_of_ble_eq_true rfl) (Nat.le_of_ble_eq_true rfl)) iy_X12_has sy_X12_has cf_12 (by decide) (kM_33 hF) (ct_X12_has hF E) rfl rfl (Nat.le_of_ble_eq_true rfl) ⟨Nat.le_refl _, Nat.le_refl _⟩ dX12_seenOf_110 ?_
      rintro _ _ _ ⟨v12, rfl, rfl, rfl, E⟩
      obtain ⟨K17, hK18, EE⟩ := JN_use E (fun K17 : Int32 → Prop => ∀ (v16 : Int32), K17 v16 → ZM l G p e s m args below meth c 6 1 S (PIr S D post) S D 131 [(0, .ref (G.1 + 33)), (1, .int a1), (2, .int v16), (3, .int v2)] []) (by
        intro v16 E
        obtain ⟨v19, h20⟩ : ∃ y : Int32, y = v2 + 1 := ⟨_, rfl⟩
        replace E := E v19 h20
        refine z_iinc (q := 3) (v := v19) (lv' := [(3, .int v19), (0, .ref (G.1 + 33)), (1, .int a1), (2, .int v16)]) hC dX12_seenOf_131 rfl (by rw [h20]; rfl) (Nat.le_of_ble_eq_true rfl) rfl ?_
        refine z_goto (tgt := 4) hC dX12_seenOf_134 (by decide) ?_
        refine z_sub [1, 2, 3, 0] rfl ?_
        exact hrec4 v16 v19 E)
      replace E := EE
      clear EE
      refine z_if_eq (tgt := 131) hC dX12_seenOf_113 (by decide) (fun c21 => ?_) (fun c21 => ?_)
      · replace E := E.1 c21
        refine z_sub [0, 1, 2, 3] rfl ?_
        exact hK18 v1 E
      · replace E := E.2 c21
        refine z_iload hC dX12_seenOf_116 4 rfl ?_
        refine z_aload_n hC dX12_seenOf_118 rfl 0 rfl ?_
        refine z_get hC lf_X12_101_12 (kM_33 hF) dX12_seenOf_119 (fV_int rfl) ?_
        refine z_icmp_ge (tgt := 131) hC dX12_seenOf_122 (by decide) (fun c22 => ?_) (fun c22 => ?_)
        · replace E := E.1 c22
          refine z_sub [0, 1, 2, 3] rfl ?_
          exact hK18 v1 E
        · replace E := E.2 c22
          refine z_iload_n hC dX12_seenOf_125 rfl 2 rfl ?_
          refine z_iconst (v := 1) hC dX12_seenOf_126 rfl ?_
          refine z_iload_n hC dX12_seenOf_127 rfl 3 rfl ?_
          refine z_ishl hC dX12_seenOf_128 ?_
          refine z_ior hC dX12_seenOf_129 ?_
          refine z_topi (fun v23 h24 => ?_)
          replace E := E v23 h24
          refine z_istore_n (lv' := [(2, .int v23), (0, .ref (G.1 + 33)), (1, .int a1), (3, .int v2), (4, .int v6), (5, .int v7)]) hC dX12_seenOf_130 rfl (Nat.le_of_ble_eq_true rfl) rfl ?_
          refine z_sub [1, 2, 0, 3] rfl ?_
          exact hK18 v23 E
    · replace E := E.2 c10
      refine z_iload hC dX12_seenOf_27 4 rfl ?_
      refine z_aload_n hC dX12_seenOf_29 rfl 0 rfl ?_
      refine z_iload_n hC dX12_seenOf_30 rfl 1 rfl ?_
      refine z_iload hC dX12_seenOf_31 5 rfl ?_
      refine z_callV (ci := 12) (rest := [.int v6]) hC (ck_mk lk_X12_192 in_X12_has cd_X12_has ds_X12_has (Nat.le_of_ble_eq_true rfl) (Nat.le_of_ble_eq_true rfl)) iy_X12_has sy_X12_has cf_12 (by decide) (kM_33 hF) (ct_X12_has hF E) rfl rfl (Nat.le_of_ble_eq_true rfl) ⟨Nat.le_refl _, Nat.le_refl _⟩ dX12_seenOf_33 ?_
      rintro _ _ _ ⟨v26, rfl, rfl, rfl, E⟩
      obtain ⟨K31, hK32, EE⟩ := JN_use E (fun K31 : Int32 → Prop => ∀ (v30 : Int32), K31 v30 → ZM l G p e s m args below meth c 6 1 S (PIr S D post) S D 98 [(0, .ref (G.1 + 33)), (1, .int a1), (2, .int v1), (3, .int v2), (5, .int v7)] [.int v30, .int v6]) (by
        intro v30 E
        refine z_iadd hC dX12_seenOf_98 ?_
        refine z_topi (fun v33 h34 => ?_)
        replace E := E v33 h34
        refine z_istore (lv' := [(4, .int v33), (0, .ref (G.1 + 33)), (1, .int a1), (2, .int v1), (3, .int v2), (5, .int v7)]) hC dX12_seenOf_99 (Nat.le_of_ble_eq_true rfl) rfl ?_
        obtain ⟨v35, h36⟩ : ∃ y : Int32, y = v7 + 1 := ⟨_, rfl⟩
        replace E := E v35 h36
        refine z_iinc (q := 5) (v := v35) (lv' := [(5, .int v35), (4, .int v33), (0, .ref (G.1 + 33)), (1, .int a1), (2, .int v1), (3, .int v2)]) hC dX12_seenOf_101 rfl (by rw [h36]; rfl) (Nat.le_of_ble_eq_true rfl) rfl ?_
        refine z_goto (tgt := 18) hC dX12_seenOf_104 (by decide) ?_
        refine z_sub [2, 3, 4, 5, 1, 0] rfl ?_
        exact hrec9 v33 v35 E)
      replace E := EE
      clear EE
      obtain ⟨K37, hK38, EE⟩ := JN_use E (fun K37 : Prop => K37 → ZM l G p e s m args below meth c 6 1 S (PIr S D post) S D 97 [(0, .ref (G.1 + 33)), (1, .int a1), (2, .int v1), (3, .int v2), (5, .int v7)] [.int v6]) (by
        intro E
        refine z_iconst (v := 0) hC dX12_seenOf_97 rfl ?_
        exact hK32 (0 : Int32) E)
      replace E := EE
      clear EE
      refine z_if_eq (tgt := 97) hC dX12_seenOf_36 (by decide) (fun c39 => ?_) (fun c39 => ?_)
      · replace E := E.1 c39
        refine z_sub [0, 1, 2, 3, 5] rfl ?_
        exact hK38  E
      · replace E := E.2 c39
        refine z_aload_n hC dX12_seenOf_39 rfl 0 rfl ?_
        refine z_aload_n hC dX12_seenOf_40 rfl 0 rfl ?_
        refine z_get hC lf_X12_22_12 (kM_33 hF) dX12_seenOf_41 (fV_ref rfl (rM_33_4 hF)) ?_
        refine z_iload hC dX12_seenOf_44 5 rfl ?_
        refine z_iald hC (kM_34 hF) (nM_34 hF) E.1 dX12_seenOf_46 ?_
        replace E := E.2
        refine z_callV (ci := 12) (rest := [.int v6]) hC (ck_mk lk_X12_280 in_X12_ones cd_X12_ones ds_X12_ones (Nat.le_of_ble_eq_true rfl) (Nat.le_of_ble_eq_true rfl)) iy_X12_ones sy_X12_ones cf_12 (by decide) (kM_33 hF) (ct_X12_ones hF E) rfl rfl (Nat.le_of_ble_eq_true rfl) ⟨Nat.le_refl _, Nat.le_refl _⟩ dX12_seenOf_47 ?_
        rintro _ _ _ ⟨v40, rfl, rfl, rfl, E⟩
        refine z_aload_n hC dX12_seenOf_50 rfl 0 rfl ?_
        refine z_aload_n hC dX12_seenOf_51 rfl 0 rfl ?_
        refine z_get hC lf_X12_22_12 (kM_33 hF) dX12_seenOf_52 (fV_ref rfl (rM_33_4 hF)) ?_
        refine z_iload_n hC dX12_seenOf_55 rfl 3 rfl ?_
        refine z_iald hC (kM_34 hF) (nM_34 hF) E.1 dX12_seenOf_56 ?_
        replace E := E.2
        refine z_callV (ci := 12) (rest := [.int v40, .int v6]) hC (ck_mk lk_X12_280 in_X12_ones cd_X12_ones ds_X12_ones (Nat.le_of_ble_eq_true rfl) (Nat.le_of_ble_eq_true rfl)) iy_X12_ones sy_X12_ones cf_12 (by decide) (kM_33 hF) (ct_X12_ones hF E) rfl rfl (Nat.le_of_ble_eq_true rfl) ⟨Nat.le_refl _, Nat.le_refl _⟩ dX12_seenOf_57 ?_
        rintro _ _ _ ⟨v45, rfl, rfl, rfl, E⟩
        obtain ⟨K50, hK51, EE⟩ := JN_use E (fun K50 : Prop => K50 → ZM l G p e s m args below meth c 6 1 S (PIr S D post) S D 93 [(0, .ref (G.1 + 33)), (1, .int a1), (2, .int v1), (3, .int v2), (5, .int v7)] [.int v6]) (by
          intro E
          refine z_iconst (v := 1) hC dX12_seenOf_93 rfl ?_
          refine z_goto (tgt := 98) hC dX12_seenOf_94 (by decide) ?_
          exact hK32 (1 : Int32) E)
        replace E := EE
        clear EE
        refine z_icmp_gt (tgt := 93) hC dX12_seenOf_60 (by decide) (fun c52 => ?_) (fun c52 => ?_)
        · replace E := E.1 c52
          refine z_sub [0, 1, 2, 3, 5] rfl ?_
          exact hK51  E
        · replace E := E.2 c52
          refine z_aload_n hC dX12_seenOf_63 rfl 0 rfl ?_
          refine z_aload_n hC dX12_seenOf_64 rfl 0 rfl ?_
          refine z_get hC lf_X12_22_12 (kM_33 hF) dX12_seenOf_65 (fV_ref rfl (rM_33_4 hF)) ?_
          refine z_iload hC dX12_seenOf_68 5 rfl ?_
          refine z_iald hC (kM_34 hF) (nM_34 hF) E.1 dX12_seenOf_70 ?_
          replace E := E.2
          refine z_callV (ci := 12) (rest := [.int v6]) hC (ck_mk lk_X12_280 in_X12_ones cd_X12_ones ds_X12_ones (Nat.le_of_ble_eq_true rfl) (Nat.le_of_ble_eq_true rfl)) iy_X12_ones sy_X12_ones cf_12 (by decide) (kM_33 hF) (ct_X12_ones hF E) rfl rfl (Nat.le_of_ble_eq_true rfl) ⟨Nat.le_refl _, Nat.le_refl _⟩ dX12_seenOf_71 ?_
          rintro _ _ _ ⟨v53, rfl, rfl, rfl, E⟩
          refine z_aload_n hC dX12_seenOf_74 rfl 0 rfl ?_
          refine z_aload_n hC dX12_seenOf_75 rfl 0 rfl ?_
          refine z_get hC lf_X12_22_12 (kM_33 hF) dX12_seenOf_76 (fV_ref rfl (rM_33_4 hF)) ?_
          refine z_iload_n hC dX12_seenOf_79 rfl 3 rfl ?_
          refine z_iald hC (kM_34 hF) (nM_34 hF) E.1 dX12_seenOf_80 ?_
          replace E := E.2
          refine z_callV (ci := 12) (rest := [.int v53, .int v6]) hC (ck_mk lk_X12_280 in_X12_ones cd_X12_ones ds_X12_ones (Nat.le_of_ble_eq_true rfl) (Nat.le_of_ble_eq_true rfl)) iy_X12_ones sy_X12_ones cf_12 (by decide) (kM_33 hF) (ct_X12_ones hF E) rfl rfl (Nat.le_of_ble_eq_true rfl) ⟨Nat.le_refl _, Nat.le_refl _⟩ dX12_seenOf_81 ?_
          rintro _ _ _ ⟨v58, rfl, rfl, rfl, E⟩
          refine z_icmp_ne (tgt := 97) hC dX12_seenOf_84 (by decide) (fun c63 => ?_) (fun c63 => ?_)
          · replace E := E.1 c63
            refine z_sub [0, 1, 2, 3, 5] rfl ?_
            exact hK38  E
          · replace E := E.2 c63
            refine z_iload hC dX12_seenOf_87 5 rfl ?_
            refine z_iload_n hC dX12_seenOf_89 rfl 3 rfl ?_
            refine z_icmp_ge (tgt := 97) hC dX12_seenOf_90 (by decide) (fun c64 => ?_) (fun c64 => ?_)
            · replace E := E.1 c64
              refine z_sub [0, 1, 2, 3, 5] rfl ?_
              exact hK38  E
            · replace E := E.2 c64
              refine z_sub [0, 1, 2, 3, 5] rfl ?_
              exact hK51  E
def fX12_pickedOf (a1 : Int32) (D : Dy) (post : Int32 → Prop) : Prop :=
  (LP1 (fun (rec2 : Int32 → Prop) (v1 : Int32) => (((D.1 33 31) ≤ v1 → post (7 : Int32)) ∧ (¬ (D.1 33 31) ≤ v1 → (LP2 (fun (rec7 : Int32 → Int32 → Prop) (v5 : Int32) (v6 : Int32) => (((D.1 33 0) ≤ v6 → ((v5 < 0 → (∀ v11 : Int32, v11 = v1 + 1 → (rec2 v11))) ∧ (¬ v5 < 0 → post v5))) ∧ (¬ (D.1 33 0) ≤ v6 → (fX12_has a1 v6 (fun (v14 : Int32) => (JN (fun (v18 : Int32) => (∀ v21 : Int32, v21 = v6 + 1 → (rec7 v18 v21))) (fun K19 : Int32 → Prop => ((v14 = 0 → (K19 v5)) ∧ (¬ v14 = 0 → (vp_in (((6 : Int32) * v1) + v6) 60 ∧ (((D.1 51 ((((6 : Int32) * v1) + v6)).toNatClampNeg) = 0 → (K19 v5)) ∧ (¬ (D.1 51 ((((6 : Int32) * v1) + v6)).toNatClampNeg) = 0 → (JN ((K19 v6)) (fun K25 : Prop => ((v5 < 0 → K25) ∧ (¬ v5 < 0 → (vp_in v6 6 ∧ (vp_in v5 6 ∧ (((D.1 35 (v5).toNatClampNeg) ≤ (D.1 35 (v6).toNatClampNeg) → (K19 v5)) ∧ (¬ (D.1 35 (v5).toNatClampNeg) ≤ (D.1 35 (v6).toNatClampNeg) → K25)))))))))))))))))))) FU (-1 : Int32) (0 : Int32))))) FU (0 : Int32))
set_option maxHeartbeats 4000000 in
set_option maxRecDepth 100000 in
theorem ct_X12_pickedOf {l : Launch} {G : Gl} {S : Sh} {D : Dy} (hF : FM S) {a1 : Int32} {post : Int32 → Prop} (E : fX12_pickedOf a1 D post) : Ct l G yX12_pickedOf cX12_pickedOf 5 (some .int) 1 0 0 S D [.ref (G.1 + 33), .int a1] (PIr S D post) := by
  refine z_enter (lv0 := [(0, .ref (G.1 + 33)), (1, .int a1)]) pl_12 (Nat.le_of_ble_eq_true rfl) rfl ?_
  intro p e s m args below meth c hC hnm
  unfold fX12_pickedOf at E
  refine z_iconst (v := 0) hC dX12_pickedOf_0 rfl ?_
  refine z_istore_n (lv' := [(2, .int (0 : Int32)), (0, .ref (G.1 + 33)), (1, .int a1)]) hC dX12_pickedOf_1 rfl (Nat.le_of_ble_eq_true rfl) rfl ?_
  refine z_sub [1, 2, 0] rfl ?_
  refine LP1_use (fun (v1 : Int32) => ZM l G p e s m args below meth c 5 1 S (PIr S D post) S D 2 [(0, .ref (G.1 + 33)), (1, .int a1), (2, .int v1)] []) ?_ FU (0 : Int32) E
  intro rec2 hrec3 v1 E
  refine z_iload_n hC dX12_pickedOf_2 rfl 2 rfl ?_
  refine z_aload_n hC dX12_pickedOf_3 rfl 0 rfl ?_
  refine z_get hC lf_X12_104_12 (kM_33 hF) dX12_pickedOf_4 (fV_int rfl) ?_
  refine z_icmp_ge (tgt := 90) hC dX12_pickedOf_7 (by decide) (fun c4 => ?_) (fun c4 => ?_)
  · replace E := E.1 c4
    refine z_bipush (v := 7) hC dX12_pickedOf_90 rfl ?_
    exact z_iret hC dX12_pickedOf_92 (Nat.le_refl _) (Nat.le_refl _) ⟨_, rfl, rfl, rfl, E⟩
  · replace E := E.2 c4
    refine z_iconst (v := -1) hC dX12_pickedOf_10 rfl ?_
    refine z_istore_n (lv' := [(3, .int (-1 : Int32)), (0, .ref (G.1 + 33)), (1, .int a1), (2, .int v1)]) hC dX12_pickedOf_11 rfl (Nat.le_of_ble_eq_true rfl) rfl ?_
    refine z_iconst (v := 0) hC dX12_pickedOf_12 rfl ?_
    refine z_istore (lv' := [(4, .int (0 : Int32)), (3, .int (-1 : Int32)), (0, .ref (G.1 + 33)), (1, .int a1), (2, .int v1)]) hC dX12_pickedOf_13 (Nat.le_of_ble_eq_true rfl) rfl ?_
    refine z_sub [2, 3, 4, 1, 0] rfl ?_
    refine LP2_use (fun (v5 : Int32) (v6 : Int32) => ZM l G p e s m args below meth c 5 1 S (PIr S D post) S D 15 [(0, .ref (G.1 + 33)), (1, .int a1), (2, .int v1), (3, .int v5), (4, .int v6)] []) ?_ FU (-1 : Int32) (0 : Int32) E
    intro rec7 hrec8 v5 v6 E
    refine z_iload hC dX12_pickedOf_15 4 rfl ?_
    refine z_aload_n hC dX12_pickedOf_17 rfl 0 rfl ?_
    refine z_get hC lf_X12_7_12 (kM_33 hF) dX12_pickedOf_18 (fV_int rfl) ?_
    refine z_icmp_ge (tgt := 78) hC dX12_pickedOf_21 (by decide) (fun c9 => ?_) (fun c9 => ?_)
    · replace E := E.1 c9
      refine z_iload_n hC dX12_pickedOf_78 rfl 3 rfl ?_
      refine z_if_lt (tgt := 84) hC dX12_pickedOf_79 (by decide) (fun c10 => ?_) (fun c10 => ?_)
      · replace E := E.1 c10
        obtain ⟨v11, h12⟩ : ∃ y : Int32, y = v1 + 1 := ⟨_, rfl⟩
        replace E := E v11 h12
        refine z_iinc (q := 2) (v := v11) (lv' := [(2, .int v11), (0, .ref (G.1 + 33)), (1, .int a1), (3, .int v5), (4, .int v6)]) hC dX12_pickedOf_84 rfl (by rw [h12]; rfl) (Nat.le_of_ble_eq_true rfl) rfl ?_
        refine z_goto (tgt := 2) hC dX12_pickedOf_87 (by decide) ?_
        refine z_sub [1, 2, 0] rfl ?_
        exact hrec3 v11 E
      · replace E := E.2 c10
        refine z_iload_n hC dX12_pickedOf_82 rfl 3 rfl ?_
        exact z_iret hC dX12_pickedOf_83 (Nat.le_refl _) (Nat.le_refl _) ⟨_, rfl, rfl, rfl, E⟩
    · replace E := E.2 c9
      refine z_aload_n hC dX12_pickedOf_24 rfl 0 rfl ?_
      refine z_iload_n hC dX12_pickedOf_25 rfl 1 rfl ?_
      refine z_iload hC dX12_pickedOf_26 4 rfl ?_
      refine z_callV (ci := 12) (rest := []) hC (ck_mk lk_X12_192 in_X12_has cd_X12_has ds_X12_has (Nat.le_of_ble_eq_true rfl) (Nat.le_of_ble_eq_true rfl)) iy_X12_has sy_X12_has cf_12 (by decide) (kM_33 hF) (ct_X12_has hF E) rfl rfl (Nat.le_of_ble_eq_true rfl) ⟨Nat.le_refl _, Nat.le_refl _⟩ dX12_pickedOf_28 ?_
      rintro _ _ _ ⟨v14, rfl, rfl, rfl, E⟩
      obtain ⟨K19, hK20, EE⟩ := JN_use E (fun K19 : Int32 → Prop => ∀ (v18 : Int32), K19 v18 → ZM l G p e s m args below meth c 5 1 S (PIr S D post) S D 72 [(0, .ref (G.1 + 33)), (1, .int a1), (2, .int v1), (3, .int v18), (4, .int v6)] []) (by
        intro v18 E
        obtain ⟨v21, h22⟩ : ∃ y : Int32, y = v6 + 1 := ⟨_, rfl⟩
        replace E := E v21 h22
        refine z_iinc (q := 4) (v := v21) (lv' := [(4, .int v21), (0, .ref (G.1 + 33)), (1, .int a1), (2, .int v1), (3, .int v18)]) hC dX12_pickedOf_72 rfl (by rw [h22]; rfl) (Nat.le_of_ble_eq_true rfl) rfl ?_
        refine z_goto (tgt := 15) hC dX12_pickedOf_75 (by decide) ?_
        refine z_sub [1, 2, 3, 4, 0] rfl ?_
        exact hrec8 v18 v21 E)
      replace E := EE
      clear EE
      refine z_if_eq (tgt := 72) hC dX12_pickedOf_31 (by decide) (fun c23 => ?_) (fun c23 => ?_)
      · replace E := E.1 c23
        exact hK20 v5 E
      · replace E := E.2 c23
        refine z_aload_n hC dX12_pickedOf_34 rfl 0 rfl ?_
        refine z_get hC lf_X12_107_12 (kM_33 hF) dX12_pickedOf_35 (fV_ref rfl (rM_33_32 hF)) ?_
        refine z_bipush (v := 6) hC dX12_pickedOf_38 rfl ?_
        refine z_iload_n hC dX12_pickedOf_40 rfl 2 rfl ?_
        refine z_imul hC dX12_pickedOf_41 ?_
        refine z_iload hC dX12_pickedOf_42 4 rfl ?_
        refine z_iadd hC dX12_pickedOf_44 ?_
        refine z_zald hC (kM_51 hF) (nM_51 hF) E.1 dX12_pickedOf_45 ?_
        replace E := E.2
        refine z_if_eq (tgt := 72) hC dX12_pickedOf_46 (by decide) (fun c24 => ?_) (fun c24 => ?_)
        · replace E := E.1 c24
          exact hK20 v5 E
        · replace E := E.2 c24
          refine z_iload_n hC dX12_pickedOf_49 rfl 3 rfl ?_
          obtain ⟨K25, hK26, EE⟩ := JN_use E (fun K25 : Prop => K25 → ZM l G p e s m args below meth c 5 1 S (PIr S D post) S D 69 [(0, .ref (G.1 + 33)), (1, .int a1), (2, .int v1), (4, .int v6)] []) (by
            intro E
            refine z_iload hC dX12_pickedOf_69 3 rfl ?_
            refine z_istore_n (lv' := [(3, .int v6), (0, .ref (G.1 + 33)), (1, .int a1), (2, .int v1), (4, .int v6)]) hC dX12_pickedOf_71 rfl (Nat.le_of_ble_eq_true rfl) rfl ?_
            refine z_sub [1, 2, 3, 0, 4] rfl ?_
            exact hK20 v6 E)
          replace E := EE
          clear EE
          refine z_if_lt (tgt := 69) hC dX12_pickedOf_50 (by decide) (fun c27 => ?_) (fun c27 => ?_)
          · replace E := E.1 c27
            refine z_sub [0, 1, 2, 4] rfl ?_
            exact hK26  E
          · replace E := E.2 c27
            refine z_aload_n hC dX12_pickedOf_53 rfl 0 rfl ?_
            refine z_get hC lf_X12_26_12 (kM_33 hF) dX12_pickedOf_54 (fV_ref rfl (rM_33_5 hF)) ?_
            refine z_iload hC dX12_pickedOf_57 4 rfl ?_
            refine z_iald hC (kM_35 hF) (nM_35 hF) E.1 dX12_pickedOf_59 ?_
            replace E := E.2
            refine z_aload_n hC dX12_pickedOf_60 rfl 0 rfl ?_
            refine z_get hC lf_X12_26_12 (kM_33 hF) dX12_pickedOf_61 (fV_ref rfl (rM_33_5 hF)) ?_
            refine z_iload_n hC dX12_pickedOf_64 rfl 3 rfl ?_
            refine z_iald hC (kM_35 hF) (nM_35 hF) E.1 dX12_pickedOf_65 ?_
            replace E := E.2
            refine z_icmp_ge (tgt := 72) hC dX12_pickedOf_66 (by decide) (fun c28 => ?_) (fun c28 => ?_)
            · replace E := E.1 c28
              exact hK20 v5 E
            · replace E := E.2 c28
              refine z_sub [0, 1, 2, 4] rfl ?_
              exact hK26  E
def fX12_findOdds (a1 : Int32) (a2 : Int32) (a3 : Int32) (a4 : Int32) (D : Dy) (post : Dy → Prop) : Prop :=
  (JN ((vp_in a1 10 ∧ (((D.1 43 (a1).toNatClampNeg) = (1 : Int32) → (fX12_plain a2 a3 a4 D (fun (D9 : Dy) => post D9))) ∧ (¬ (D.1 43 (a1).toNatClampNeg) = (1 : Int32) → (((D.1 43 (a1).toNatClampNeg) = (2 : Int32) → (fX12_nested a2 a3 a4 D (fun (D16 : Dy) => post D16))) ∧ (¬ (D.1 43 (a1).toNatClampNeg) = (2 : Int32) → (((D.1 43 (a1).toNatClampNeg) = (3 : Int32) → (fX12_mixed a2 a3 a4 D (fun (D23 : Dy) => post D23))) ∧ (¬ (D.1 43 (a1).toNatClampNeg) = (3 : Int32) → (((D.1 43 (a1).toNatClampNeg) = (4 : Int32) → (fX12_seenOf a3 D (fun (v25 : Int32) => (fX12_plain a2 v25 a4 D (fun (D35 : Dy) => post D35))))) ∧ (¬ (D.1 43 (a1).toNatClampNeg) = (4 : Int32) → (((D.1 43 (a1).toNatClampNeg) = (5 : Int32) → (fX12_pickedOf a3 D (fun (v37 : Int32) => ((¬ v37 = a2 → (fX12_putOdds (0 : Int64) (1 : Int64) D (fun (D48 : Dy) => post D48))) ∧ (v37 = a2 → (fX12_putOdds (1 : Int64) (1 : Int64) D (fun (D54 : Dy) => post D54))))))) ∧ (¬ (D.1 43 (a1).toNatClampNeg) = (5 : Int32) → (JN (fun (w55 : Int64) => (fX12_ones a3 (fun (v58 : Int32) => (fX12_putOdds w55 (v58).toInt64 D (fun (D68 : Dy) => post D68))))) (fun K56 : Int64 → Prop => ((¬ a2 = (7 : Int32) → (K56 (1 : Int64))) ∧ (a2 = (7 : Int32) → (K56 (0 : Int64)))))))))))))))))) (fun K1 : Prop => ((a2 = (7 : Int32) → K1) ∧ (¬ a2 = (7 : Int32) → (fX12_has a3 a2 (fun (v72 : Int32) => ((¬ v72 = 0 → K1) ∧ (v72 = 0 → (fX12_putOdds (0 : Int64) (1 : Int64) D (fun (D82 : Dy) => post D82))))))))))
set_option maxHeartbeats 4000000 in
set_option maxRecDepth 100000 in
theorem ct_X12_findOdds {l : Launch} {G : Gl} {S : Sh} {D : Dy} (hF : FM S) {a1 : Int32} {a2 : Int32} {a3 : Int32} {a4 : Int32} {post : Dy → Prop} (E : fX12_findOdds a1 a2 a3 a4 D post) : Ct l G yX12_findOdds cX12_findOdds 5 none 4 0 0 S D [.ref (G.1 + 33), .int a1, .int a2, .int a3, .int a4] (PV S post) := by
  refine z_enter (lv0 := [(0, .ref (G.1 + 33)), (1, .int a1), (2, .int a2), (3, .int a3), (4, .int a4)]) pl_12 (Nat.le_of_ble_eq_true rfl) rfl ?_
  intro p e s m args below meth c hC hnm
  unfold fX12_findOdds at E
  refine z_iload_n hC dX12_findOdds_0 rfl 2 rfl ?_
  refine z_bipush (v := 7) hC dX12_findOdds_1 rfl ?_
  obtain ⟨K1, hK2, EE⟩ := JN_use E (fun K1 : Prop => K1 → ZM l G p e s m args below meth c 5 4 S (PV S post) S D 22 [(0, .ref (G.1 + 33)), (1, .int a1), (2, .int a2), (3, .int a3), (4, .int a4)] []) (by
    intro E
    refine z_aload_n hC dX12_findOdds_22 rfl 0 rfl ?_
    refine z_get hC lf_X12_56_12 (kM_33 hF) dX12_findOdds_23 (fV_ref rfl (rM_33_15 hF)) ?_
    refine z_iload_n hC dX12_findOdds_26 rfl 1 rfl ?_
    refine z_iald hC (kM_43 hF) (nM_43 hF) E.1 dX12_findOdds_27 ?_
    replace E := E.2
    by_cases c3 : (D.1 43 (a1).toNatClampNeg) = (1 : Int32)
    · replace E := E.1 c3
      refine z_tableIn (tgt := 64) (off := 36) hC dX12_findOdds_28 c3 (by decide) (by decide) ?_
      refine z_aload_n hC dX12_findOdds_64 rfl 0 rfl ?_
      refine z_iload_n hC dX12_findOdds_65 rfl 2 rfl ?_
      refine z_iload_n hC dX12_findOdds_66 rfl 3 rfl ?_
      refine z_iload hC dX12_findOdds_67 4 rfl ?_
      refine z_callV (ci := 12) (rest := []) hC (ck_mk lk_X12_276 in_X12_plain cd_X12_plain ds_X12_plain (Nat.le_of_ble_eq_true rfl) (Nat.le_of_ble_eq_true rfl)) iy_X12_plain sy_X12_plain cf_12 (by decide) (kM_33 hF) (ct_X12_plain hF E) rfl rfl (Nat.le_of_ble_eq_true rfl) ⟨Nat.le_refl _, Nat.le_refl _⟩ dX12_findOdds_69 ?_
      rintro _ _ D9 ⟨rfl, rfl, E⟩
      exact z_vret hC dX12_findOdds_72 (Nat.le_refl _) (Nat.le_refl _) ⟨rfl, rfl, E⟩
    replace E := E.2 c3
    by_cases c10 : (D.1 43 (a1).toNatClampNeg) = (2 : Int32)
    · replace E := E.1 c10
      refine z_tableIn (tgt := 73) (off := 45) hC dX12_findOdds_28 c10 (by decide) (by decide) ?_
      refine z_aload_n hC dX12_findOdds_73 rfl 0 rfl ?_
      refine z_iload_n hC dX12_findOdds_74 rfl 2 rfl ?_
      refine z_iload_n hC dX12_findOdds_75 rfl 3 rfl ?_
      refine z_iload hC dX12_findOdds_76 4 rfl ?_
      refine z_callV (ci := 12) (rest := []) hC (ck_mk lk_X12_284 in_X12_nested cd_X12_nested ds_X12_nested (Nat.le_of_ble_eq_true rfl) (Nat.le_of_ble_eq_true rfl)) iy_X12_nested sy_X12_nested cf_12 (by decide) (kM_33 hF) (ct_X12_nested hF E) rfl rfl (Nat.le_of_ble_eq_true rfl) ⟨Nat.le_refl _, Nat.le_refl _⟩ dX12_findOdds_78 ?_
      rintro _ _ D16 ⟨rfl, rfl, E⟩
      exact z_vret hC dX12_findOdds_81 (Nat.le_refl _) (Nat.le_refl _) ⟨rfl, rfl, E⟩
    replace E := E.2 c10
    by_cases c17 : (D.1 43 (a1).toNatClampNeg) = (3 : Int32)
    · replace E := E.1 c17
      refine z_tableIn (tgt := 82) (off := 54) hC dX12_findOdds_28 c17 (by decide) (by decide) ?_
      refine z_aload_n hC dX12_findOdds_82 rfl 0 rfl ?_
      refine z_iload_n hC dX12_findOdds_83 rfl 2 rfl ?_
      refine z_iload_n hC dX12_findOdds_84 rfl 3 rfl ?_
      refine z_iload hC dX12_findOdds_85 4 rfl ?_
      refine z_callV (ci := 12) (rest := []) hC (ck_mk lk_X12_287 in_X12_mixed cd_X12_mixed ds_X12_mixed (Nat.le_of_ble_eq_true rfl) (Nat.le_of_ble_eq_true rfl)) iy_X12_mixed sy_X12_mixed cf_12 (by decide) (kM_33 hF) (ct_X12_mixed hF E) rfl rfl (Nat.le_of_ble_eq_true rfl) ⟨Nat.le_refl _, Nat.le_refl _⟩ dX12_findOdds_87 ?_
      rintro _ _ D23 ⟨rfl, rfl, E⟩
      exact z_vret hC dX12_findOdds_90 (Nat.le_refl _) (Nat.le_refl _) ⟨rfl, rfl, E⟩
    replace E := E.2 c17
    by_cases c24 : (D.1 43 (a1).toNatClampNeg) = (4 : Int32)
    · replace E := E.1 c24
      refine z_tableIn (tgt := 91) (off := 63) hC dX12_findOdds_28 c24 (by decide) (by decide) ?_
      refine z_aload_n hC dX12_findOdds_91 rfl 0 rfl ?_
      refine z_iload_n hC dX12_findOdds_92 rfl 2 rfl ?_
      refine z_aload_n hC dX12_findOdds_93 rfl 0 rfl ?_
      refine z_iload_n hC dX12_findOdds_94 rfl 3 rfl ?_
      refine z_callV (ci := 12) (rest := [.int a2, .ref (G.1 + 33)]) hC (ck_mk lk_X12_290 in_X12_seenOf cd_X12_seenOf ds_X12_seenOf (Nat.le_of_ble_eq_true rfl) (Nat.le_of_ble_eq_true rfl)) iy_X12_seenOf sy_X12_seenOf cf_12 (by decide) (kM_33 hF) (ct_X12_seenOf hF E) rfl rfl (Nat.le_of_ble_eq_true rfl) ⟨Nat.le_refl _, Nat.le_refl _⟩ dX12_findOdds_95 ?_
      rintro _ _ _ ⟨v25, rfl, rfl, rfl, E⟩
      refine z_iload hC dX12_findOdds_98 4 rfl ?_
      refine z_callV (ci := 12) (rest := []) hC (ck_mk lk_X12_276 in_X12_plain cd_X12_plain ds_X12_plain (Nat.le_of_ble_eq_true rfl) (Nat.le_of_ble_eq_true rfl)) iy_X12_plain sy_X12_plain cf_12 (by decide) (kM_33 hF) (ct_X12_plain hF E) rfl rfl (Nat.le_of_ble_eq_true rfl) ⟨Nat.le_refl _, Nat.le_refl _⟩ dX12_findOdds_100 ?_
      rintro _ _ D35 ⟨rfl, rfl, E⟩
      exact z_vret hC dX12_findOdds_103 (Nat.le_refl _) (Nat.le_refl _) ⟨rfl, rfl, E⟩
    replace E := E.2 c24
    by_cases c36 : (D.1 43 (a1).toNatClampNeg) = (5 : Int32)
    · replace E := E.1 c36
      refine z_tableIn (tgt := 104) (off := 76) hC dX12_findOdds_28 c36 (by decide) (by decide) ?_
      refine z_aload_n hC dX12_findOdds_104 rfl 0 rfl ?_
      refine z_aload_n hC dX12_findOdds_105 rfl 0 rfl ?_
      refine z_iload_n hC dX12_findOdds_106 rfl 3 rfl ?_
      refine z_callV (ci := 12) (rest := [.ref (G.1 + 33)]) hC (ck_mk lk_X12_293 in_X12_pickedOf cd_X12_pickedOf ds_X12_pickedOf (Nat.le_of_ble_eq_true rfl) (Nat.le_of_ble_eq_true rfl)) iy_X12_pickedOf sy_X12_pickedOf cf_12 (by decide) (kM_33 hF) (ct_X12_pickedOf hF E) rfl rfl (Nat.le_of_ble_eq_true rfl) ⟨Nat.le_refl _, Nat.le_refl _⟩ dX12_findOdds_107 ?_
      rintro _ _ _ ⟨v37, rfl, rfl, rfl, E⟩
      refine z_iload_n hC dX12_findOdds_110 rfl 2 rfl ?_
      refine z_icmp_ne (tgt := 118) hC dX12_findOdds_111 (by decide) (fun c42 => ?_) (fun c42 => ?_)
      · replace E := E.1 c42
        refine z_lconst (v := 0) hC dX12_findOdds_118 rfl ?_
        refine z_lconst (v := 1) hC dX12_findOdds_119 rfl ?_
        refine z_callV (ci := 12) (rest := []) hC (ck_mk lk_X12_268 in_X12_putOdds cd_X12_putOdds ds_X12_putOdds (Nat.le_of_ble_eq_true rfl) (Nat.le_of_ble_eq_true rfl)) iy_X12_putOdds sy_X12_putOdds cf_12 (by decide) (kM_33 hF) (ct_X12_putOdds hF E) rfl rfl (Nat.le_of_ble_eq_true rfl) ⟨Nat.le_refl _, Nat.le_refl _⟩ dX12_findOdds_120 ?_
        rintro _ _ D48 ⟨rfl, rfl, E⟩
        exact z_vret hC dX12_findOdds_123 (Nat.le_refl _) (Nat.le_refl _) ⟨rfl, rfl, E⟩
      · replace E := E.2 c42
        refine z_lconst (v := 1) hC dX12_findOdds_114 rfl ?_
        refine z_goto (tgt := 119) hC dX12_findOdds_115 (by decide) ?_
        refine z_lconst (v := 1) hC dX12_findOdds_119 rfl ?_
        refine z_callV (ci := 12) (rest := []) hC (ck_mk lk_X12_268 in_X12_putOdds cd_X12_putOdds ds_X12_putOdds (Nat.le_of_ble_eq_true rfl) (Nat.le_of_ble_eq_true rfl)) iy_X12_putOdds sy_X12_putOdds cf_12 (by decide) (kM_33 hF) (ct_X12_putOdds hF E) rfl rfl (Nat.le_of_ble_eq_true rfl) ⟨Nat.le_refl _, Nat.le_refl _⟩ dX12_findOdds_120 ?_
        rintro _ _ D54 ⟨rfl, rfl, E⟩
        exact z_vret hC dX12_findOdds_123 (Nat.le_refl _) (Nat.le_refl _) ⟨rfl, rfl, E⟩
    replace E := E.2 c36
    refine z_tableOut (tgt := 124) hC dX12_findOdds_28 (by have zc3 := sw_ne c3 (show (1 : Int32).toInt = 1 by decide); have zc10 := sw_ne c10 (show (2 : Int32).toInt = 2 by decide); have zc17 := sw_ne c17 (show (3 : Int32).toInt = 3 by decide); have zc24 := sw_ne c24 (show (4 : Int32).toInt = 4 by decide); have zc36 := sw_ne c36 (show (5 : Int32).toInt = 5 by decide); omega) (by decide) ?_
    refine z_aload_n hC dX12_findOdds_124 rfl 0 rfl ?_
    refine z_iload_n hC dX12_findOdds_125 rfl 2 rfl ?_
    refine z_bipush (v := 7) hC dX12_findOdds_126 rfl ?_
    obtain ⟨K56, hK57, EE⟩ := JN_use E (fun K56 : Int64 → Prop => ∀ (w55 : Int64), K56 w55 → ZM l G p e s m args below meth c 5 4 S (PV S post) S D 136 [(0, .ref (G.1 + 33)), (3, .int a3)] [.long w55, .ref (G.1 + 33)]) (by
      intro w55 E
      refine z_aload_n hC dX12_findOdds_136 rfl 0 rfl ?_
      refine z_iload_n hC dX12_findOdds_137 rfl 1 rfl ?_
      refine z_callV (ci := 12) (rest := [.long w55, .ref (G.1 + 33)]) hC (ck_mk lk_X12_280 in_X12_ones cd_X12_ones ds_X12_ones (Nat.le_of_ble_eq_true rfl) (Nat.le_of_ble_eq_true rfl)) iy_X12_ones sy_X12_ones cf_12 (by decide) (kM_33 hF) (ct_X12_ones hF E) rfl rfl (Nat.le_of_ble_eq_true rfl) ⟨Nat.le_refl _, Nat.le_refl _⟩ dX12_findOdds_138 ?_
      rintro _ _ _ ⟨v58, rfl, rfl, rfl, E⟩
      refine z_i2l hC dX12_findOdds_141 ?_
      refine z_callV (ci := 12) (rest := []) hC (ck_mk lk_X12_268 in_X12_putOdds cd_X12_putOdds ds_X12_putOdds (Nat.le_of_ble_eq_true rfl) (Nat.le_of_ble_eq_true rfl)) iy_X12_putOdds sy_X12_putOdds cf_12 (by decide) (kM_33 hF) (ct_X12_putOdds hF E) rfl rfl (Nat.le_of_ble_eq_true rfl) ⟨Nat.le_refl _, Nat.le_refl _⟩ dX12_findOdds_142 ?_
      rintro _ _ D68 ⟨rfl, rfl, E⟩
      exact z_vret hC dX12_findOdds_145 (Nat.le_refl _) (Nat.le_refl _) ⟨rfl, rfl, E⟩)
    replace E := EE
    clear EE
    refine z_icmp_ne (tgt := 135) hC dX12_findOdds_128 (by decide) (fun c69 => ?_) (fun c69 => ?_)
    · replace E := E.1 c69
      refine z_lconst (v := 1) hC dX12_findOdds_135 rfl ?_
      refine z_sub [0, 3] rfl ?_
      exact hK57 (1 : Int64) E
    · replace E := E.2 c69
      refine z_lconst (v := 0) hC dX12_findOdds_131 rfl ?_
      refine z_goto (tgt := 136) hC dX12_findOdds_132 (by decide) ?_
      refine z_sub [0, 3] rfl ?_
      exact hK57 (0 : Int64) E)
  replace E := EE
  clear EE
  refine z_icmp_eq (tgt := 22) hC dX12_findOdds_3 (by decide) (fun c70 => ?_) (fun c70 => ?_)
  · replace E := E.1 c70
    exact hK2  E
  · replace E := E.2 c70
    refine z_aload_n hC dX12_findOdds_6 rfl 0 rfl ?_
    refine z_iload_n hC dX12_findOdds_7 rfl 3 rfl ?_
    refine z_iload_n hC dX12_findOdds_8 rfl 2 rfl ?_
    refine z_callV (ci := 12) (rest := []) hC (ck_mk lk_X12_192 in_X12_has cd_X12_has ds_X12_has (Nat.le_of_ble_eq_true rfl) (Nat.le_of_ble_eq_true rfl)) iy_X12_has sy_X12_has cf_12 (by decide) (kM_33 hF) (ct_X12_has hF E) rfl rfl (Nat.le_of_ble_eq_true rfl) ⟨Nat.le_refl _, Nat.le_refl _⟩ dX12_findOdds_9 ?_
    rintro _ _ _ ⟨v72, rfl, rfl, rfl, E⟩
    refine z_if_ne (tgt := 22) hC dX12_findOdds_12 (by decide) (fun c76 => ?_) (fun c76 => ?_)
    · replace E := E.1 c76
      exact hK2  E
    · replace E := E.2 c76
      refine z_aload_n hC dX12_findOdds_15 rfl 0 rfl ?_
      refine z_lconst (v := 0) hC dX12_findOdds_16 rfl ?_
      refine z_lconst (v := 1) hC dX12_findOdds_17 rfl ?_
      refine z_callV (ci := 12) (rest := []) hC (ck_mk lk_X12_268 in_X12_putOdds cd_X12_putOdds ds_X12_putOdds (Nat.le_of_ble_eq_true rfl) (Nat.le_of_ble_eq_true rfl)) iy_X12_putOdds sy_X12_putOdds cf_12 (by decide) (kM_33 hF) (ct_X12_putOdds hF E) rfl rfl (Nat.le_of_ble_eq_true rfl) ⟨Nat.le_refl _, Nat.le_refl _⟩ dX12_findOdds_18 ?_
      rintro _ _ D82 ⟨rfl, rfl, E⟩
      exact z_vret hC dX12_findOdds_21 (Nat.le_refl _) (Nat.le_refl _) ⟨rfl, rfl, E⟩
def fX12_coinOf (a1 : Int32) (a2 : Int32) (D : Dy) (post : Int64 → Dy → Prop) : Prop :=
  (LP3 (fun (rec4 : Int64 → Int32 → Dy → Prop) (w1 : Int64) (v2 : Int32) (D3 : Dy) => (((D3.1 33 1) ≤ v2 → post w1 D3) ∧ (¬ (D3.1 33 1) ≤ v2 → (LP3 (fun (rec10 : Int64 → Int32 → Dy → Prop) (w7 : Int64) (v8 : Int32) (D9 : Dy) => (((D9.1 33 0) ≤ v8 → (∀ v13 : Int32, v13 = v2 + 1 → (rec4 w7 v13 D9))) ∧ (¬ (D9.1 33 0) ≤ v8 → (fX12_has a2 v8 (fun (v16 : Int32) => (JN (fun (w20 : Int64) (D21 : Dy) => (∀ v24 : Int32, v24 = v8 + 1 → (rec10 w20 v24 D21))) (fun K22 : Int64 → Dy → Prop => ((¬ v16 = 0 → (vp_in v2 16 ∧ (fX12_findOdds a1 v8 a2 (D9.1 37 (v2).toNatClampNeg) D9 (fun (D32 : Dy) => (vp_in v8 6 ∧ (¬ (D32.2 33 40) = 0 ∧ (∀ w33 : Int64, w33 = (w7 + (((D32.1 35 (v8).toNatClampNeg)).toInt64 * (((1000 : Int64) * (D32.2 33 39)) / (D32.2 33 40)))) → (K22 w33 D32)))))))) ∧ (v16 = 0 → (K22 w7 D9)))))))))) FU w1 (0 : Int32) D3)))) FU (0 : Int64) (0 : Int32) D)
set_option maxHeartbeats 4000000 in
set_option maxRecDepth 100000 in
theorem ct_X12_coinOf {l : Launch} {G : Gl} {S : Sh} {D : Dy} (hF : FM S) {a1 : Int32} {a2 : Int32} {post : Int64 → Dy → Prop} (E : fX12_coinOf a1 a2 D post) : Ct l G yX12_coinOf cX12_coinOf 7 (some .long) 5 0 0 S D [.ref (G.1 + 33), .int a1, .int a2] (PL S post) := by
  refine z_enter (lv0 := [(0, .ref (G.1 + 33)), (1, .int a1), (2, .int a2)]) pl_12 (Nat.le_of_ble_eq_true rfl) rfl ?_
  intro p e s m args below meth c hC hnm
  unfold fX12_coinOf at E
  refine z_lconst (v := 0) hC dX12_coinOf_0 rfl ?_
  refine z_lstore_n (lv' := [(3, .long (0 : Int64)), (0, .ref (G.1 + 33)), (1, .int a1), (2, .int a2)]) hC dX12_coinOf_1 rfl (Nat.le_of_ble_eq_true rfl) rfl ?_
  refine z_iconst (v := 0) hC dX12_coinOf_2 rfl ?_
  refine z_istore (lv' := [(5, .int (0 : Int32)), (3, .long (0 : Int64)), (0, .ref (G.1 + 33)), (1, .int a1), (2, .int a2)]) hC dX12_coinOf_3 (Nat.le_of_ble_eq_true rfl) rfl ?_
  refine z_sub [2, 3, 4, 1, 0] rfl ?_
  refine LP3_use (fun (w1 : Int64) (v2 : Int32) (D3 : Dy) => ZM l G p e s m args below meth c 7 5 S (PL S post) S D3 5 [(0, .ref (G.1 + 33)), (1, .int a1), (2, .int a2), (3, .long w1), (5, .int v2)] []) ?_ FU (0 : Int64) (0 : Int32) D E
  intro rec4 hrec5 w1 v2 D3 E
  refine z_iload hC dX12_coinOf_5 4 rfl ?_
  refine z_aload_n hC dX12_coinOf_7 rfl 0 rfl ?_
  refine z_get hC lf_X12_13_12 (kM_33 hF) dX12_coinOf_8 (fV_int rfl) ?_
  refine z_icmp_ge (tgt := 91) hC dX12_coinOf_11 (by decide) (fun c6 => ?_) (fun c6 => ?_)
  · replace E := E.1 c6
    refine z_lload_n hC dX12_coinOf_91 rfl 3 rfl ?_
    exact z_lret hC dX12_coinOf_92 (Nat.le_refl _) (Nat.le_refl _) ⟨_, rfl, rfl, E⟩
  · replace E := E.2 c6
    refine z_iconst (v := 0) hC dX12_coinOf_14 rfl ?_
    refine z_istore (lv' := [(6, .int (0 : Int32)), (0, .ref (G.1 + 33)), (1, .int a1), (2, .int a2), (3, .long w1), (5, .int v2)]) hC dX12_coinOf_15 (Nat.le_of_ble_eq_true rfl) rfl ?_
    refine z_sub [1, 2, 3, 4, 5, 0] rfl ?_
    refine LP3_use (fun (w7 : Int64) (v8 : Int32) (D9 : Dy) => ZM l G p e s m args below meth c 7 5 S (PL S post) S D9 17 [(0, .ref (G.1 + 33)), (1, .int a1), (2, .int a2), (3, .long w7), (5, .int v2), (6, .int v8)] []) ?_ FU w1 (0 : Int32) D3 E
    intro rec10 hrec11 w7 v8 D9 E
    refine z_iload hC dX12_coinOf_17 5 rfl ?_
    refine z_aload_n hC dX12_coinOf_19 rfl 0 rfl ?_
    refine z_get hC lf_X12_7_12 (kM_33 hF) dX12_coinOf_20 (fV_int rfl) ?_
    refine z_icmp_ge (tgt := 85) hC dX12_coinOf_23 (by decide) (fun c12 => ?_) (fun c12 => ?_)
    · replace E := E.1 c12
      obtain ⟨v13, h14⟩ : ∃ y : Int32, y = v2 + 1 := ⟨_, rfl⟩
      replace E := E v13 h14
      refine z_iinc (q := 4) (v := v13) (lv' := [(5, .int v13), (0, .ref (G.1 + 33)), (1, .int a1), (2, .int a2), (3, .long w7), (6, .int v8)]) hC dX12_coinOf_85 rfl (by rw [h14]; rfl) (Nat.le_of_ble_eq_true rfl) rfl ?_
      refine z_goto (tgt := 5) hC dX12_coinOf_88 (by decide) ?_
      refine z_sub [1, 2, 3, 4, 0] rfl ?_
      exact hrec5 w7 v13 D9 E
    · replace E := E.2 c12
      refine z_aload_n hC dX12_coinOf_26 rfl 0 rfl ?_
      refine z_iload_n hC dX12_coinOf_27 rfl 2 rfl ?_
      refine z_iload hC dX12_coinOf_28 5 rfl ?_
      refine z_callV (ci := 12) (rest := []) hC (ck_mk lk_X12_192 in_X12_has cd_X12_has ds_X12_has (Nat.le_of_ble_eq_true rfl) (Nat.le_of_ble_eq_true rfl)) iy_X12_has sy_X12_has cf_12 (by decide) (kM_33 hF) (ct_X12_has hF E) rfl rfl (Nat.le_of_ble_eq_true rfl) ⟨Nat.le_refl _, Nat.le_refl _⟩ dX12_coinOf_30 ?_
      rintro _ _ _ ⟨v16, rfl, rfl, rfl, E⟩
      obtain ⟨K22, hK23, EE⟩ := JN_use E (fun K22 : Int64 → Dy → Prop => ∀ (w20 : Int64) (D21 : Dy), K22 w20 D21 → ZM l G p e s m args below meth c 7 5 S (PL S post) S D21 79 [(0, .ref (G.1 + 33)), (1, .int a1), (2, .int a2), (3, .long w20), (5, .int v2), (6, .int v8)] []) (by
        intro w20 D21 E
        obtain ⟨v24, h25⟩ : ∃ y : Int32, y = v8 + 1 := ⟨_, rfl⟩
        replace E := E v24 h25
        refine z_iinc (q := 5) (v := v24) (lv' := [(6, .int v24), (0, .ref (G.1 + 33)), (1, .int a1), (2, .int a2), (3, .long w20), (5, .int v2)]) hC dX12_coinOf_79 rfl (by rw [h25]; rfl) (Nat.le_of_ble_eq_true rfl) rfl ?_
        refine z_goto (tgt := 17) hC dX12_coinOf_82 (by decide) ?_
        refine z_sub [1, 2, 3, 4, 5, 0] rfl ?_
        exact hrec11 w20 v24 D21 E)
      replace E := EE
      clear EE
      refine z_if_ne (tgt := 39) hC dX12_coinOf_33 (by decide) (fun c26 => ?_) (fun c26 => ?_)
      · replace E := E.1 c26
        refine z_aload_n hC dX12_coinOf_39 rfl 0 rfl ?_
        refine z_iload_n hC dX12_coinOf_40 rfl 1 rfl ?_
        refine z_iload hC dX12_coinOf_41 5 rfl ?_
        refine z_iload_n hC dX12_coinOf_43 rfl 2 rfl ?_
        refine z_aload_n hC dX12_coinOf_44 rfl 0 rfl ?_
        refine z_get hC lf_X12_32_12 (kM_33 hF) dX12_coinOf_45 (fV_ref rfl (rM_33_7 hF)) ?_
        refine z_iload hC dX12_coinOf_48 4 rfl ?_
        refine z_iald hC (kM_37 hF) (nM_37 hF) E.1 dX12_coinOf_50 ?_
        replace E := E.2
        refine z_callV (ci := 12) (rest := []) hC (ck_mk lk_X12_298 in_X12_findOdds cd_X12_findOdds ds_X12_findOdds (Nat.le_of_ble_eq_true rfl) (Nat.le_of_ble_eq_true rfl)) iy_X12_findOdds sy_X12_findOdds cf_12 (by decide) (kM_33 hF) (ct_X12_findOdds hF E) rfl rfl (Nat.le_of_ble_eq_true rfl) ⟨Nat.le_refl _, Nat.le_refl _⟩ dX12_coinOf_51 ?_
        rintro _ _ D32 ⟨rfl, rfl, E⟩
        refine z_lload_n hC dX12_coinOf_54 rfl 3 rfl ?_
        refine z_aload_n hC dX12_coinOf_55 rfl 0 rfl ?_
        refine z_get hC lf_X12_26_12 (kM_33 hF) dX12_coinOf_56 (fV_ref rfl (rM_33_5 hF)) ?_
        refine z_iload hC dX12_coinOf_59 5 rfl ?_
        refine z_iald hC (kM_35 hF) (nM_35 hF) E.1 dX12_coinOf_61 ?_
        replace E := E.2
        refine z_i2l hC dX12_coinOf_62 ?_
        refine z_ldc2 hC kl_X12_306 dX12_coinOf_63 ?_
        refine z_aload_n hC dX12_coinOf_66 rfl 0 rfl ?_
        refine z_get hC lf_X12_129_12 (kM_33 hF) dX12_coinOf_67 (fV_long rfl) ?_
        refine z_lmul hC dX12_coinOf_70 ?_
        refine z_aload_n hC dX12_coinOf_71 rfl 0 rfl ?_
        refine z_get hC lf_X12_133_12 (kM_33 hF) dX12_coinOf_72 (fV_long rfl) ?_
        have q0 := E.1
        replace E := E.2
        refine z_ldiv hC dX12_coinOf_75 q0 ?_
        refine z_lmul hC dX12_coinOf_76 ?_
        refine z_ladd hC dX12_coinOf_77 ?_
        refine z_topl (fun w33 h34 => ?_)
        replace E := E w33 h34
        refine z_lstore_n (lv' := [(3, .long w33), (0, .ref (G.1 + 33)), (1, .int a1), (2, .int a2), (5, .int v2), (6, .int v8)]) hC dX12_coinOf_78 rfl (Nat.le_of_ble_eq_true rfl) rfl ?_
        refine z_sub [1, 2, 3, 0, 4, 5] rfl ?_
        exact hK23 w33 D32 E
      · replace E := E.2 c26
        refine z_goto (tgt := 79) hC dX12_coinOf_36 (by decide) ?_
        exact hK23 w7 D9 E
def fX12_best (a1 : Int32) (a2 : Int32) (a3 : Int32) (D : Dy) (post : Int32 → Dy → Prop) : Prop :=
  (fX12_isModel a1 D (fun (v2 : Int32) => ((v2 = 0 → post (-1 : Int32) D) ∧ (¬ v2 = 0 → (fX12_isThing a2 D (fun (v8 : Int32) => ((¬ v8 = 0 → (fX12_isSet a3 D (fun (v14 : Int32) => ((v14 = 0 → post (-2 : Int32) D) ∧ (¬ v14 = 0 → (fX12_has a3 a2 (fun (v20 : Int32) => ((¬ v20 = 0 → (vp_in a2 6 ∧ (∀ v25 : Int32, v25 = (D.1 35 (a2).toNatClampNeg) → (LP4 (fun (rec31 : Int32 → Int64 → Int32 → Dy → Prop) (v27 : Int32) (w28 : Int64) (v29 : Int32) (D30 : Dy) => (((100 : Int32) ≤ v29 → (vp_in a2 6 ∧ (∀ D34 : Dy, D34 = sI D30 35 (a2).toNatClampNeg v25 → post v27 D34))) ∧ (¬ (100 : Int32) ≤ v29 → (vp_in a2 6 ∧ (∀ D36 : Dy, D36 = sI D30 35 (a2).toNatClampNeg v29 → (fX12_listen a1 D36 (fun (v39 : Int32) (D43 : Dy) => (JN (fun (w44 : Int64) (D45 : Dy) => (JN (fun (v48 : Int32) (w49 : Int64) => (∀ v52 : Int32, v52 = v29 + 1 → (rec31 v48 w49 v52 D45))) (fun K50 : Int32 → Int64 → Prop => ((0 < (lg_cmp w44 w28) → (K50 v29 w44)) ∧ (¬ 0 < (lg_cmp w44 w28) → (K50 v27 w28)))))) (fun K46 : Int64 → Dy → Prop => ((v39 = 0 → (K46 (0 : Int64) D43)) ∧ (¬ v39 = 0 → (fX12_coinOf a1 a3 D43 (fun (w58 : Int64) (D61 : Dy) => (K46 w58 D61)))))))))))))) FU (0 : Int32) (-1 : Int64) (0 : Int32) D)))) ∧ (v20 = 0 → post (-2 : Int32) D))))))))) ∧ (v8 = 0 → post (-1 : Int32) D))))))))
set_option maxHeartbeats 4000000 in
set_option maxRecDepth 100000 in
theorem ct_X12_best {l : Launch} {G : Gl} {S : Sh} {D : Dy} (hF : FM S) {a1 : Int32} {a2 : Int32} {a3 : Int32} {post : Int32 → Dy → Prop} (E : fX12_best a1 a2 a3 D post) : Ct l G yX12_best cX12_best 11 (some .int) 9 0 0 S D [.ref (G.1 + 33), .int a1, .int a2, .int a3] (PI S post) := by
  refine z_enter (lv0 := [(0, .ref (G.1 + 33)), (1, .int a1), (2, .int a2), (3, .int a3)]) pl_12 (Nat.le_of_ble_eq_true rfl) rfl ?_
  intro p e s m args below meth c hC hnm
  unfold fX12_best at E
  refine z_aload_n hC dX12_best_0 rfl 0 rfl ?_
  refine z_iload_n hC dX12_best_1 rfl 1 rfl ?_
  refine z_callV (ci := 12) (rest := []) hC (ck_mk lk_X12_258 in_X12_isModel cd_X12_isModel ds_X12_isModel (Nat.le_of_ble_eq_true rfl) (Nat.le_of_ble_eq_true rfl)) iy_X12_isModel sy_X12_isModel cf_12 (by decide) (kM_33 hF) (ct_X12_isModel hF E) rfl rfl (Nat.le_of_ble_eq_true rfl) ⟨Nat.le_refl _, Nat.le_refl _⟩ dX12_best_2 ?_
  rintro _ _ _ ⟨v2, rfl, rfl, rfl, E⟩
  refine z_if_eq (tgt := 16) hC dX12_best_5 (by decide) (fun c6 => ?_) (fun c6 => ?_)
  · replace E := E.1 c6
    refine z_iconst (v := -1) hC dX12_best_16 rfl ?_
    exact z_iret hC dX12_best_17 (Nat.le_refl _) (Nat.le_refl _) ⟨_, rfl, rfl, E⟩
  · replace E := E.2 c6
    refine z_aload_n hC dX12_best_8 rfl 0 rfl ?_
    refine z_iload_n hC dX12_best_9 rfl 2 rfl ?_
    refine z_callV (ci := 12) (rest := []) hC (ck_mk lk_X12_182 in_X12_isThing cd_X12_isThing ds_X12_isThing (Nat.le_of_ble_eq_true rfl) (Nat.le_of_ble_eq_true rfl)) iy_X12_isThing sy_X12_isThing cf_12 (by decide) (kM_33 hF) (ct_X12_isThing hF E) rfl rfl (Nat.le_of_ble_eq_true rfl) ⟨Nat.le_refl _, Nat.le_refl _⟩ dX12_best_10 ?_
    rintro _ _ _ ⟨v8, rfl, rfl, rfl, E⟩
    refine z_if_ne (tgt := 18) hC dX12_best_13 (by decide) (fun c12 => ?_) (fun c12 => ?_)
    · replace E := E.1 c12
      refine z_aload_n hC dX12_best_18 rfl 0 rfl ?_
      refine z_iload_n hC dX12_best_19 rfl 3 rfl ?_
      refine z_callV (ci := 12) (rest := []) hC (ck_mk lk_X12_189 in_X12_isSet cd_X12_isSet ds_X12_isSet (Nat.le_of_ble_eq_true rfl) (Nat.le_of_ble_eq_true rfl)) iy_X12_isSet sy_X12_isSet cf_12 (by decide) (kM_33 hF) (ct_X12_isSet hF E) rfl rfl (Nat.le_of_ble_eq_true rfl) ⟨Nat.le_refl _, Nat.le_refl _⟩ dX12_best_20 ?_
      rintro _ _ _ ⟨v14, rfl, rfl, rfl, E⟩
      refine z_if_eq (tgt := 35) hC dX12_best_23 (by decide) (fun c18 => ?_) (fun c18 => ?_)
      · replace E := E.1 c18
        refine z_bipush (v := -2) hC dX12_best_35 rfl ?_
        exact z_iret hC dX12_best_37 (Nat.le_refl _) (Nat.le_refl _) ⟨_, rfl, rfl, E⟩
      · replace E := E.2 c18
        refine z_aload_n hC dX12_best_26 rfl 0 rfl ?_
        refine z_iload_n hC dX12_best_27 rfl 3 rfl ?_
        refine z_iload_n hC dX12_best_28 rfl 2 rfl ?_
        refine z_callV (ci := 12) (rest := []) hC (ck_mk lk_X12_192 in_X12_has cd_X12_has ds_X12_has (Nat.le_of_ble_eq_true rfl) (Nat.le_of_ble_eq_true rfl)) iy_X12_has sy_X12_has cf_12 (by decide) (kM_33 hF) (ct_X12_has hF E) rfl rfl (Nat.le_of_ble_eq_true rfl) ⟨Nat.le_refl _, Nat.le_refl _⟩ dX12_best_29 ?_
        rintro _ _ _ ⟨v20, rfl, rfl, rfl, E⟩
        refine z_if_ne (tgt := 38) hC dX12_best_32 (by decide) (fun c24 => ?_) (fun c24 => ?_)
        · replace E := E.1 c24
          refine z_aload_n hC dX12_best_38 rfl 0 rfl ?_
          refine z_get hC lf_X12_26_12 (kM_33 hF) dX12_best_39 (fV_ref rfl (rM_33_5 hF)) ?_
          refine z_iload_n hC dX12_best_42 rfl 2 rfl ?_
          refine z_iald hC (kM_35 hF) (nM_35 hF) E.1 dX12_best_43 ?_
          replace E := E.2
          refine z_topi (fun v25 h26 => ?_)
          replace E := E v25 h26
          refine z_istore (lv' := [(4, .int v25), (0, .ref (G.1 + 33)), (1, .int a1), (2, .int a2), (3, .int a3)]) hC dX12_best_44 (Nat.le_of_ble_eq_true rfl) rfl ?_
          refine z_iconst (v := 0) hC dX12_best_46 rfl ?_
          refine z_istore (lv' := [(5, .int (0 : Int32)), (4, .int v25), (0, .ref (G.1 + 33)), (1, .int a1), (2, .int a2), (3, .int a3)]) hC dX12_best_47 (Nat.le_of_ble_eq_true rfl) rfl ?_
          refine z_ldc2 hC kl_X12_339 dX12_best_49 ?_
          refine z_lstore (lv' := [(6, .long (-1 : Int64)), (5, .int (0 : Int32)), (4, .int v25), (0, .ref (G.1 + 33)), (1, .int a1), (2, .int a2), (3, .int a3)]) hC dX12_best_52 (Nat.le_of_ble_eq_true rfl) rfl ?_
          refine z_iconst (v := 0) hC dX12_best_54 rfl ?_
          refine z_istore (lv' := [(8, .int (0 : Int32)), (6, .long (-1 : Int64)), (5, .int (0 : Int32)), (4, .int v25), (0, .ref (G.1 + 33)), (1, .int a1), (2, .int a2), (3, .int a3)]) hC dX12_best_55 (Nat.le_of_ble_eq_true rfl) rfl ?_
          refine z_sub [4, 5, 6, 7, 3, 2, 1, 0] rfl ?_
          refine LP4_use (fun (v27 : Int32) (w28 : Int64) (v29 : Int32) (D30 : Dy) => ZM l G p e s m args below meth c 11 9 S (PI S post) S D30 57 [(0, .ref (G.1 + 33)), (1, .int a1), (2, .int a2), (3, .int a3), (4, .int v25), (5, .int v27), (6, .long w28), (8, .int v29)] []) ?_ FU (0 : Int32) (-1 : Int64) (0 : Int32) D E
          intro rec31 hrec32 v27 w28 v29 D30 E
          refine z_iload hC dX12_best_57 7 rfl ?_
          refine z_bipush (v := 100) hC dX12_best_59 rfl ?_
          refine z_icmp_ge (tgt := 117) hC dX12_best_61 (by decide) (fun c33 => ?_) (fun c33 => ?_)
          · replace E := E.1 c33
            refine z_aload_n hC dX12_best_117 rfl 0 rfl ?_
            refine z_get hC lf_X12_26_12 (kM_33 hF) dX12_best_118 (fV_ref rfl (rM_33_5 hF)) ?_
            refine z_iload_n hC dX12_best_121 rfl 2 rfl ?_
            refine z_iload hC dX12_best_122 4 rfl ?_
            refine z_iast hC (kM_35 hF) (nM_35 hF) E.1 dX12_best_124 ?_
            replace E := E.2
            refine z_topD (fun D34 h35 => ?_)
            replace E := E D34 h35
            refine z_iload hC dX12_best_125 5 rfl ?_
            exact z_iret hC dX12_best_127 (Nat.le_refl _) (Nat.le_refl _) ⟨_, rfl, rfl, E⟩
          · replace E := E.2 c33
            refine z_aload_n hC dX12_best_64 rfl 0 rfl ?_
            refine z_get hC lf_X12_26_12 (kM_33 hF) dX12_best_65 (fV_ref rfl (rM_33_5 hF)) ?_
            refine z_iload_n hC dX12_best_68 rfl 2 rfl ?_
            refine z_iload hC dX12_best_69 7 rfl ?_
            refine z_iast hC (kM_35 hF) (nM_35 hF) E.1 dX12_best_71 ?_
            replace E := E.2
            refine z_topD (fun D36 h37 => ?_)
            replace E := E D36 h37
            refine z_aload_n hC dX12_best_72 rfl 0 rfl ?_
            refine z_iload_n hC dX12_best_73 rfl 1 rfl ?_
            refine z_callV (ci := 12) (rest := []) hC (ck_mk lk_X12_261 in_X12_listen cd_X12_listen ds_X12_listen (Nat.le_of_ble_eq_true rfl) (Nat.le_of_ble_eq_true rfl)) iy_X12_listen sy_X12_listen cf_12 (by decide) (kM_33 hF) (ct_X12_listen hF E) rfl rfl (Nat.le_of_ble_eq_true rfl) ⟨Nat.le_refl _, Nat.le_refl _⟩ dX12_best_74 ?_
            rintro _ _ D43 ⟨v39, rfl, rfl, E⟩
            obtain ⟨K46, hK47, EE⟩ := JN_use E (fun K46 : Int64 → Dy → Prop => ∀ (w44 : Int64) (D45 : Dy), K46 w44 D45 → ZM l G p e s m args below meth c 11 9 S (PI S post) S D45 90 [(0, .ref (G.1 + 33)), (1, .int a1), (2, .int a2), (3, .int a3), (4, .int v25), (5, .int v27), (6, .long w28), (8, .int v29)] [.long w44]) (by
              intro w44 D45 E
              refine z_lstore (lv' := [(9, .long w44), (0, .ref (G.1 + 33)), (1, .int a1), (2, .int a2), (3, .int a3), (4, .int v25), (5, .int v27), (6, .long w28), (8, .int v29)]) hC dX12_best_90 (Nat.le_of_ble_eq_true rfl) rfl ?_
              refine z_lload hC dX12_best_92 0 rfl ?_
              refine z_lload hC dX12_best_94 7 rfl ?_
              refine z_lcmp hC dX12_best_96 ?_
              obtain ⟨K50, hK51, EE⟩ := JN_use E (fun K50 : Int32 → Int64 → Prop => ∀ (v48 : Int32) (w49 : Int64), K50 v48 w49 → ZM l G p e s m args below meth c 11 9 S (PI S post) S D45 111 [(0, .ref (G.1 + 33)), (1, .int a1), (2, .int a2), (3, .int a3), (4, .int v25), (5, .int v48), (6, .long w49), (8, .int v29)] []) (by
                intro v48 w49 E
                obtain ⟨v52, h53⟩ : ∃ y : Int32, y = v29 + 1 := ⟨_, rfl⟩
                replace E := E v52 h53
                refine z_iinc (q := 7) (v := v52) (lv' := [(8, .int v52), (0, .ref (G.1 + 33)), (1, .int a1), (2, .int a2), (3, .int a3), (4, .int v25), (5, .int v48), (6, .long w49)]) hC dX12_best_111 rfl (by rw [h53]; rfl) (Nat.le_of_ble_eq_true rfl) rfl ?_
                refine z_goto (tgt := 57) hC dX12_best_114 (by decide) ?_
                refine z_sub [1, 2, 3, 4, 5, 6, 7, 0] rfl ?_
                exact hrec32 v48 w49 v52 D45 E)
              replace E := EE
              clear EE
              refine z_if_gt (tgt := 103) hC dX12_best_97 (by decide) (fun c54 => ?_) (fun c54 => ?_)
              · replace E := E.1 c54
                refine z_lload hC dX12_best_103 0 rfl ?_
                refine z_lstore (lv' := [(6, .long w44), (9, .long w44), (0, .ref (G.1 + 33)), (1, .int a1), (2, .int a2), (3, .int a3), (4, .int v25), (5, .int v27), (8, .int v29)]) hC dX12_best_105 (Nat.le_of_ble_eq_true rfl) rfl ?_
                refine z_iload hC dX12_best_107 8 rfl ?_
                refine z_istore (lv' := [(5, .int v29), (6, .long w44), (9, .long w44), (0, .ref (G.1 + 33)), (1, .int a1), (2, .int a2), (3, .int a3), (4, .int v25), (8, .int v29)]) hC dX12_best_109 (Nat.le_of_ble_eq_true rfl) rfl ?_
                refine z_sub [3, 4, 5, 6, 7, 0, 1, 8] rfl ?_
                exact hK51 v29 w44 E
              · replace E := E.2 c54
                refine z_goto (tgt := 111) hC dX12_best_100 (by decide) ?_
                refine z_sub [1, 2, 3, 4, 5, 6, 7, 8] rfl ?_
                exact hK51 v27 w28 E)
            replace E := EE
            clear EE
            refine z_if_eq (tgt := 89) hC dX12_best_77 (by decide) (fun c55 => ?_) (fun c55 => ?_)
            · replace E := E.1 c55
              refine z_lconst (v := 0) hC dX12_best_89 rfl ?_
              exact hK47 (0 : Int64) D43 E
            · replace E := E.2 c55
              refine z_aload_n hC dX12_best_80 rfl 0 rfl ?_
              refine z_iload_n hC dX12_best_81 rfl 1 rfl ?_
              refine z_iload_n hC dX12_best_82 rfl 3 rfl ?_
              refine z_callV (ci := 12) (rest := []) hC (ck_mk lk_X12_335 in_X12_coinOf cd_X12_coinOf ds_X12_coinOf (Nat.le_of_ble_eq_true rfl) (Nat.le_of_ble_eq_true rfl)) iy_X12_coinOf sy_X12_coinOf cf_12 (by decide) (kM_33 hF) (ct_X12_coinOf hF E) rfl rfl (Nat.le_of_ble_eq_true rfl) ⟨Nat.le_refl _, Nat.le_refl _⟩ dX12_best_83 ?_
              rintro _ _ D61 ⟨w58, rfl, rfl, E⟩
              refine z_goto (tgt := 90) hC dX12_best_86 (by decide) ?_
              exact hK47 w58 D61 E
        · replace E := E.2 c24
          refine z_bipush (v := -2) hC dX12_best_35 rfl ?_
          exact z_iret hC dX12_best_37 (Nat.le_refl _) (Nat.le_refl _) ⟨_, rfl, rfl, E⟩
    · replace E := E.2 c12
      refine z_iconst (v := -1) hC dX12_best_16 rfl ?_
      exact z_iret hC dX12_best_17 (Nat.le_refl _) (Nat.le_refl _) ⟨_, rfl, rfl, E⟩
def fX12_choice (a1 : Int32) (a2 : Int32) (a3 : Int32) (D : Dy) (post : Int32 → Dy → Prop) : Prop :=
  (fX12_isTaker a1 D (fun (v2 : Int32) => ((¬ v2 = 0 → (fX12_isSet a2 D (fun (v8 : Int32) => ((v8 = 0 → post (-2 : Int32) D) ∧ (¬ v8 = 0 → ((a2 = 0 → post (-2 : Int32) D) ∧ (¬ a2 = 0 → (JN (((¬ (D.1 33 2) = (80 : Int32) → (vp_in (D.1 33 2) 80 ∧ (∀ D17 : Dy, D17 = sI D 38 ((D.1 33 2)).toNatClampNeg a1 → (vp_in (D17.1 33 2) 80 ∧ (∀ D19 : Dy, D19 = sI D17 39 ((D17.1 33 2)).toNatClampNeg a2 → (vp_in (D19.1 33 2) 80 ∧ (∀ D21 : Dy, D21 = sI D19 40 ((D19.1 33 2)).toNatClampNeg a3 → (vp_in (D21.1 33 2) 80 ∧ (∀ D23 : Dy, D23 = sI D21 41 ((D21.1 33 2)).toNatClampNeg (0 : Int32) → (vp_in a1 16 ∧ (∀ D25 : Dy, D25 = sI D23 58 (a1).toNatClampNeg (0 : Int32) → (∀ D27 : Dy, D27 = sI D25 33 2 ((D25.1 33 2) + (1 : Int32)) → post ((D27.1 33 2) - (1 : Int32)) D27)))))))))))) ∧ ((D.1 33 2) = (80 : Int32) → post (-4 : Int32) D))) (fun K14 : Prop => ((a3 = (-1 : Int32) → K14) ∧ (¬ a3 = (-1 : Int32) → (fX12_isThing a3 D (fun (v31 : Int32) => ((v31 = 0 → post (-2 : Int32) D) ∧ (¬ v31 = 0 → (fX12_has a2 a3 (fun (v37 : Int32) => ((¬ v37 = 0 → K14) ∧ (v37 = 0 → post (-2 : Int32) D))))))))))))))))))) ∧ (v2 = 0 → post (-1 : Int32) D))))
set_option maxHeartbeats 4000000 in
set_option maxRecDepth 100000 in
theorem ct_X12_choice {l : Launch} {G : Gl} {S : Sh} {D : Dy} (hF : FM S) {a1 : Int32} {a2 : Int32} {a3 : Int32} {post : Int32 → Dy → Prop} (E : fX12_choice a1 a2 a3 D post) : Ct l G yX12_choice cX12_choice 4 (some .int) 2 0 0 S D [.ref (G.1 + 33), .int a1, .int a2, .int a3] (PI S post) := by
  refine z_enter (lv0 := [(0, .ref (G.1 + 33)), (1, .int a1), (2, .int a2), (3, .int a3)]) pl_12 (Nat.le_of_ble_eq_true rfl) rfl ?_
  intro p e s m args below meth c hC hnm
  unfold fX12_choice at E
  refine z_aload_n hC dX12_choice_0 rfl 0 rfl ?_
  refine z_iload_n hC dX12_choice_1 rfl 1 rfl ?_
  refine z_callV (ci := 12) (rest := []) hC (ck_mk lk_X12_186 in_X12_isTaker cd_X12_isTaker ds_X12_isTaker (Nat.le_of_ble_eq_true rfl) (Nat.le_of_ble_eq_true rfl)) iy_X12_isTaker sy_X12_isTaker cf_12 (by decide) (kM_33 hF) (ct_X12_isTaker hF E) rfl rfl (Nat.le_of_ble_eq_true rfl) ⟨Nat.le_refl _, Nat.le_refl _⟩ dX12_choice_2 ?_
  rintro _ _ _ ⟨v2, rfl, rfl, rfl, E⟩
  refine z_if_ne (tgt := 10) hC dX12_choice_5 (by decide) (fun c6 => ?_) (fun c6 => ?_)
  · replace E := E.1 c6
    refine z_aload_n hC dX12_choice_10 rfl 0 rfl ?_
    refine z_iload_n hC dX12_choice_11 rfl 2 rfl ?_
    refine z_callV (ci := 12) (rest := []) hC (ck_mk lk_X12_189 in_X12_isSet cd_X12_isSet ds_X12_isSet (Nat.le_of_ble_eq_true rfl) (Nat.le_of_ble_eq_true rfl)) iy_X12_isSet sy_X12_isSet cf_12 (by decide) (kM_33 hF) (ct_X12_isSet hF E) rfl rfl (Nat.le_of_ble_eq_true rfl) ⟨Nat.le_refl _, Nat.le_refl _⟩ dX12_choice_12 ?_
    rintro _ _ _ ⟨v8, rfl, rfl, rfl, E⟩
    refine z_if_eq (tgt := 44) hC dX12_choice_15 (by decide) (fun c12 => ?_) (fun c12 => ?_)
    · replace E := E.1 c12
      refine z_bipush (v := -2) hC dX12_choice_44 rfl ?_
      exact z_iret hC dX12_choice_46 (Nat.le_refl _) (Nat.le_refl _) ⟨_, rfl, rfl, E⟩
    · replace E := E.2 c12
      refine z_iload_n hC dX12_choice_18 rfl 2 rfl ?_
      refine z_if_eq (tgt := 44) hC dX12_choice_19 (by decide) (fun c13 => ?_) (fun c13 => ?_)
      · replace E := E.1 c13
        refine z_bipush (v := -2) hC dX12_choice_44 rfl ?_
        exact z_iret hC dX12_choice_46 (Nat.le_refl _) (Nat.le_refl _) ⟨_, rfl, rfl, E⟩
      · replace E := E.2 c13
        refine z_iload_n hC dX12_choice_22 rfl 3 rfl ?_
        refine z_iconst (v := -1) hC dX12_choice_23 rfl ?_
        obtain ⟨K14, hK15, EE⟩ := JN_use E (fun K14 : Prop => K14 → ZM l G p e s m args below meth c 4 2 S (PI S post) S D 47 [(0, .ref (G.1 + 33)), (1, .int a1), (2, .int a2), (3, .int a3)] []) (by
          intro E
          refine z_aload_n hC dX12_choice_47 rfl 0 rfl ?_
          refine z_get hC lf_X12_16_12 (kM_33 hF) dX12_choice_48 (fV_int rfl) ?_
          refine z_bipush (v := 80) hC dX12_choice_51 rfl ?_
          refine z_icmp_ne (tgt := 59) hC dX12_choice_53 (by decide) (fun c16 => ?_) (fun c16 => ?_)
          · replace E := E.1 c16
            refine z_aload_n hC dX12_choice_59 rfl 0 rfl ?_
            refine z_get hC lf_X12_35_12 (kM_33 hF) dX12_choice_60 (fV_ref rfl (rM_33_8 hF)) ?_
            refine z_aload_n hC dX12_choice_63 rfl 0 rfl ?_
            refine z_get hC lf_X12_16_12 (kM_33 hF) dX12_choice_64 (fV_int rfl) ?_
            refine z_iload_n hC dX12_choice_67 rfl 1 rfl ?_
            refine z_iast hC (kM_38 hF) (nM_38 hF) E.1 dX12_choice_68 ?_
            replace E := E.2
            refine z_topD (fun D17 h18 => ?_)
            replace E := E D17 h18
            refine z_aload_n hC dX12_choice_69 rfl 0 rfl ?_
            refine z_get hC lf_X12_38_12 (kM_33 hF) dX12_choice_70 (fV_ref rfl (rM_33_9 hF)) ?_
            refine z_aload_n hC dX12_choice_73 rfl 0 rfl ?_
            refine z_get hC lf_X12_16_12 (kM_33 hF) dX12_choice_74 (fV_int rfl) ?_
            refine z_iload_n hC dX12_choice_77 rfl 2 rfl ?_
            refine z_iast hC (kM_39 hF) (nM_39 hF) E.1 dX12_choice_78 ?_
            replace E := E.2
            refine z_topD (fun D19 h20 => ?_)
            replace E := E D19 h20
            refine z_aload_n hC dX12_choice_79 rfl 0 rfl ?_
            refine z_get hC lf_X12_41_12 (kM_33 hF) dX12_choice_80 (fV_ref rfl (rM_33_10 hF)) ?_
            refine z_aload_n hC dX12_choice_83 rfl 0 rfl ?_
            refine z_get hC lf_X12_16_12 (kM_33 hF) dX12_choice_84 (fV_int rfl) ?_
            refine z_iload_n hC dX12_choice_87 rfl 3 rfl ?_
            refine z_iast hC (kM_40 hF) (nM_40 hF) E.1 dX12_choice_88 ?_
            replace E := E.2
            refine z_topD (fun D21 h22 => ?_)
            replace E := E D21 h22
            refine z_aload_n hC dX12_choice_89 rfl 0 rfl ?_
            refine z_get hC lf_X12_44_12 (kM_33 hF) dX12_choice_90 (fV_ref rfl (rM_33_11 hF)) ?_
            refine z_aload_n hC dX12_choice_93 rfl 0 rfl ?_
            refine z_get hC lf_X12_16_12 (kM_33 hF) dX12_choice_94 (fV_int rfl) ?_
            refine z_iconst (v := 0) hC dX12_choice_97 rfl ?_
            refine z_iast hC (kM_41 hF) (nM_41 hF) E.1 dX12_choice_98 ?_
            replace E := E.2
            refine z_topD (fun D23 h24 => ?_)
            replace E := E D23 h24
            refine z_aload_n hC dX12_choice_99 rfl 0 rfl ?_
            refine z_get hC lf_X12_150_12 (kM_33 hF) dX12_choice_100 (fV_ref rfl (rM_33_45 hF)) ?_
            refine z_iload_n hC dX12_choice_103 rfl 1 rfl ?_
            refine z_iconst (v := 0) hC dX12_choice_104 rfl ?_
            refine z_zast hC (kM_58 hF) (nM_58 hF) (Or.inl rfl) E.1 dX12_choice_105 ?_
            replace E := E.2
            refine z_topD (fun D25 h26 => ?_)
            replace E := E D25 h26
            refine z_aload_n hC dX12_choice_106 rfl 0 rfl ?_
            refine z_dup hC dX12_choice_107 rfl ?_
            refine z_get hC lf_X12_16_12 (kM_33 hF) dX12_choice_108 (fV_int rfl) ?_
            refine z_iconst (v := 1) hC dX12_choice_111 rfl ?_
            refine z_iadd hC dX12_choice_112 ?_
            refine z_puti hC lf_X12_16_12 rfl (kM_33 hF) dX12_choice_113 ?_
            refine z_topD (fun D27 h28 => ?_)
            replace E := E D27 h28
            refine z_aload_n hC dX12_choice_116 rfl 0 rfl ?_
            refine z_get hC lf_X12_16_12 (kM_33 hF) dX12_choice_117 (fV_int rfl) ?_
            refine z_iconst (v := 1) hC dX12_choice_120 rfl ?_
            refine z_isub hC dX12_choice_121 ?_
            exact z_iret hC dX12_choice_122 (Nat.le_refl _) (Nat.le_refl _) ⟨_, rfl, rfl, E⟩
          · replace E := E.2 c16
            refine z_bipush (v := -4) hC dX12_choice_56 rfl ?_
            exact z_iret hC dX12_choice_58 (Nat.le_refl _) (Nat.le_refl _) ⟨_, rfl, rfl, E⟩)
        replace E := EE
        clear EE
        refine z_icmp_eq (tgt := 47) hC dX12_choice_24 (by decide) (fun c29 => ?_) (fun c29 => ?_)
        · replace E := E.1 c29
          exact hK15  E
        · replace E := E.2 c29
          refine z_aload_n hC dX12_choice_27 rfl 0 rfl ?_
          refine z_iload_n hC dX12_choice_28 rfl 3 rfl ?_
          refine z_callV (ci := 12) (rest := []) hC (ck_mk lk_X12_182 in_X12_isThing cd_X12_isThing ds_X12_isThing (Nat.le_of_ble_eq_true rfl) (Nat.le_of_ble_eq_true rfl)) iy_X12_isThing sy_X12_isThing cf_12 (by decide) (kM_33 hF) (ct_X12_isThing hF E) rfl rfl (Nat.le_of_ble_eq_true rfl) ⟨Nat.le_refl _, Nat.le_refl _⟩ dX12_choice_29 ?_
          rintro _ _ _ ⟨v31, rfl, rfl, rfl, E⟩
          refine z_if_eq (tgt := 44) hC dX12_choice_32 (by decide) (fun c35 => ?_) (fun c35 => ?_)
          · replace E := E.1 c35
            refine z_bipush (v := -2) hC dX12_choice_44 rfl ?_
            exact z_iret hC dX12_choice_46 (Nat.le_refl _) (Nat.le_refl _) ⟨_, rfl, rfl, E⟩
          · replace E := E.2 c35
            refine z_aload_n hC dX12_choice_35 rfl 0 rfl ?_
            refine z_iload_n hC dX12_choice_36 rfl 2 rfl ?_
            refine z_iload_n hC dX12_choice_37 rfl 3 rfl ?_
            refine z_callV (ci := 12) (rest := []) hC (ck_mk lk_X12_192 in_X12_has cd_X12_has ds_X12_has (Nat.le_of_ble_eq_true rfl) (Nat.le_of_ble_eq_true rfl)) iy_X12_has sy_X12_has cf_12 (by decide) (kM_33 hF) (ct_X12_has hF E) rfl rfl (Nat.le_of_ble_eq_true rfl) ⟨Nat.le_refl _, Nat.le_refl _⟩ dX12_choice_38 ?_
            rintro _ _ _ ⟨v37, rfl, rfl, rfl, E⟩
            refine z_if_ne (tgt := 47) hC dX12_choice_41 (by decide) (fun c41 => ?_) (fun c41 => ?_)
            · replace E := E.1 c41
              exact hK15  E
            · replace E := E.2 c41
              refine z_bipush (v := -2) hC dX12_choice_44 rfl ?_
              exact z_iret hC dX12_choice_46 (Nat.le_refl _) (Nat.le_refl _) ⟨_, rfl, rfl, E⟩
  · replace E := E.2 c6
    refine z_iconst (v := -1) hC dX12_choice_8 rfl ?_
    exact z_iret hC dX12_choice_9 (Nat.le_refl _) (Nat.le_refl _) ⟨_, rfl, rfl, E⟩
def fX12_coin (a1 : Int32) (a2 : Int32) (D : Dy) (post : Int64 → Dy → Prop) : Prop :=
  (fX12_isModel a1 D (fun (v2 : Int32) => (JN (fun (D6 : Dy) => post (-9223372036854775808 : Int64) D6) (fun K7 : Dy → Prop => ((v2 = 0 → (K7 D)) ∧ (¬ v2 = 0 → (fX12_isSet a2 D (fun (v11 : Int32) => ((v11 = 0 → (K7 D)) ∧ (¬ v11 = 0 → (fX12_listen a1 D (fun (v17 : Int32) (D21 : Dy) => ((¬ v17 = 0 → (fX12_coinOf a1 a2 D21 (fun (w25 : Int64) (D28 : Dy) => post w25 D28))) ∧ (v17 = 0 → (K7 D21)))))))))))))))
set_option maxHeartbeats 4000000 in
set_option maxRecDepth 100000 in
theorem ct_X12_coin {l : Launch} {G : Gl} {S : Sh} {D : Dy} (hF : FM S) {a1 : Int32} {a2 : Int32} {post : Int64 → Dy → Prop} (E : fX12_coin a1 a2 D post) : Ct l G yX12_coin cX12_coin 3 (some .long) 9 0 0 S D [.ref (G.1 + 33), .int a1, .int a2] (PL S post) := by
  refine z_enter (lv0 := [(0, .ref (G.1 + 33)), (1, .int a1), (2, .int a2)]) pl_12 (Nat.le_of_ble_eq_true rfl) rfl ?_
  intro p e s m args below meth c hC hnm
  unfold fX12_coin at E
  refine z_aload_n hC dX12_coin_0 rfl 0 rfl ?_
  refine z_iload_n hC dX12_coin_1 rfl 1 rfl ?_
  refine z_callV (ci := 12) (rest := []) hC (ck_mk lk_X12_258 in_X12_isModel cd_X12_isModel ds_X12_isModel (Nat.le_of_ble_eq_true rfl) (Nat.le_of_ble_eq_true rfl)) iy_X12_isModel sy_X12_isModel cf_12 (by decide) (kM_33 hF) (ct_X12_isModel hF E) rfl rfl (Nat.le_of_ble_eq_true rfl) ⟨Nat.le_refl _, Nat.le_refl _⟩ dX12_coin_2 ?_
  rintro _ _ _ ⟨v2, rfl, rfl, rfl, E⟩
  obtain ⟨K7, hK8, EE⟩ := JN_use E (fun K7 : Dy → Prop => ∀ (D6 : Dy), K7 D6 → ZM l G p e s m args below meth c 3 9 S (PL S post) S D6 24 [] []) (by
    intro D6 E
    refine z_ldc2 hC kl_X12_296 dX12_coin_24 ?_
    refine z_goto (tgt := 36) hC dX12_coin_27 (by decide) ?_
    exact z_lret hC dX12_coin_36 (Nat.le_refl _) (Nat.le_refl _) ⟨_, rfl, rfl, E⟩)
  replace E := EE
  clear EE
  refine z_if_eq (tgt := 24) hC dX12_coin_5 (by decide) (fun c9 => ?_) (fun c9 => ?_)
  · replace E := E.1 c9
    refine z_sub [] rfl ?_
    exact hK8 D E
  · replace E := E.2 c9
    refine z_aload_n hC dX12_coin_8 rfl 0 rfl ?_
    refine z_iload_n hC dX12_coin_9 rfl 2 rfl ?_
    refine z_callV (ci := 12) (rest := []) hC (ck_mk lk_X12_189 in_X12_isSet cd_X12_isSet ds_X12_isSet (Nat.le_of_ble_eq_true rfl) (Nat.le_of_ble_eq_true rfl)) iy_X12_isSet sy_X12_isSet cf_12 (by decide) (kM_33 hF) (ct_X12_isSet hF E) rfl rfl (Nat.le_of_ble_eq_true rfl) ⟨Nat.le_refl _, Nat.le_refl _⟩ dX12_coin_10 ?_
    rintro _ _ _ ⟨v11, rfl, rfl, rfl, E⟩
    refine z_if_eq (tgt := 24) hC dX12_coin_13 (by decide) (fun c15 => ?_) (fun c15 => ?_)
    · replace E := E.1 c15
      refine z_sub [] rfl ?_
      exact hK8 D E
    · replace E := E.2 c15
      refine z_aload_n hC dX12_coin_16 rfl 0 rfl ?_
      refine z_iload_n hC dX12_coin_17 rfl 1 rfl ?_
      refine z_callV (ci := 12) (rest := []) hC (ck_mk lk_X12_261 in_X12_listen cd_X12_listen ds_X12_listen (Nat.le_of_ble_eq_true rfl) (Nat.le_of_ble_eq_true rfl)) iy_X12_listen sy_X12_listen cf_12 (by decide) (kM_33 hF) (ct_X12_listen hF E) rfl rfl (Nat.le_of_ble_eq_true rfl) ⟨Nat.le_refl _, Nat.le_refl _⟩ dX12_coin_18 ?_
      rintro _ _ D21 ⟨v17, rfl, rfl, E⟩
      refine z_if_ne (tgt := 30) hC dX12_coin_21 (by decide) (fun c22 => ?_) (fun c22 => ?_)
      · replace E := E.1 c22
        refine z_aload_n hC dX12_coin_30 rfl 0 rfl ?_
        refine z_iload_n hC dX12_coin_31 rfl 1 rfl ?_
        refine z_iload_n hC dX12_coin_32 rfl 2 rfl ?_
        refine z_callV (ci := 12) (rest := []) hC (ck_mk lk_X12_335 in_X12_coinOf cd_X12_coinOf ds_X12_coinOf (Nat.le_of_ble_eq_true rfl) (Nat.le_of_ble_eq_true rfl)) iy_X12_coinOf sy_X12_coinOf cf_12 (by decide) (kM_33 hF) (ct_X12_coinOf hF E) rfl rfl (Nat.le_of_ble_eq_true rfl) ⟨Nat.le_refl _, Nat.le_refl _⟩ dX12_coin_33 ?_
        rintro _ _ D28 ⟨w25, rfl, rfl, E⟩
        exact z_lret hC dX12_coin_36 (Nat.le_refl _) (Nat.le_refl _) ⟨_, rfl, rfl, E⟩
      · replace E := E.2 c22
        refine z_sub [] rfl ?_
        exact hK8 D21 E
def fX12_isChoice (a1 : Int32) (D : Dy) (post : Int32 → Prop) : Prop :=
  (fX12_in a1 (0 : Int32) ((D.1 33 2) - (1 : Int32)) (fun (v2 : Int32) => ((v2 = 0 ∨ v2 = 1) ∧ post v2)))
set_option maxHeartbeats 4000000 in
set_option maxRecDepth 100000 in
theorem ct_X12_isChoice {l : Launch} {G : Gl} {S : Sh} {D : Dy} (hF : FM S) {a1 : Int32} {post : Int32 → Prop} (E : fX12_isChoice a1 D post) : Ct l G yX12_isChoice cX12_isChoice 2 (some .boolean) 1 0 0 S D [.ref (G.1 + 33), .int a1] (PIr S D post) := by
  refine z_enter (lv0 := [(0, .ref (G.1 + 33)), (1, .int a1)]) pl_12 (Nat.le_of_ble_eq_true rfl) rfl ?_
  intro p e s m args below meth c hC hnm
  unfold fX12_isChoice at E
  refine z_aload_n hC dX12_isChoice_0 rfl 0 rfl ?_
  refine z_iload_n hC dX12_isChoice_1 rfl 1 rfl ?_
  refine z_iconst (v := 0) hC dX12_isChoice_2 rfl ?_
  refine z_aload_n hC dX12_isChoice_3 rfl 0 rfl ?_
  refine z_get hC lf_X12_16_12 (kM_33 hF) dX12_isChoice_4 (fV_int rfl) ?_
  refine z_iconst (v := 1) hC dX12_isChoice_7 rfl ?_
  refine z_isub hC dX12_isChoice_8 ?_
  refine z_callV (ci := 12) (rest := []) hC (ck_mk lk_X12_178 in_X12_in cd_X12_in ds_X12_in (Nat.le_of_ble_eq_true rfl) (Nat.le_of_ble_eq_true rfl)) iy_X12_in sy_X12_in cf_12 (by decide) (kM_33 hF) (ct_X12_in hF E) rfl rfl (Nat.le_of_ble_eq_true rfl) ⟨Nat.le_refl _, Nat.le_refl _⟩ dX12_isChoice_9 ?_
  rintro _ _ _ ⟨v2, rfl, rfl, rfl, E⟩
  exact z_zret hC dX12_isChoice_12 E.1 (Nat.le_refl _) (Nat.le_refl _) ⟨_, rfl, rfl, rfl, E.2⟩
def fX12_could (a1 : Int32) (D : Dy) (post : Int32 → Prop) : Prop :=
  (fX12_isChoice a1 D (fun (v2 : Int32) => ((¬ v2 = 0 → (LP2 (fun (rec9 : Int32 → Int32 → Prop) (v7 : Int32) (v8 : Int32) => (((D.1 33 3) ≤ v8 → post v7) ∧ (¬ (D.1 33 3) ≤ v8 → (vp_in a1 80 ∧ (vp_in v8 10 ∧ (JN (fun (v12 : Int32) => (∀ v15 : Int32, v15 = (v7 + v12) → (∀ v17 : Int32, v17 = v8 + 1 → (rec9 v15 v17)))) (fun K13 : Int32 → Prop => ((¬ ((D.1 39 (a1).toNatClampNeg) &&& ((D.1 42 (v8).toNatClampNeg) ^^^ (-1 : Int32))) = 0 → (K13 (0 : Int32))) ∧ (((D.1 39 (a1).toNatClampNeg) &&& ((D.1 42 (v8).toNatClampNeg) ^^^ (-1 : Int32))) = 0 → (K13 (1 : Int32))))))))))) FU (0 : Int32) (0 : Int32))) ∧ (v2 = 0 → post (-1 : Int32)))))
set_option maxHeartbeats 4000000 in
set_option maxRecDepth 100000 in
theorem ct_X12_could {l : Launch} {G : Gl} {S : Sh} {D : Dy} (hF : FM S) {a1 : Int32} {post : Int32 → Prop} (E : fX12_could a1 D post) : Ct l G yX12_could cX12_could 4 (some .int) 2 0 0 S D [.ref (G.1 + 33), .int a1] (PIr S D post) := by
  refine z_enter (lv0 := [(0, .ref (G.1 + 33)), (1, .int a1)]) pl_12 (Nat.le_of_ble_eq_true rfl) rfl ?_
  intro p e s m args below meth c hC hnm
  unfold fX12_could at E
  refine z_aload_n hC dX12_could_0 rfl 0 rfl ?_
  refine z_iload_n hC dX12_could_1 rfl 1 rfl ?_
  refine z_callV (ci := 12) (rest := []) hC (ck_mk lk_X12_196 in_X12_isChoice cd_X12_isChoice ds_X12_isChoice (Nat.le_of_ble_eq_true rfl) (Nat.le_of_ble_eq_true rfl)) iy_X12_isChoice sy_X12_isChoice cf_12 (by decide) (kM_33 hF) (ct_X12_isChoice hF E) rfl rfl (Nat.le_of_ble_eq_true rfl) ⟨Nat.le_refl _, Nat.le_refl _⟩ dX12_could_2 ?_
  rintro _ _ _ ⟨v2, rfl, rfl, rfl, E⟩
  refine z_if_ne (tgt := 10) hC dX12_could_5 (by decide) (fun c6 => ?_) (fun c6 => ?_)
  · replace E := E.1 c6
    refine z_iconst (v := 0) hC dX12_could_10 rfl ?_
    refine z_istore_n (lv' := [(2, .int (0 : Int32)), (0, .ref (G.1 + 33)), (1, .int a1)]) hC dX12_could_11 rfl (Nat.le_of_ble_eq_true rfl) rfl ?_
    refine z_iconst (v := 0) hC dX12_could_12 rfl ?_
    refine z_istore_n (lv' := [(3, .int (0 : Int32)), (2, .int (0 : Int32)), (0, .ref (G.1 + 33)), (1, .int a1)]) hC dX12_could_13 rfl (Nat.le_of_ble_eq_true rfl) rfl ?_
    refine z_sub [2, 3, 1, 0] rfl ?_
    refine LP2_use (fun (v7 : Int32) (v8 : Int32) => ZM l G p e s m args below meth c 4 2 S (PIr S D post) S D 14 [(0, .ref (G.1 + 33)), (1, .int a1), (2, .int v7), (3, .int v8)] []) ?_ FU (0 : Int32) (0 : Int32) E
    intro rec9 hrec10 v7 v8 E
    refine z_iload_n hC dX12_could_14 rfl 3 rfl ?_
    refine z_aload_n hC dX12_could_15 rfl 0 rfl ?_
    refine z_get hC lf_X12_19_12 (kM_33 hF) dX12_could_16 (fV_int rfl) ?_
    refine z_icmp_ge (tgt := 54) hC dX12_could_19 (by decide) (fun c11 => ?_) (fun c11 => ?_)
    · replace E := E.1 c11
      refine z_iload_n hC dX12_could_54 rfl 2 rfl ?_
      exact z_iret hC dX12_could_55 (Nat.le_refl _) (Nat.le_refl _) ⟨_, rfl, rfl, rfl, E⟩
    · replace E := E.2 c11
      refine z_iload_n hC dX12_could_22 rfl 2 rfl ?_
      refine z_aload_n hC dX12_could_23 rfl 0 rfl ?_
      refine z_get hC lf_X12_38_12 (kM_33 hF) dX12_could_24 (fV_ref rfl (rM_33_9 hF)) ?_
      refine z_iload_n hC dX12_could_27 rfl 1 rfl ?_
      refine z_iald hC (kM_39 hF) (nM_39 hF) E.1 dX12_could_28 ?_
      replace E := E.2
      refine z_aload_n hC dX12_could_29 rfl 0 rfl ?_
      refine z_get hC lf_X12_47_12 (kM_33 hF) dX12_could_30 (fV_ref rfl (rM_33_12 hF)) ?_
      refine z_iload_n hC dX12_could_33 rfl 3 rfl ?_
      refine z_iald hC (kM_42 hF) (nM_42 hF) E.1 dX12_could_34 ?_
      replace E := E.2
      refine z_iconst (v := -1) hC dX12_could_35 rfl ?_
      refine z_ixor hC dX12_could_36 ?_
      refine z_iand hC dX12_could_37 ?_
      obtain ⟨K13, hK14, EE⟩ := JN_use E (fun K13 : Int32 → Prop => ∀ (v12 : Int32), K13 v12 → ZM l G p e s m args below meth c 4 2 S (PIr S D post) S D 46 [(0, .ref (G.1 + 33)), (1, .int a1), (3, .int v8)] [.int v12, .int v7]) (by
        intro v12 E
        refine z_iadd hC dX12_could_46 ?_
        refine z_topi (fun v15 h16 => ?_)
        replace E := E v15 h16
        refine z_istore_n (lv' := [(2, .int v15), (0, .ref (G.1 + 33)), (1, .int a1), (3, .int v8)]) hC dX12_could_47 rfl (Nat.le_of_ble_eq_true rfl) rfl ?_
        obtain ⟨v17, h18⟩ : ∃ y : Int32, y = v8 + 1 := ⟨_, rfl⟩
        replace E := E v17 h18
        refine z_iinc (q := 3) (v := v17) (lv' := [(3, .int v17), (2, .int v15), (0, .ref (G.1 + 33)), (1, .int a1)]) hC dX12_could_48 rfl (by rw [h18]; rfl) (Nat.le_of_ble_eq_true rfl) rfl ?_
        refine z_goto (tgt := 14) hC dX12_could_51 (by decide) ?_
        refine z_sub [2, 3, 1, 0] rfl ?_
        exact hrec10 v15 v17 E)
      replace E := EE
      clear EE
      refine z_if_ne (tgt := 45) hC dX12_could_38 (by decide) (fun c19 => ?_) (fun c19 => ?_)
      · replace E := E.1 c19
        refine z_iconst (v := 0) hC dX12_could_45 rfl ?_
        refine z_sub [0, 1, 3] rfl ?_
        exact hK14 (0 : Int32) E
      · replace E := E.2 c19
        refine z_iconst (v := 1) hC dX12_could_41 rfl ?_
        refine z_goto (tgt := 46) hC dX12_could_42 (by decide) ?_
        refine z_sub [0, 1, 3] rfl ?_
        exact hK14 (1 : Int32) E
  · replace E := E.2 c6
    refine z_iconst (v := -1) hC dX12_could_8 rfl ?_
    exact z_iret hC dX12_could_9 (Nat.le_refl _) (Nat.le_refl _) ⟨_, rfl, rfl, rfl, E⟩
def fX12_count (a1 : Int32) (D : Dy) (post : Int32 → Prop) : Prop :=
  ((a1 = (0 : Int32) → post (D.1 33 0)) ∧ (¬ a1 = (0 : Int32) → ((a1 = (1 : Int32) → post (D.1 33 1)) ∧ (¬ a1 = (1 : Int32) → ((a1 = (2 : Int32) → post (D.1 33 2)) ∧ (¬ a1 = (2 : Int32) → ((a1 = (3 : Int32) → post (D.1 33 13)) ∧ (¬ a1 = (3 : Int32) → ((a1 = (4 : Int32) → post (D.1 33 14)) ∧ (¬ a1 = (4 : Int32) → ((a1 = (5 : Int32) → post (D.1 33 3)) ∧ (¬ a1 = (5 : Int32) → ((a1 = (6 : Int32) → (fX12_orders D (fun (v8 : Int32) => post v8))) ∧ (¬ a1 = (6 : Int32) → ((a1 = (7 : Int32) → post (D.1 33 48)) ∧ (¬ a1 = (7 : Int32) → post (-2 : Int32)))))))))))))))))
set_option maxHeartbeats 4000000 in
set_option maxRecDepth 100000 in
theorem ct_X12_count {l : Launch} {G : Gl} {S : Sh} {D : Dy} (hF : FM S) {a1 : Int32} {post : Int32 → Prop} (E : fX12_count a1 D post) : Ct l G yX12_count cX12_count 2 (some .int) 1 0 0 S D [.ref (G.1 + 33), .int a1] (PIr S D post) := by
  refine z_enter (lv0 := [(0, .ref (G.1 + 33)), (1, .int a1)]) pl_12 (Nat.le_of_ble_eq_true rfl) rfl ?_
  intro p e s m args below meth c hC hnm
  unfold fX12_count at E
  refine z_iload_n hC dX12_count_0 rfl 1 rfl ?_
  by_cases c1 : a1 = (0 : Int32)
  · replace E := E.1 c1
    refine z_tableIn (tgt := 48) (off := 47) hC dX12_count_1 c1 (by decide) (by decide) ?_
    refine z_aload_n hC dX12_count_48 rfl 0 rfl ?_
    refine z_get hC lf_X12_7_12 (kM_33 hF) dX12_count_49 (fV_int rfl) ?_
    exact z_iret hC dX12_count_52 (Nat.le_refl _) (Nat.le_refl _) ⟨_, rfl, rfl, rfl, E⟩
  replace E := E.2 c1
  by_cases c2 : a1 = (1 : Int32)
  · replace E := E.1 c2
    refine z_tableIn (tgt := 53) (off := 52) hC dX12_count_1 c2 (by decide) (by decide) ?_
    refine z_aload_n hC dX12_count_53 rfl 0 rfl ?_
    refine z_get hC lf_X12_13_12 (kM_33 hF) dX12_count_54 (fV_int rfl) ?_
    exact z_iret hC dX12_count_57 (Nat.le_refl _) (Nat.le_refl _) ⟨_, rfl, rfl, rfl, E⟩
  replace E := E.2 c2
  by_cases c3 : a1 = (2 : Int32)
  · replace E := E.1 c3
    refine z_tableIn (tgt := 58) (off := 57) hC dX12_count_1 c3 (by decide) (by decide) ?_
    refine z_aload_n hC dX12_count_58 rfl 0 rfl ?_
    refine z_get hC lf_X12_16_12 (kM_33 hF) dX12_count_59 (fV_int rfl) ?_
    exact z_iret hC dX12_count_62 (Nat.le_refl _) (Nat.le_refl _) ⟨_, rfl, rfl, rfl, E⟩
  replace E := E.2 c3
  by_cases c4 : a1 = (3 : Int32)
  · replace E := E.1 c4
    refine z_tableIn (tgt := 63) (off := 62) hC dX12_count_1 c4 (by decide) (by decide) ?_
    refine z_aload_n hC dX12_count_63 rfl 0 rfl ?_
    refine z_get hC lf_X12_50_12 (kM_33 hF) dX12_count_64 (fV_int rfl) ?_
    exact z_iret hC dX12_count_67 (Nat.le_refl _) (Nat.le_refl _) ⟨_, rfl, rfl, rfl, E⟩
  replace E := E.2 c4
  by_cases c5 : a1 = (4 : Int32)
  · replace E := E.1 c5
    refine z_tableIn (tgt := 68) (off := 67) hC dX12_count_1 c5 (by decide) (by decide) ?_
    refine z_aload_n hC dX12_count_68 rfl 0 rfl ?_
    refine z_get hC lf_X12_53_12 (kM_33 hF) dX12_count_69 (fV_int rfl) ?_
    exact z_iret hC dX12_count_72 (Nat.le_refl _) (Nat.le_refl _) ⟨_, rfl, rfl, rfl, E⟩
  replace E := E.2 c5
  by_cases c6 : a1 = (5 : Int32)
  · replace E := E.1 c6
    refine z_tableIn (tgt := 73) (off := 72) hC dX12_count_1 c6 (by decide) (by decide) ?_
    refine z_aload_n hC dX12_count_73 rfl 0 rfl ?_
    refine z_get hC lf_X12_19_12 (kM_33 hF) dX12_count_74 (fV_int rfl) ?_
    exact z_iret hC dX12_count_77 (Nat.le_refl _) (Nat.le_refl _) ⟨_, rfl, rfl, rfl, E⟩
  replace E := E.2 c6
  by_cases c7 : a1 = (6 : Int32)
  · replace E := E.1 c7
    refine z_tableIn (tgt := 78) (off := 77) hC dX12_count_1 c7 (by decide) (by decide) ?_
    refine z_aload_n hC dX12_count_78 rfl 0 rfl ?_
    refine z_callV (ci := 12) (rest := []) hC (ck_mk lk_X12_314 in_X12_orders cd_X12_orders ds_X12_orders (Nat.le_of_ble_eq_true rfl) (Nat.le_of_ble_eq_true rfl)) iy_X12_orders sy_X12_orders cf_12 (by decide) (kM_33 hF) (ct_X12_orders hF E) rfl rfl (Nat.le_of_ble_eq_true rfl) ⟨Nat.le_refl _, Nat.le_refl _⟩ dX12_count_79 ?_
    rintro _ _ _ ⟨v8, rfl, rfl, rfl, E⟩
    exact z_iret hC dX12_count_82 (Nat.le_refl _) (Nat.le_refl _) ⟨_, rfl, rfl, rfl, E⟩
  replace E := E.2 c7
  by_cases c13 : a1 = (7 : Int32)
  · replace E := E.1 c13
    refine z_tableIn (tgt := 83) (off := 82) hC dX12_count_1 c13 (by decide) (by decide) ?_
    refine z_aload_n hC dX12_count_83 rfl 0 rfl ?_
    refine z_get hC lf_X12_159_12 (kM_33 hF) dX12_count_84 (fV_int rfl) ?_
    exact z_iret hC dX12_count_87 (Nat.le_refl _) (Nat.le_refl _) ⟨_, rfl, rfl, rfl, E⟩
  replace E := E.2 c13
  refine z_tableOut (tgt := 88) hC dX12_count_1 (by have zc1 := sw_ne c1 (show (0 : Int32).toInt = 0 by decide); have zc2 := sw_ne c2 (show (1 : Int32).toInt = 1 by decide); have zc3 := sw_ne c3 (show (2 : Int32).toInt = 2 by decide); have zc4 := sw_ne c4 (show (3 : Int32).toInt = 3 by decide); have zc5 := sw_ne c5 (show (4 : Int32).toInt = 4 by decide); have zc6 := sw_ne c6 (show (5 : Int32).toInt = 5 by decide); have zc7 := sw_ne c7 (show (6 : Int32).toInt = 6 by decide); have zc13 := sw_ne c13 (show (7 : Int32).toInt = 7 by decide); omega) (by decide) ?_
  refine z_bipush (v := -2) hC dX12_count_88 rfl ?_
  exact z_iret hC dX12_count_90 (Nat.le_refl _) (Nat.le_refl _) ⟨_, rfl, rfl, rfl, E⟩
def fX12_divisor (a1 : Int64) (a2 : Int64) (post : Int64 → Prop) : Prop :=
  (LP2 (fun (rec3 : Int64 → Int64 → Prop) (w1 : Int64) (w2 : Int64) => (((lg_cmp w2 (0 : Int64)) = 0 → post w1) ∧ (¬ (lg_cmp w2 (0 : Int64)) = 0 → (¬ w2 = 0 ∧ (∀ w6 : Int64, w6 = (w1 - w1 / w2 * w2) → (rec3 w2 w6)))))) FU a1 a2)
set_option maxHeartbeats 4000000 in
set_option maxRecDepth 100000 in
theorem ct_X12_divisor {l : Launch} {G : Gl} {S : Sh} {D : Dy} (hF : FM S) {a1 : Int64} {a2 : Int64} {post : Int64 → Prop} (E : fX12_divisor a1 a2 post) : Ct l G yX12_divisor cX12_divisor 11 (some .long) 0 0 0 S D [.ref (G.1 + 33), .long a1, .long a2] (PLr S D post) := by
  refine z_enter (lv0 := [(0, .ref (G.1 + 33)), (1, .long a1), (3, .long a2)]) pl_12 (Nat.le_of_ble_eq_true rfl) rfl ?_
  intro p e s m args below meth c hC hnm
  unfold fX12_divisor at E
  refine z_lload_n hC dX12_divisor_0 rfl 1 rfl ?_
  refine z_lstore (lv' := [(5, .long a1), (0, .ref (G.1 + 33)), (1, .long a1), (3, .long a2)]) hC dX12_divisor_1 (Nat.le_of_ble_eq_true rfl) rfl ?_
  refine z_lload_n hC dX12_divisor_3 rfl 3 rfl ?_
  refine z_lstore (lv' := [(7, .long a2), (5, .long a1), (0, .ref (G.1 + 33)), (1, .long a1), (3, .long a2)]) hC dX12_divisor_4 (Nat.le_of_ble_eq_true rfl) rfl ?_
  refine z_sub [1, 0] rfl ?_
  refine LP2_use (fun (w1 : Int64) (w2 : Int64) => ZM l G p e s m args below meth c 11 0 S (PLr S D post) S D 6 [(5, .long w1), (7, .long w2)] []) ?_ FU a1 a2 E
  intro rec3 hrec4 w1 w2 E
  refine z_lload hC dX12_divisor_6 1 rfl ?_
  refine z_lconst (v := 0) hC dX12_divisor_8 rfl ?_
  refine z_lcmp hC dX12_divisor_9 ?_
  refine z_if_eq (tgt := 31) hC dX12_divisor_10 (by decide) (fun c5 => ?_) (fun c5 => ?_)
  · replace E := E.1 c5
    refine z_lload hC dX12_divisor_31 0 rfl ?_
    exact z_lret hC dX12_divisor_33 (Nat.le_refl _) (Nat.le_refl _) ⟨_, rfl, rfl, rfl, E⟩
  · replace E := E.2 c5
    refine z_lload hC dX12_divisor_13 0 rfl ?_
    refine z_lload hC dX12_divisor_15 1 rfl ?_
    have q0 := E.1
    replace E := E.2
    refine z_lrem hC dX12_divisor_17 q0 ?_
    refine z_topl (fun w6 h7 => ?_)
    replace E := E w6 h7
    refine z_lstore (lv' := [(9, .long w6), (5, .long w1), (7, .long w2)]) hC dX12_divisor_18 (Nat.le_of_ble_eq_true rfl) rfl ?_
    refine z_lload hC dX12_divisor_20 2 rfl ?_
    refine z_lstore (lv' := [(5, .long w2), (9, .long w6), (7, .long w2)]) hC dX12_divisor_22 (Nat.le_of_ble_eq_true rfl) rfl ?_
    refine z_lload hC dX12_divisor_24 1 rfl ?_
    refine z_lstore (lv' := [(7, .long w6), (5, .long w2), (9, .long w6)]) hC dX12_divisor_26 (Nat.le_of_ble_eq_true rfl) rfl ?_
    refine z_goto (tgt := 6) hC dX12_divisor_28 (by decide) ?_
    refine z_sub [1, 0] rfl ?_
    exact hrec4 w2 w6 E
def fX12_feed (a1 : Int32) (a2 : Int32) (D : Dy) (post : Int32 → Dy → Prop) : Prop :=
  (fX12_in a2 (0 : Int32) (4 : Int32) (fun (v2 : Int32) => ((¬ v2 = 0 → ((((D.1 33 14) + a2) ≤ (120 : Int32) → (∀ v8 : Int32, v8 = (a2 - (1 : Int32)) → (LP2 (fun (rec12 : Int32 → Dy → Prop) (v10 : Int32) (D11 : Dy) => ((v10 < 0 → post (D11.1 33 14) D11) ∧ (¬ v10 < 0 → (vp_in ((1200 : Int32) + (D11.1 33 14)) 1320 ∧ (∀ D15 : Dy, D15 = sI D11 44 (((1200 : Int32) + (D11.1 33 14))).toNatClampNeg (((a1 >>> (((8 : Int32) * v10) &&& 31))).toInt8).toInt32 → (∀ D17 : Dy, D17 = sI D15 33 14 ((D15.1 33 14) + (1 : Int32)) → (∀ v19 : Int32, v19 = v10 + (-1) → (rec12 v19 D17)))))))) FU v8 D))) ∧ (¬ ((D.1 33 14) + a2) ≤ (120 : Int32) → post (-4 : Int32) D))) ∧ (v2 = 0 → post (-2 : Int32) D))))
set_option maxHeartbeats 4000000 in
set_option maxRecDepth 100000 in
theorem ct_X12_feed {l : Launch} {G : Gl} {S : Sh} {D : Dy} (hF : FM S) {a1 : Int32} {a2 : Int32} {post : Int32 → Dy → Prop} (E : fX12_feed a1 a2 D post) : Ct l G yX12_feed cX12_feed 4 (some .int) 1 0 0 S D [.ref (G.1 + 33), .int a1, .int a2] (PI S post) := by
  refine z_enter (lv0 := [(0, .ref (G.1 + 33)), (1, .int a1), (2, .int a2)]) pl_12 (Nat.le_of_ble_eq_true rfl) rfl ?_
  intro p e s m args below meth c hC hnm
  unfold fX12_feed at E
  refine z_aload_n hC dX12_feed_0 rfl 0 rfl ?_
  refine z_iload_n hC dX12_feed_1 rfl 2 rfl ?_
  refine z_iconst (v := 0) hC dX12_feed_2 rfl ?_
  refine z_iconst (v := 4) hC dX12_feed_3 rfl ?_
  refine z_callV (ci := 12) (rest := []) hC (ck_mk lk_X12_178 in_X12_in cd_X12_in ds_X12_in (Nat.le_of_ble_eq_true rfl) (Nat.le_of_ble_eq_true rfl)) iy_X12_in sy_X12_in cf_12 (by decide) (kM_33 hF) (ct_X12_in hF E) rfl rfl (Nat.le_of_ble_eq_true rfl) ⟨Nat.le_refl _, Nat.le_refl _⟩ dX12_feed_4 ?_
  rintro _ _ _ ⟨v2, rfl, rfl, rfl, E⟩
  refine z_if_ne (tgt := 13) hC dX12_feed_7 (by decide) (fun c6 => ?_) (fun c6 => ?_)
  · replace E := E.1 c6
    refine z_aload_n hC dX12_feed_13 rfl 0 rfl ?_
    refine z_get hC lf_X12_53_12 (kM_33 hF) dX12_feed_14 (fV_int rfl) ?_
    refine z_iload_n hC dX12_feed_17 rfl 2 rfl ?_
    refine z_iadd hC dX12_feed_18 ?_
    refine z_bipush (v := 120) hC dX12_feed_19 rfl ?_
    refine z_icmp_le (tgt := 27) hC dX12_feed_21 (by decide) (fun c7 => ?_) (fun c7 => ?_)
    · replace E := E.1 c7
      refine z_iload_n hC dX12_feed_27 rfl 2 rfl ?_
      refine z_iconst (v := 1) hC dX12_feed_28 rfl ?_
      refine z_isub hC dX12_feed_29 ?_
      refine z_topi (fun v8 h9 => ?_)
      replace E := E v8 h9
      refine z_istore_n (lv' := [(3, .int v8), (0, .ref (G.1 + 33)), (1, .int a1), (2, .int a2)]) hC dX12_feed_30 rfl (Nat.le_of_ble_eq_true rfl) rfl ?_
      refine z_sub [1, 2, 0] rfl ?_
      refine LP2_use (fun (v10 : Int32) (D11 : Dy) => ZM l G p e s m args below meth c 4 1 S (PI S post) S D11 31 [(0, .ref (G.1 + 33)), (1, .int a1), (3, .int v10)] []) ?_ FU v8 D E
      intro rec12 hrec13 v10 D11 E
      refine z_iload_n hC dX12_feed_31 rfl 2 rfl ?_
      refine z_if_lt (tgt := 71) hC dX12_feed_32 (by decide) (fun c14 => ?_) (fun c14 => ?_)
      · replace E := E.1 c14
        refine z_aload_n hC dX12_feed_71 rfl 0 rfl ?_
        refine z_get hC lf_X12_53_12 (kM_33 hF) dX12_feed_72 (fV_int rfl) ?_
        exact z_iret hC dX12_feed_75 (Nat.le_refl _) (Nat.le_refl _) ⟨_, rfl, rfl, E⟩
      · replace E := E.2 c14
        refine z_aload_n hC dX12_feed_35 rfl 0 rfl ?_
        refine z_get hC lf_X12_59_12 (kM_33 hF) dX12_feed_36 (fV_ref rfl (rM_33_16 hF)) ?_
        refine z_sipush (v := 1200) hC dX12_feed_39 rfl ?_
        refine z_aload_n hC dX12_feed_42 rfl 0 rfl ?_
        refine z_get hC lf_X12_53_12 (kM_33 hF) dX12_feed_43 (fV_int rfl) ?_
        refine z_iadd hC dX12_feed_46 ?_
        refine z_iload_n hC dX12_feed_47 rfl 1 rfl ?_
        refine z_bipush (v := 8) hC dX12_feed_48 rfl ?_
        refine z_iload_n hC dX12_feed_50 rfl 2 rfl ?_
        refine z_imul hC dX12_feed_51 ?_
        refine z_ishr hC dX12_feed_52 ?_
        refine z_i2b hC dX12_feed_53 ?_
        refine z_iast hC (kM_44 hF) (nM_44 hF) E.1 dX12_feed_54 ?_
        replace E := E.2
        refine z_topD (fun D15 h16 => ?_)
        replace E := E D15 h16
        refine z_aload_n hC dX12_feed_55 rfl 0 rfl ?_
        refine z_dup hC dX12_feed_56 rfl ?_
        refine z_get hC lf_X12_53_12 (kM_33 hF) dX12_feed_57 (fV_int rfl) ?_
        refine z_iconst (v := 1) hC dX12_feed_60 rfl ?_
        refine z_iadd hC dX12_feed_61 ?_
        refine z_puti hC lf_X12_53_12 rfl (kM_33 hF) dX12_feed_62 ?_
        refine z_topD (fun D17 h18 => ?_)
        replace E := E D17 h18
        obtain ⟨v19, h20⟩ : ∃ y : Int32, y = v10 + (-1) := ⟨_, rfl⟩
        replace E := E v19 h20
        refine z_iinc (q := 2) (v := v19) (lv' := [(3, .int v19), (0, .ref (G.1 + 33)), (1, .int a1)]) hC dX12_feed_65 rfl (by rw [h20]; rfl) (Nat.le_of_ble_eq_true rfl) rfl ?_
        refine z_goto (tgt := 31) hC dX12_feed_68 (by decide) ?_
        refine z_sub [1, 2, 0] rfl ?_
        exact hrec13 v19 D17 E
    · replace E := E.2 c7
      refine z_bipush (v := -4) hC dX12_feed_24 rfl ?_
      exact z_iret hC dX12_feed_26 (Nat.le_refl _) (Nat.le_refl _) ⟨_, rfl, rfl, E⟩
  · replace E := E.2 c6
    refine z_bipush (v := -2) hC dX12_feed_10 rfl ?_
    exact z_iret hC dX12_feed_12 (Nat.le_refl _) (Nat.le_refl _) ⟨_, rfl, rfl, E⟩
def fX12_greatestIn (a1 : Int32) (a2 : Int32) (D : Dy) (post : Int32 → Prop) : Prop :=
  (LP2 (fun (rec3 : Int32 → Int32 → Prop) (v1 : Int32) (v2 : Int32) => (((D.1 33 0) ≤ v2 → post v1) ∧ (¬ (D.1 33 0) ≤ v2 → (fX12_has a1 v2 (fun (v7 : Int32) => (JN (fun (v11 : Int32) => (∀ v14 : Int32, v14 = v2 + 1 → (rec3 v11 v14))) (fun K12 : Int32 → Prop => ((v7 = 0 → (K12 v1)) ∧ (¬ v7 = 0 → (fX12_weightOf v2 a2 D (fun (v17 : Int32) => ((v17 ≤ v1 → (K12 v1)) ∧ (¬ v17 ≤ v1 → (fX12_weightOf v2 a2 D (fun (v23 : Int32) => (K12 v23)))))))))))))))) FU (0 : Int32) (0 : Int32))
set_option maxHeartbeats 4000000 in
set_option maxRecDepth 100000 in
theorem ct_X12_greatestIn {l : Launch} {G : Gl} {S : Sh} {D : Dy} (hF : FM S) {a1 : Int32} {a2 : Int32} {post : Int32 → Prop} (E : fX12_greatestIn a1 a2 D post) : Ct l G yX12_greatestIn cX12_greatestIn 5 (some .int) 2 0 0 S D [.ref (G.1 + 33), .int a1, .int a2] (PIr S D post) := by
  refine z_enter (lv0 := [(0, .ref (G.1 + 33)), (1, .int a1), (2, .int a2)]) pl_12 (Nat.le_of_ble_eq_true rfl) rfl ?_
  intro p e s m args below meth c hC hnm
  unfold fX12_greatestIn at E
  refine z_iconst (v := 0) hC dX12_greatestIn_0 rfl ?_
  refine z_istore_n (lv' := [(3, .int (0 : Int32)), (0, .ref (G.1 + 33)), (1, .int a1), (2, .int a2)]) hC dX12_greatestIn_1 rfl (Nat.le_of_ble_eq_true rfl) rfl ?_
  refine z_iconst (v := 0) hC dX12_greatestIn_2 rfl ?_
  refine z_istore (lv' := [(4, .int (0 : Int32)), (3, .int (0 : Int32)), (0, .ref (G.1 + 33)), (1, .int a1), (2, .int a2)]) hC dX12_greatestIn_3 (Nat.le_of_ble_eq_true rfl) rfl ?_
  refine z_sub [2, 3, 4, 1, 0] rfl ?_
  refine LP2_use (fun (v1 : Int32) (v2 : Int32) => ZM l G p e s m args below meth c 5 2 S (PIr S D post) S D 5 [(0, .ref (G.1 + 33)), (1, .int a1), (2, .int a2), (3, .int v1), (4, .int v2)] []) ?_ FU (0 : Int32) (0 : Int32) E
  intro rec3 hrec4 v1 v2 E
  refine z_iload hC dX12_greatestIn_5 4 rfl ?_
  refine z_aload_n hC dX12_greatestIn_7 rfl 0 rfl ?_
  refine z_get hC lf_X12_7_12 (kM_33 hF) dX12_greatestIn_8 (fV_int rfl) ?_
  refine z_icmp_ge (tgt := 49) hC dX12_greatestIn_11 (by decide) (fun c5 => ?_) (fun c5 => ?_)
  · replace E := E.1 c5
    refine z_iload_n hC dX12_greatestIn_49 rfl 3 rfl ?_
    exact z_iret hC dX12_greatestIn_50 (Nat.le_refl _) (Nat.le_refl _) ⟨_, rfl, rfl, rfl, E⟩
  · replace E := E.2 c5
    refine z_aload_n hC dX12_greatestIn_14 rfl 0 rfl ?_
    refine z_iload_n hC dX12_greatestIn_15 rfl 1 rfl ?_
    refine z_iload hC dX12_greatestIn_16 4 rfl ?_
    refine z_callV (ci := 12) (rest := []) hC (ck_mk lk_X12_192 in_X12_has cd_X12_has ds_X12_has (Nat.le_of_ble_eq_true rfl) (Nat.le_of_ble_eq_true rfl)) iy_X12_has sy_X12_has cf_12 (by decide) (kM_33 hF) (ct_X12_has hF E) rfl rfl (Nat.le_of_ble_eq_true rfl) ⟨Nat.le_refl _, Nat.le_refl _⟩ dX12_greatestIn_18 ?_
    rintro _ _ _ ⟨v7, rfl, rfl, rfl, E⟩
    obtain ⟨K12, hK13, EE⟩ := JN_use E (fun K12 : Int32 → Prop => ∀ (v11 : Int32), K12 v11 → ZM l G p e s m args below meth c 5 2 S (PIr S D post) S D 43 [(0, .ref (G.1 + 33)), (1, .int a1), (2, .int a2), (3, .int v11), (4, .int v2)] []) (by
      intro v11 E
      obtain ⟨v14, h15⟩ : ∃ y : Int32, y = v2 + 1 := ⟨_, rfl⟩
      replace E := E v14 h15
      refine z_iinc (q := 4) (v := v14) (lv' := [(4, .int v14), (0, .ref (G.1 + 33)), (1, .int a1), (2, .int a2), (3, .int v11)]) hC dX12_greatestIn_43 rfl (by rw [h15]; rfl) (Nat.le_of_ble_eq_true rfl) rfl ?_
      refine z_goto (tgt := 5) hC dX12_greatestIn_46 (by decide) ?_
      refine z_sub [1, 2, 3, 4, 0] rfl ?_
      exact hrec4 v11 v14 E)
    replace E := EE
    clear EE
    refine z_if_eq (tgt := 43) hC dX12_greatestIn_21 (by decide) (fun c16 => ?_) (fun c16 => ?_)
    · replace E := E.1 c16
      exact hK13 v1 E
    · replace E := E.2 c16
      refine z_aload_n hC dX12_greatestIn_24 rfl 0 rfl ?_
      refine z_iload hC dX12_greatestIn_25 4 rfl ?_
      refine z_iload_n hC dX12_greatestIn_27 rfl 2 rfl ?_
      refine z_callV (ci := 12) (rest := []) hC (ck_mk lk_X12_264 in_X12_weightOf cd_X12_weightOf ds_X12_weightOf (Nat.le_of_ble_eq_true rfl) (Nat.le_of_ble_eq_true rfl)) iy_X12_weightOf sy_X12_weightOf cf_12 (by decide) (kM_33 hF) (ct_X12_weightOf hF E) rfl rfl (Nat.le_of_ble_eq_true rfl) ⟨Nat.le_refl _, Nat.le_refl _⟩ dX12_greatestIn_28 ?_
      rintro _ _ _ ⟨v17, rfl, rfl, rfl, E⟩
      refine z_iload_n hC dX12_greatestIn_31 rfl 3 rfl ?_
      refine z_icmp_le (tgt := 43) hC dX12_greatestIn_32 (by decide) (fun c22 => ?_) (fun c22 => ?_)
      · replace E := E.1 c22
        exact hK13 v1 E
      · replace E := E.2 c22
        refine z_aload_n hC dX12_greatestIn_35 rfl 0 rfl ?_
        refine z_iload hC dX12_greatestIn_36 4 rfl ?_
        refine z_iload_n hC dX12_greatestIn_38 rfl 2 rfl ?_
        refine z_callV (ci := 12) (rest := []) hC (ck_mk lk_X12_264 in_X12_weightOf cd_X12_weightOf ds_X12_weightOf (Nat.le_of_ble_eq_true rfl) (Nat.le_of_ble_eq_true rfl)) iy_X12_weightOf sy_X12_weightOf cf_12 (by decide) (kM_33 hF) (ct_X12_weightOf hF E) rfl rfl (Nat.le_of_ble_eq_true rfl) ⟨Nat.le_refl _, Nat.le_refl _⟩ dX12_greatestIn_39 ?_
        rintro _ _ _ ⟨v23, rfl, rfl, rfl, E⟩
        refine z_istore_n (lv' := [(3, .int v23), (0, .ref (G.1 + 33)), (1, .int a1), (2, .int a2), (4, .int v2)]) hC dX12_greatestIn_42 rfl (Nat.le_of_ble_eq_true rfl) rfl ?_
        refine z_sub [1, 2, 3, 0, 4] rfl ?_
        exact hK13 v23 E
def fX12_scoreOf (a1 : Int32) (a2 : Int32) (D : Dy) (post : Int32 → Dy → Prop) : Prop :=
  (LP3 (fun (rec4 : Int64 → Int32 → Dy → Prop) (w1 : Int64) (v2 : Int32) (D3 : Dy) => (((D3.1 33 2) ≤ v2 → post (w1).toInt32 D3) ∧ (¬ (D3.1 33 2) ≤ v2 → (vp_in v2 80 ∧ (JN (fun (w7 : Int64) (D8 : Dy) => (∀ v11 : Int32, v11 = v2 + 1 → (rec4 w7 v11 D8))) (fun K9 : Int64 → Dy → Prop => (((D3.1 41 (v2).toNatClampNeg) = a2 → (vp_in v2 80 ∧ (JN (fun (v14 : Int32) => (vp_in v2 80 ∧ (vp_in v2 80 ∧ (vp_in (D3.1 38 (v2).toNatClampNeg) 16 ∧ (fX12_findOdds a1 v14 (D3.1 39 (v2).toNatClampNeg) (D3.1 37 ((D3.1 38 (v2).toNatClampNeg)).toNatClampNeg) D3 (fun (D22 : Dy) => (¬ (D22.2 33 40) = 0 ∧ (∀ w23 : Int64, w23 = (w1 + (((1000 : Int64) * (D22.2 33 39)) / (D22.2 33 40))) → (K9 w23 D22))))))))) (fun K15 : Int32 → Prop => ((0 ≤ (D3.1 40 (v2).toNatClampNeg) → (vp_in v2 80 ∧ (K15 (D3.1 40 (v2).toNatClampNeg)))) ∧ (¬ 0 ≤ (D3.1 40 (v2).toNatClampNeg) → (K15 (7 : Int32)))))))) ∧ (¬ (D3.1 41 (v2).toNatClampNeg) = a2 → (K9 w1 D3))))))))) FU (0 : Int64) (0 : Int32) D)
set_option maxHeartbeats 4000000 in
set_option maxRecDepth 100000 in
theorem ct_X12_scoreOf {l : Launch} {G : Gl} {S : Sh} {D : Dy} (hF : FM S) {a1 : Int32} {a2 : Int32} {post : Int32 → Dy → Prop} (E : fX12_scoreOf a1 a2 D post) : Ct l G yX12_scoreOf cX12_scoreOf 6 (some .int) 5 0 0 S D [.ref (G.1 + 33), .int a1, .int a2] (PI S post) := by
  refine z_enter (lv0 := [(0, .ref (G.1 + 33)), (1, .int a1), (2, .int a2)]) pl_12 (Nat.le_of_ble_eq_true rfl) rfl ?_
  intro p e s m args below meth c hC hnm
  unfold fX12_scoreOf at E
  refine z_lconst (v := 0) hC dX12_scoreOf_0 rfl ?_
  refine z_lstore_n (lv' := [(3, .long (0 : Int64)), (0, .ref (G.1 + 33)), (1, .int a1), (2, .int a2)]) hC dX12_scoreOf_1 rfl (Nat.le_of_ble_eq_true rfl) rfl ?_
  refine z_iconst (v := 0) hC dX12_scoreOf_2 rfl ?_
  refine z_istore (lv' := [(5, .int (0 : Int32)), (3, .long (0 : Int64)), (0, .ref (G.1 + 33)), (1, .int a1), (2, .int a2)]) hC dX12_scoreOf_3 (Nat.le_of_ble_eq_true rfl) rfl ?_
  refine z_sub [2, 3, 4, 1, 0] rfl ?_
  refine LP3_use (fun (w1 : Int64) (v2 : Int32) (D3 : Dy) => ZM l G p e s m args below meth c 6 5 S (PI S post) S D3 5 [(0, .ref (G.1 + 33)), (1, .int a1), (2, .int a2), (3, .long w1), (5, .int v2)] []) ?_ FU (0 : Int64) (0 : Int32) D E
  intro rec4 hrec5 w1 v2 D3 E
  refine z_iload hC dX12_scoreOf_5 4 rfl ?_
  refine z_aload_n hC dX12_scoreOf_7 rfl 0 rfl ?_
  refine z_get hC lf_X12_16_12 (kM_33 hF) dX12_scoreOf_8 (fV_int rfl) ?_
  refine z_icmp_ge (tgt := 96) hC dX12_scoreOf_11 (by decide) (fun c6 => ?_) (fun c6 => ?_)
  · replace E := E.1 c6
    refine z_lload_n hC dX12_scoreOf_96 rfl 3 rfl ?_
    refine z_l2i hC dX12_scoreOf_97 ?_
    exact z_iret hC dX12_scoreOf_98 (Nat.le_refl _) (Nat.le_refl _) ⟨_, rfl, rfl, E⟩
  · replace E := E.2 c6
    refine z_aload_n hC dX12_scoreOf_14 rfl 0 rfl ?_
    refine z_get hC lf_X12_44_12 (kM_33 hF) dX12_scoreOf_15 (fV_ref rfl (rM_33_11 hF)) ?_
    refine z_iload hC dX12_scoreOf_18 4 rfl ?_
    refine z_iald hC (kM_41 hF) (nM_41 hF) E.1 dX12_scoreOf_20 ?_
    replace E := E.2
    refine z_iload_n hC dX12_scoreOf_21 rfl 2 rfl ?_
    obtain ⟨K9, hK10, EE⟩ := JN_use E (fun K9 : Int64 → Dy → Prop => ∀ (w7 : Int64) (D8 : Dy), K9 w7 D8 → ZM l G p e s m args below meth c 6 5 S (PI S post) S D8 90 [(0, .ref (G.1 + 33)), (1, .int a1), (2, .int a2), (3, .long w7), (5, .int v2)] []) (by
      intro w7 D8 E
      obtain ⟨v11, h12⟩ : ∃ y : Int32, y = v2 + 1 := ⟨_, rfl⟩
      replace E := E v11 h12
      refine z_iinc (q := 4) (v := v11) (lv' := [(5, .int v11), (0, .ref (G.1 + 33)), (1, .int a1), (2, .int a2), (3, .long w7)]) hC dX12_scoreOf_90 rfl (by rw [h12]; rfl) (Nat.le_of_ble_eq_true rfl) rfl ?_
      refine z_goto (tgt := 5) hC dX12_scoreOf_93 (by decide) ?_
      refine z_sub [1, 2, 3, 4, 0] rfl ?_
      exact hrec5 w7 v11 D8 E)
    replace E := EE
    clear EE
    refine z_icmp_eq (tgt := 28) hC dX12_scoreOf_22 (by decide) (fun c13 => ?_) (fun c13 => ?_)
    · replace E := E.1 c13
      refine z_aload_n hC dX12_scoreOf_28 rfl 0 rfl ?_
      refine z_iload_n hC dX12_scoreOf_29 rfl 1 rfl ?_
      refine z_aload_n hC dX12_scoreOf_30 rfl 0 rfl ?_
      refine z_get hC lf_X12_41_12 (kM_33 hF) dX12_scoreOf_31 (fV_ref rfl (rM_33_10 hF)) ?_
      refine z_iload hC dX12_scoreOf_34 4 rfl ?_
      refine z_iald hC (kM_40 hF) (nM_40 hF) E.1 dX12_scoreOf_36 ?_
      replace E := E.2
      obtain ⟨K15, hK16, EE⟩ := JN_use E (fun K15 : Int32 → Prop => ∀ (v14 : Int32), K15 v14 → ZM l G p e s m args below meth c 6 5 S (PI S post) S D3 52 [(0, .ref (G.1 + 33)), (1, .int a1), (2, .int a2), (3, .long w1), (5, .int v2)] [.int v14, .int a1, .ref (G.1 + 33)]) (by
        intro v14 E
        refine z_aload_n hC dX12_scoreOf_52 rfl 0 rfl ?_
        refine z_get hC lf_X12_38_12 (kM_33 hF) dX12_scoreOf_53 (fV_ref rfl (rM_33_9 hF)) ?_
        refine z_iload hC dX12_scoreOf_56 4 rfl ?_
        refine z_iald hC (kM_39 hF) (nM_39 hF) E.1 dX12_scoreOf_58 ?_
        replace E := E.2
        refine z_aload_n hC dX12_scoreOf_59 rfl 0 rfl ?_
        refine z_get hC lf_X12_32_12 (kM_33 hF) dX12_scoreOf_60 (fV_ref rfl (rM_33_7 hF)) ?_
        refine z_aload_n hC dX12_scoreOf_63 rfl 0 rfl ?_
        refine z_get hC lf_X12_35_12 (kM_33 hF) dX12_scoreOf_64 (fV_ref rfl (rM_33_8 hF)) ?_
        refine z_iload hC dX12_scoreOf_67 4 rfl ?_
        refine z_iald hC (kM_38 hF) (nM_38 hF) E.1 dX12_scoreOf_69 ?_
        replace E := E.2
        refine z_iald hC (kM_37 hF) (nM_37 hF) E.1 dX12_scoreOf_70 ?_
        replace E := E.2
        refine z_callV (ci := 12) (rest := []) hC (ck_mk lk_X12_298 in_X12_findOdds cd_X12_findOdds ds_X12_findOdds (Nat.le_of_ble_eq_true rfl) (Nat.le_of_ble_eq_true rfl)) iy_X12_findOdds sy_X12_findOdds cf_12 (by decide) (kM_33 hF) (ct_X12_findOdds hF E) rfl rfl (Nat.le_of_ble_eq_true rfl) ⟨Nat.le_refl _, Nat.le_refl _⟩ dX12_scoreOf_71 ?_
        rintro _ _ D22 ⟨rfl, rfl, E⟩
        refine z_lload_n hC dX12_scoreOf_74 rfl 3 rfl ?_
        refine z_ldc2 hC kl_X12_306 dX12_scoreOf_75 ?_
        refine z_aload_n hC dX12_scoreOf_78 rfl 0 rfl ?_
        refine z_get hC lf_X12_129_12 (kM_33 hF) dX12_scoreOf_79 (fV_long rfl) ?_
        refine z_lmul hC dX12_scoreOf_82 ?_
        refine z_aload_n hC dX12_scoreOf_83 rfl 0 rfl ?_
        refine z_get hC lf_X12_133_12 (kM_33 hF) dX12_scoreOf_84 (fV_long rfl) ?_
        have q0 := E.1
        replace E := E.2
        refine z_ldiv hC dX12_scoreOf_87 q0 ?_
        refine z_ladd hC dX12_scoreOf_88 ?_
        refine z_topl (fun w23 h24 => ?_)
        replace E := E w23 h24
        refine z_lstore_n (lv' := [(3, .long w23), (0, .ref (G.1 + 33)), (1, .int a1), (2, .int a2), (5, .int v2)]) hC dX12_scoreOf_89 rfl (Nat.le_of_ble_eq_true rfl) rfl ?_
        refine z_sub [1, 2, 3, 0, 4] rfl ?_
        exact hK10 w23 D22 E)
      replace E := EE
      clear EE
      refine z_if_ge (tgt := 45) hC dX12_scoreOf_37 (by decide) (fun c25 => ?_) (fun c25 => ?_)
      · replace E := E.1 c25
        refine z_aload_n hC dX12_scoreOf_45 rfl 0 rfl ?_
        refine z_get hC lf_X12_41_12 (kM_33 hF) dX12_scoreOf_46 (fV_ref rfl (rM_33_10 hF)) ?_
        refine z_iload hC dX12_scoreOf_49 4 rfl ?_
        refine z_iald hC (kM_40 hF) (nM_40 hF) E.1 dX12_scoreOf_51 ?_
        replace E := E.2
        exact hK16 (D3.1 40 (v2).toNatClampNeg) E
      · replace E := E.2 c25
        refine z_bipush (v := 7) hC dX12_scoreOf_40 rfl ?_
        refine z_goto (tgt := 52) hC dX12_scoreOf_42 (by decide) ?_
        exact hK16 (7 : Int32) E
    · replace E := E.2 c13
      refine z_goto (tgt := 90) hC dX12_scoreOf_25 (by decide) ?_
      exact hK10 w1 D3 E
def fX12_grid (a1 : Int32) (a2 : Int32) (D : Dy) (post : Int32 → Dy → Prop) : Prop :=
  (fX12_isModel a1 D (fun (v2 : Int32) => ((v2 = 0 → post (-1 : Int32) D) ∧ (¬ v2 = 0 → (fX12_isThing a2 D (fun (v8 : Int32) => ((v8 = 0 → post (-1 : Int32) D) ∧ (¬ v8 = 0 → (fX12_listen a1 D (fun (v14 : Int32) (D18 : Dy) => ((¬ v14 = 0 → (LP4 (fun (rec24 : Int32 → Int32 → Int32 → Dy → Prop) (v20 : Int32) (v21 : Int32) (v22 : Int32) (D23 : Dy) => (((30 : Int32) < v22 → post v20 D23) ∧ (¬ (30 : Int32) < v22 → (vp_in a2 6 ∧ (∀ D27 : Dy, D27 = sI D23 47 (a2).toNatClampNeg v22 → (fX12_scoreOf a1 (0 : Int32) D27 (fun (v29 : Int32) (D34 : Dy) => (JN (fun (v35 : Int32) (v36 : Int32) => (∀ v39 : Int32, v39 = v22 + 1 → (rec24 v35 v36 v39 D34))) (fun K37 : Int32 → Int32 → Prop => ((v21 < v29 → (K37 v22 v29)) ∧ (¬ v21 < v29 → (K37 v20 v21)))))))))))) FU (0 : Int32) (-1 : Int32) (1 : Int32) D18)) ∧ (v14 = 0 → post (-1 : Int32) D18))))))))))))
set_option maxHeartbeats 4000000 in
set_option maxRecDepth 100000 in
theorem ct_X12_grid {l : Launch} {G : Gl} {S : Sh} {D : Dy} (hF : FM S) {a1 : Int32} {a2 : Int32} {post : Int32 → Dy → Prop} (E : fX12_grid a1 a2 D post) : Ct l G yX12_grid cX12_grid 7 (some .int) 9 0 0 S D [.ref (G.1 + 33), .int a1, .int a2] (PI S post) := by
  refine z_enter (lv0 := [(0, .ref (G.1 + 33)), (1, .int a1), (2, .int a2)]) pl_12 (Nat.le_of_ble_eq_true rfl) rfl ?_
  intro p e s m args below meth c hC hnm
  unfold fX12_grid at E
  refine z_aload_n hC dX12_grid_0 rfl 0 rfl ?_
  refine z_iload_n hC dX12_grid_1 rfl 1 rfl ?_
  refine z_callV (ci := 12) (rest := []) hC (ck_mk lk_X12_258 in_X12_isModel cd_X12_isModel ds_X12_isModel (Nat.le_of_ble_eq_true rfl) (Nat.le_of_ble_eq_true rfl)) iy_X12_isModel sy_X12_isModel cf_12 (by decide) (kM_33 hF) (ct_X12_isModel hF E) rfl rfl (Nat.le_of_ble_eq_true rfl) ⟨Nat.le_refl _, Nat.le_refl _⟩ dX12_grid_2 ?_
  rintro _ _ _ ⟨v2, rfl, rfl, rfl, E⟩
  refine z_if_eq (tgt := 24) hC dX12_grid_5 (by decide) (fun c6 => ?_) (fun c6 => ?_)
  · replace E := E.1 c6
    refine z_iconst (v := -1) hC dX12_grid_24 rfl ?_
    exact z_iret hC dX12_grid_25 (Nat.le_refl _) (Nat.le_refl _) ⟨_, rfl, rfl, E⟩
  · replace E := E.2 c6
    refine z_aload_n hC dX12_grid_8 rfl 0 rfl ?_
    refine z_iload_n hC dX12_grid_9 rfl 2 rfl ?_
    refine z_callV (ci := 12) (rest := []) hC (ck_mk lk_X12_182 in_X12_isThing cd_X12_isThing ds_X12_isThing (Nat.le_of_ble_eq_true rfl) (Nat.le_of_ble_eq_true rfl)) iy_X12_isThing sy_X12_isThing cf_12 (by decide) (kM_33 hF) (ct_X12_isThing hF E) rfl rfl (Nat.le_of_ble_eq_true rfl) ⟨Nat.le_refl _, Nat.le_refl _⟩ dX12_grid_10 ?_
    rintro _ _ _ ⟨v8, rfl, rfl, rfl, E⟩
    refine z_if_eq (tgt := 24) hC dX12_grid_13 (by decide) (fun c12 => ?_) (fun c12 => ?_)
    · replace E := E.1 c12
      refine z_iconst (v := -1) hC dX12_grid_24 rfl ?_
      exact z_iret hC dX12_grid_25 (Nat.le_refl _) (Nat.le_refl _) ⟨_, rfl, rfl, E⟩
    · replace E := E.2 c12
      refine z_aload_n hC dX12_grid_16 rfl 0 rfl ?_
      refine z_iload_n hC dX12_grid_17 rfl 1 rfl ?_
      refine z_callV (ci := 12) (rest := []) hC (ck_mk lk_X12_261 in_X12_listen cd_X12_listen ds_X12_listen (Nat.le_of_ble_eq_true rfl) (Nat.le_of_ble_eq_true rfl)) iy_X12_listen sy_X12_listen cf_12 (by decide) (kM_33 hF) (ct_X12_listen hF E) rfl rfl (Nat.le_of_ble_eq_true rfl) ⟨Nat.le_refl _, Nat.le_refl _⟩ dX12_grid_18 ?_
      rintro _ _ D18 ⟨v14, rfl, rfl, E⟩
      refine z_if_ne (tgt := 26) hC dX12_grid_21 (by decide) (fun c19 => ?_) (fun c19 => ?_)
      · replace E := E.1 c19
        refine z_iconst (v := 0) hC dX12_grid_26 rfl ?_
        refine z_istore_n (lv' := [(3, .int (0 : Int32)), (0, .ref (G.1 + 33)), (1, .int a1), (2, .int a2)]) hC dX12_grid_27 rfl (Nat.le_of_ble_eq_true rfl) rfl ?_
        refine z_iconst (v := -1) hC dX12_grid_28 rfl ?_
        refine z_istore (lv' := [(4, .int (-1 : Int32)), (3, .int (0 : Int32)), (0, .ref (G.1 + 33)), (1, .int a1), (2, .int a2)]) hC dX12_grid_29 (Nat.le_of_ble_eq_true rfl) rfl ?_
        refine z_iconst (v := 1) hC dX12_grid_31 rfl ?_
        refine z_istore (lv' := [(5, .int (1 : Int32)), (4, .int (-1 : Int32)), (3, .int (0 : Int32)), (0, .ref (G.1 + 33)), (1, .int a1), (2, .int a2)]) hC dX12_grid_32 (Nat.le_of_ble_eq_true rfl) rfl ?_
        refine z_sub [3, 4, 5, 2, 1, 0] rfl ?_
        refine LP4_use (fun (v20 : Int32) (v21 : Int32) (v22 : Int32) (D23 : Dy) => ZM l G p e s m args below meth c 7 9 S (PI S post) S D23 34 [(0, .ref (G.1 + 33)), (1, .int a1), (2, .int a2), (3, .int v20), (4, .int v21), (5, .int v22)] []) ?_ FU (0 : Int32) (-1 : Int32) (1 : Int32) D18 E
        intro rec24 hrec25 v20 v21 v22 D23 E
        refine z_iload hC dX12_grid_34 5 rfl ?_
        refine z_bipush (v := 30) hC dX12_grid_36 rfl ?_
        refine z_icmp_gt (tgt := 80) hC dX12_grid_38 (by decide) (fun c26 => ?_) (fun c26 => ?_)
        · replace E := E.1 c26
          refine z_iload_n hC dX12_grid_80 rfl 3 rfl ?_
          exact z_iret hC dX12_grid_81 (Nat.le_refl _) (Nat.le_refl _) ⟨_, rfl, rfl, E⟩
        · replace E := E.2 c26
          refine z_aload_n hC dX12_grid_41 rfl 0 rfl ?_
          refine z_get hC lf_X12_83_12 (kM_33 hF) dX12_grid_42 (fV_ref rfl (rM_33_24 hF)) ?_
          refine z_iload_n hC dX12_grid_45 rfl 2 rfl ?_
          refine z_iload hC dX12_grid_46 5 rfl ?_
          refine z_iast hC (kM_47 hF) (nM_47 hF) E.1 dX12_grid_48 ?_
          replace E := E.2
          refine z_topD (fun D27 h28 => ?_)
          replace E := E D27 h28
          refine z_aload_n hC dX12_grid_49 rfl 0 rfl ?_
          refine z_iload_n hC dX12_grid_50 rfl 1 rfl ?_
          refine z_iconst (v := 0) hC dX12_grid_51 rfl ?_
          refine z_callV (ci := 12) (rest := []) hC (ck_mk lk_X12_308 in_X12_scoreOf cd_X12_scoreOf ds_X12_scoreOf (Nat.le_of_ble_eq_true rfl) (Nat.le_of_ble_eq_true rfl)) iy_X12_scoreOf sy_X12_scoreOf cf_12 (by decide) (kM_33 hF) (ct_X12_scoreOf hF E) rfl rfl (Nat.le_of_ble_eq_true rfl) ⟨Nat.le_refl _, Nat.le_refl _⟩ dX12_grid_52 ?_
          rintro _ _ D34 ⟨v29, rfl, rfl, E⟩
          refine z_istore (lv' := [(6, .int v29), (0, .ref (G.1 + 33)), (1, .int a1), (2, .int a2), (3, .int v20), (4, .int v21), (5, .int v22)]) hC dX12_grid_55 (Nat.le_of_ble_eq_true rfl) rfl ?_
          refine z_iload hC dX12_grid_57 0 rfl ?_
          refine z_iload hC dX12_grid_59 5 rfl ?_
          obtain ⟨K37, hK38, EE⟩ := JN_use E (fun K37 : Int32 → Int32 → Prop => ∀ (v35 : Int32) (v36 : Int32), K37 v35 v36 → ZM l G p e s m args below meth c 7 9 S (PI S post) S D34 74 [(0, .ref (G.1 + 33)), (1, .int a1), (2, .int a2), (3, .int v35), (4, .int v36), (5, .int v22)] []) (by
            intro v35 v36 E
            obtain ⟨v39, h40⟩ : ∃ y : Int32, y = v22 + 1 := ⟨_, rfl⟩
            replace E := E v39 h40
            refine z_iinc (q := 5) (v := v39) (lv' := [(5, .int v39), (0, .ref (G.1 + 33)), (1, .int a1), (2, .int a2), (3, .int v35), (4, .int v36)]) hC dX12_grid_74 rfl (by rw [h40]; rfl) (Nat.le_of_ble_eq_true rfl) rfl ?_
            refine z_goto (tgt := 34) hC dX12_grid_77 (by decide) ?_
            refine z_sub [1, 2, 3, 4, 5, 0] rfl ?_
            exact hrec25 v35 v36 v39 D34 E)
          replace E := EE
          clear EE
          refine z_icmp_gt (tgt := 67) hC dX12_grid_61 (by decide) (fun c41 => ?_) (fun c41 => ?_)
          · replace E := E.1 c41
            refine z_iload hC dX12_grid_67 0 rfl ?_
            refine z_istore (lv' := [(4, .int v29), (6, .int v29), (0, .ref (G.1 + 33)), (1, .int a1), (2, .int a2), (3, .int v20), (5, .int v22)]) hC dX12_grid_69 (Nat.le_of_ble_eq_true rfl) rfl ?_
            refine z_iload hC dX12_grid_71 6 rfl ?_
            refine z_istore_n (lv' := [(3, .int v22), (4, .int v29), (6, .int v29), (0, .ref (G.1 + 33)), (1, .int a1), (2, .int a2), (5, .int v22)]) hC dX12_grid_73 rfl (Nat.le_of_ble_eq_true rfl) rfl ?_
            refine z_sub [3, 4, 5, 0, 1, 6] rfl ?_
            exact hK38 v22 v29 E
          · replace E := E.2 c41
            refine z_goto (tgt := 74) hC dX12_grid_64 (by decide) ?_
            refine z_sub [1, 2, 3, 4, 5, 6] rfl ?_
            exact hK38 v20 v21 E
      · replace E := E.2 c19
        refine z_iconst (v := -1) hC dX12_grid_24 rfl ?_
        exact z_iret hC dX12_grid_25 (Nat.le_refl _) (Nat.le_refl _) ⟨_, rfl, rfl, E⟩
def fX12_isTape (a1 : Int32) (post : Int32 → Prop) : Prop :=
  (fX12_in a1 (0 : Int32) (5 : Int32) (fun (v2 : Int32) => ((v2 = 0 ∨ v2 = 1) ∧ post v2)))
set_option maxHeartbeats 4000000 in
set_option maxRecDepth 100000 in
theorem ct_X12_isTape {l : Launch} {G : Gl} {S : Sh} {D : Dy} (hF : FM S) {a1 : Int32} {post : Int32 → Prop} (E : fX12_isTape a1 post) : Ct l G yX12_isTape cX12_isTape 2 (some .boolean) 1 0 0 S D [.ref (G.1 + 33), .int a1] (PIr S D post) := by
  refine z_enter (lv0 := [(0, .ref (G.1 + 33)), (1, .int a1)]) pl_12 (Nat.le_of_ble_eq_true rfl) rfl ?_
  intro p e s m args below meth c hC hnm
  unfold fX12_isTape at E
  refine z_aload_n hC dX12_isTape_0 rfl 0 rfl ?_
  refine z_iload_n hC dX12_isTape_1 rfl 1 rfl ?_
  refine z_iconst (v := 0) hC dX12_isTape_2 rfl ?_
  refine z_iconst (v := 5) hC dX12_isTape_3 rfl ?_
  refine z_callV (ci := 12) (rest := []) hC (ck_mk lk_X12_178 in_X12_in cd_X12_in ds_X12_in (Nat.le_of_ble_eq_true rfl) (Nat.le_of_ble_eq_true rfl)) iy_X12_in sy_X12_in cf_12 (by decide) (kM_33 hF) (ct_X12_in hF E) rfl rfl (Nat.le_of_ble_eq_true rfl) ⟨Nat.le_refl _, Nat.le_refl _⟩ dX12_isTape_4 ?_
  rintro _ _ _ ⟨v2, rfl, rfl, rfl, E⟩
  exact z_zret hC dX12_isTape_7 E.1 (Nat.le_refl _) (Nat.le_refl _) ⟨_, rfl, rfl, rfl, E.2⟩
def fX12_narrow (a1 : Int32) (a2 : Int64) (post : Int64 → Prop) : Prop :=
  ((¬ a1 = 0 → ((¬ a1 = (1 : Int32) → ((¬ a1 = (2 : Int32) → ((¬ a1 = (4 : Int32) → post a2) ∧ (a1 = (4 : Int32) → (((lg_cmp a2 (0 : Int64)) = 0 → post (0 : Int64)) ∧ (¬ (lg_cmp a2 (0 : Int64)) = 0 → post (1 : Int64)))))) ∧ (a1 = (2 : Int32) → post ((a2).toInt32).toInt64))) ∧ (a1 = (1 : Int32) → post ((((a2).toInt32).toInt16).toInt32).toInt64))) ∧ (a1 = 0 → post ((((a2).toInt32).toInt8).toInt32).toInt64))
set_option maxHeartbeats 4000000 in
set_option maxRecDepth 100000 in
theorem ct_X12_narrow {l : Launch} {G : Gl} {S : Sh} {D : Dy} (hF : FM S) {a1 : Int32} {a2 : Int64} {post : Int64 → Prop} (E : fX12_narrow a1 a2 post) : Ct l G yX12_narrow cX12_narrow 4 (some .long) 0 0 0 S D [.ref (G.1 + 33), .int a1, .long a2] (PLr S D post) := by
  refine z_enter (lv0 := [(0, .ref (G.1 + 33)), (1, .int a1), (2, .long a2)]) pl_12 (Nat.le_of_ble_eq_true rfl) rfl ?_
  intro p e s m args below meth c hC hnm
  unfold fX12_narrow at E
  refine z_iload_n hC dX12_narrow_0 rfl 1 rfl ?_
  refine z_if_ne (tgt := 11) hC dX12_narrow_1 (by decide) (fun c1 => ?_) (fun c1 => ?_)
  · replace E := E.1 c1
    refine z_iload_n hC dX12_narrow_11 rfl 1 rfl ?_
    refine z_iconst (v := 1) hC dX12_narrow_12 rfl ?_
    refine z_icmp_ne (tgt := 23) hC dX12_narrow_13 (by decide) (fun c2 => ?_) (fun c2 => ?_)
    · replace E := E.1 c2
      refine z_iload_n hC dX12_narrow_23 rfl 1 rfl ?_
      refine z_iconst (v := 2) hC dX12_narrow_24 rfl ?_
      refine z_icmp_ne (tgt := 34) hC dX12_narrow_25 (by decide) (fun c3 => ?_) (fun c3 => ?_)
      · replace E := E.1 c3
        refine z_iload_n hC dX12_narrow_34 rfl 1 rfl ?_
        refine z_iconst (v := 4) hC dX12_narrow_35 rfl ?_
        refine z_icmp_ne (tgt := 53) hC dX12_narrow_36 (by decide) (fun c4 => ?_) (fun c4 => ?_)
        · replace E := E.1 c4
          refine z_lload_n hC dX12_narrow_53 rfl 2 rfl ?_
          exact z_lret hC dX12_narrow_54 (Nat.le_refl _) (Nat.le_refl _) ⟨_, rfl, rfl, rfl, E⟩
        · replace E := E.2 c4
          refine z_lload_n hC dX12_narrow_39 rfl 2 rfl ?_
          refine z_lconst (v := 0) hC dX12_narrow_40 rfl ?_
          refine z_lcmp hC dX12_narrow_41 ?_
          refine z_if_eq (tgt := 49) hC dX12_narrow_42 (by decide) (fun c5 => ?_) (fun c5 => ?_)
          · replace E := E.1 c5
            refine z_lconst (v := 0) hC dX12_narrow_49 rfl ?_
            refine z_goto (tgt := 54) hC dX12_narrow_50 (by decide) ?_
            exact z_lret hC dX12_narrow_54 (Nat.le_refl _) (Nat.le_refl _) ⟨_, rfl, rfl, rfl, E⟩
          · replace E := E.2 c5
            refine z_lconst (v := 1) hC dX12_narrow_45 rfl ?_
            refine z_goto (tgt := 54) hC dX12_narrow_46 (by decide) ?_
            exact z_lret hC dX12_narrow_54 (Nat.le_refl _) (Nat.le_refl _) ⟨_, rfl, rfl, rfl, E⟩
      · replace E := E.2 c3
        refine z_lload_n hC dX12_narrow_28 rfl 2 rfl ?_
        refine z_l2i hC dX12_narrow_29 ?_
        refine z_i2l hC dX12_narrow_30 ?_
        refine z_goto (tgt := 54) hC dX12_narrow_31 (by decide) ?_
        exact z_lret hC dX12_narrow_54 (Nat.le_refl _) (Nat.le_refl _) ⟨_, rfl, rfl, rfl, E⟩
    · replace E := E.2 c2
      refine z_lload_n hC dX12_narrow_16 rfl 2 rfl ?_
      refine z_l2i hC dX12_narrow_17 ?_
      refine z_i2s hC dX12_narrow_18 ?_
      refine z_i2l hC dX12_narrow_19 ?_
      refine z_goto (tgt := 54) hC dX12_narrow_20 (by decide) ?_
      exact z_lret hC dX12_narrow_54 (Nat.le_refl _) (Nat.le_refl _) ⟨_, rfl, rfl, rfl, E⟩
  · replace E := E.2 c1
    refine z_lload_n hC dX12_narrow_4 rfl 2 rfl ?_
    refine z_l2i hC dX12_narrow_5 ?_
    refine z_i2b hC dX12_narrow_6 ?_
    refine z_i2l hC dX12_narrow_7 ?_
    refine z_goto (tgt := 54) hC dX12_narrow_8 (by decide) ?_
    exact z_lret hC dX12_narrow_54 (Nat.le_refl _) (Nat.le_refl _) ⟨_, rfl, rfl, rfl, E⟩
def fX12_item (a1 : Int32) (a2 : Int32) (a3 : Int64) (D : Dy) (post : Int32 → Dy → Prop) : Prop :=
  (fX12_isTape a1 (fun (v2 : Int32) => ((¬ v2 = 0 → (vp_in a1 6 ∧ ((0 ≤ (D.1 61 (a1).toNatClampNeg) → (vp_in a1 6 ∧ (fX12_in a2 (0 : Int32) ((D.1 62 (a1).toNatClampNeg) - (1 : Int32)) (fun (v9 : Int32) => ((¬ v9 = 0 → (vp_in a1 6 ∧ (fX12_narrow (D.1 61 (a1).toNatClampNeg) a3 (fun (w16 : Int64) => (vp_in (((60 : Int32) * a1) + a2) 360 ∧ (∀ D19 : Dy, D19 = sL D 63 ((((60 : Int32) * a1) + a2)).toNatClampNeg w16 → post (1 : Int32) D19)))))) ∧ (v9 = 0 → post (-13 : Int32) D)))))) ∧ (¬ 0 ≤ (D.1 61 (a1).toNatClampNeg) → post (-11 : Int32) D)))) ∧ (v2 = 0 → post (-1 : Int32) D))))
set_option maxHeartbeats 4000000 in
set_option maxRecDepth 100000 in
theorem ct_X12_item {l : Launch} {G : Gl} {S : Sh} {D : Dy} (hF : FM S) {a1 : Int32} {a2 : Int32} {a3 : Int64} {post : Int32 → Dy → Prop} (E : fX12_item a1 a2 a3 D post) : Ct l G yX12_item cX12_item 5 (some .int) 2 0 0 S D [.ref (G.1 + 33), .int a1, .int a2, .long a3] (PI S post) := by
  refine z_enter (lv0 := [(0, .ref (G.1 + 33)), (1, .int a1), (2, .int a2), (3, .long a3)]) pl_12 (Nat.le_of_ble_eq_true rfl) rfl ?_
  intro p e s m args below meth c hC hnm
  unfold fX12_item at E
  refine z_aload_n hC dX12_item_0 rfl 0 rfl ?_
  refine z_iload_n hC dX12_item_1 rfl 1 rfl ?_
  refine z_callV (ci := 12) (rest := []) hC (ck_mk lk_X12_368 in_X12_isTape cd_X12_isTape ds_X12_isTape (Nat.le_of_ble_eq_true rfl) (Nat.le_of_ble_eq_true rfl)) iy_X12_isTape sy_X12_isTape cf_12 (by decide) (kM_33 hF) (ct_X12_isTape hF E) rfl rfl (Nat.le_of_ble_eq_true rfl) ⟨Nat.le_refl _, Nat.le_refl _⟩ dX12_item_2 ?_
  rintro _ _ _ ⟨v2, rfl, rfl, rfl, E⟩
  refine z_if_ne (tgt := 10) hC dX12_item_5 (by decide) (fun c6 => ?_) (fun c6 => ?_)
  · replace E := E.1 c6
    refine z_aload_n hC dX12_item_10 rfl 0 rfl ?_
    refine z_get hC lf_X12_165_12 (kM_33 hF) dX12_item_11 (fV_ref rfl (rM_33_50 hF)) ?_
    refine z_iload_n hC dX12_item_14 rfl 1 rfl ?_
    refine z_iald hC (kM_61 hF) (nM_61 hF) E.1 dX12_item_15 ?_
    replace E := E.2
    refine z_if_ge (tgt := 22) hC dX12_item_16 (by decide) (fun c7 => ?_) (fun c7 => ?_)
    · replace E := E.1 c7
      refine z_aload_n hC dX12_item_22 rfl 0 rfl ?_
      refine z_iload_n hC dX12_item_23 rfl 2 rfl ?_
      refine z_iconst (v := 0) hC dX12_item_24 rfl ?_
      refine z_aload_n hC dX12_item_25 rfl 0 rfl ?_
      refine z_get hC lf_X12_168_12 (kM_33 hF) dX12_item_26 (fV_ref rfl (rM_33_51 hF)) ?_
      refine z_iload_n hC dX12_item_29 rfl 1 rfl ?_
      refine z_iald hC (kM_62 hF) (nM_62 hF) E.1 dX12_item_30 ?_
      replace E := E.2
      refine z_iconst (v := 1) hC dX12_item_31 rfl ?_
      refine z_isub hC dX12_item_32 ?_
      refine z_callV (ci := 12) (rest := []) hC (ck_mk lk_X12_178 in_X12_in cd_X12_in ds_X12_in (Nat.le_of_ble_eq_true rfl) (Nat.le_of_ble_eq_true rfl)) iy_X12_in sy_X12_in cf_12 (by decide) (kM_33 hF) (ct_X12_in hF E) rfl rfl (Nat.le_of_ble_eq_true rfl) ⟨Nat.le_refl _, Nat.le_refl _⟩ dX12_item_33 ?_
      rintro _ _ _ ⟨v9, rfl, rfl, rfl, E⟩
      refine z_if_ne (tgt := 42) hC dX12_item_36 (by decide) (fun c13 => ?_) (fun c13 => ?_)
      · replace E := E.1 c13
        refine z_aload_n hC dX12_item_42 rfl 0 rfl ?_
        refine z_get hC lf_X12_171_12 (kM_33 hF) dX12_item_43 (fV_ref rfl (rM_33_52 hF)) ?_
        refine z_bipush (v := 60) hC dX12_item_46 rfl ?_
        refine z_iload_n hC dX12_item_48 rfl 1 rfl ?_
        refine z_imul hC dX12_item_49 ?_
        refine z_iload_n hC dX12_item_50 rfl 2 rfl ?_
        refine z_iadd hC dX12_item_51 ?_
        refine z_aload_n hC dX12_item_52 rfl 0 rfl ?_
        refine z_aload_n hC dX12_item_53 rfl 0 rfl ?_
        refine z_get hC lf_X12_165_12 (kM_33 hF) dX12_item_54 (fV_ref rfl (rM_33_50 hF)) ?_
        refine z_iload_n hC dX12_item_57 rfl 1 rfl ?_
        refine z_iald hC (kM_61 hF) (nM_61 hF) E.1 dX12_item_58 ?_
        replace E := E.2
        refine z_lload_n hC dX12_item_59 rfl 3 rfl ?_
        refine z_callV (ci := 12) (rest := [.int (((60 : Int32) * a1) + a2), .ref (G.1 + 63)]) hC (ck_mk lk_X12_378 in_X12_narrow cd_X12_narrow ds_X12_narrow (Nat.le_of_ble_eq_true rfl) (Nat.le_of_ble_eq_true rfl)) iy_X12_narrow sy_X12_narrow cf_12 (by decide) (kM_33 hF) (ct_X12_narrow hF E) rfl rfl (Nat.le_of_ble_eq_true rfl) ⟨Nat.le_refl _, Nat.le_refl _⟩ dX12_item_60 ?_
        rintro _ _ _ ⟨w16, rfl, rfl, rfl, E⟩
        refine z_last hC (kM_63 hF) (nM_63 hF) E.1 dX12_item_63 ?_
        replace E := E.2
        refine z_topD (fun D19 h20 => ?_)
        replace E := E D19 h20
        refine z_iconst (v := 1) hC dX12_item_64 rfl ?_
        exact z_iret hC dX12_item_65 (Nat.le_refl _) (Nat.le_refl _) ⟨_, rfl, rfl, E⟩
      · replace E := E.2 c13
        refine z_bipush (v := -13) hC dX12_item_39 rfl ?_
        exact z_iret hC dX12_item_41 (Nat.le_refl _) (Nat.le_refl _) ⟨_, rfl, rfl, E⟩
    · replace E := E.2 c7
      refine z_bipush (v := -11) hC dX12_item_19 rfl ?_
      exact z_iret hC dX12_item_21 (Nat.le_refl _) (Nat.le_refl _) ⟨_, rfl, rfl, E⟩
  · replace E := E.2 c6
    refine z_iconst (v := -1) hC dX12_item_8 rfl ?_
    exact z_iret hC dX12_item_9 (Nat.le_refl _) (Nat.le_refl _) ⟨_, rfl, rfl, E⟩
def fX12_lay (a1 : Int32) (a2 : Int32) (D : Dy) (post : Int32 → Dy → Prop) : Prop :=
  (fX12_isModel a1 D (fun (v2 : Int32) => ((v2 = 0 → post (-1 : Int32) D) ∧ (¬ v2 = 0 → (fX12_listen a1 D (fun (v8 : Int32) (D12 : Dy) => ((¬ v8 = 0 → (fX12_in a2 (0 : Int32) (6 : Int32) (fun (v15 : Int32) => ((¬ v15 = 0 → (LP4 (fun (rec24 : Int32 → Int64 → Int32 → Dy → Prop) (v20 : Int32) (w21 : Int64) (v22 : Int32) (D23 : Dy) => ((((1 : Int32) <<< ((D23.1 33 0) &&& 31)) ≤ v22 → post v20 D23) ∧ (¬ ((1 : Int32) <<< ((D23.1 33 0) &&& 31)) ≤ v22 → (fX12_ones v22 (fun (v27 : Int32) => (JN (fun (v32 : Int32) (w33 : Int64) (D34 : Dy) => (∀ v37 : Int32, v37 = v22 + 1 → (rec24 v32 w33 v37 D34))) (fun K35 : Int32 → Int64 → Dy → Prop => ((v27 ≤ a2 → (fX12_coinOf a1 v22 D23 (fun (w42 : Int64) (D45 : Dy) => (((lg_cmp w42 w21) < 0 → (K35 v20 w21 D45)) ∧ (¬ (lg_cmp w42 w21) < 0 → (JN ((K35 v22 w42 D45)) (fun K47 : Prop => ((¬ (lg_cmp w42 w21) = 0 → K47) ∧ ((lg_cmp w42 w21) = 0 → (fX12_ones v22 (fun (v50 : Int32) => (fX12_ones v20 (fun (v55 : Int32) => ((v50 < v55 → K47) ∧ (¬ v50 < v55 → (K35 v20 w21 D45)))))))))))))))) ∧ (¬ v27 ≤ a2 → (K35 v20 w21 D23)))))))))) FU (0 : Int32) (0 : Int64) (1 : Int32) D12)) ∧ (v15 = 0 → post (-2 : Int32) D12))))) ∧ (v8 = 0 → post (-1 : Int32) D12))))))))
set_option maxHeartbeats 4000000 in
set_option maxRecDepth 100000 in
theorem ct_X12_lay {l : Launch} {G : Gl} {S : Sh} {D : Dy} (hF : FM S) {a1 : Int32} {a2 : Int32} {post : Int32 → Dy → Prop} (E : fX12_lay a1 a2 D post) : Ct l G yX12_lay cX12_lay 9 (some .int) 9 0 0 S D [.ref (G.1 + 33), .int a1, .int a2] (PI S post) := by
  refine z_enter (lv0 := [(0, .ref (G.1 + 33)), (1, .int a1), (2, .int a2)]) pl_12 (Nat.le_of_ble_eq_true rfl) rfl ?_
  intro p e s m args below meth c hC hnm
  unfold fX12_lay at E
  refine z_aload_n hC dX12_lay_0 rfl 0 rfl ?_
  refine z_iload_n hC dX12_lay_1 rfl 1 rfl ?_
  refine z_callV (ci := 12) (rest := []) hC (ck_mk lk_X12_258 in_X12_isModel cd_X12_isModel ds_X12_isModel (Nat.le_of_ble_eq_true rfl) (Nat.le_of_ble_eq_true rfl)) iy_X12_isModel sy_X12_isModel cf_12 (by decide) (kM_33 hF) (ct_X12_isModel hF E) rfl rfl (Nat.le_of_ble_eq_true rfl) ⟨Nat.le_refl _, Nat.le_refl _⟩ dX12_lay_2 ?_
  rintro _ _ _ ⟨v2, rfl, rfl, rfl, E⟩
  refine z_if_eq (tgt := 16) hC dX12_lay_5 (by decide) (fun c6 => ?_) (fun c6 => ?_)
  · replace E := E.1 c6
    refine z_iconst (v := -1) hC dX12_lay_16 rfl ?_
    exact z_iret hC dX12_lay_17 (Nat.le_refl _) (Nat.le_refl _) ⟨_, rfl, rfl, E⟩
  · replace E := E.2 c6
    refine z_aload_n hC dX12_lay_8 rfl 0 rfl ?_
    refine z_iload_n hC dX12_lay_9 rfl 1 rfl ?_
    refine z_callV (ci := 12) (rest := []) hC (ck_mk lk_X12_261 in_X12_listen cd_X12_listen ds_X12_listen (Nat.le_of_ble_eq_true rfl) (Nat.le_of_ble_eq_true rfl)) iy_X12_listen sy_X12_listen cf_12 (by decide) (kM_33 hF) (ct_X12_listen hF E) rfl rfl (Nat.le_of_ble_eq_true rfl) ⟨Nat.le_refl _, Nat.le_refl _⟩ dX12_lay_10 ?_
    rintro _ _ D12 ⟨v8, rfl, rfl, E⟩
    refine z_if_ne (tgt := 18) hC dX12_lay_13 (by decide) (fun c13 => ?_) (fun c13 => ?_)
    · replace E := E.1 c13
      refine z_aload_n hC dX12_lay_18 rfl 0 rfl ?_
      refine z_iload_n hC dX12_lay_19 rfl 2 rfl ?_
      refine z_iconst (v := 0) hC dX12_lay_20 rfl ?_
      refine z_bipush (v := 6) hC dX12_lay_21 rfl ?_
      refine z_callV (ci := 12) (rest := []) hC (ck_mk lk_X12_178 in_X12_in cd_X12_in ds_X12_in (Nat.le_of_ble_eq_true rfl) (Nat.le_of_ble_eq_true rfl)) iy_X12_in sy_X12_in cf_12 (by decide) (kM_33 hF) (ct_X12_in hF E) rfl rfl (Nat.le_of_ble_eq_true rfl) ⟨Nat.le_refl _, Nat.le_refl _⟩ dX12_lay_23 ?_
      rintro _ _ _ ⟨v15, rfl, rfl, rfl, E⟩
      refine z_if_ne (tgt := 32) hC dX12_lay_26 (by decide) (fun c19 => ?_) (fun c19 => ?_)
      · replace E := E.1 c19
        refine z_iconst (v := 0) hC dX12_lay_32 rfl ?_
        refine z_istore_n (lv' := [(3, .int (0 : Int32)), (0, .ref (G.1 + 33)), (1, .int a1), (2, .int a2)]) hC dX12_lay_33 rfl (Nat.le_of_ble_eq_true rfl) rfl ?_
        refine z_lconst (v := 0) hC dX12_lay_34 rfl ?_
        refine z_lstore (lv' := [(4, .long (0 : Int64)), (3, .int (0 : Int32)), (0, .ref (G.1 + 33)), (1, .int a1), (2, .int a2)]) hC dX12_lay_35 (Nat.le_of_ble_eq_true rfl) rfl ?_
        refine z_iconst (v := 1) hC dX12_lay_37 rfl ?_
        refine z_istore (lv' := [(6, .int (1 : Int32)), (4, .long (0 : Int64)), (3, .int (0 : Int32)), (0, .ref (G.1 + 33)), (1, .int a1), (2, .int a2)]) hC dX12_lay_38 (Nat.le_of_ble_eq_true rfl) rfl ?_
        refine z_sub [3, 4, 5, 2, 1, 0] rfl ?_
        refine LP4_use (fun (v20 : Int32) (w21 : Int64) (v22 : Int32) (D23 : Dy) => ZM l G p e s m args below meth c 9 9 S (PI S post) S D23 40 [(0, .ref (G.1 + 33)), (1, .int a1), (2, .int a2), (3, .int v20), (4, .long w21), (6, .int v22)] []) ?_ FU (0 : Int32) (0 : Int64) (1 : Int32) D12 E
        intro rec24 hrec25 v20 w21 v22 D23 E
        refine z_iload hC dX12_lay_40 5 rfl ?_
        refine z_iconst (v := 1) hC dX12_lay_42 rfl ?_
        refine z_aload_n hC dX12_lay_43 rfl 0 rfl ?_
        refine z_get hC lf_X12_7_12 (kM_33 hF) dX12_lay_44 (fV_int rfl) ?_
        refine z_ishl hC dX12_lay_47 ?_
        refine z_icmp_ge (tgt := 119) hC dX12_lay_48 (by decide) (fun c26 => ?_) (fun c26 => ?_)
        · replace E := E.1 c26
          refine z_iload_n hC dX12_lay_119 rfl 3 rfl ?_
          exact z_iret hC dX12_lay_120 (Nat.le_refl _) (Nat.le_refl _) ⟨_, rfl, rfl, E⟩
        · replace E := E.2 c26
          refine z_aload_n hC dX12_lay_51 rfl 0 rfl ?_
          refine z_iload hC dX12_lay_52 5 rfl ?_
          refine z_callV (ci := 12) (rest := []) hC (ck_mk lk_X12_280 in_X12_ones cd_X12_ones ds_X12_ones (Nat.le_of_ble_eq_true rfl) (Nat.le_of_ble_eq_true rfl)) iy_X12_ones sy_X12_ones cf_12 (by decide) (kM_33 hF) (ct_X12_ones hF E) rfl rfl (Nat.le_of_ble_eq_true rfl) ⟨Nat.le_refl _, Nat.le_refl _⟩ dX12_lay_54 ?_
          rintro _ _ _ ⟨v27, rfl, rfl, rfl, E⟩
          refine z_iload_n hC dX12_lay_57 rfl 2 rfl ?_
          obtain ⟨K35, hK36, EE⟩ := JN_use E (fun K35 : Int32 → Int64 → Dy → Prop => ∀ (v32 : Int32) (w33 : Int64) (D34 : Dy), K35 v32 w33 D34 → ZM l G p e s m args below meth c 9 9 S (PI S post) S D34 113 [(0, .ref (G.1 + 33)), (1, .int a1), (2, .int a2), (3, .int v32), (4, .long w33), (6, .int v22)] []) (by
            intro v32 w33 D34 E
            obtain ⟨v37, h38⟩ : ∃ y : Int32, y = v22 + 1 := ⟨_, rfl⟩
            replace E := E v37 h38
            refine z_iinc (q := 5) (v := v37) (lv' := [(6, .int v37), (0, .ref (G.1 + 33)), (1, .int a1), (2, .int a2), (3, .int v32), (4, .long w33)]) hC dX12_lay_113 rfl (by rw [h38]; rfl) (Nat.le_of_ble_eq_true rfl) rfl ?_
            refine z_goto (tgt := 40) hC dX12_lay_116 (by decide) ?_
            refine z_sub [1, 2, 3, 4, 5, 0] rfl ?_
            exact hrec25 v32 w33 v37 D34 E)
          replace E := EE
          clear EE
          refine z_icmp_le (tgt := 64) hC dX12_lay_58 (by decide) (fun c39 => ?_) (fun c39 => ?_)
          · replace E := E.1 c39
            refine z_aload_n hC dX12_lay_64 rfl 0 rfl ?_
            refine z_iload_n hC dX12_lay_65 rfl 1 rfl ?_
            refine z_iload hC dX12_lay_66 5 rfl ?_
            refine z_callV (ci := 12) (rest := []) hC (ck_mk lk_X12_335 in_X12_coinOf cd_X12_coinOf ds_X12_coinOf (Nat.le_of_ble_eq_true rfl) (Nat.le_of_ble_eq_true rfl)) iy_X12_coinOf sy_X12_coinOf cf_12 (by decide) (kM_33 hF) (ct_X12_coinOf hF E) rfl rfl (Nat.le_of_ble_eq_true rfl) ⟨Nat.le_refl _, Nat.le_refl _⟩ dX12_lay_68 ?_
            rintro _ _ D45 ⟨w42, rfl, rfl, E⟩
            refine z_lstore (lv' := [(7, .long w42), (0, .ref (G.1 + 33)), (1, .int a1), (2, .int a2), (3, .int v20), (4, .long w21), (6, .int v22)]) hC dX12_lay_71 (Nat.le_of_ble_eq_true rfl) rfl ?_
            refine z_lload hC dX12_lay_73 0 rfl ?_
            refine z_lload hC dX12_lay_75 5 rfl ?_
            refine z_lcmp hC dX12_lay_77 ?_
            refine z_if_lt (tgt := 113) hC dX12_lay_78 (by decide) (fun c46 => ?_) (fun c46 => ?_)
            · replace E := E.1 c46
              refine z_sub [1, 2, 3, 4, 5, 6] rfl ?_
              exact hK36 v20 w21 D45 E
            · replace E := E.2 c46
              refine z_lload hC dX12_lay_81 0 rfl ?_
              refine z_lload hC dX12_lay_83 5 rfl ?_
              refine z_lcmp hC dX12_lay_85 ?_
              obtain ⟨K47, hK48, EE⟩ := JN_use E (fun K47 : Prop => K47 → ZM l G p e s m args below meth c 9 9 S (PI S post) S D45 106 [(0, .ref (G.1 + 33)), (1, .int a1), (2, .int a2), (6, .int v22), (7, .long w42)] []) (by
                intro E
                refine z_lload hC dX12_lay_106 4 rfl ?_
                refine z_lstore (lv' := [(4, .long w42), (0, .ref (G.1 + 33)), (1, .int a1), (2, .int a2), (6, .int v22), (7, .long w42)]) hC dX12_lay_108 (Nat.le_of_ble_eq_true rfl) rfl ?_
                refine z_iload hC dX12_lay_110 4 rfl ?_
                refine z_istore_n (lv' := [(3, .int v22), (4, .long w42), (0, .ref (G.1 + 33)), (1, .int a1), (2, .int a2), (6, .int v22), (7, .long w42)]) hC dX12_lay_112 rfl (Nat.le_of_ble_eq_true rfl) rfl ?_
                refine z_sub [2, 3, 4, 0, 1, 5] rfl ?_
                exact hK36 v22 w42 D45 E)
              replace E := EE
              clear EE
              refine z_if_ne (tgt := 106) hC dX12_lay_86 (by decide) (fun c49 => ?_) (fun c49 => ?_)
              · replace E := E.1 c49
                refine z_sub [1, 2, 3, 6, 0] rfl ?_
                exact hK48  E
              · replace E := E.2 c49
                refine z_aload_n hC dX12_lay_89 rfl 1 rfl ?_
                refine z_iload hC dX12_lay_90 6 rfl ?_
                refine z_callV (ci := 12) (rest := []) hC (ck_mk lk_X12_280 in_X12_ones cd_X12_ones ds_X12_ones (Nat.le_of_ble_eq_true rfl) (Nat.le_of_ble_eq_true rfl)) iy_X12_ones sy_X12_ones cf_12 (by decide) (kM_33 hF) (ct_X12_ones hF E) rfl rfl (Nat.le_of_ble_eq_true rfl) ⟨Nat.le_refl _, Nat.le_refl _⟩ dX12_lay_92 ?_
                rintro _ _ _ ⟨v50, rfl, rfl, rfl, E⟩
                refine z_aload_n hC dX12_lay_95 rfl 1 rfl ?_
                refine z_iload_n hC dX12_lay_96 rfl 4 rfl ?_
                refine z_callV (ci := 12) (rest := [.int v50]) hC (ck_mk lk_X12_280 in_X12_ones cd_X12_ones ds_X12_ones (Nat.le_of_ble_eq_true rfl) (Nat.le_of_ble_eq_true rfl)) iy_X12_ones sy_X12_ones cf_12 (by decide) (kM_33 hF) (ct_X12_ones hF E) rfl rfl (Nat.le_of_ble_eq_true rfl) ⟨Nat.le_refl _, Nat.le_refl _⟩ dX12_lay_97 ?_
                rintro _ _ _ ⟨v55, rfl, rfl, rfl, E⟩
                refine z_icmp_lt (tgt := 106) hC dX12_lay_100 (by decide) (fun c60 => ?_) (fun c60 => ?_)
                · replace E := E.1 c60
                  refine z_sub [1, 2, 3, 6, 0] rfl ?_
                  exact hK48  E
                · replace E := E.2 c60
                  refine z_goto (tgt := 113) hC dX12_lay_103 (by decide) ?_
                  refine z_sub [1, 2, 3, 4, 5, 6] rfl ?_
                  exact hK36 v20 w21 D45 E
          · replace E := E.2 c39
            refine z_goto (tgt := 113) hC dX12_lay_61 (by decide) ?_
            exact hK36 v20 w21 D23 E
      · replace E := E.2 c19
        refine z_bipush (v := -2) hC dX12_lay_29 rfl ?_
        exact z_iret hC dX12_lay_31 (Nat.le_refl _) (Nat.le_refl _) ⟨_, rfl, rfl, E⟩
    · replace E := E.2 c13
      refine z_iconst (v := -1) hC dX12_lay_16 rfl ?_
      exact z_iret hC dX12_lay_17 (Nat.le_refl _) (Nat.le_refl _) ⟨_, rfl, rfl, E⟩
def fX12_letgo (a1 : Int32) (D : Dy) (post : Int32 → Dy → Prop) : Prop :=
  (fX12_isTaker a1 D (fun (v2 : Int32) => ((¬ v2 = 0 → (fX12_findPlaces D (fun (D12 : Dy) => (LP2 (fun (rec15 : Int32 → Int32 → Prop) (v13 : Int32) (v14 : Int32) => (fX12_orders D12 (fun (v17 : Int32) => ((v17 ≤ v14 → post v13 D12) ∧ (¬ v17 ≤ v14 → (fX12_against v14 a1 D12 (fun (v23 : Int32) => (JN (fun (v28 : Int32) => (∀ v31 : Int32, v31 = v14 + 1 → (rec15 v28 v31))) (fun K29 : Int32 → Prop => ((v13 ≤ v23 → (K29 v13)) ∧ (¬ v13 ≤ v23 → (K29 v23)))))))))))) FU (80 : Int32) (0 : Int32))))) ∧ (v2 = 0 → post (-1 : Int32) D))))
set_option maxHeartbeats 4000000 in
set_option maxRecDepth 100000 in
theorem ct_X12_letgo {l : Launch} {G : Gl} {S : Sh} {D : Dy} (hF : FM S) {a1 : Int32} {post : Int32 → Dy → Prop} (E : fX12_letgo a1 D post) : Ct l G yX12_letgo cX12_letgo 5 (some .int) 3 0 0 S D [.ref (G.1 + 33), .int a1] (PI S post) := by
  refine z_enter (lv0 := [(0, .ref (G.1 + 33)), (1, .int a1)]) pl_12 (Nat.le_of_ble_eq_true rfl) rfl ?_
  intro p e s m args below meth c hC hnm
  unfold fX12_letgo at E
  refine z_aload_n hC dX12_letgo_0 rfl 0 rfl ?_
  refine z_iload_n hC dX12_letgo_1 rfl 1 rfl ?_
  refine z_callV (ci := 12) (rest := []) hC (ck_mk lk_X12_186 in_X12_isTaker cd_X12_isTaker ds_X12_isTaker (Nat.le_of_ble_eq_true rfl) (Nat.le_of_ble_eq_true rfl)) iy_X12_isTaker sy_X12_isTaker cf_12 (by decide) (kM_33 hF) (ct_X12_isTaker hF E) rfl rfl (Nat.le_of_ble_eq_true rfl) ⟨Nat.le_refl _, Nat.le_refl _⟩ dX12_letgo_2 ?_
  rintro _ _ _ ⟨v2, rfl, rfl, rfl, E⟩
  refine z_if_ne (tgt := 10) hC dX12_letgo_5 (by decide) (fun c6 => ?_) (fun c6 => ?_)
  · replace E := E.1 c6
    refine z_aload_n hC dX12_letgo_10 rfl 0 rfl ?_
    refine z_callV (ci := 12) (rest := []) hC (ck_mk lk_X12_323 in_X12_findPlaces cd_X12_findPlaces ds_X12_findPlaces (Nat.le_of_ble_eq_true rfl) (Nat.le_of_ble_eq_true rfl)) iy_X12_findPlaces sy_X12_findPlaces cf_12 (by decide) (kM_33 hF) (ct_X12_findPlaces hF E) rfl rfl (Nat.le_of_ble_eq_true rfl) ⟨Nat.le_refl _, Nat.le_refl _⟩ dX12_letgo_11 ?_
    rintro _ _ D12 ⟨rfl, rfl, E⟩
    refine z_bipush (v := 80) hC dX12_letgo_14 rfl ?_
    refine z_istore_n (lv' := [(2, .int (80 : Int32)), (0, .ref (G.1 + 33)), (1, .int a1)]) hC dX12_letgo_16 rfl (Nat.le_of_ble_eq_true rfl) rfl ?_
    refine z_iconst (v := 0) hC dX12_letgo_17 rfl ?_
    refine z_istore_n (lv' := [(3, .int (0 : Int32)), (2, .int (80 : Int32)), (0, .ref (G.1 + 33)), (1, .int a1)]) hC dX12_letgo_18 rfl (Nat.le_of_ble_eq_true rfl) rfl ?_
    refine z_sub [2, 3, 1, 0] rfl ?_
    refine LP2_use (fun (v13 : Int32) (v14 : Int32) => ZM l G p e s m args below meth c 5 3 S (PI S post) S D12 19 [(0, .ref (G.1 + 33)), (1, .int a1), (2, .int v13), (3, .int v14)] []) ?_ FU (80 : Int32) (0 : Int32) E
    intro rec15 hrec16 v13 v14 E
    refine z_iload_n hC dX12_letgo_19 rfl 3 rfl ?_
    refine z_aload_n hC dX12_letgo_20 rfl 0 rfl ?_
    refine z_callV (ci := 12) (rest := [.int v14]) hC (ck_mk lk_X12_314 in_X12_orders cd_X12_orders ds_X12_orders (Nat.le_of_ble_eq_true rfl) (Nat.le_of_ble_eq_true rfl)) iy_X12_orders sy_X12_orders cf_12 (by decide) (kM_33 hF) (ct_X12_orders hF E) rfl rfl (Nat.le_of_ble_eq_true rfl) ⟨Nat.le_refl _, Nat.le_refl _⟩ dX12_letgo_21 ?_
    rintro _ _ _ ⟨v17, rfl, rfl, rfl, E⟩
    refine z_icmp_ge (tgt := 54) hC dX12_letgo_24 (by decide) (fun c22 => ?_) (fun c22 => ?_)
    · replace E := E.1 c22
      refine z_iload_n hC dX12_letgo_54 rfl 2 rfl ?_
      exact z_iret hC dX12_letgo_55 (Nat.le_refl _) (Nat.le_refl _) ⟨_, rfl, rfl, E⟩
    · replace E := E.2 c22
      refine z_aload_n hC dX12_letgo_27 rfl 0 rfl ?_
      refine z_iload_n hC dX12_letgo_28 rfl 3 rfl ?_
      refine z_iload_n hC dX12_letgo_29 rfl 1 rfl ?_
      refine z_callV (ci := 12) (rest := []) hC (ck_mk lk_X12_326 in_X12_against cd_X12_against ds_X12_against (Nat.le_of_ble_eq_true rfl) (Nat.le_of_ble_eq_true rfl)) iy_X12_against sy_X12_against cf_12 (by decide) (kM_33 hF) (ct_X12_against hF E) rfl rfl (Nat.le_of_ble_eq_true rfl) ⟨Nat.le_refl _, Nat.le_refl _⟩ dX12_letgo_30 ?_
      rintro _ _ _ ⟨v23, rfl, rfl, rfl, E⟩
      refine z_istore (lv' := [(4, .int v23), (0, .ref (G.1 + 33)), (1, .int a1), (2, .int v13), (3, .int v14)]) hC dX12_letgo_33 (Nat.le_of_ble_eq_true rfl) rfl ?_
      refine z_iload hC dX12_letgo_35 0 rfl ?_
      refine z_iload_n hC dX12_letgo_37 rfl 3 rfl ?_
      obtain ⟨K29, hK30, EE⟩ := JN_use E (fun K29 : Int32 → Prop => ∀ (v28 : Int32), K29 v28 → ZM l G p e s m args below meth c 5 3 S (PI S post) S D12 47 [(0, .ref (G.1 + 33)), (1, .int a1), (3, .int v14)] [.int v28]) (by
        intro v28 E
        refine z_istore_n (lv' := [(2, .int v28), (0, .ref (G.1 + 33)), (1, .int a1), (3, .int v14)]) hC dX12_letgo_47 rfl (Nat.le_of_ble_eq_true rfl) rfl ?_
        obtain ⟨v31, h32⟩ : ∃ y : Int32, y = v14 + 1 := ⟨_, rfl⟩
        replace E := E v31 h32
        refine z_iinc (q := 3) (v := v31) (lv' := [(3, .int v31), (2, .int v28), (0, .ref (G.1 + 33)), (1, .int a1)]) hC dX12_letgo_48 rfl (by rw [h32]; rfl) (Nat.le_of_ble_eq_true rfl) rfl ?_
        refine z_goto (tgt := 19) hC dX12_letgo_51 (by decide) ?_
        refine z_sub [2, 3, 1, 0] rfl ?_
        exact hrec16 v28 v31 E)
      replace E := EE
      clear EE
      refine z_icmp_ge (tgt := 46) hC dX12_letgo_38 (by decide) (fun c33 => ?_) (fun c33 => ?_)
      · replace E := E.1 c33
        refine z_iload_n hC dX12_letgo_46 rfl 3 rfl ?_
        refine z_sub [1, 2, 4] rfl ?_
        exact hK30 v13 E
      · replace E := E.2 c33
        refine z_iload hC dX12_letgo_41 0 rfl ?_
        refine z_goto (tgt := 47) hC dX12_letgo_43 (by decide) ?_
        refine z_sub [1, 2, 4] rfl ?_
        exact hK30 v23 E
  · replace E := E.2 c6
    refine z_iconst (v := -1) hC dX12_letgo_8 rfl ?_
    exact z_iret hC dX12_letgo_9 (Nat.le_refl _) (Nat.le_refl _) ⟨_, rfl, rfl, E⟩
def fX12_like (a1 : Int32) (a2 : Int32) (D : Dy) (post : Int32 → Dy → Prop) : Prop :=
  (fX12_isTaker a1 D (fun (v2 : Int32) => ((v2 = 0 → post (-1 : Int32) D) ∧ (¬ v2 = 0 → (fX12_isTaker a2 D (fun (v8 : Int32) => ((¬ v8 = 0 → ((¬ a1 = a2 → (fX12_findAgreeing a1 D (fun (D19 : Dy) => (fX12_findAgreeing a2 D19 (fun (D25 : Dy) => (LP1 (fun (rec27 : Int32 → Prop) (v26 : Int32) => (fX12_orders D25 (fun (v29 : Int32) => ((v29 ≤ v26 → post (0 : Int32) D25) ∧ (¬ v29 ≤ v26 → (vp_in (((5040 : Int32) * a1) + v26) 80640 ∧ (JN ((∀ v37 : Int32, v37 = v26 + 1 → (rec27 v37))) (fun K35 : Prop => (((D25.1 57 ((((5040 : Int32) * a1) + v26)).toNatClampNeg) = 0 → K35) ∧ (¬ (D25.1 57 ((((5040 : Int32) * a1) + v26)).toNatClampNeg) = 0 → (vp_in (((5040 : Int32) * a2) + v26) 80640 ∧ (((D25.1 57 ((((5040 : Int32) * a2) + v26)).toNatClampNeg) = 0 → K35) ∧ (¬ (D25.1 57 ((((5040 : Int32) * a2) + v26)).toNatClampNeg) = 0 → post (1 : Int32) D25))))))))))))) FU (0 : Int32))))))) ∧ (a1 = a2 → post (-2 : Int32) D))) ∧ (v8 = 0 → post (-1 : Int32) D))))))))
set_option maxHeartbeats 4000000 in
set_option maxRecDepth 100000 in
theorem ct_X12_like {l : Launch} {G : Gl} {S : Sh} {D : Dy} (hF : FM S) {a1 : Int32} {a2 : Int32} {post : Int32 → Dy → Prop} (E : fX12_like a1 a2 D post) : Ct l G yX12_like cX12_like 4 (some .int) 4 0 0 S D [.ref (G.1 + 33), .int a1, .int a2] (PI S post) := by
  refine z_enter (lv0 := [(0, .ref (G.1 + 33)), (1, .int a1), (2, .int a2)]) pl_12 (Nat.le_of_ble_eq_true rfl) rfl ?_
  intro p e s m args below meth c hC hnm
  unfold fX12_like at E
  refine z_aload_n hC dX12_like_0 rfl 0 rfl ?_
  refine z_iload_n hC dX12_like_1 rfl 1 rfl ?_
  refine z_callV (ci := 12) (rest := []) hC (ck_mk lk_X12_186 in_X12_isTaker cd_X12_isTaker ds_X12_isTaker (Nat.le_of_ble_eq_true rfl) (Nat.le_of_ble_eq_true rfl)) iy_X12_isTaker sy_X12_isTaker cf_12 (by decide) (kM_33 hF) (ct_X12_isTaker hF E) rfl rfl (Nat.le_of_ble_eq_true rfl) ⟨Nat.le_refl _, Nat.le_refl _⟩ dX12_like_2 ?_
  rintro _ _ _ ⟨v2, rfl, rfl, rfl, E⟩
  refine z_if_eq (tgt := 16) hC dX12_like_5 (by decide) (fun c6 => ?_) (fun c6 => ?_)
  · replace E := E.1 c6
    refine z_iconst (v := -1) hC dX12_like_16 rfl ?_
    exact z_iret hC dX12_like_17 (Nat.le_refl _) (Nat.le_refl _) ⟨_, rfl, rfl, E⟩
  · replace E := E.2 c6
    refine z_aload_n hC dX12_like_8 rfl 0 rfl ?_
    refine z_iload_n hC dX12_like_9 rfl 2 rfl ?_
    refine z_callV (ci := 12) (rest := []) hC (ck_mk lk_X12_186 in_X12_isTaker cd_X12_isTaker ds_X12_isTaker (Nat.le_of_ble_eq_true rfl) (Nat.le_of_ble_eq_true rfl)) iy_X12_isTaker sy_X12_isTaker cf_12 (by decide) (kM_33 hF) (ct_X12_isTaker hF E) rfl rfl (Nat.le_of_ble_eq_true rfl) ⟨Nat.le_refl _, Nat.le_refl _⟩ dX12_like_10 ?_
    rintro _ _ _ ⟨v8, rfl, rfl, rfl, E⟩
    refine z_if_ne (tgt := 18) hC dX12_like_13 (by decide) (fun c12 => ?_) (fun c12 => ?_)
    · replace E := E.1 c12
      refine z_iload_n hC dX12_like_18 rfl 1 rfl ?_
      refine z_iload_n hC dX12_like_19 rfl 2 rfl ?_
      refine z_icmp_ne (tgt := 26) hC dX12_like_20 (by decide) (fun c13 => ?_) (fun c13 => ?_)
      · replace E := E.1 c13
        refine z_aload_n hC dX12_like_26 rfl 0 rfl ?_
        refine z_iload_n hC dX12_like_27 rfl 1 rfl ?_
        refine z_callV (ci := 12) (rest := []) hC (ck_mk lk_X12_329 in_X12_findAgreeing cd_X12_findAgreeing ds_X12_findAgreeing (Nat.le_of_ble_eq_true rfl) (Nat.le_of_ble_eq_true rfl)) iy_X12_findAgreeing sy_X12_findAgreeing cf_12 (by decide) (kM_33 hF) (ct_X12_findAgreeing hF E) rfl rfl (Nat.le_of_ble_eq_true rfl) ⟨Nat.le_refl _, Nat.le_refl _⟩ dX12_like_28 ?_
        rintro _ _ D19 ⟨rfl, rfl, E⟩
        refine z_aload_n hC dX12_like_31 rfl 0 rfl ?_
        refine z_iload_n hC dX12_like_32 rfl 2 rfl ?_
        refine z_callV (ci := 12) (rest := []) hC (ck_mk lk_X12_329 in_X12_findAgreeing cd_X12_findAgreeing ds_X12_findAgreeing (Nat.le_of_ble_eq_true rfl) (Nat.le_of_ble_eq_true rfl)) iy_X12_findAgreeing sy_X12_findAgreeing cf_12 (by decide) (kM_33 hF) (ct_X12_findAgreeing hF E) rfl rfl (Nat.le_of_ble_eq_true rfl) ⟨Nat.le_refl _, Nat.le_refl _⟩ dX12_like_33 ?_
        rintro _ _ D25 ⟨rfl, rfl, E⟩
        refine z_iconst (v := 0) hC dX12_like_36 rfl ?_
        refine z_istore_n (lv' := [(3, .int (0 : Int32)), (0, .ref (G.1 + 33)), (1, .int a1), (2, .int a2)]) hC dX12_like_37 rfl (Nat.le_of_ble_eq_true rfl) rfl ?_
        refine z_sub [1, 2, 3, 0] rfl ?_
        refine LP1_use (fun (v26 : Int32) => ZM l G p e s m args below meth c 4 4 S (PI S post) S D25 38 [(0, .ref (G.1 + 33)), (1, .int a1), (2, .int a2), (3, .int v26)] []) ?_ FU (0 : Int32) E
        intro rec27 hrec28 v26 E
        refine z_iload_n hC dX12_like_38 rfl 3 rfl ?_
        refine z_aload_n hC dX12_like_39 rfl 0 rfl ?_
        refine z_callV (ci := 12) (rest := [.int v26]) hC (ck_mk lk_X12_314 in_X12_orders cd_X12_orders ds_X12_orders (Nat.le_of_ble_eq_true rfl) (Nat.le_of_ble_eq_true rfl)) iy_X12_orders sy_X12_orders cf_12 (by decide) (kM_33 hF) (ct_X12_orders hF E) rfl rfl (Nat.le_of_ble_eq_true rfl) ⟨Nat.le_refl _, Nat.le_refl _⟩ dX12_like_40 ?_
        rintro _ _ _ ⟨v29, rfl, rfl, rfl, E⟩
        refine z_icmp_ge (tgt := 84) hC dX12_like_43 (by decide) (fun c34 => ?_) (fun c34 => ?_)
        · replace E := E.1 c34
          refine z_iconst (v := 0) hC dX12_like_84 rfl ?_
          exact z_iret hC dX12_like_85 (Nat.le_refl _) (Nat.le_refl _) ⟨_, rfl, rfl, E⟩
        · replace E := E.2 c34
          refine z_aload_n hC dX12_like_46 rfl 0 rfl ?_
          refine z_get hC lf_X12_147_12 (kM_33 hF) dX12_like_47 (fV_ref rfl (rM_33_44 hF)) ?_
          refine z_sipush (v := 5040) hC dX12_like_50 rfl ?_
          refine z_iload_n hC dX12_like_53 rfl 1 rfl ?_
          refine z_imul hC dX12_like_54 ?_
          refine z_iload_n hC dX12_like_55 rfl 3 rfl ?_
          refine z_iadd hC dX12_like_56 ?_
          refine z_zald hC (kM_57 hF) (nM_57 hF) E.1 dX12_like_57 ?_
          replace E := E.2
          obtain ⟨K35, hK36, EE⟩ := JN_use E (fun K35 : Prop => K35 → ZM l G p e s m args below meth c 4 4 S (PI S post) S D25 78 [(0, .ref (G.1 + 33)), (1, .int a1), (2, .int a2), (3, .int v26)] []) (by
            intro E
            obtain ⟨v37, h38⟩ : ∃ y : Int32, y = v26 + 1 := ⟨_, rfl⟩
            replace E := E v37 h38
            refine z_iinc (q := 3) (v := v37) (lv' := [(3, .int v37), (0, .ref (G.1 + 33)), (1, .int a1), (2, .int a2)]) hC dX12_like_78 rfl (by rw [h38]; rfl) (Nat.le_of_ble_eq_true rfl) rfl ?_
            refine z_goto (tgt := 38) hC dX12_like_81 (by decide) ?_
            refine z_sub [1, 2, 3, 0] rfl ?_
            exact hrec28 v37 E)
          replace E := EE
          clear EE
          refine z_if_eq (tgt := 78) hC dX12_like_58 (by decide) (fun c39 => ?_) (fun c39 => ?_)
          · replace E := E.1 c39
            exact hK36  E
          · replace E := E.2 c39
            refine z_aload_n hC dX12_like_61 rfl 0 rfl ?_
            refine z_get hC lf_X12_147_12 (kM_33 hF) dX12_like_62 (fV_ref rfl (rM_33_44 hF)) ?_
            refine z_sipush (v := 5040) hC dX12_like_65 rfl ?_
            refine z_iload_n hC dX12_like_68 rfl 2 rfl ?_
            refine z_imul hC dX12_like_69 ?_
            refine z_iload_n hC dX12_like_70 rfl 3 rfl ?_
            refine z_iadd hC dX12_like_71 ?_
            refine z_zald hC (kM_57 hF) (nM_57 hF) E.1 dX12_like_72 ?_
            replace E := E.2
            refine z_if_eq (tgt := 78) hC dX12_like_73 (by decide) (fun c40 => ?_) (fun c40 => ?_)
            · replace E := E.1 c40
              exact hK36  E
            · replace E := E.2 c40
              refine z_iconst (v := 1) hC dX12_like_76 rfl ?_
              exact z_iret hC dX12_like_77 (Nat.le_refl _) (Nat.le_refl _) ⟨_, rfl, rfl, E⟩
      · replace E := E.2 c13
        refine z_bipush (v := -2) hC dX12_like_23 rfl ?_
        exact z_iret hC dX12_like_25 (Nat.le_refl _) (Nat.le_refl _) ⟨_, rfl, rfl, E⟩
    · replace E := E.2 c12
      refine z_iconst (v := -1) hC dX12_like_16 rfl ?_
      exact z_iret hC dX12_like_17 (Nat.le_refl _) (Nat.le_refl _) ⟨_, rfl, rfl, E⟩
def fX12_missesOf (a1 : Int32) (a2 : Int32) (D : Dy) (post : Int32 → Dy → Prop) : Prop :=
  (LP3 (fun (rec4 : Int32 → Int32 → Dy → Prop) (v1 : Int32) (v2 : Int32) (D3 : Dy) => (((D3.1 33 2) ≤ v2 → post v1 D3) ∧ (¬ (D3.1 33 2) ≤ v2 → (vp_in v2 80 ∧ (JN (fun (v7 : Int32) (D8 : Dy) => (∀ v11 : Int32, v11 = v2 + 1 → (rec4 v7 v11 D8))) (fun K9 : Int32 → Dy → Prop => (((D3.1 41 (v2).toNatClampNeg) = a2 → (vp_in v2 80 ∧ (JN (fun (v14 : Int32) => (vp_in v2 80 ∧ (vp_in v2 80 ∧ (vp_in (D3.1 38 (v2).toNatClampNeg) 16 ∧ (fX12_findOdds a1 v14 (D3.1 39 (v2).toNatClampNeg) (D3.1 37 ((D3.1 38 (v2).toNatClampNeg)).toNatClampNeg) D3 (fun (D22 : Dy) => (∀ w23 : Int64, w23 = (D22.2 33 39) → (∀ w25 : Int64, w25 = (D22.2 33 40) → (LP3 (fun (rec30 : Int32 → Int32 → Dy → Prop) (v27 : Int32) (v28 : Int32) (D29 : Dy) => (((7 : Int32) < v28 → (JN (fun (v33 : Int32) => (∀ v36 : Int32, v36 = (v1 + v33) → (K9 v36 D29))) (fun K34 : Int32 → Prop => ((v27 = 0 → (K34 (0 : Int32))) ∧ (¬ v27 = 0 → (K34 (1 : Int32))))))) ∧ (¬ (7 : Int32) < v28 → (JN (fun (v39 : Int32) (D40 : Dy) => (∀ v43 : Int32, v43 = v28 + 1 → (rec30 v39 v43 D40))) (fun K41 : Int32 → Dy → Prop => (JN ((vp_in v2 80 ∧ (vp_in v2 80 ∧ (vp_in (D29.1 38 (v2).toNatClampNeg) 16 ∧ (fX12_findOdds a1 v28 (D29.1 39 (v2).toNatClampNeg) (D29.1 37 ((D29.1 38 (v2).toNatClampNeg)).toNatClampNeg) D29 (fun (D52 : Dy) => (JN (fun (v53 : Int32) => (K41 v53 D52)) (fun K54 : Int32 → Prop => (JN ((K54 (1 : Int32))) (fun K56 : Prop => ((¬ v27 = 0 → K56) ∧ (v27 = 0 → (((lg_cmp ((D52.2 33 39) * w25) (w23 * (D52.2 33 40))) ≤ 0 → (K54 (0 : Int32))) ∧ (¬ (lg_cmp ((D52.2 33 39) * w25) (w23 * (D52.2 33 40))) ≤ 0 → K56)))))))))))))) (fun K45 : Prop => ((v28 = (7 : Int32) → K45) ∧ (¬ v28 = (7 : Int32) → (vp_in v2 80 ∧ (fX12_has (D29.1 39 (v2).toNatClampNeg) v28 (fun (v62 : Int32) => ((¬ v62 = 0 → K45) ∧ (v62 = 0 → (K41 v27 D29))))))))))))))) FU (0 : Int32) (0 : Int32) D22))))))))) (fun K15 : Int32 → Prop => ((0 ≤ (D3.1 40 (v2).toNatClampNeg) → (vp_in v2 80 ∧ (K15 (D3.1 40 (v2).toNatClampNeg)))) ∧ (¬ 0 ≤ (D3.1 40 (v2).toNatClampNeg) → (K15 (7 : Int32)))))))) ∧ (¬ (D3.1 41 (v2).toNatClampNeg) = a2 → (K9 v1 D3))))))))) FU (0 : Int32) (0 : Int32) D)
set_option maxHeartbeats 4000000 in
set_option maxRecDepth 100000 in
theorem ct_X12_missesOf {l : Launch} {G : Gl} {S : Sh} {D : Dy} (hF : FM S) {a1 : Int32} {a2 : Int32} {post : Int32 → Dy → Prop} (E : fX12_missesOf a1 a2 D post) : Ct l G yX12_missesOf cX12_missesOf 11 (some .int) 5 0 0 S D [.ref (G.1 + 33), .int a1, .int a2] (PI S post) := by
  refine z_enter (lv0 := [(0, .ref (G.1 + 33)), (1, .int a1), (2, .int a2)]) pl_12 (Nat.le_of_ble_eq_true rfl) rfl ?_
  intro p e s m args below meth c hC hnm
  unfold fX12_missesOf at E
  refine z_iconst (v := 0) hC dX12_missesOf_0 rfl ?_
  refine z_istore_n (lv' := [(3, .int (0 : Int32)), (0, .ref (G.1 + 33)), (1, .int a1), (2, .int a2)]) hC dX12_missesOf_1 rfl (Nat.le_of_ble_eq_true rfl) rfl ?_
  refine z_iconst (v := 0) hC dX12_missesOf_2 rfl ?_
  refine z_istore (lv' := [(4, .int (0 : Int32)), (3, .int (0 : Int32)), (0, .ref (G.1 + 33)), (1, .int a1), (2, .int a2)]) hC dX12_missesOf_3 (Nat.le_of_ble_eq_true rfl) rfl ?_
  refine z_sub [2, 3, 4, 1, 0] rfl ?_
  refine LP3_use (fun (v1 : Int32) (v2 : Int32) (D3 : Dy) => ZM l G p e s m args below meth c 11 5 S (PI S post) S D3 5 [(0, .ref (G.1 + 33)), (1, .int a1), (2, .int a2), (3, .int v1), (4, .int v2)] []) ?_ FU (0 : Int32) (0 : Int32) D E
  intro rec4 hrec5 v1 v2 D3 E
  refine z_iload hC dX12_missesOf_5 4 rfl ?_
  refine z_aload_n hC dX12_missesOf_7 rfl 0 rfl ?_
  refine z_get hC lf_X12_16_12 (kM_33 hF) dX12_missesOf_8 (fV_int rfl) ?_
  refine z_icmp_ge (tgt := 206) hC dX12_missesOf_11 (by decide) (fun c6 => ?_) (fun c6 => ?_)
  · replace E := E.1 c6
    refine z_iload_n hC dX12_missesOf_206 rfl 3 rfl ?_
    exact z_iret hC dX12_missesOf_207 (Nat.le_refl _) (Nat.le_refl _) ⟨_, rfl, rfl, E⟩
  · replace E := E.2 c6
    refine z_aload_n hC dX12_missesOf_14 rfl 0 rfl ?_
    refine z_get hC lf_X12_44_12 (kM_33 hF) dX12_missesOf_15 (fV_ref rfl (rM_33_11 hF)) ?_
    refine z_iload hC dX12_missesOf_18 4 rfl ?_
    refine z_iald hC (kM_41 hF) (nM_41 hF) E.1 dX12_missesOf_20 ?_
    replace E := E.2
    refine z_iload_n hC dX12_missesOf_21 rfl 2 rfl ?_
    obtain ⟨K9, hK10, EE⟩ := JN_use E (fun K9 : Int32 → Dy → Prop => ∀ (v7 : Int32) (D8 : Dy), K9 v7 D8 → ZM l G p e s m args below meth c 11 5 S (PI S post) S D8 200 [(0, .ref (G.1 + 33)), (1, .int a1), (2, .int a2), (3, .int v7), (4, .int v2)] []) (by
      intro v7 D8 E
      obtain ⟨v11, h12⟩ : ∃ y : Int32, y = v2 + 1 := ⟨_, rfl⟩
      replace E := E v11 h12
      refine z_iinc (q := 4) (v := v11) (lv' := [(4, .int v11), (0, .ref (G.1 + 33)), (1, .int a1), (2, .int a2), (3, .int v7)]) hC dX12_missesOf_200 rfl (by rw [h12]; rfl) (Nat.le_of_ble_eq_true rfl) rfl ?_
      refine z_goto (tgt := 5) hC dX12_missesOf_203 (by decide) ?_
      refine z_sub [1, 2, 3, 4, 0] rfl ?_
      exact hrec5 v7 v11 D8 E)
    replace E := EE
    clear EE
    refine z_icmp_eq (tgt := 28) hC dX12_missesOf_22 (by decide) (fun c13 => ?_) (fun c13 => ?_)
    · replace E := E.1 c13
      refine z_aload_n hC dX12_missesOf_28 rfl 0 rfl ?_
      refine z_iload_n hC dX12_missesOf_29 rfl 1 rfl ?_
      refine z_aload_n hC dX12_missesOf_30 rfl 0 rfl ?_
      refine z_get hC lf_X12_41_12 (kM_33 hF) dX12_missesOf_31 (fV_ref rfl (rM_33_10 hF)) ?_
      refine z_iload hC dX12_missesOf_34 4 rfl ?_
      refine z_iald hC (kM_40 hF) (nM_40 hF) E.1 dX12_missesOf_36 ?_
      replace E := E.2
      obtain ⟨K15, hK16, EE⟩ := JN_use E (fun K15 : Int32 → Prop => ∀ (v14 : Int32), K15 v14 → ZM l G p e s m args below meth c 11 5 S (PI S post) S D3 52 [(0, .ref (G.1 + 33)), (1, .int a1), (2, .int a2), (3, .int v1), (4, .int v2)] [.int v14, .int a1, .ref (G.1 + 33)]) (by
        intro v14 E
        refine z_aload_n hC dX12_missesOf_52 rfl 0 rfl ?_
        refine z_get hC lf_X12_38_12 (kM_33 hF) dX12_missesOf_53 (fV_ref rfl (rM_33_9 hF)) ?_
        refine z_iload hC dX12_missesOf_56 4 rfl ?_
        refine z_iald hC (kM_39 hF) (nM_39 hF) E.1 dX12_missesOf_58 ?_
        replace E := E.2
        refine z_aload_n hC dX12_missesOf_59 rfl 0 rfl ?_
        refine z_get hC lf_X12_32_12 (kM_33 hF) dX12_missesOf_60 (fV_ref rfl (rM_33_7 hF)) ?_
        refine z_aload_n hC dX12_missesOf_63 rfl 0 rfl ?_
        refine z_get hC lf_X12_35_12 (kM_33 hF) dX12_missesOf_64 (fV_ref rfl (rM_33_8 hF)) ?_
        refine z_iload hC dX12_missesOf_67 4 rfl ?_
        refine z_iald hC (kM_38 hF) (nM_38 hF) E.1 dX12_missesOf_69 ?_
        replace E := E.2
        refine z_iald hC (kM_37 hF) (nM_37 hF) E.1 dX12_missesOf_70 ?_
        replace E := E.2
        refine z_callV (ci := 12) (rest := []) hC (ck_mk lk_X12_298 in_X12_findOdds cd_X12_findOdds ds_X12_findOdds (Nat.le_of_ble_eq_true rfl) (Nat.le_of_ble_eq_true rfl)) iy_X12_findOdds sy_X12_findOdds cf_12 (by decide) (kM_33 hF) (ct_X12_findOdds hF E) rfl rfl (Nat.le_of_ble_eq_true rfl) ⟨Nat.le_refl _, Nat.le_refl _⟩ dX12_missesOf_71 ?_
        rintro _ _ D22 ⟨rfl, rfl, E⟩
        refine z_aload_n hC dX12_missesOf_74 rfl 0 rfl ?_
        refine z_get hC lf_X12_129_12 (kM_33 hF) dX12_missesOf_75 (fV_long rfl) ?_
        refine z_topl (fun w23 h24 => ?_)
        replace E := E w23 h24
        refine z_lstore (lv' := [(5, .long w23), (0, .ref (G.1 + 33)), (1, .int a1), (2, .int a2), (3, .int v1), (4, .int v2)]) hC dX12_missesOf_78 (Nat.le_of_ble_eq_true rfl) rfl ?_
        refine z_aload_n hC dX12_missesOf_80 rfl 1 rfl ?_
        refine z_get hC lf_X12_133_12 (kM_33 hF) dX12_missesOf_81 (fV_long rfl) ?_
        refine z_topl (fun w25 h26 => ?_)
        replace E := E w25 h26
        refine z_lstore (lv' := [(7, .long w25), (5, .long w23), (0, .ref (G.1 + 33)), (1, .int a1), (2, .int a2), (3, .int v1), (4, .int v2)]) hC dX12_missesOf_84 (Nat.le_of_ble_eq_true rfl) rfl ?_
        refine z_iconst (v := 0) hC dX12_missesOf_86 rfl ?_
        refine z_istore (lv' := [(9, .int (0 : Int32)), (7, .long w25), (5, .long w23), (0, .ref (G.1 + 33)), (1, .int a1), (2, .int a2), (3, .int v1), (4, .int v2)]) hC dX12_missesOf_87 (Nat.le_of_ble_eq_true rfl) rfl ?_
        refine z_iconst (v := 0) hC dX12_missesOf_89 rfl ?_
        refine z_istore (lv' := [(10, .int (0 : Int32)), (9, .int (0 : Int32)), (7, .long w25), (5, .long w23), (0, .ref (G.1 + 33)), (1, .int a1), (2, .int a2), (3, .int v1), (4, .int v2)]) hC dX12_missesOf_90 (Nat.le_of_ble_eq_true rfl) rfl ?_
        refine z_sub [4, 5, 6, 7, 8, 3, 2, 1, 0] rfl ?_
        refine LP3_use (fun (v27 : Int32) (v28 : Int32) (D29 : Dy) => ZM l G p e s m args below meth c 11 5 S (PI S post) S D29 92 [(0, .ref (G.1 + 33)), (1, .int a1), (2, .int a2), (3, .int v1), (4, .int v2), (5, .long w23), (7, .long w25), (9, .int v27), (10, .int v28)] []) ?_ FU (0 : Int32) (0 : Int32) D22 E
        intro rec30 hrec31 v27 v28 D29 E
        refine z_iload hC dX12_missesOf_92 8 rfl ?_
        refine z_bipush (v := 7) hC dX12_missesOf_94 rfl ?_
        refine z_icmp_gt (tgt := 187) hC dX12_missesOf_96 (by decide) (fun c32 => ?_) (fun c32 => ?_)
        · replace E := E.1 c32
          refine z_iload_n hC dX12_missesOf_187 rfl 3 rfl ?_
          refine z_iload hC dX12_missesOf_188 7 rfl ?_
          obtain ⟨K34, hK35, EE⟩ := JN_use E (fun K34 : Int32 → Prop => ∀ (v33 : Int32), K34 v33 → ZM l G p e s m args below meth c 11 5 S (PI S post) S D29 198 [(0, .ref (G.1 + 33)), (1, .int a1), (2, .int a2), (4, .int v2)] [.int v33, .int v1]) (by
            intro v33 E
            refine z_iadd hC dX12_missesOf_198 ?_
            refine z_topi (fun v36 h37 => ?_)
            replace E := E v36 h37
            refine z_istore_n (lv' := [(3, .int v36), (0, .ref (G.1 + 33)), (1, .int a1), (2, .int a2), (4, .int v2)]) hC dX12_missesOf_199 rfl (Nat.le_of_ble_eq_true rfl) rfl ?_
            refine z_sub [1, 2, 3, 0, 4] rfl ?_
            exact hK10 v36 D29 E)
          replace E := EE
          clear EE
          refine z_if_eq (tgt := 197) hC dX12_missesOf_190 (by decide) (fun c38 => ?_) (fun c38 => ?_)
          · replace E := E.1 c38
            refine z_iconst (v := 0) hC dX12_missesOf_197 rfl ?_
            refine z_sub [0, 1, 2, 4] rfl ?_
            exact hK35 (0 : Int32) E
          · replace E := E.2 c38
            refine z_iconst (v := 1) hC dX12_missesOf_193 rfl ?_
            refine z_goto (tgt := 198) hC dX12_missesOf_194 (by decide) ?_
            refine z_sub [0, 1, 2, 4] rfl ?_
            exact hK35 (1 : Int32) E
        · replace E := E.2 c32
          refine z_iload hC dX12_missesOf_99 8 rfl ?_
          refine z_bipush (v := 7) hC dX12_missesOf_101 rfl ?_
          obtain ⟨K41, hK42, EE⟩ := JN_use E (fun K41 : Int32 → Dy → Prop => ∀ (v39 : Int32) (D40 : Dy), K41 v39 D40 → ZM l G p e s m args below meth c 11 5 S (PI S post) S D40 181 [(0, .ref (G.1 + 33)), (1, .int a1), (2, .int a2), (3, .int v1), (4, .int v2), (5, .long w23), (7, .long w25), (9, .int v39), (10, .int v28)] []) (by
            intro v39 D40 E
            obtain ⟨v43, h44⟩ : ∃ y : Int32, y = v28 + 1 := ⟨_, rfl⟩
            replace E := E v43 h44
            refine z_iinc (q := 8) (v := v43) (lv' := [(10, .int v43), (0, .ref (G.1 + 33)), (1, .int a1), (2, .int a2), (3, .int v1), (4, .int v2), (5, .long w23), (7, .long w25), (9, .int v39)]) hC dX12_missesOf_181 rfl (by rw [h44]; rfl) (Nat.le_of_ble_eq_true rfl) rfl ?_
            refine z_goto (tgt := 92) hC dX12_missesOf_184 (by decide) ?_
            refine z_sub [1, 2, 3, 4, 5, 6, 7, 8, 0] rfl ?_
            exact hrec31 v39 v43 D40 E)
          replace E := EE
          clear EE
          obtain ⟨K45, hK46, EE⟩ := JN_use E (fun K45 : Prop => K45 → ZM l G p e s m args below meth c 11 5 S (PI S post) S D29 125 [(0, .ref (G.1 + 33)), (1, .int a1), (2, .int a2), (3, .int v1), (4, .int v2), (5, .long w23), (7, .long w25), (9, .int v27), (10, .int v28)] []) (by
            intro E
            refine z_aload_n hC dX12_missesOf_125 rfl 0 rfl ?_
            refine z_iload_n hC dX12_missesOf_126 rfl 1 rfl ?_
            refine z_iload hC dX12_missesOf_127 8 rfl ?_
            refine z_aload_n hC dX12_missesOf_129 rfl 0 rfl ?_
            refine z_get hC lf_X12_38_12 (kM_33 hF) dX12_missesOf_130 (fV_ref rfl (rM_33_9 hF)) ?_
            refine z_iload hC dX12_missesOf_133 4 rfl ?_
            refine z_iald hC (kM_39 hF) (nM_39 hF) E.1 dX12_missesOf_135 ?_
            replace E := E.2
            refine z_aload_n hC dX12_missesOf_136 rfl 0 rfl ?_
            refine z_get hC lf_X12_32_12 (kM_33 hF) dX12_missesOf_137 (fV_ref rfl (rM_33_7 hF)) ?_
            refine z_aload_n hC dX12_missesOf_140 rfl 0 rfl ?_
            refine z_get hC lf_X12_35_12 (kM_33 hF) dX12_missesOf_141 (fV_ref rfl (rM_33_8 hF)) ?_
            refine z_iload hC dX12_missesOf_144 4 rfl ?_
            refine z_iald hC (kM_38 hF) (nM_38 hF) E.1 dX12_missesOf_146 ?_
            replace E := E.2
            refine z_iald hC (kM_37 hF) (nM_37 hF) E.1 dX12_missesOf_147 ?_
            replace E := E.2
            refine z_callV (ci := 12) (rest := []) hC (ck_mk lk_X12_298 in_X12_findOdds cd_X12_findOdds ds_X12_findOdds (Nat.le_of_ble_eq_true rfl) (Nat.le_of_ble_eq_true rfl)) iy_X12_findOdds sy_X12_findOdds cf_12 (by decide) (kM_33 hF) (ct_X12_findOdds hF E) rfl rfl (Nat.le_of_ble_eq_true rfl) ⟨Nat.le_refl _, Nat.le_refl _⟩ dX12_missesOf_148 ?_
            rintro _ _ D52 ⟨rfl, rfl, E⟩
            refine z_iload hC dX12_missesOf_151 7 rfl ?_
            obtain ⟨K54, hK55, EE⟩ := JN_use E (fun K54 : Int32 → Prop => ∀ (v53 : Int32), K54 v53 → ZM l G p e s m args below meth c 11 5 S (PI S post) S D52 179 [(0, .ref (G.1 + 33)), (1, .int a1), (2, .int a2), (3, .int v1), (4, .int v2), (5, .long w23), (7, .long w25), (10, .int v28)] [.int v53]) (by
              intro v53 E
              refine z_istore (lv' := [(9, .int v53), (0, .ref (G.1 + 33)), (1, .int a1), (2, .int a2), (3, .int v1), (4, .int v2), (5, .long w23), (7, .long w25), (10, .int v28)]) hC dX12_missesOf_179 (Nat.le_of_ble_eq_true rfl) rfl ?_
              refine z_sub [1, 2, 3, 4, 5, 6, 7, 0, 8] rfl ?_
              exact hK42 v53 D52 E)
            replace E := EE
            clear EE
            obtain ⟨K56, hK57, EE⟩ := JN_use E (fun K56 : Prop => K56 → ZM l G p e s m args below meth c 11 5 S (PI S post) S D52 174 [(0, .ref (G.1 + 33)), (1, .int a1), (2, .int a2), (3, .int v1), (4, .int v2), (5, .long w23), (7, .long w25), (10, .int v28)] []) (by
              intro E
              refine z_iconst (v := 1) hC dX12_missesOf_174 rfl ?_
              refine z_goto (tgt := 179) hC dX12_missesOf_175 (by decide) ?_
              exact hK55 (1 : Int32) E)
            replace E := EE
            clear EE
            refine z_if_ne (tgt := 174) hC dX12_missesOf_153 (by decide) (fun c58 => ?_) (fun c58 => ?_)
            · replace E := E.1 c58
              refine z_sub [0, 1, 2, 3, 4, 5, 6, 8] rfl ?_
              exact hK57  E
            · replace E := E.2 c58
              refine z_aload_n hC dX12_missesOf_156 rfl 0 rfl ?_
              refine z_get hC lf_X12_129_12 (kM_33 hF) dX12_missesOf_157 (fV_long rfl) ?_
              refine z_lload hC dX12_missesOf_160 6 rfl ?_
              refine z_lmul hC dX12_missesOf_162 ?_
              refine z_lload hC dX12_missesOf_163 5 rfl ?_
              refine z_aload_n hC dX12_missesOf_165 rfl 0 rfl ?_
              refine z_get hC lf_X12_133_12 (kM_33 hF) dX12_missesOf_166 (fV_long rfl) ?_
              refine z_lmul hC dX12_missesOf_169 ?_
              refine z_lcmp hC dX12_missesOf_170 ?_
              refine z_if_le (tgt := 178) hC dX12_missesOf_171 (by decide) (fun c59 => ?_) (fun c59 => ?_)
              · replace E := E.1 c59
                refine z_iconst (v := 0) hC dX12_missesOf_178 rfl ?_
                refine z_sub [0, 1, 2, 3, 4, 5, 6, 8] rfl ?_
                exact hK55 (0 : Int32) E
              · replace E := E.2 c59
                refine z_sub [0, 1, 2, 3, 4, 5, 6, 8] rfl ?_
                exact hK57  E)
          replace E := EE
          clear EE
          refine z_icmp_eq (tgt := 125) hC dX12_missesOf_103 (by decide) (fun c60 => ?_) (fun c60 => ?_)
          · replace E := E.1 c60
            exact hK46  E
          · replace E := E.2 c60
            refine z_aload_n hC dX12_missesOf_106 rfl 0 rfl ?_
            refine z_aload_n hC dX12_missesOf_107 rfl 0 rfl ?_
            refine z_get hC lf_X12_38_12 (kM_33 hF) dX12_missesOf_108 (fV_ref rfl (rM_33_9 hF)) ?_
            refine z_iload hC dX12_missesOf_111 4 rfl ?_
            refine z_iald hC (kM_39 hF) (nM_39 hF) E.1 dX12_missesOf_113 ?_
            replace E := E.2
            refine z_iload hC dX12_missesOf_114 8 rfl ?_
            refine z_callV (ci := 12) (rest := []) hC (ck_mk lk_X12_192 in_X12_has cd_X12_has ds_X12_has (Nat.le_of_ble_eq_true rfl) (Nat.le_of_ble_eq_true rfl)) iy_X12_has sy_X12_has cf_12 (by decide) (kM_33 hF) (ct_X12_has hF E) rfl rfl (Nat.le_of_ble_eq_true rfl) ⟨Nat.le_refl _, Nat.le_refl _⟩ dX12_missesOf_116 ?_
            rintro _ _ _ ⟨v62, rfl, rfl, rfl, E⟩
            refine z_if_ne (tgt := 125) hC dX12_missesOf_119 (by decide) (fun c66 => ?_) (fun c66 => ?_)
            · replace E := E.1 c66
              exact hK46  E
            · replace E := E.2 c66
              refine z_goto (tgt := 181) hC dX12_missesOf_122 (by decide) ?_
              exact hK42 v27 D29 E)
      replace E := EE
      clear EE
      refine z_if_ge (tgt := 45) hC dX12_missesOf_37 (by decide) (fun c67 => ?_) (fun c67 => ?_)
      · replace E := E.1 c67
        refine z_aload_n hC dX12_missesOf_45 rfl 0 rfl ?_
        refine z_get hC lf_X12_41_12 (kM_33 hF) dX12_missesOf_46 (fV_ref rfl (rM_33_10 hF)) ?_
        refine z_iload hC dX12_missesOf_49 4 rfl ?_
        refine z_iald hC (kM_40 hF) (nM_40 hF) E.1 dX12_missesOf_51 ?_
        replace E := E.2
        exact hK16 (D3.1 40 (v2).toNatClampNeg) E
      · replace E := E.2 c67
        refine z_bipush (v := 7) hC dX12_missesOf_40 rfl ?_
        refine z_goto (tgt := 52) hC dX12_missesOf_42 (by decide) ?_
        exact hK16 (7 : Int32) E
    · replace E := E.2 c13
      refine z_goto (tgt := 200) hC dX12_missesOf_25 (by decide) ?_
      exact hK10 v1 D3 E
def fX12_misses (a1 : Int32) (a2 : Int32) (D : Dy) (post : Int32 → Dy → Prop) : Prop :=
  (fX12_isModel a1 D (fun (v2 : Int32) => (JN (fun (D6 : Dy) => post (-1 : Int32) D6) (fun K7 : Dy → Prop => ((v2 = 0 → (K7 D)) ∧ (¬ v2 = 0 → (fX12_in a2 (0 : Int32) (1 : Int32) (fun (v11 : Int32) => ((v11 = 0 → (K7 D)) ∧ (¬ v11 = 0 → (fX12_listen a1 D (fun (v17 : Int32) (D21 : Dy) => ((¬ v17 = 0 → (fX12_missesOf a1 a2 D21 (fun (v23 : Int32) (D28 : Dy) => post v23 D28))) ∧ (v17 = 0 → (K7 D21)))))))))))))))
set_option maxHeartbeats 4000000 in
set_option maxRecDepth 100000 in
theorem ct_X12_misses {l : Launch} {G : Gl} {S : Sh} {D : Dy} (hF : FM S) {a1 : Int32} {a2 : Int32} {post : Int32 → Dy → Prop} (E : fX12_misses a1 a2 D post) : Ct l G yX12_misses cX12_misses 3 (some .int) 9 0 0 S D [.ref (G.1 + 33), .int a1, .int a2] (PI S post) := by
  refine z_enter (lv0 := [(0, .ref (G.1 + 33)), (1, .int a1), (2, .int a2)]) pl_12 (Nat.le_of_ble_eq_true rfl) rfl ?_
  intro p e s m args below meth c hC hnm
  unfold fX12_misses at E
  refine z_aload_n hC dX12_misses_0 rfl 0 rfl ?_
  refine z_iload_n hC dX12_misses_1 rfl 1 rfl ?_
  refine z_callV (ci := 12) (rest := []) hC (ck_mk lk_X12_258 in_X12_isModel cd_X12_isModel ds_X12_isModel (Nat.le_of_ble_eq_true rfl) (Nat.le_of_ble_eq_true rfl)) iy_X12_isModel sy_X12_isModel cf_12 (by decide) (kM_33 hF) (ct_X12_isModel hF E) rfl rfl (Nat.le_of_ble_eq_true rfl) ⟨Nat.le_refl _, Nat.le_refl _⟩ dX12_misses_2 ?_
  rintro _ _ _ ⟨v2, rfl, rfl, rfl, E⟩
  obtain ⟨K7, hK8, EE⟩ := JN_use E (fun K7 : Dy → Prop => ∀ (D6 : Dy), K7 D6 → ZM l G p e s m args below meth c 3 9 S (PI S post) S D6 26 [] []) (by
    intro D6 E
    refine z_iconst (v := -1) hC dX12_misses_26 rfl ?_
    refine z_goto (tgt := 36) hC dX12_misses_27 (by decide) ?_
    exact z_iret hC dX12_misses_36 (Nat.le_refl _) (Nat.le_refl _) ⟨_, rfl, rfl, E⟩)
  replace E := EE
  clear EE
  refine z_if_eq (tgt := 26) hC dX12_misses_5 (by decide) (fun c9 => ?_) (fun c9 => ?_)
  · replace E := E.1 c9
    refine z_sub [] rfl ?_
    exact hK8 D E
  · replace E := E.2 c9
    refine z_aload_n hC dX12_misses_8 rfl 0 rfl ?_
    refine z_iload_n hC dX12_misses_9 rfl 2 rfl ?_
    refine z_iconst (v := 0) hC dX12_misses_10 rfl ?_
    refine z_iconst (v := 1) hC dX12_misses_11 rfl ?_
    refine z_callV (ci := 12) (rest := []) hC (ck_mk lk_X12_178 in_X12_in cd_X12_in ds_X12_in (Nat.le_of_ble_eq_true rfl) (Nat.le_of_ble_eq_true rfl)) iy_X12_in sy_X12_in cf_12 (by decide) (kM_33 hF) (ct_X12_in hF E) rfl rfl (Nat.le_of_ble_eq_true rfl) ⟨Nat.le_refl _, Nat.le_refl _⟩ dX12_misses_12 ?_
    rintro _ _ _ ⟨v11, rfl, rfl, rfl, E⟩
    refine z_if_eq (tgt := 26) hC dX12_misses_15 (by decide) (fun c15 => ?_) (fun c15 => ?_)
    · replace E := E.1 c15
      refine z_sub [] rfl ?_
      exact hK8 D E
    · replace E := E.2 c15
      refine z_aload_n hC dX12_misses_18 rfl 0 rfl ?_
      refine z_iload_n hC dX12_misses_19 rfl 1 rfl ?_
      refine z_callV (ci := 12) (rest := []) hC (ck_mk lk_X12_261 in_X12_listen cd_X12_listen ds_X12_listen (Nat.le_of_ble_eq_true rfl) (Nat.le_of_ble_eq_true rfl)) iy_X12_listen sy_X12_listen cf_12 (by decide) (kM_33 hF) (ct_X12_listen hF E) rfl rfl (Nat.le_of_ble_eq_true rfl) ⟨Nat.le_refl _, Nat.le_refl _⟩ dX12_misses_20 ?_
      rintro _ _ D21 ⟨v17, rfl, rfl, E⟩
      refine z_if_ne (tgt := 30) hC dX12_misses_23 (by decide) (fun c22 => ?_) (fun c22 => ?_)
      · replace E := E.1 c22
        refine z_aload_n hC dX12_misses_30 rfl 0 rfl ?_
        refine z_iload_n hC dX12_misses_31 rfl 1 rfl ?_
        refine z_iload_n hC dX12_misses_32 rfl 2 rfl ?_
        refine z_callV (ci := 12) (rest := []) hC (ck_mk lk_X12_311 in_X12_missesOf cd_X12_missesOf ds_X12_missesOf (Nat.le_of_ble_eq_true rfl) (Nat.le_of_ble_eq_true rfl)) iy_X12_missesOf sy_X12_missesOf cf_12 (by decide) (kM_33 hF) (ct_X12_missesOf hF E) rfl rfl (Nat.le_of_ble_eq_true rfl) ⟨Nat.le_refl _, Nat.le_refl _⟩ dX12_misses_33 ?_
        rintro _ _ D28 ⟨v23, rfl, rfl, E⟩
        exact z_iret hC dX12_misses_36 (Nat.le_refl _) (Nat.le_refl _) ⟨_, rfl, rfl, E⟩
      · replace E := E.2 c22
        refine z_sub [] rfl ?_
        exact hK8 D21 E
def fX12_model (a1 : Int32) (D : Dy) (post : Int32 → Dy → Prop) : Prop :=
  (fX12_in a1 (0 : Int32) (5 : Int32) (fun (v2 : Int32) => ((¬ v2 = 0 → ((¬ (D.1 33 13) = (10 : Int32) → (vp_in (10 : Int32) 11 ∧ (∀ D8 : Dy, D8 = sI D 45 ((10 : Int32)).toNatClampNeg (D.1 33 14) → (∀ D10 : Dy, D10 = sI D8 33 14 (0 : Int32) → (∀ D12 : Dy, D12 = sI D10 33 33 (0 : Int32) → (fX12_goes (10 : Int32) D12 (fun (v15 : Int32) (D19 : Dy) => ((¬ v15 = 0 → (vp_in (10 : Int32) 11 ∧ (vp_in (D19.1 33 13) 11 ∧ (∀ D21 : Dy, D21 = sI D19 45 ((D19.1 33 13)).toNatClampNeg (D19.1 45 ((10 : Int32)).toNatClampNeg) → (LP2 (fun (rec25 : Int32 → Dy → Prop) (v23 : Int32) (D24 : Dy) => (vp_in (10 : Int32) 11 ∧ (((D24.1 45 ((10 : Int32)).toNatClampNeg) ≤ v23 → (vp_in (D24.1 33 13) 10 ∧ (∀ D28 : Dy, D28 = sI D24 43 ((D24.1 33 13)).toNatClampNeg a1 → (vp_in (D28.1 33 13) 10 ∧ (∀ D30 : Dy, D30 = sI D28 46 ((D28.1 33 13)).toNatClampNeg (D28.1 33 22) → (∀ D32 : Dy, D32 = sI D30 33 13 ((D30.1 33 13) + (1 : Int32)) → post ((D32.1 33 13) - (1 : Int32)) D32)))))) ∧ (¬ (D24.1 45 ((10 : Int32)).toNatClampNeg) ≤ v23 → (vp_in ((1200 : Int32) + v23) 1320 ∧ (vp_in (((120 : Int32) * (D24.1 33 13)) + v23) 1320 ∧ (∀ D34 : Dy, D34 = sI D24 44 ((((120 : Int32) * (D24.1 33 13)) + v23)).toNatClampNeg (D24.1 44 (((1200 : Int32) + v23)).toNatClampNeg) → (∀ v36 : Int32, v36 = v23 + 1 → (rec25 v36 D34))))))))) FU (0 : Int32) D21))))) ∧ (v15 = 0 → post ((-10 : Int32) - (D19.1 33 21)) D19))))))))) ∧ ((D.1 33 13) = (10 : Int32) → post (-4 : Int32) D))) ∧ (v2 = 0 → post (-1 : Int32) D))))
set_option maxHeartbeats 4000000 in
set_option maxRecDepth 100000 in
theorem ct_X12_model {l : Launch} {G : Gl} {S : Sh} {D : Dy} (hF : FM S) {a1 : Int32} {post : Int32 → Dy → Prop} (E : fX12_model a1 D post) : Ct l G yX12_model cX12_model 3 (some .int) 8 0 0 S D [.ref (G.1 + 33), .int a1] (PI S post) := by
  refine z_enter (lv0 := [(0, .ref (G.1 + 33)), (1, .int a1)]) pl_12 (Nat.le_of_ble_eq_true rfl) rfl ?_
  intro p e s m args below meth c hC hnm
  unfold fX12_model at E
  refine z_aload_n hC dX12_model_0 rfl 0 rfl ?_
  refine z_iload_n hC dX12_model_1 rfl 1 rfl ?_
  refine z_iconst (v := 0) hC dX12_model_2 rfl ?_
  refine z_iconst (v := 5) hC dX12_model_3 rfl ?_
  refine z_callV (ci := 12) (rest := []) hC (ck_mk lk_X12_178 in_X12_in cd_X12_in ds_X12_in (Nat.le_of_ble_eq_true rfl) (Nat.le_of_ble_eq_true rfl)) iy_X12_in sy_X12_in cf_12 (by decide) (kM_33 hF) (ct_X12_in hF E) rfl rfl (Nat.le_of_ble_eq_true rfl) ⟨Nat.le_refl _, Nat.le_refl _⟩ dX12_model_4 ?_
  rintro _ _ _ ⟨v2, rfl, rfl, rfl, E⟩
  refine z_if_ne (tgt := 12) hC dX12_model_7 (by decide) (fun c6 => ?_) (fun c6 => ?_)
  · replace E := E.1 c6
    refine z_aload_n hC dX12_model_12 rfl 0 rfl ?_
    refine z_get hC lf_X12_50_12 (kM_33 hF) dX12_model_13 (fV_int rfl) ?_
    refine z_bipush (v := 10) hC dX12_model_16 rfl ?_
    refine z_icmp_ne (tgt := 24) hC dX12_model_18 (by decide) (fun c7 => ?_) (fun c7 => ?_)
    · replace E := E.1 c7
      refine z_aload_n hC dX12_model_24 rfl 0 rfl ?_
      refine z_get hC lf_X12_62_12 (kM_33 hF) dX12_model_25 (fV_ref rfl (rM_33_17 hF)) ?_
      refine z_bipush (v := 10) hC dX12_model_28 rfl ?_
      refine z_aload_n hC dX12_model_30 rfl 0 rfl ?_
      refine z_get hC lf_X12_53_12 (kM_33 hF) dX12_model_31 (fV_int rfl) ?_
      refine z_iast hC (kM_45 hF) (nM_45 hF) E.1 dX12_model_34 ?_
      replace E := E.2
      refine z_topD (fun D8 h9 => ?_)
      replace E := E D8 h9
      refine z_aload_n hC dX12_model_35 rfl 0 rfl ?_
      refine z_iconst (v := 0) hC dX12_model_36 rfl ?_
      refine z_puti hC lf_X12_53_12 rfl (kM_33 hF) dX12_model_37 ?_
      refine z_topD (fun D10 h11 => ?_)
      replace E := E D10 h11
      refine z_aload_n hC dX12_model_40 rfl 0 rfl ?_
      refine z_iconst (v := 0) hC dX12_model_41 rfl ?_
      refine z_puti hC lf_X12_111_12 rfl (kM_33 hF) dX12_model_42 ?_
      refine z_topD (fun D12 h13 => ?_)
      replace E := E D12 h13
      refine z_aload_n hC dX12_model_45 rfl 0 rfl ?_
      refine z_bipush (v := 10) hC dX12_model_46 rfl ?_
      refine z_callV (ci := 12) (rest := []) hC (ck_mk lk_X12_255 in_X12_goes cd_X12_goes ds_X12_goes (Nat.le_of_ble_eq_true rfl) (Nat.le_of_ble_eq_true rfl)) iy_X12_goes sy_X12_goes cf_12 (by decide) (kM_33 hF) (ct_X12_goes hF E) rfl rfl (Nat.le_of_ble_eq_true rfl) ⟨Nat.le_refl _, Nat.le_refl _⟩ dX12_model_48 ?_
      rintro _ _ D19 ⟨v15, rfl, rfl, E⟩
      refine z_if_ne (tgt := 62) hC dX12_model_51 (by decide) (fun c20 => ?_) (fun c20 => ?_)
      · replace E := E.1 c20
        refine z_aload_n hC dX12_model_62 rfl 0 rfl ?_
        refine z_get hC lf_X12_62_12 (kM_33 hF) dX12_model_63 (fV_ref rfl (rM_33_17 hF)) ?_
        refine z_aload_n hC dX12_model_66 rfl 0 rfl ?_
        refine z_get hC lf_X12_50_12 (kM_33 hF) dX12_model_67 (fV_int rfl) ?_
        refine z_aload_n hC dX12_model_70 rfl 0 rfl ?_
        refine z_get hC lf_X12_62_12 (kM_33 hF) dX12_model_71 (fV_ref rfl (rM_33_17 hF)) ?_
        refine z_bipush (v := 10) hC dX12_model_74 rfl ?_
        refine z_iald hC (kM_45 hF) (nM_45 hF) E.1 dX12_model_76 ?_
        replace E := E.2
        refine z_iast hC (kM_45 hF) (nM_45 hF) E.1 dX12_model_77 ?_
        replace E := E.2
        refine z_topD (fun D21 h22 => ?_)
        replace E := E D21 h22
        refine z_iconst (v := 0) hC dX12_model_78 rfl ?_
        refine z_istore_n (lv' := [(2, .int (0 : Int32)), (0, .ref (G.1 + 33)), (1, .int a1)]) hC dX12_model_79 rfl (Nat.le_of_ble_eq_true rfl) rfl ?_
        refine z_sub [1, 2, 0] rfl ?_
        refine LP2_use (fun (v23 : Int32) (D24 : Dy) => ZM l G p e s m args below meth c 3 8 S (PI S post) S D24 80 [(0, .ref (G.1 + 33)), (1, .int a1), (2, .int v23)] []) ?_ FU (0 : Int32) D21 E
        intro rec25 hrec26 v23 D24 E
        refine z_iload_n hC dX12_model_80 rfl 2 rfl ?_
        refine z_aload_n hC dX12_model_81 rfl 0 rfl ?_
        refine z_get hC lf_X12_62_12 (kM_33 hF) dX12_model_82 (fV_ref rfl (rM_33_17 hF)) ?_
        refine z_bipush (v := 10) hC dX12_model_85 rfl ?_
        refine z_iald hC (kM_45 hF) (nM_45 hF) E.1 dX12_model_87 ?_
        replace E := E.2
        refine z_icmp_ge (tgt := 121) hC dX12_model_88 (by decide) (fun c27 => ?_) (fun c27 => ?_)
        · replace E := E.1 c27
          refine z_aload_n hC dX12_model_121 rfl 0 rfl ?_
          refine z_get hC lf_X12_56_12 (kM_33 hF) dX12_model_122 (fV_ref rfl (rM_33_15 hF)) ?_
          refine z_aload_n hC dX12_model_125 rfl 0 rfl ?_
          refine z_get hC lf_X12_50_12 (kM_33 hF) dX12_model_126 (fV_int rfl) ?_
          refine z_iload_n hC dX12_model_129 rfl 1 rfl ?_
          refine z_iast hC (kM_43 hF) (nM_43 hF) E.1 dX12_model_130 ?_
          replace E := E.2
          refine z_topD (fun D28 h29 => ?_)
          replace E := E D28 h29
          refine z_aload_n hC dX12_model_131 rfl 0 rfl ?_
          refine z_get hC lf_X12_65_12 (kM_33 hF) dX12_model_132 (fV_ref rfl (rM_33_18 hF)) ?_
          refine z_aload_n hC dX12_model_135 rfl 0 rfl ?_
          refine z_get hC lf_X12_50_12 (kM_33 hF) dX12_model_136 (fV_int rfl) ?_
          refine z_aload_n hC dX12_model_139 rfl 0 rfl ?_
          refine z_get hC lf_X12_77_12 (kM_33 hF) dX12_model_140 (fV_int rfl) ?_
          refine z_iast hC (kM_46 hF) (nM_46 hF) E.1 dX12_model_143 ?_
          replace E := E.2
          refine z_topD (fun D30 h31 => ?_)
          replace E := E D30 h31
          refine z_aload_n hC dX12_model_144 rfl 0 rfl ?_
          refine z_dup hC dX12_model_145 rfl ?_
          refine z_get hC lf_X12_50_12 (kM_33 hF) dX12_model_146 (fV_int rfl) ?_
          refine z_iconst (v := 1) hC dX12_model_149 rfl ?_
          refine z_iadd hC dX12_model_150 ?_
          refine z_puti hC lf_X12_50_12 rfl (kM_33 hF) dX12_model_151 ?_
          refine z_topD (fun D32 h33 => ?_)
          replace E := E D32 h33
          refine z_aload_n hC dX12_model_154 rfl 0 rfl ?_
          refine z_get hC lf_X12_50_12 (kM_33 hF) dX12_model_155 (fV_int rfl) ?_
          refine z_iconst (v := 1) hC dX12_model_158 rfl ?_
          refine z_isub hC dX12_model_159 ?_
          exact z_iret hC dX12_model_160 (Nat.le_refl _) (Nat.le_refl _) ⟨_, rfl, rfl, E⟩
        · replace E := E.2 c27
          refine z_aload_n hC dX12_model_91 rfl 0 rfl ?_
          refine z_get hC lf_X12_59_12 (kM_33 hF) dX12_model_92 (fV_ref rfl (rM_33_16 hF)) ?_
          refine z_bipush (v := 120) hC dX12_model_95 rfl ?_
          refine z_aload_n hC dX12_model_97 rfl 0 rfl ?_
          refine z_get hC lf_X12_50_12 (kM_33 hF) dX12_model_98 (fV_int rfl) ?_
          refine z_imul hC dX12_model_101 ?_
          refine z_iload_n hC dX12_model_102 rfl 2 rfl ?_
          refine z_iadd hC dX12_model_103 ?_
          refine z_aload_n hC dX12_model_104 rfl 0 rfl ?_
          refine z_get hC lf_X12_59_12 (kM_33 hF) dX12_model_105 (fV_ref rfl (rM_33_16 hF)) ?_
          refine z_sipush (v := 1200) hC dX12_model_108 rfl ?_
          refine z_iload_n hC dX12_model_111 rfl 2 rfl ?_
          refine z_iadd hC dX12_model_112 ?_
          refine z_iald hC (kM_44 hF) (nM_44 hF) E.1 dX12_model_113 ?_
          replace E := E.2
          refine z_iast hC (kM_44 hF) (nM_44 hF) E.1 dX12_model_114 ?_
          replace E := E.2
          refine z_topD (fun D34 h35 => ?_)
          replace E := E D34 h35
          obtain ⟨v36, h37⟩ : ∃ y : Int32, y = v23 + 1 := ⟨_, rfl⟩
          replace E := E v36 h37
          refine z_iinc (q := 2) (v := v36) (lv' := [(2, .int v36), (0, .ref (G.1 + 33)), (1, .int a1)]) hC dX12_model_115 rfl (by rw [h37]; rfl) (Nat.le_of_ble_eq_true rfl) rfl ?_
          refine z_goto (tgt := 80) hC dX12_model_118 (by decide) ?_
          refine z_sub [1, 2, 0] rfl ?_
          exact hrec26 v36 D34 E
      · replace E := E.2 c20
        refine z_bipush (v := -10) hC dX12_model_54 rfl ?_
        refine z_aload_n hC dX12_model_56 rfl 0 rfl ?_
        refine z_get hC lf_X12_74_12 (kM_33 hF) dX12_model_57 (fV_int rfl) ?_
        refine z_isub hC dX12_model_60 ?_
        exact z_iret hC dX12_model_61 (Nat.le_refl _) (Nat.le_refl _) ⟨_, rfl, rfl, E⟩
    · replace E := E.2 c7
      refine z_bipush (v := -4) hC dX12_model_21 rfl ?_
      exact z_iret hC dX12_model_23 (Nat.le_refl _) (Nat.le_refl _) ⟨_, rfl, rfl, E⟩
  · replace E := E.2 c6
    refine z_iconst (v := -1) hC dX12_model_10 rfl ?_
    exact z_iret hC dX12_model_11 (Nat.le_refl _) (Nat.le_refl _) ⟨_, rfl, rfl, E⟩
def fX12_wouldOf (a1 : Int32) (a2 : Int32) (D : Dy) (post : Int32 → Dy → Prop) : Prop :=
  (fX12_findAgreeing a1 D (fun (D6 : Dy) => (LP2 (fun (rec9 : Int32 → Int32 → Prop) (v7 : Int32) (v8 : Int32) => (fX12_orders D6 (fun (v11 : Int32) => ((v11 ≤ v8 → post v7 D6) ∧ (¬ v11 ≤ v8 → (vp_in (((5040 : Int32) * a1) + v8) 80640 ∧ (JN (fun (v17 : Int32) => (∀ v20 : Int32, v20 = v8 + 1 → (rec9 v17 v20))) (fun K18 : Int32 → Prop => (((D6.1 57 ((((5040 : Int32) * a1) + v8)).toNatClampNeg) = 0 → (K18 v7)) ∧ (¬ (D6.1 57 ((((5040 : Int32) * a1) + v8)).toNatClampNeg) = 0 → (fX12_takenFrom v8 a2 D6 (fun (v23 : Int32) => (∀ v28 : Int32, v28 = (v7 ||| ((1 : Int32) <<< (v23 &&& 31))) → (K18 v28)))))))))))))) FU (0 : Int32) (0 : Int32))))
set_option maxHeartbeats 4000000 in
set_option maxRecDepth 100000 in
theorem ct_X12_wouldOf {l : Launch} {G : Gl} {S : Sh} {D : Dy} (hF : FM S) {a1 : Int32} {a2 : Int32} {post : Int32 → Dy → Prop} (E : fX12_wouldOf a1 a2 D post) : Ct l G yX12_wouldOf cX12_wouldOf 5 (some .int) 4 0 0 S D [.ref (G.1 + 33), .int a1, .int a2] (PI S post) := by
  refine z_enter (lv0 := [(0, .ref (G.1 + 33)), (1, .int a1), (2, .int a2)]) pl_12 (Nat.le_of_ble_eq_true rfl) rfl ?_
  intro p e s m args below meth c hC hnm
  unfold fX12_wouldOf at E
  refine z_aload_n hC dX12_wouldOf_0 rfl 0 rfl ?_
  refine z_iload_n hC dX12_wouldOf_1 rfl 1 rfl ?_
  refine z_callV (ci := 12) (rest := []) hC (ck_mk lk_X12_329 in_X12_findAgreeing cd_X12_findAgreeing ds_X12_findAgreeing (Nat.le_of_ble_eq_true rfl) (Nat.le_of_ble_eq_true rfl)) iy_X12_findAgreeing sy_X12_findAgreeing cf_12 (by decide) (kM_33 hF) (ct_X12_findAgreeing hF E) rfl rfl (Nat.le_of_ble_eq_true rfl) ⟨Nat.le_refl _, Nat.le_refl _⟩ dX12_wouldOf_2 ?_
  rintro _ _ D6 ⟨rfl, rfl, E⟩
  refine z_iconst (v := 0) hC dX12_wouldOf_5 rfl ?_
  refine z_istore_n (lv' := [(3, .int (0 : Int32)), (0, .ref (G.1 + 33)), (1, .int a1), (2, .int a2)]) hC dX12_wouldOf_6 rfl (Nat.le_of_ble_eq_true rfl) rfl ?_
  refine z_iconst (v := 0) hC dX12_wouldOf_7 rfl ?_
  refine z_istore (lv' := [(4, .int (0 : Int32)), (3, .int (0 : Int32)), (0, .ref (G.1 + 33)), (1, .int a1), (2, .int a2)]) hC dX12_wouldOf_8 (Nat.le_of_ble_eq_true rfl) rfl ?_
  refine z_sub [2, 3, 4, 1, 0] rfl ?_
  refine LP2_use (fun (v7 : Int32) (v8 : Int32) => ZM l G p e s m args below meth c 5 4 S (PI S post) S D6 10 [(0, .ref (G.1 + 33)), (1, .int a1), (2, .int a2), (3, .int v7), (4, .int v8)] []) ?_ FU (0 : Int32) (0 : Int32) E
  intro rec9 hrec10 v7 v8 E
  refine z_iload hC dX12_wouldOf_10 4 rfl ?_
  refine z_aload_n hC dX12_wouldOf_12 rfl 0 rfl ?_
  refine z_callV (ci := 12) (rest := [.int v8]) hC (ck_mk lk_X12_314 in_X12_orders cd_X12_orders ds_X12_orders (Nat.le_of_ble_eq_true rfl) (Nat.le_of_ble_eq_true rfl)) iy_X12_orders sy_X12_orders cf_12 (by decide) (kM_33 hF) (ct_X12_orders hF E) rfl rfl (Nat.le_of_ble_eq_true rfl) ⟨Nat.le_refl _, Nat.le_refl _⟩ dX12_wouldOf_13 ?_
  rintro _ _ _ ⟨v11, rfl, rfl, rfl, E⟩
  refine z_icmp_ge (tgt := 53) hC dX12_wouldOf_16 (by decide) (fun c16 => ?_) (fun c16 => ?_)
  · replace E := E.1 c16
    refine z_iload_n hC dX12_wouldOf_53 rfl 3 rfl ?_
    exact z_iret hC dX12_wouldOf_54 (Nat.le_refl _) (Nat.le_refl _) ⟨_, rfl, rfl, E⟩
  · replace E := E.2 c16
    refine z_aload_n hC dX12_wouldOf_19 rfl 0 rfl ?_
    refine z_get hC lf_X12_147_12 (kM_33 hF) dX12_wouldOf_20 (fV_ref rfl (rM_33_44 hF)) ?_
    refine z_sipush (v := 5040) hC dX12_wouldOf_23 rfl ?_
    refine z_iload_n hC dX12_wouldOf_26 rfl 1 rfl ?_
    refine z_imul hC dX12_wouldOf_27 ?_
    refine z_iload hC dX12_wouldOf_28 4 rfl ?_
    refine z_iadd hC dX12_wouldOf_30 ?_
    refine z_zald hC (kM_57 hF) (nM_57 hF) E.1 dX12_wouldOf_31 ?_
    replace E := E.2
    obtain ⟨K18, hK19, EE⟩ := JN_use E (fun K18 : Int32 → Prop => ∀ (v17 : Int32), K18 v17 → ZM l G p e s m args below meth c 5 4 S (PI S post) S D6 47 [(0, .ref (G.1 + 33)), (1, .int a1), (2, .int a2), (3, .int v17), (4, .int v8)] []) (by
      intro v17 E
      obtain ⟨v20, h21⟩ : ∃ y : Int32, y = v8 + 1 := ⟨_, rfl⟩
      replace E := E v20 h21
      refine z_iinc (q := 4) (v := v20) (lv' := [(4, .int v20), (0, .ref (G.1 + 33)), (1, .int a1), (2, .int a2), (3, .int v17)]) hC dX12_wouldOf_47 rfl (by rw [h21]; rfl) (Nat.le_of_ble_eq_true rfl) rfl ?_
      refine z_goto (tgt := 10) hC dX12_wouldOf_50 (by decide) ?_
      refine z_sub [1, 2, 3, 4, 0] rfl ?_
      exact hrec10 v17 v20 E)
    replace E := EE
    clear EE
    refine z_if_eq (tgt := 47) hC dX12_wouldOf_32 (by decide) (fun c22 => ?_) (fun c22 => ?_)
    · replace E := E.1 c22
      exact hK19 v7 E
    · replace E := E.2 c22
      refine z_iload_n hC dX12_wouldOf_35 rfl 3 rfl ?_
      refine z_iconst (v := 1) hC dX12_wouldOf_36 rfl ?_
      refine z_aload_n hC dX12_wouldOf_37 rfl 0 rfl ?_
      refine z_iload hC dX12_wouldOf_38 4 rfl ?_
      refine z_iload_n hC dX12_wouldOf_40 rfl 2 rfl ?_
      refine z_callV (ci := 12) (rest := [.int (1 : Int32), .int v7]) hC (ck_mk lk_X12_320 in_X12_takenFrom cd_X12_takenFrom ds_X12_takenFrom (Nat.le_of_ble_eq_true rfl) (Nat.le_of_ble_eq_true rfl)) iy_X12_takenFrom sy_X12_takenFrom cf_12 (by decide) (kM_33 hF) (ct_X12_takenFrom hF E) rfl rfl (Nat.le_of_ble_eq_true rfl) ⟨Nat.le_refl _, Nat.le_refl _⟩ dX12_wouldOf_41 ?_
      rintro _ _ _ ⟨v23, rfl, rfl, rfl, E⟩
      refine z_ishl hC dX12_wouldOf_44 ?_
      refine z_ior hC dX12_wouldOf_45 ?_
      refine z_topi (fun v28 h29 => ?_)
      replace E := E v28 h29
      refine z_istore_n (lv' := [(3, .int v28), (0, .ref (G.1 + 33)), (1, .int a1), (2, .int a2), (4, .int v8)]) hC dX12_wouldOf_46 rfl (Nat.le_of_ble_eq_true rfl) rfl ?_
      refine z_sub [1, 2, 3, 0, 4] rfl ?_
      exact hK19 v28 E
def fX12_must (a1 : Int32) (a2 : Int32) (a3 : Int32) (D : Dy) (post : Int32 → Dy → Prop) : Prop :=
  (fX12_isThing a1 D (fun (v2 : Int32) => ((v2 = 0 → post (-1 : Int32) D) ∧ (¬ v2 = 0 → (fX12_in a3 (0 : Int32) (1 : Int32) (fun (v8 : Int32) => ((¬ v8 = 0 → (fX12_isSet a2 D (fun (v14 : Int32) => ((v14 = 0 → post (-2 : Int32) D) ∧ (¬ v14 = 0 → (fX12_has a2 a1 (fun (v20 : Int32) => ((¬ v20 = 0 → (LP3 (fun (rec28 : Int32 → Int32 → Dy → Prop) (v25 : Int32) (v26 : Int32) (D27 : Dy) => (((D27.1 33 1) ≤ v26 → post v25 D27) ∧ (¬ (D27.1 33 1) ≤ v26 → (fX12_wouldOf v26 a2 D27 (fun (v31 : Int32) (D36 : Dy) => (JN (fun (v37 : Int32) => (∀ v40 : Int32, v40 = (v25 + v37) → (∀ v42 : Int32, v42 = v26 + 1 → (rec28 v40 v42 D36)))) (fun K38 : Int32 → Prop => ((¬ a3 = 0 → (K38 ((v31 >>> (a1 &&& 31)) &&& (1 : Int32)))) ∧ (a3 = 0 → ((¬ v31 = ((1 : Int32) <<< (a1 &&& 31)) → (K38 (0 : Int32))) ∧ (v31 = ((1 : Int32) <<< (a1 &&& 31)) → (K38 (1 : Int32))))))))))))) FU (0 : Int32) (0 : Int32) D)) ∧ (v20 = 0 → post (-2 : Int32) D))))))))) ∧ (v8 = 0 → post (-1 : Int32) D))))))))
set_option maxHeartbeats 4000000 in
set_option maxRecDepth 100000 in
theorem ct_X12_must {l : Launch} {G : Gl} {S : Sh} {D : Dy} (hF : FM S) {a1 : Int32} {a2 : Int32} {a3 : Int32} {post : Int32 → Dy → Prop} (E : fX12_must a1 a2 a3 D post) : Ct l G yX12_must cX12_must 7 (some .int) 5 0 0 S D [.ref (G.1 + 33), .int a1, .int a2, .int a3] (PI S post) := by
  refine z_enter (lv0 := [(0, .ref (G.1 + 33)), (1, .int a1), (2, .int a2), (3, .int a3)]) pl_12 (Nat.le_of_ble_eq_true rfl) rfl ?_
  intro p e s m args below meth c hC hnm
  unfold fX12_must at E
  refine z_aload_n hC dX12_must_0 rfl 0 rfl ?_
  refine z_iload_n hC dX12_must_1 rfl 1 rfl ?_
  refine z_callV (ci := 12) (rest := []) hC (ck_mk lk_X12_182 in_X12_isThing cd_X12_isThing ds_X12_isThing (Nat.le_of_ble_eq_true rfl) (Nat.le_of_ble_eq_true rfl)) iy_X12_isThing sy_X12_isThing cf_12 (by decide) (kM_33 hF) (ct_X12_isThing hF E) rfl rfl (Nat.le_of_ble_eq_true rfl) ⟨Nat.le_refl _, Nat.le_refl _⟩ dX12_must_2 ?_
  rintro _ _ _ ⟨v2, rfl, rfl, rfl, E⟩
  refine z_if_eq (tgt := 18) hC dX12_must_5 (by decide) (fun c6 => ?_) (fun c6 => ?_)
  · replace E := E.1 c6
    refine z_iconst (v := -1) hC dX12_must_18 rfl ?_
    exact z_iret hC dX12_must_19 (Nat.le_refl _) (Nat.le_refl _) ⟨_, rfl, rfl, E⟩
  · replace E := E.2 c6
    refine z_aload_n hC dX12_must_8 rfl 0 rfl ?_
    refine z_iload_n hC dX12_must_9 rfl 3 rfl ?_
    refine z_iconst (v := 0) hC dX12_must_10 rfl ?_
    refine z_iconst (v := 1) hC dX12_must_11 rfl ?_
    refine z_callV (ci := 12) (rest := []) hC (ck_mk lk_X12_178 in_X12_in cd_X12_in ds_X12_in (Nat.le_of_ble_eq_true rfl) (Nat.le_of_ble_eq_true rfl)) iy_X12_in sy_X12_in cf_12 (by decide) (kM_33 hF) (ct_X12_in hF E) rfl rfl (Nat.le_of_ble_eq_true rfl) ⟨Nat.le_refl _, Nat.le_refl _⟩ dX12_must_12 ?_
    rintro _ _ _ ⟨v8, rfl, rfl, rfl, E⟩
    refine z_if_ne (tgt := 20) hC dX12_must_15 (by decide) (fun c12 => ?_) (fun c12 => ?_)
    · replace E := E.1 c12
      refine z_aload_n hC dX12_must_20 rfl 0 rfl ?_
      refine z_iload_n hC dX12_must_21 rfl 2 rfl ?_
      refine z_callV (ci := 12) (rest := []) hC (ck_mk lk_X12_189 in_X12_isSet cd_X12_isSet ds_X12_isSet (Nat.le_of_ble_eq_true rfl) (Nat.le_of_ble_eq_true rfl)) iy_X12_isSet sy_X12_isSet cf_12 (by decide) (kM_33 hF) (ct_X12_isSet hF E) rfl rfl (Nat.le_of_ble_eq_true rfl) ⟨Nat.le_refl _, Nat.le_refl _⟩ dX12_must_22 ?_
      rintro _ _ _ ⟨v14, rfl, rfl, rfl, E⟩
      refine z_if_eq (tgt := 37) hC dX12_must_25 (by decide) (fun c18 => ?_) (fun c18 => ?_)
      · replace E := E.1 c18
        refine z_bipush (v := -2) hC dX12_must_37 rfl ?_
        exact z_iret hC dX12_must_39 (Nat.le_refl _) (Nat.le_refl _) ⟨_, rfl, rfl, E⟩
      · replace E := E.2 c18
        refine z_aload_n hC dX12_must_28 rfl 0 rfl ?_
        refine z_iload_n hC dX12_must_29 rfl 2 rfl ?_
        refine z_iload_n hC dX12_must_30 rfl 1 rfl ?_
        refine z_callV (ci := 12) (rest := []) hC (ck_mk lk_X12_192 in_X12_has cd_X12_has ds_X12_has (Nat.le_of_ble_eq_true rfl) (Nat.le_of_ble_eq_true rfl)) iy_X12_has sy_X12_has cf_12 (by decide) (kM_33 hF) (ct_X12_has hF E) rfl rfl (Nat.le_of_ble_eq_true rfl) ⟨Nat.le_refl _, Nat.le_refl _⟩ dX12_must_31 ?_
        rintro _ _ _ ⟨v20, rfl, rfl, rfl, E⟩
        refine z_if_ne (tgt := 40) hC dX12_must_34 (by decide) (fun c24 => ?_) (fun c24 => ?_)
        · replace E := E.1 c24
          refine z_iconst (v := 0) hC dX12_must_40 rfl ?_
          refine z_istore (lv' := [(4, .int (0 : Int32)), (0, .ref (G.1 + 33)), (1, .int a1), (2, .int a2), (3, .int a3)]) hC dX12_must_41 (Nat.le_of_ble_eq_true rfl) rfl ?_
          refine z_iconst (v := 0) hC dX12_must_43 rfl ?_
          refine z_istore (lv' := [(5, .int (0 : Int32)), (4, .int (0 : Int32)), (0, .ref (G.1 + 33)), (1, .int a1), (2, .int a2), (3, .int a3)]) hC dX12_must_44 (Nat.le_of_ble_eq_true rfl) rfl ?_
          refine z_sub [2, 3, 4, 5, 1, 0] rfl ?_
          refine LP3_use (fun (v25 : Int32) (v26 : Int32) (D27 : Dy) => ZM l G p e s m args below meth c 7 5 S (PI S post) S D27 46 [(0, .ref (G.1 + 33)), (1, .int a1), (2, .int a2), (3, .int a3), (4, .int v25), (5, .int v26)] []) ?_ FU (0 : Int32) (0 : Int32) D E
          intro rec28 hrec29 v25 v26 D27 E
          refine z_iload hC dX12_must_46 5 rfl ?_
          refine z_aload_n hC dX12_must_48 rfl 0 rfl ?_
          refine z_get hC lf_X12_13_12 (kM_33 hF) dX12_must_49 (fV_int rfl) ?_
          refine z_icmp_ge (tgt := 101) hC dX12_must_52 (by decide) (fun c30 => ?_) (fun c30 => ?_)
          · replace E := E.1 c30
            refine z_iload hC dX12_must_101 4 rfl ?_
            exact z_iret hC dX12_must_103 (Nat.le_refl _) (Nat.le_refl _) ⟨_, rfl, rfl, E⟩
          · replace E := E.2 c30
            refine z_aload_n hC dX12_must_55 rfl 0 rfl ?_
            refine z_iload hC dX12_must_56 5 rfl ?_
            refine z_iload_n hC dX12_must_58 rfl 2 rfl ?_
            refine z_callV (ci := 12) (rest := []) hC (ck_mk lk_X12_332 in_X12_wouldOf cd_X12_wouldOf ds_X12_wouldOf (Nat.le_of_ble_eq_true rfl) (Nat.le_of_ble_eq_true rfl)) iy_X12_wouldOf sy_X12_wouldOf cf_12 (by decide) (kM_33 hF) (ct_X12_wouldOf hF E) rfl rfl (Nat.le_of_ble_eq_true rfl) ⟨Nat.le_refl _, Nat.le_refl _⟩ dX12_must_59 ?_
            rintro _ _ D36 ⟨v31, rfl, rfl, E⟩
            refine z_istore (lv' := [(6, .int v31), (0, .ref (G.1 + 33)), (1, .int a1), (2, .int a2), (3, .int a3), (4, .int v25), (5, .int v26)]) hC dX12_must_62 (Nat.le_of_ble_eq_true rfl) rfl ?_
            refine z_iload hC dX12_must_64 5 rfl ?_
            refine z_iload_n hC dX12_must_66 rfl 4 rfl ?_
            obtain ⟨K38, hK39, EE⟩ := JN_use E (fun K38 : Int32 → Prop => ∀ (v37 : Int32), K38 v37 → ZM l G p e s m args below meth c 7 5 S (PI S post) S D36 92 [(0, .ref (G.1 + 33)), (1, .int a1), (2, .int a2), (3, .int a3), (5, .int v26)] [.int v37, .int v25]) (by
              intro v37 E
              refine z_iadd hC dX12_must_92 ?_
              refine z_topi (fun v40 h41 => ?_)
              replace E := E v40 h41
              refine z_istore (lv' := [(4, .int v40), (0, .ref (G.1 + 33)), (1, .int a1), (2, .int a2), (3, .int a3), (5, .int v26)]) hC dX12_must_93 (Nat.le_of_ble_eq_true rfl) rfl ?_
              obtain ⟨v42, h43⟩ : ∃ y : Int32, y = v26 + 1 := ⟨_, rfl⟩
              replace E := E v42 h43
              refine z_iinc (q := 5) (v := v42) (lv' := [(5, .int v42), (4, .int v40), (0, .ref (G.1 + 33)), (1, .int a1), (2, .int a2), (3, .int a3)]) hC dX12_must_95 rfl (by rw [h43]; rfl) (Nat.le_of_ble_eq_true rfl) rfl ?_
              refine z_goto (tgt := 46) hC dX12_must_98 (by decide) ?_
              refine z_sub [2, 3, 4, 5, 1, 0] rfl ?_
              exact hrec29 v40 v42 D36 E)
            replace E := EE
            clear EE
            refine z_if_ne (tgt := 86) hC dX12_must_67 (by decide) (fun c44 => ?_) (fun c44 => ?_)
            · replace E := E.1 c44
              refine z_iload hC dX12_must_86 0 rfl ?_
              refine z_iload_n hC dX12_must_88 rfl 2 rfl ?_
              refine z_ishr hC dX12_must_89 ?_
              refine z_iconst (v := 1) hC dX12_must_90 rfl ?_
              refine z_iand hC dX12_must_91 ?_
              refine z_sub [1, 2, 3, 4, 6] rfl ?_
              exact hK39 ((v31 >>> (a1 &&& 31)) &&& (1 : Int32)) E
            · replace E := E.2 c44
              refine z_iload hC dX12_must_70 0 rfl ?_
              refine z_iconst (v := 1) hC dX12_must_72 rfl ?_
              refine z_iload_n hC dX12_must_73 rfl 2 rfl ?_
              refine z_ishl hC dX12_must_74 ?_
              refine z_icmp_ne (tgt := 82) hC dX12_must_75 (by decide) (fun c45 => ?_) (fun c45 => ?_)
              · replace E := E.1 c45
                refine z_iconst (v := 0) hC dX12_must_82 rfl ?_
                refine z_goto (tgt := 92) hC dX12_must_83 (by decide) ?_
                refine z_sub [1, 2, 3, 4, 6] rfl ?_
                exact hK39 (0 : Int32) E
              · replace E := E.2 c45
                refine z_iconst (v := 1) hC dX12_must_78 rfl ?_
                refine z_goto (tgt := 92) hC dX12_must_79 (by decide) ?_
                refine z_sub [1, 2, 3, 4, 6] rfl ?_
                exact hK39 (1 : Int32) E
        · replace E := E.2 c24
          refine z_bipush (v := -2) hC dX12_must_37 rfl ?_
          exact z_iret hC dX12_must_39 (Nat.le_refl _) (Nat.le_refl _) ⟨_, rfl, rfl, E⟩
    · replace E := E.2 c12
      refine z_iconst (v := -1) hC dX12_must_18 rfl ?_
      exact z_iret hC dX12_must_19 (Nat.le_refl _) (Nat.le_refl _) ⟨_, rfl, rfl, E⟩
def fX12_next (a1 : Int32) (D : Dy) (post : Int32 → Dy → Prop) : Prop :=
  (fX12_isTaker a1 D (fun (v2 : Int32) => ((¬ v2 = 0 → (LP2 (fun (rec9 : Int32 → Dy → Prop) (v7 : Int32) (D8 : Dy) => (((80 : Int32) ≤ v7 → (fX12_findAgreeing a1 D8 (fun (D17 : Dy) => (LP3 (fun (rec21 : Int32 → Int32 → Dy → Prop) (v18 : Int32) (v19 : Int32) (D20 : Dy) => (fX12_orders D20 (fun (v23 : Int32) => ((v23 ≤ v19 → (LP3 (fun (rec32 : Int32 → Int32 → Int32 → Prop) (v29 : Int32) (v30 : Int32) (v31 : Int32) => (((D20.1 33 3) ≤ v31 → post v29 D20) ∧ (¬ (D20.1 33 3) ≤ v31 → ((v18 ≤ 0 → post v29 D20) ∧ (¬ v18 ≤ 0 → (LP2 (fun (rec38 : Int32 → Int32 → Prop) (v36 : Int32) (v37 : Int32) => (((8 : Int32) ≤ v37 → (JN (fun (v41 : Int32) (v42 : Int32) => (∀ v45 : Int32, v45 = v31 + 1 → (rec32 v41 v42 v45))) (fun K43 : Int32 → Int32 → Prop => (JN ((K43 v31 v36)) (fun K47 : Prop => ((v29 = (-5 : Int32) → K47) ∧ (¬ v29 = (-5 : Int32) → ((v36 < v30 → K47) ∧ (¬ v36 < v30 → (K43 v29 v30)))))))))) ∧ (¬ (8 : Int32) ≤ v37 → (vp_in (((8 : Int32) * v31) + v37) 80 ∧ (JN (fun (v51 : Int32) => (∀ v54 : Int32, v54 = v37 + 1 → (rec38 v51 v54))) (fun K52 : Int32 → Prop => (((D20.1 59 ((((8 : Int32) * v31) + v37)).toNatClampNeg) ≤ v36 → (K52 v36)) ∧ (¬ (D20.1 59 ((((8 : Int32) * v31) + v37)).toNatClampNeg) ≤ v36 → (vp_in (((8 : Int32) * v31) + v37) 80 ∧ (K52 (D20.1 59 ((((8 : Int32) * v31) + v37)).toNatClampNeg))))))))))) FU (0 : Int32) (0 : Int32))))))) FU (-5 : Int32) (0 : Int32) (0 : Int32))) ∧ (¬ v23 ≤ v19 → (vp_in (((5040 : Int32) * a1) + v19) 80640 ∧ (JN (fun (v57 : Int32) (D58 : Dy) => (∀ v61 : Int32, v61 = v19 + 1 → (rec21 v57 v61 D58))) (fun K59 : Int32 → Dy → Prop => ((¬ (D20.1 57 ((((5040 : Int32) * a1) + v19)).toNatClampNeg) = 0 → (∀ v64 : Int32, v64 = v18 + 1 → (LP2 (fun (rec68 : Int32 → Dy → Prop) (v66 : Int32) (D67 : Dy) => (((D67.1 33 3) ≤ v66 → (K59 v64 D67)) ∧ (¬ (D67.1 33 3) ≤ v66 → (vp_in v66 10 ∧ (fX12_takenFrom v19 (D67.1 42 (v66).toNatClampNeg) D67 (fun (v71 : Int32) => (∀ v76 : Int32, v76 = (((8 : Int32) * v66) + v71) → (vp_in v76 80 ∧ (vp_in v76 80 ∧ (∀ D78 : Dy, D78 = sI D67 59 (v76).toNatClampNeg ((D67.1 59 (v76).toNatClampNeg) + (1 : Int32)) → (∀ v80 : Int32, v80 = v66 + 1 → (rec68 v80 D78)))))))))))) FU (0 : Int32) D20))) ∧ ((D20.1 57 ((((5040 : Int32) * a1) + v19)).toNatClampNeg) = 0 → (K59 v18 D20))))))))))) FU (0 : Int32) (0 : Int32) D17)))) ∧ (¬ (80 : Int32) ≤ v7 → (vp_in v7 80 ∧ (∀ D82 : Dy, D82 = sI D8 59 (v7).toNatClampNeg (0 : Int32) → (∀ v84 : Int32, v84 = v7 + 1 → (rec9 v84 D82))))))) FU (0 : Int32) D)) ∧ (v2 = 0 → post (-1 : Int32) D))))
