set_option maxHeartbeats 4000000 in
set_option maxRecDepth 100000 in
theorem ct_X12_next {l : Launch} {G : Gl} {S : Sh} {D : Dy} (hF : FM S) {a1 : Int32} {post : Int32 → Dy → Prop} (E : fX12_next a1 D post) : Ct l G yX12_next cX12_next 8 (some .int) 4 0 0 S D [.ref (G.1 + 33), .int a1] (PI S post) := by
  refine z_enter (lv0 := [(0, .ref (G.1 + 33)), (1, .int a1)]) pl_12 (Nat.le_of_ble_eq_true rfl) rfl ?_
  intro p e s m args below meth c hC hnm
  unfold fX12_next at E
  refine z_aload_n hC dX12_next_0 rfl 0 rfl ?_
  refine z_iload_n hC dX12_next_1 rfl 1 rfl ?_
  refine z_callV (ci := 12) (rest := []) hC (ck_mk lk_X12_186 in_X12_isTaker cd_X12_isTaker ds_X12_isTaker (Nat.le_of_ble_eq_true rfl) (Nat.le_of_ble_eq_true rfl)) iy_X12_isTaker sy_X12_isTaker cf_12 (by decide) (kM_33 hF) (ct_X12_isTaker hF E) rfl rfl (Nat.le_of_ble_eq_true rfl) ⟨Nat.le_refl _, Nat.le_refl _⟩ dX12_next_2 ?_
  rintro _ _ _ ⟨v2, rfl, rfl, rfl, E⟩
  refine z_if_ne (tgt := 10) hC dX12_next_5 (by decide) (fun c6 => ?_) (fun c6 => ?_)
  · replace E := E.1 c6
    refine z_iconst (v := 0) hC dX12_next_10 rfl ?_
    refine z_istore_n (lv' := [(2, .int (0 : Int32)), (0, .ref (G.1 + 33)), (1, .int a1)]) hC dX12_next_11 rfl (Nat.le_of_ble_eq_true rfl) rfl ?_
    refine z_sub [1, 2, 0] rfl ?_
    refine LP2_use (fun (v7 : Int32) (D8 : Dy) => ZM l G p e s m args below meth c 8 4 S (PI S post) S D8 12 [(0, .ref (G.1 + 33)), (1, .int a1), (2, .int v7)] []) ?_ FU (0 : Int32) D E
    intro rec9 hrec10 v7 D8 E
    refine z_iload_n hC dX12_next_12 rfl 2 rfl ?_
    refine z_bipush (v := 80) hC dX12_next_13 rfl ?_
    refine z_icmp_ge (tgt := 31) hC dX12_next_15 (by decide) (fun c11 => ?_) (fun c11 => ?_)
    · replace E := E.1 c11
      refine z_iconst (v := 0) hC dX12_next_31 rfl ?_
      refine z_istore_n (lv' := [(2, .int (0 : Int32)), (0, .ref (G.1 + 33)), (1, .int a1)]) hC dX12_next_32 rfl (Nat.le_of_ble_eq_true rfl) rfl ?_
      refine z_aload_n hC dX12_next_33 rfl 1 rfl ?_
      refine z_iload_n hC dX12_next_34 rfl 2 rfl ?_
      refine z_callV (ci := 12) (rest := []) hC (ck_mk lk_X12_329 in_X12_findAgreeing cd_X12_findAgreeing ds_X12_findAgreeing (Nat.le_of_ble_eq_true rfl) (Nat.le_of_ble_eq_true rfl)) iy_X12_findAgreeing sy_X12_findAgreeing cf_12 (by decide) (kM_33 hF) (ct_X12_findAgreeing hF E) rfl rfl (Nat.le_of_ble_eq_true rfl) ⟨Nat.le_refl _, Nat.le_refl _⟩ dX12_next_35 ?_
      rintro _ _ D17 ⟨rfl, rfl, E⟩
      refine z_iconst (v := 0) hC dX12_next_38 rfl ?_
      refine z_istore_n (lv' := [(3, .int (0 : Int32)), (2, .int (0 : Int32)), (0, .ref (G.1 + 33)), (1, .int a1)]) hC dX12_next_39 rfl (Nat.le_of_ble_eq_true rfl) rfl ?_
      refine z_sub [2, 3, 1, 0] rfl ?_
      refine LP3_use (fun (v18 : Int32) (v19 : Int32) (D20 : Dy) => ZM l G p e s m args below meth c 8 4 S (PI S post) S D20 40 [(0, .ref (G.1 + 33)), (1, .int a1), (2, .int v18), (3, .int v19)] []) ?_ FU (0 : Int32) (0 : Int32) D17 E
      intro rec21 hrec22 v18 v19 D20 E
      refine z_iload_n hC dX12_next_40 rfl 3 rfl ?_
      refine z_aload_n hC dX12_next_41 rfl 0 rfl ?_
      refine z_callV (ci := 12) (rest := [.int v19]) hC (ck_mk lk_X12_314 in_X12_orders cd_X12_orders ds_X12_orders (Nat.le_of_ble_eq_true rfl) (Nat.le_of_ble_eq_true rfl)) iy_X12_orders sy_X12_orders cf_12 (by decide) (kM_33 hF) (ct_X12_orders hF E) rfl rfl (Nat.le_of_ble_eq_true rfl) ⟨Nat.le_refl _, Nat.le_refl _⟩ dX12_next_42 ?_
      rintro _ _ _ ⟨v23, rfl, rfl, rfl, E⟩
      refine z_icmp_ge (tgt := 120) hC dX12_next_45 (by decide) (fun c28 => ?_) (fun c28 => ?_)
      · replace E := E.1 c28
        refine z_bipush (v := -5) hC dX12_next_120 rfl ?_
        refine z_istore_n (lv' := [(3, .int (-5 : Int32)), (0, .ref (G.1 + 33)), (1, .int a1), (2, .int v18)]) hC dX12_next_122 rfl (Nat.le_of_ble_eq_true rfl) rfl ?_
        refine z_iconst (v := 0) hC dX12_next_123 rfl ?_
        refine z_istore (lv' := [(4, .int (0 : Int32)), (3, .int (-5 : Int32)), (0, .ref (G.1 + 33)), (1, .int a1), (2, .int v18)]) hC dX12_next_124 (Nat.le_of_ble_eq_true rfl) rfl ?_
        refine z_iconst (v := 0) hC dX12_next_126 rfl ?_
        refine z_istore (lv' := [(5, .int (0 : Int32)), (4, .int (0 : Int32)), (3, .int (-5 : Int32)), (0, .ref (G.1 + 33)), (1, .int a1), (2, .int v18)]) hC dX12_next_127 (Nat.le_of_ble_eq_true rfl) rfl ?_
        refine z_sub [3, 5, 2, 1, 0] rfl ?_
        refine LP3_use (fun (v29 : Int32) (v30 : Int32) (v31 : Int32) => ZM l G p e s m args below meth c 8 4 S (PI S post) S D20 129 [(0, .ref (G.1 + 33)), (2, .int v18), (3, .int v29), (4, .int v30), (5, .int v31)] []) ?_ FU (-5 : Int32) (0 : Int32) (0 : Int32) E
        intro rec32 hrec33 v29 v30 v31 E
        refine z_iload hC dX12_next_129 4 rfl ?_
        refine z_aload_n hC dX12_next_131 rfl 0 rfl ?_
        refine z_get hC lf_X12_19_12 (kM_33 hF) dX12_next_132 (fV_int rfl) ?_
        refine z_icmp_ge (tgt := 228) hC dX12_next_135 (by decide) (fun c34 => ?_) (fun c34 => ?_)
        · replace E := E.1 c34
          refine z_iload_n hC dX12_next_228 rfl 2 rfl ?_
          exact z_iret hC dX12_next_229 (Nat.le_refl _) (Nat.le_refl _) ⟨_, rfl, rfl, E⟩
        · replace E := E.2 c34
          refine z_iload_n hC dX12_next_138 rfl 1 rfl ?_
          refine z_if_le (tgt := 228) hC dX12_next_139 (by decide) (fun c35 => ?_) (fun c35 => ?_)
          · replace E := E.1 c35
            refine z_iload_n hC dX12_next_228 rfl 2 rfl ?_
            exact z_iret hC dX12_next_229 (Nat.le_refl _) (Nat.le_refl _) ⟨_, rfl, rfl, E⟩
          · replace E := E.2 c35
            refine z_iconst (v := 0) hC dX12_next_142 rfl ?_
            refine z_istore (lv' := [(6, .int (0 : Int32)), (0, .ref (G.1 + 33)), (2, .int v18), (3, .int v29), (4, .int v30), (5, .int v31)]) hC dX12_next_143 (Nat.le_of_ble_eq_true rfl) rfl ?_
            refine z_iconst (v := 0) hC dX12_next_145 rfl ?_
            refine z_istore (lv' := [(7, .int (0 : Int32)), (6, .int (0 : Int32)), (0, .ref (G.1 + 33)), (2, .int v18), (3, .int v29), (4, .int v30), (5, .int v31)]) hC dX12_next_146 (Nat.le_of_ble_eq_true rfl) rfl ?_
            refine z_sub [2, 3, 4, 5, 6, 1, 0] rfl ?_
            refine LP2_use (fun (v36 : Int32) (v37 : Int32) => ZM l G p e s m args below meth c 8 4 S (PI S post) S D20 148 [(0, .ref (G.1 + 33)), (2, .int v18), (3, .int v29), (4, .int v30), (5, .int v31), (6, .int v36), (7, .int v37)] []) ?_ FU (0 : Int32) (0 : Int32) E
            intro rec38 hrec39 v36 v37 E
            refine z_iload hC dX12_next_148 6 rfl ?_
            refine z_bipush (v := 8) hC dX12_next_150 rfl ?_
            refine z_icmp_ge (tgt := 199) hC dX12_next_152 (by decide) (fun c40 => ?_) (fun c40 => ?_)
            · replace E := E.1 c40
              refine z_iload_n hC dX12_next_199 rfl 2 rfl ?_
              refine z_bipush (v := -5) hC dX12_next_200 rfl ?_
              obtain ⟨K43, hK44, EE⟩ := JN_use E (fun K43 : Int32 → Int32 → Prop => ∀ (v41 : Int32) (v42 : Int32), K43 v41 v42 → ZM l G p e s m args below meth c 8 4 S (PI S post) S D20 222 [(0, .ref (G.1 + 33)), (2, .int v18), (3, .int v41), (4, .int v42), (5, .int v31)] []) (by
                intro v41 v42 E
                obtain ⟨v45, h46⟩ : ∃ y : Int32, y = v31 + 1 := ⟨_, rfl⟩
                replace E := E v45 h46
                refine z_iinc (q := 4) (v := v45) (lv' := [(5, .int v45), (0, .ref (G.1 + 33)), (2, .int v18), (3, .int v41), (4, .int v42)]) hC dX12_next_222 rfl (by rw [h46]; rfl) (Nat.le_of_ble_eq_true rfl) rfl ?_
                refine z_goto (tgt := 129) hC dX12_next_225 (by decide) ?_
                refine z_sub [1, 2, 3, 4, 0] rfl ?_
                exact hrec33 v41 v42 v45 E)
              replace E := EE
              clear EE
              obtain ⟨K47, hK48, EE⟩ := JN_use E (fun K47 : Prop => K47 → ZM l G p e s m args below meth c 8 4 S (PI S post) S D20 215 [(0, .ref (G.1 + 33)), (2, .int v18), (5, .int v31), (6, .int v36)] []) (by
                intro E
                refine z_iload hC dX12_next_215 2 rfl ?_
                refine z_istore_n (lv' := [(3, .int v31), (0, .ref (G.1 + 33)), (2, .int v18), (5, .int v31), (6, .int v36)]) hC dX12_next_217 rfl (Nat.le_of_ble_eq_true rfl) rfl ?_
                refine z_iload hC dX12_next_218 4 rfl ?_
                refine z_istore (lv' := [(4, .int v36), (3, .int v31), (0, .ref (G.1 + 33)), (2, .int v18), (5, .int v31), (6, .int v36)]) hC dX12_next_220 (Nat.le_of_ble_eq_true rfl) rfl ?_
                refine z_sub [2, 3, 1, 0, 4] rfl ?_
                exact hK44 v31 v36 E)
              replace E := EE
              clear EE
              refine z_icmp_eq (tgt := 215) hC dX12_next_202 (by decide) (fun c49 => ?_) (fun c49 => ?_)
              · replace E := E.1 c49
                refine z_sub [0, 1, 4, 5] rfl ?_
                exact hK48  E
              · replace E := E.2 c49
                refine z_iload hC dX12_next_205 5 rfl ?_
                refine z_iload hC dX12_next_207 3 rfl ?_
                refine z_icmp_lt (tgt := 215) hC dX12_next_209 (by decide) (fun c50 => ?_) (fun c50 => ?_)
                · replace E := E.1 c50
                  refine z_sub [0, 1, 4, 5] rfl ?_
                  exact hK48  E
                · replace E := E.2 c50
                  refine z_goto (tgt := 222) hC dX12_next_212 (by decide) ?_
                  refine z_sub [0, 1, 2, 3, 4] rfl ?_
                  exact hK44 v29 v30 E
            · replace E := E.2 c40
              refine z_aload_n hC dX12_next_155 rfl 0 rfl ?_
              refine z_get hC lf_X12_156_12 (kM_33 hF) dX12_next_156 (fV_ref rfl (rM_33_47 hF)) ?_
              refine z_bipush (v := 8) hC dX12_next_159 rfl ?_
              refine z_iload hC dX12_next_161 4 rfl ?_
              refine z_imul hC dX12_next_163 ?_
              refine z_iload hC dX12_next_164 6 rfl ?_
              refine z_iadd hC dX12_next_166 ?_
              refine z_iald hC (kM_59 hF) (nM_59 hF) E.1 dX12_next_167 ?_
              replace E := E.2
              refine z_iload hC dX12_next_168 5 rfl ?_
              obtain ⟨K52, hK53, EE⟩ := JN_use E (fun K52 : Int32 → Prop => ∀ (v51 : Int32), K52 v51 → ZM l G p e s m args below meth c 8 4 S (PI S post) S D20 191 [(0, .ref (G.1 + 33)), (2, .int v18), (3, .int v29), (4, .int v30), (5, .int v31), (7, .int v37)] [.int v51]) (by
                intro v51 E
                refine z_istore (lv' := [(6, .int v51), (0, .ref (G.1 + 33)), (2, .int v18), (3, .int v29), (4, .int v30), (5, .int v31), (7, .int v37)]) hC dX12_next_191 (Nat.le_of_ble_eq_true rfl) rfl ?_
                obtain ⟨v54, h55⟩ : ∃ y : Int32, y = v37 + 1 := ⟨_, rfl⟩
                replace E := E v54 h55
                refine z_iinc (q := 6) (v := v54) (lv' := [(7, .int v54), (6, .int v51), (0, .ref (G.1 + 33)), (2, .int v18), (3, .int v29), (4, .int v30), (5, .int v31)]) hC dX12_next_193 rfl (by rw [h55]; rfl) (Nat.le_of_ble_eq_true rfl) rfl ?_
                refine z_goto (tgt := 148) hC dX12_next_196 (by decide) ?_
                refine z_sub [2, 3, 4, 5, 6, 1, 0] rfl ?_
                exact hrec39 v51 v54 E)
              replace E := EE
              clear EE
              refine z_icmp_le (tgt := 189) hC dX12_next_170 (by decide) (fun c56 => ?_) (fun c56 => ?_)
              · replace E := E.1 c56
                refine z_iload hC dX12_next_189 5 rfl ?_
                refine z_sub [0, 1, 2, 3, 4, 6] rfl ?_
                exact hK53 v36 E
              · replace E := E.2 c56
                refine z_aload_n hC dX12_next_173 rfl 0 rfl ?_
                refine z_get hC lf_X12_156_12 (kM_33 hF) dX12_next_174 (fV_ref rfl (rM_33_47 hF)) ?_
                refine z_bipush (v := 8) hC dX12_next_177 rfl ?_
                refine z_iload hC dX12_next_179 4 rfl ?_
                refine z_imul hC dX12_next_181 ?_
                refine z_iload hC dX12_next_182 6 rfl ?_
                refine z_iadd hC dX12_next_184 ?_
                refine z_iald hC (kM_59 hF) (nM_59 hF) E.1 dX12_next_185 ?_
                replace E := E.2
                refine z_goto (tgt := 191) hC dX12_next_186 (by decide) ?_
                refine z_sub [0, 1, 2, 3, 4, 6] rfl ?_
                exact hK53 (D20.1 59 ((((8 : Int32) * v31) + v37)).toNatClampNeg) E
      · replace E := E.2 c28
        refine z_aload_n hC dX12_next_48 rfl 0 rfl ?_
        refine z_get hC lf_X12_147_12 (kM_33 hF) dX12_next_49 (fV_ref rfl (rM_33_44 hF)) ?_
        refine z_sipush (v := 5040) hC dX12_next_52 rfl ?_
        refine z_iload_n hC dX12_next_55 rfl 1 rfl ?_
        refine z_imul hC dX12_next_56 ?_
        refine z_iload_n hC dX12_next_57 rfl 3 rfl ?_
        refine z_iadd hC dX12_next_58 ?_
        refine z_zald hC (kM_57 hF) (nM_57 hF) E.1 dX12_next_59 ?_
        replace E := E.2
        obtain ⟨K59, hK60, EE⟩ := JN_use E (fun K59 : Int32 → Dy → Prop => ∀ (v57 : Int32) (D58 : Dy), K59 v57 D58 → ZM l G p e s m args below meth c 8 4 S (PI S post) S D58 114 [(0, .ref (G.1 + 33)), (1, .int a1), (2, .int v57), (3, .int v19)] []) (by
          intro v57 D58 E
          obtain ⟨v61, h62⟩ : ∃ y : Int32, y = v19 + 1 := ⟨_, rfl⟩
          replace E := E v61 h62
          refine z_iinc (q := 3) (v := v61) (lv' := [(3, .int v61), (0, .ref (G.1 + 33)), (1, .int a1), (2, .int v57)]) hC dX12_next_114 rfl (by rw [h62]; rfl) (Nat.le_of_ble_eq_true rfl) rfl ?_
          refine z_goto (tgt := 40) hC dX12_next_117 (by decide) ?_
          refine z_sub [1, 2, 3, 0] rfl ?_
          exact hrec22 v57 v61 D58 E)
        replace E := EE
        clear EE
        refine z_if_ne (tgt := 66) hC dX12_next_60 (by decide) (fun c63 => ?_) (fun c63 => ?_)
        · replace E := E.1 c63
          obtain ⟨v64, h65⟩ : ∃ y : Int32, y = v18 + 1 := ⟨_, rfl⟩
          replace E := E v64 h65
          refine z_iinc (q := 2) (v := v64) (lv' := [(2, .int v64), (0, .ref (G.1 + 33)), (1, .int a1), (3, .int v19)]) hC dX12_next_66 rfl (by rw [h65]; rfl) (Nat.le_of_ble_eq_true rfl) rfl ?_
          refine z_iconst (v := 0) hC dX12_next_69 rfl ?_
          refine z_istore (lv' := [(4, .int (0 : Int32)), (2, .int v64), (0, .ref (G.1 + 33)), (1, .int a1), (3, .int v19)]) hC dX12_next_70 (Nat.le_of_ble_eq_true rfl) rfl ?_
          refine z_sub [2, 3, 1, 4, 0] rfl ?_
          refine LP2_use (fun (v66 : Int32) (D67 : Dy) => ZM l G p e s m args below meth c 8 4 S (PI S post) S D67 72 [(0, .ref (G.1 + 33)), (1, .int a1), (2, .int v64), (3, .int v19), (4, .int v66)] []) ?_ FU (0 : Int32) D20 E
          intro rec68 hrec69 v66 D67 E
          refine z_iload hC dX12_next_72 4 rfl ?_
          refine z_aload_n hC dX12_next_74 rfl 0 rfl ?_
          refine z_get hC lf_X12_19_12 (kM_33 hF) dX12_next_75 (fV_int rfl) ?_
          refine z_icmp_ge (tgt := 114) hC dX12_next_78 (by decide) (fun c70 => ?_) (fun c70 => ?_)
          · replace E := E.1 c70
            refine z_sub [0, 1, 2, 3] rfl ?_
            exact hK60 v64 D67 E
          · replace E := E.2 c70
            refine z_aload_n hC dX12_next_81 rfl 0 rfl ?_
            refine z_get hC lf_X12_156_12 (kM_33 hF) dX12_next_82 (fV_ref rfl (rM_33_47 hF)) ?_
            refine z_bipush (v := 8) hC dX12_next_85 rfl ?_
            refine z_iload hC dX12_next_87 4 rfl ?_
            refine z_imul hC dX12_next_89 ?_
            refine z_aload_n hC dX12_next_90 rfl 0 rfl ?_
            refine z_iload_n hC dX12_next_91 rfl 3 rfl ?_
            refine z_aload_n hC dX12_next_92 rfl 0 rfl ?_
            refine z_get hC lf_X12_47_12 (kM_33 hF) dX12_next_93 (fV_ref rfl (rM_33_12 hF)) ?_
            refine z_iload hC dX12_next_96 4 rfl ?_
            refine z_iald hC (kM_42 hF) (nM_42 hF) E.1 dX12_next_98 ?_
            replace E := E.2
            refine z_callV (ci := 12) (rest := [.int ((8 : Int32) * v66), .ref (G.1 + 59)]) hC (ck_mk lk_X12_320 in_X12_takenFrom cd_X12_takenFrom ds_X12_takenFrom (Nat.le_of_ble_eq_true rfl) (Nat.le_of_ble_eq_true rfl)) iy_X12_takenFrom sy_X12_takenFrom cf_12 (by decide) (kM_33 hF) (ct_X12_takenFrom hF E) rfl rfl (Nat.le_of_ble_eq_true rfl) ⟨Nat.le_refl _, Nat.le_refl _⟩ dX12_next_99 ?_
            rintro _ _ _ ⟨v71, rfl, rfl, rfl, E⟩
            refine z_iadd hC dX12_next_102 ?_
            refine z_topi (fun v76 h77 => ?_)
            replace E := E v76 h77
            refine z_dup2 hC dX12_next_103 rfl rfl ?_
            refine z_iald hC (kM_59 hF) (nM_59 hF) E.1 dX12_next_104 ?_
            replace E := E.2
            refine z_iconst (v := 1) hC dX12_next_105 rfl ?_
            refine z_iadd hC dX12_next_106 ?_
            refine z_iast hC (kM_59 hF) (nM_59 hF) E.1 dX12_next_107 ?_
            replace E := E.2
            refine z_topD (fun D78 h79 => ?_)
            replace E := E D78 h79
            obtain ⟨v80, h81⟩ : ∃ y : Int32, y = v66 + 1 := ⟨_, rfl⟩
            replace E := E v80 h81
            refine z_iinc (q := 4) (v := v80) (lv' := [(4, .int v80), (0, .ref (G.1 + 33)), (1, .int a1), (2, .int v64), (3, .int v19)]) hC dX12_next_108 rfl (by rw [h81]; rfl) (Nat.le_of_ble_eq_true rfl) rfl ?_
            refine z_goto (tgt := 72) hC dX12_next_111 (by decide) ?_
            refine z_sub [1, 2, 3, 4, 0] rfl ?_
            exact hrec69 v80 D78 E
        · replace E := E.2 c63
          refine z_goto (tgt := 114) hC dX12_next_63 (by decide) ?_
          exact hK60 v18 D20 E
    · replace E := E.2 c11
      refine z_aload_n hC dX12_next_18 rfl 0 rfl ?_
      refine z_get hC lf_X12_156_12 (kM_33 hF) dX12_next_19 (fV_ref rfl (rM_33_47 hF)) ?_
      refine z_iload_n hC dX12_next_22 rfl 2 rfl ?_
      refine z_iconst (v := 0) hC dX12_next_23 rfl ?_
      refine z_iast hC (kM_59 hF) (nM_59 hF) E.1 dX12_next_24 ?_
      replace E := E.2
      refine z_topD (fun D82 h83 => ?_)
      replace E := E D82 h83
      obtain ⟨v84, h85⟩ : ∃ y : Int32, y = v7 + 1 := ⟨_, rfl⟩
      replace E := E v84 h85
      refine z_iinc (q := 2) (v := v84) (lv' := [(2, .int v84), (0, .ref (G.1 + 33)), (1, .int a1)]) hC dX12_next_25 rfl (by rw [h85]; rfl) (Nat.le_of_ble_eq_true rfl) rfl ?_
      refine z_goto (tgt := 12) hC dX12_next_28 (by decide) ?_
      refine z_sub [1, 2, 0] rfl ?_
      exact hrec10 v84 D82 E
  · replace E := E.2 c6
    refine z_iconst (v := -1) hC dX12_next_8 rfl ?_
    exact z_iret hC dX12_next_9 (Nat.le_refl _) (Nat.le_refl _) ⟨_, rfl, rfl, E⟩
def fX12_odds (a1 : Int32) (a2 : Int32) (a3 : Int32) (a4 : Int32) (a5 : Int32) (D : Dy) (post : Int64 → Dy → Prop) : Prop :=
  (fX12_isModel a1 D (fun (v2 : Int32) => ((v2 = 0 → post (-9223372036854775808 : Int64) D) ∧ (¬ v2 = 0 → (JN ((fX12_isSet a3 D (fun (v10 : Int32) => ((v10 = 0 → post (-9223372036854775808 : Int64) D) ∧ (¬ v10 = 0 → ((a3 = 0 → post (-9223372036854775808 : Int64) D) ∧ (¬ a3 = 0 → (fX12_in a4 (0 : Int32) (2 : Int32) (fun (v17 : Int32) => ((v17 = 0 → post (-9223372036854775808 : Int64) D) ∧ (¬ v17 = 0 → (fX12_in a5 (0 : Int32) (1 : Int32) (fun (v23 : Int32) => ((v23 = 0 → post (-9223372036854775808 : Int64) D) ∧ (¬ v23 = 0 → (fX12_listen a1 D (fun (v29 : Int32) (D33 : Dy) => ((¬ v29 = 0 → (fX12_findOdds a1 a2 a3 a4 D33 (fun (D40 : Dy) => (fX12_divisor (D40.2 33 39) (D40.2 33 40) (fun (w43 : Int64) => ((¬ a5 = 0 → (¬ w43 = 0 ∧ post ((D40.2 33 40) / w43) D40)) ∧ (a5 = 0 → (¬ w43 = 0 ∧ post ((D40.2 33 39) / w43) D40)))))))) ∧ (v29 = 0 → post (-9223372036854775808 : Int64) D33))))))))))))))))))) (fun K7 : Prop => ((a2 = (7 : Int32) → K7) ∧ (¬ a2 = (7 : Int32) → (fX12_isThing a2 D (fun (v49 : Int32) => ((v49 = 0 → post (-9223372036854775808 : Int64) D) ∧ (¬ v49 = 0 → K7))))))))))))
set_option maxHeartbeats 4000000 in
set_option maxRecDepth 100000 in
theorem ct_X12_odds {l : Launch} {G : Gl} {S : Sh} {D : Dy} (hF : FM S) {a1 : Int32} {a2 : Int32} {a3 : Int32} {a4 : Int32} {a5 : Int32} {post : Int64 → Dy → Prop} (E : fX12_odds a1 a2 a3 a4 a5 D post) : Ct l G yX12_odds cX12_odds 8 (some .long) 9 0 0 S D [.ref (G.1 + 33), .int a1, .int a2, .int a3, .int a4, .int a5] (PL S post) := by
  refine z_enter (lv0 := [(0, .ref (G.1 + 33)), (1, .int a1), (2, .int a2), (3, .int a3), (4, .int a4), (5, .int a5)]) pl_12 (Nat.le_of_ble_eq_true rfl) rfl ?_
  intro p e s m args below meth c hC hnm
  unfold fX12_odds at E
  refine z_aload_n hC dX12_odds_0 rfl 0 rfl ?_
  refine z_iload_n hC dX12_odds_1 rfl 1 rfl ?_
  refine z_callV (ci := 12) (rest := []) hC (ck_mk lk_X12_258 in_X12_isModel cd_X12_isModel ds_X12_isModel (Nat.le_of_ble_eq_true rfl) (Nat.le_of_ble_eq_true rfl)) iy_X12_isModel sy_X12_isModel cf_12 (by decide) (kM_33 hF) (ct_X12_isModel hF E) rfl rfl (Nat.le_of_ble_eq_true rfl) ⟨Nat.le_refl _, Nat.le_refl _⟩ dX12_odds_2 ?_
  rintro _ _ _ ⟨v2, rfl, rfl, rfl, E⟩
  refine z_if_eq (tgt := 64) hC dX12_odds_5 (by decide) (fun c6 => ?_) (fun c6 => ?_)
  · replace E := E.1 c6
    refine z_ldc2 hC kl_X12_296 dX12_odds_64 ?_
    exact z_lret hC dX12_odds_67 (Nat.le_refl _) (Nat.le_refl _) ⟨_, rfl, rfl, E⟩
  · replace E := E.2 c6
    refine z_iload_n hC dX12_odds_8 rfl 2 rfl ?_
    refine z_bipush (v := 7) hC dX12_odds_9 rfl ?_
    obtain ⟨K7, hK8, EE⟩ := JN_use E (fun K7 : Prop => K7 → ZM l G p e s m args below meth c 8 9 S (PL S post) S D 22 [(0, .ref (G.1 + 33)), (1, .int a1), (2, .int a2), (3, .int a3), (4, .int a4), (5, .int a5)] []) (by
      intro E
      refine z_aload_n hC dX12_odds_22 rfl 0 rfl ?_
      refine z_iload_n hC dX12_odds_23 rfl 3 rfl ?_
      refine z_callV (ci := 12) (rest := []) hC (ck_mk lk_X12_189 in_X12_isSet cd_X12_isSet ds_X12_isSet (Nat.le_of_ble_eq_true rfl) (Nat.le_of_ble_eq_true rfl)) iy_X12_isSet sy_X12_isSet cf_12 (by decide) (kM_33 hF) (ct_X12_isSet hF E) rfl rfl (Nat.le_of_ble_eq_true rfl) ⟨Nat.le_refl _, Nat.le_refl _⟩ dX12_odds_24 ?_
      rintro _ _ _ ⟨v10, rfl, rfl, rfl, E⟩
      refine z_if_eq (tgt := 64) hC dX12_odds_27 (by decide) (fun c14 => ?_) (fun c14 => ?_)
      · replace E := E.1 c14
        refine z_ldc2 hC kl_X12_296 dX12_odds_64 ?_
        exact z_lret hC dX12_odds_67 (Nat.le_refl _) (Nat.le_refl _) ⟨_, rfl, rfl, E⟩
      · replace E := E.2 c14
        refine z_iload_n hC dX12_odds_30 rfl 3 rfl ?_
        refine z_if_eq (tgt := 64) hC dX12_odds_31 (by decide) (fun c15 => ?_) (fun c15 => ?_)
        · replace E := E.1 c15
          refine z_ldc2 hC kl_X12_296 dX12_odds_64 ?_
          exact z_lret hC dX12_odds_67 (Nat.le_refl _) (Nat.le_refl _) ⟨_, rfl, rfl, E⟩
        · replace E := E.2 c15
          refine z_aload_n hC dX12_odds_34 rfl 0 rfl ?_
          refine z_iload hC dX12_odds_35 4 rfl ?_
          refine z_iconst (v := 0) hC dX12_odds_37 rfl ?_
          refine z_iconst (v := 2) hC dX12_odds_38 rfl ?_
          refine z_callV (ci := 12) (rest := []) hC (ck_mk lk_X12_178 in_X12_in cd_X12_in ds_X12_in (Nat.le_of_ble_eq_true rfl) (Nat.le_of_ble_eq_true rfl)) iy_X12_in sy_X12_in cf_12 (by decide) (kM_33 hF) (ct_X12_in hF E) rfl rfl (Nat.le_of_ble_eq_true rfl) ⟨Nat.le_refl _, Nat.le_refl _⟩ dX12_odds_39 ?_
          rintro _ _ _ ⟨v17, rfl, rfl, rfl, E⟩
          refine z_if_eq (tgt := 64) hC dX12_odds_42 (by decide) (fun c21 => ?_) (fun c21 => ?_)
          · replace E := E.1 c21
            refine z_ldc2 hC kl_X12_296 dX12_odds_64 ?_
            exact z_lret hC dX12_odds_67 (Nat.le_refl _) (Nat.le_refl _) ⟨_, rfl, rfl, E⟩
          · replace E := E.2 c21
            refine z_aload_n hC dX12_odds_45 rfl 0 rfl ?_
            refine z_iload hC dX12_odds_46 5 rfl ?_
            refine z_iconst (v := 0) hC dX12_odds_48 rfl ?_
            refine z_iconst (v := 1) hC dX12_odds_49 rfl ?_
            refine z_callV (ci := 12) (rest := []) hC (ck_mk lk_X12_178 in_X12_in cd_X12_in ds_X12_in (Nat.le_of_ble_eq_true rfl) (Nat.le_of_ble_eq_true rfl)) iy_X12_in sy_X12_in cf_12 (by decide) (kM_33 hF) (ct_X12_in hF E) rfl rfl (Nat.le_of_ble_eq_true rfl) ⟨Nat.le_refl _, Nat.le_refl _⟩ dX12_odds_50 ?_
            rintro _ _ _ ⟨v23, rfl, rfl, rfl, E⟩
            refine z_if_eq (tgt := 64) hC dX12_odds_53 (by decide) (fun c27 => ?_) (fun c27 => ?_)
            · replace E := E.1 c27
              refine z_ldc2 hC kl_X12_296 dX12_odds_64 ?_
              exact z_lret hC dX12_odds_67 (Nat.le_refl _) (Nat.le_refl _) ⟨_, rfl, rfl, E⟩
            · replace E := E.2 c27
              refine z_aload_n hC dX12_odds_56 rfl 0 rfl ?_
              refine z_iload_n hC dX12_odds_57 rfl 1 rfl ?_
              refine z_callV (ci := 12) (rest := []) hC (ck_mk lk_X12_261 in_X12_listen cd_X12_listen ds_X12_listen (Nat.le_of_ble_eq_true rfl) (Nat.le_of_ble_eq_true rfl)) iy_X12_listen sy_X12_listen cf_12 (by decide) (kM_33 hF) (ct_X12_listen hF E) rfl rfl (Nat.le_of_ble_eq_true rfl) ⟨Nat.le_refl _, Nat.le_refl _⟩ dX12_odds_58 ?_
              rintro _ _ D33 ⟨v29, rfl, rfl, E⟩
              refine z_if_ne (tgt := 68) hC dX12_odds_61 (by decide) (fun c34 => ?_) (fun c34 => ?_)
              · replace E := E.1 c34
                refine z_aload_n hC dX12_odds_68 rfl 0 rfl ?_
                refine z_iload_n hC dX12_odds_69 rfl 1 rfl ?_
                refine z_iload_n hC dX12_odds_70 rfl 2 rfl ?_
                refine z_iload_n hC dX12_odds_71 rfl 3 rfl ?_
                refine z_iload hC dX12_odds_72 4 rfl ?_
                refine z_callV (ci := 12) (rest := []) hC (ck_mk lk_X12_298 in_X12_findOdds cd_X12_findOdds ds_X12_findOdds (Nat.le_of_ble_eq_true rfl) (Nat.le_of_ble_eq_true rfl)) iy_X12_findOdds sy_X12_findOdds cf_12 (by decide) (kM_33 hF) (ct_X12_findOdds hF E) rfl rfl (Nat.le_of_ble_eq_true rfl) ⟨Nat.le_refl _, Nat.le_refl _⟩ dX12_odds_74 ?_
                rintro _ _ D40 ⟨rfl, rfl, E⟩
                refine z_aload_n hC dX12_odds_77 rfl 0 rfl ?_
                refine z_aload_n hC dX12_odds_78 rfl 0 rfl ?_
                refine z_get hC lf_X12_129_12 (kM_33 hF) dX12_odds_79 (fV_long rfl) ?_
                refine z_aload_n hC dX12_odds_82 rfl 0 rfl ?_
                refine z_get hC lf_X12_133_12 (kM_33 hF) dX12_odds_83 (fV_long rfl) ?_
                refine z_callV (ci := 12) (rest := []) hC (ck_mk lk_X12_302 in_X12_divisor cd_X12_divisor ds_X12_divisor (Nat.le_of_ble_eq_true rfl) (Nat.le_of_ble_eq_true rfl)) iy_X12_divisor sy_X12_divisor cf_12 (by decide) (kM_33 hF) (ct_X12_divisor hF E) rfl rfl (Nat.le_of_ble_eq_true rfl) ⟨Nat.le_refl _, Nat.le_refl _⟩ dX12_odds_86 ?_
                rintro _ _ _ ⟨w43, rfl, rfl, rfl, E⟩
                refine z_lstore (lv' := [(6, .long w43), (0, .ref (G.1 + 33)), (1, .int a1), (2, .int a2), (3, .int a3), (4, .int a4), (5, .int a5)]) hC dX12_odds_89 (Nat.le_of_ble_eq_true rfl) rfl ?_
                refine z_iload hC dX12_odds_91 6 rfl ?_
                refine z_if_ne (tgt := 106) hC dX12_odds_93 (by decide) (fun c46 => ?_) (fun c46 => ?_)
                · replace E := E.1 c46
                  refine z_aload_n hC dX12_odds_106 rfl 1 rfl ?_
                  refine z_get hC lf_X12_133_12 (kM_33 hF) dX12_odds_107 (fV_long rfl) ?_
                  refine z_lload hC dX12_odds_110 0 rfl ?_
                  have q0 := E.1
                  replace E := E.2
                  refine z_ldiv hC dX12_odds_112 q0 ?_
                  exact z_lret hC dX12_odds_113 (Nat.le_refl _) (Nat.le_refl _) ⟨_, rfl, rfl, E⟩
                · replace E := E.2 c46
                  refine z_aload_n hC dX12_odds_96 rfl 1 rfl ?_
                  refine z_get hC lf_X12_129_12 (kM_33 hF) dX12_odds_97 (fV_long rfl) ?_
                  refine z_lload hC dX12_odds_100 0 rfl ?_
                  have q0 := E.1
                  replace E := E.2
                  refine z_ldiv hC dX12_odds_102 q0 ?_
                  refine z_goto (tgt := 113) hC dX12_odds_103 (by decide) ?_
                  exact z_lret hC dX12_odds_113 (Nat.le_refl _) (Nat.le_refl _) ⟨_, rfl, rfl, E⟩
              · replace E := E.2 c34
                refine z_ldc2 hC kl_X12_296 dX12_odds_64 ?_
                exact z_lret hC dX12_odds_67 (Nat.le_refl _) (Nat.le_refl _) ⟨_, rfl, rfl, E⟩)
    replace E := EE
    clear EE
    refine z_icmp_eq (tgt := 22) hC dX12_odds_11 (by decide) (fun c47 => ?_) (fun c47 => ?_)
    · replace E := E.1 c47
      exact hK8  E
    · replace E := E.2 c47
      refine z_aload_n hC dX12_odds_14 rfl 0 rfl ?_
      refine z_iload_n hC dX12_odds_15 rfl 2 rfl ?_
      refine z_callV (ci := 12) (rest := []) hC (ck_mk lk_X12_182 in_X12_isThing cd_X12_isThing ds_X12_isThing (Nat.le_of_ble_eq_true rfl) (Nat.le_of_ble_eq_true rfl)) iy_X12_isThing sy_X12_isThing cf_12 (by decide) (kM_33 hF) (ct_X12_isThing hF E) rfl rfl (Nat.le_of_ble_eq_true rfl) ⟨Nat.le_refl _, Nat.le_refl _⟩ dX12_odds_16 ?_
      rintro _ _ _ ⟨v49, rfl, rfl, rfl, E⟩
      refine z_if_eq (tgt := 64) hC dX12_odds_19 (by decide) (fun c53 => ?_) (fun c53 => ?_)
      · replace E := E.1 c53
        refine z_ldc2 hC kl_X12_296 dX12_odds_64 ?_
        exact z_lret hC dX12_odds_67 (Nat.le_refl _) (Nat.le_refl _) ⟨_, rfl, rfl, E⟩
      · replace E := E.2 c53
        exact hK8  E
def fX12_of (a1 : Int32) (a2 : Int32) (D : Dy) (post : Int32 → Prop) : Prop :=
  (fX12_isChoice a1 D (fun (v2 : Int32) => ((¬ v2 = 0 → ((a2 = (0 : Int32) → (vp_in a1 80 ∧ post (D.1 38 (a1).toNatClampNeg))) ∧ (¬ a2 = (0 : Int32) → ((a2 = (1 : Int32) → (vp_in a1 80 ∧ post (D.1 39 (a1).toNatClampNeg))) ∧ (¬ a2 = (1 : Int32) → ((a2 = (2 : Int32) → (vp_in a1 80 ∧ ((0 ≤ (D.1 40 (a1).toNatClampNeg) → (vp_in a1 80 ∧ post (D.1 40 (a1).toNatClampNeg))) ∧ (¬ 0 ≤ (D.1 40 (a1).toNatClampNeg) → post (-5 : Int32))))) ∧ (¬ a2 = (2 : Int32) → ((a2 = (3 : Int32) → (vp_in a1 80 ∧ post (D.1 41 (a1).toNatClampNeg))) ∧ (¬ a2 = (3 : Int32) → post (-1 : Int32)))))))))) ∧ (v2 = 0 → post (-1 : Int32)))))
set_option maxHeartbeats 4000000 in
set_option maxRecDepth 100000 in
theorem ct_X12_of {l : Launch} {G : Gl} {S : Sh} {D : Dy} (hF : FM S) {a1 : Int32} {a2 : Int32} {post : Int32 → Prop} (E : fX12_of a1 a2 D post) : Ct l G yX12_of cX12_of 3 (some .int) 2 0 0 S D [.ref (G.1 + 33), .int a1, .int a2] (PIr S D post) := by
  refine z_enter (lv0 := [(0, .ref (G.1 + 33)), (1, .int a1), (2, .int a2)]) pl_12 (Nat.le_of_ble_eq_true rfl) rfl ?_
  intro p e s m args below meth c hC hnm
  unfold fX12_of at E
  refine z_aload_n hC dX12_of_0 rfl 0 rfl ?_
  refine z_iload_n hC dX12_of_1 rfl 1 rfl ?_
  refine z_callV (ci := 12) (rest := []) hC (ck_mk lk_X12_196 in_X12_isChoice cd_X12_isChoice ds_X12_isChoice (Nat.le_of_ble_eq_true rfl) (Nat.le_of_ble_eq_true rfl)) iy_X12_isChoice sy_X12_isChoice cf_12 (by decide) (kM_33 hF) (ct_X12_isChoice hF E) rfl rfl (Nat.le_of_ble_eq_true rfl) ⟨Nat.le_refl _, Nat.le_refl _⟩ dX12_of_2 ?_
  rintro _ _ _ ⟨v2, rfl, rfl, rfl, E⟩
  refine z_if_ne (tgt := 10) hC dX12_of_5 (by decide) (fun c6 => ?_) (fun c6 => ?_)
  · replace E := E.1 c6
    refine z_iload_n hC dX12_of_10 rfl 2 rfl ?_
    by_cases c7 : a2 = (0 : Int32)
    · replace E := E.1 c7
      refine z_tableIn (tgt := 40) (off := 29) hC dX12_of_11 c7 (by decide) (by decide) ?_
      refine z_aload_n hC dX12_of_40 rfl 0 rfl ?_
      refine z_get hC lf_X12_35_12 (kM_33 hF) dX12_of_41 (fV_ref rfl (rM_33_8 hF)) ?_
      refine z_iload_n hC dX12_of_44 rfl 1 rfl ?_
      refine z_iald hC (kM_38 hF) (nM_38 hF) E.1 dX12_of_45 ?_
      replace E := E.2
      exact z_iret hC dX12_of_46 (Nat.le_refl _) (Nat.le_refl _) ⟨_, rfl, rfl, rfl, E⟩
    replace E := E.2 c7
    by_cases c8 : a2 = (1 : Int32)
    · replace E := E.1 c8
      refine z_tableIn (tgt := 47) (off := 36) hC dX12_of_11 c8 (by decide) (by decide) ?_
      refine z_aload_n hC dX12_of_47 rfl 0 rfl ?_
      refine z_get hC lf_X12_38_12 (kM_33 hF) dX12_of_48 (fV_ref rfl (rM_33_9 hF)) ?_
      refine z_iload_n hC dX12_of_51 rfl 1 rfl ?_
      refine z_iald hC (kM_39 hF) (nM_39 hF) E.1 dX12_of_52 ?_
      replace E := E.2
      exact z_iret hC dX12_of_53 (Nat.le_refl _) (Nat.le_refl _) ⟨_, rfl, rfl, rfl, E⟩
    replace E := E.2 c8
    by_cases c9 : a2 = (2 : Int32)
    · replace E := E.1 c9
      refine z_tableIn (tgt := 54) (off := 43) hC dX12_of_11 c9 (by decide) (by decide) ?_
      refine z_aload_n hC dX12_of_54 rfl 0 rfl ?_
      refine z_get hC lf_X12_41_12 (kM_33 hF) dX12_of_55 (fV_ref rfl (rM_33_10 hF)) ?_
      refine z_iload_n hC dX12_of_58 rfl 1 rfl ?_
      refine z_iald hC (kM_40 hF) (nM_40 hF) E.1 dX12_of_59 ?_
      replace E := E.2
      refine z_if_ge (tgt := 68) hC dX12_of_60 (by decide) (fun c10 => ?_) (fun c10 => ?_)
      · replace E := E.1 c10
        refine z_aload_n hC dX12_of_68 rfl 0 rfl ?_
        refine z_get hC lf_X12_41_12 (kM_33 hF) dX12_of_69 (fV_ref rfl (rM_33_10 hF)) ?_
        refine z_iload_n hC dX12_of_72 rfl 1 rfl ?_
        refine z_iald hC (kM_40 hF) (nM_40 hF) E.1 dX12_of_73 ?_
        replace E := E.2
        exact z_iret hC dX12_of_74 (Nat.le_refl _) (Nat.le_refl _) ⟨_, rfl, rfl, rfl, E⟩
      · replace E := E.2 c10
        refine z_bipush (v := -5) hC dX12_of_63 rfl ?_
        refine z_goto (tgt := 74) hC dX12_of_65 (by decide) ?_
        exact z_iret hC dX12_of_74 (Nat.le_refl _) (Nat.le_refl _) ⟨_, rfl, rfl, rfl, E⟩
    replace E := E.2 c9
    by_cases c11 : a2 = (3 : Int32)
    · replace E := E.1 c11
      refine z_tableIn (tgt := 75) (off := 64) hC dX12_of_11 c11 (by decide) (by decide) ?_
      refine z_aload_n hC dX12_of_75 rfl 0 rfl ?_
      refine z_get hC lf_X12_44_12 (kM_33 hF) dX12_of_76 (fV_ref rfl (rM_33_11 hF)) ?_
      refine z_iload_n hC dX12_of_79 rfl 1 rfl ?_
      refine z_iald hC (kM_41 hF) (nM_41 hF) E.1 dX12_of_80 ?_
      replace E := E.2
      exact z_iret hC dX12_of_81 (Nat.le_refl _) (Nat.le_refl _) ⟨_, rfl, rfl, rfl, E⟩
    replace E := E.2 c11
    refine z_tableOut (tgt := 82) hC dX12_of_11 (by have zc7 := sw_ne c7 (show (0 : Int32).toInt = 0 by decide); have zc8 := sw_ne c8 (show (1 : Int32).toInt = 1 by decide); have zc9 := sw_ne c9 (show (2 : Int32).toInt = 2 by decide); have zc11 := sw_ne c11 (show (3 : Int32).toInt = 3 by decide); omega) (by decide) ?_
    refine z_iconst (v := -1) hC dX12_of_82 rfl ?_
    exact z_iret hC dX12_of_83 (Nat.le_refl _) (Nat.le_refl _) ⟨_, rfl, rfl, rfl, E⟩
  · replace E := E.2 c6
    refine z_iconst (v := -1) hC dX12_of_8 rfl ?_
    exact z_iret hC dX12_of_9 (Nat.le_refl _) (Nat.le_refl _) ⟨_, rfl, rfl, rfl, E⟩
def fX12_price (a1 : Int32) (a2 : Int32) (D : Dy) (post : Int32 → Dy → Prop) : Prop :=
  (fX12_isThing a1 D (fun (v2 : Int32) => ((¬ v2 = 0 → (fX12_in a2 (0 : Int32) (99 : Int32) (fun (v8 : Int32) => ((¬ v8 = 0 → (vp_in a1 6 ∧ (∀ v13 : Int32, v13 = (D.1 35 (a1).toNatClampNeg) → (vp_in a1 6 ∧ (∀ D15 : Dy, D15 = sI D 35 (a1).toNatClampNeg a2 → post v13 D15))))) ∧ (v8 = 0 → post (-2 : Int32) D))))) ∧ (v2 = 0 → post (-1 : Int32) D))))
set_option maxHeartbeats 4000000 in
set_option maxRecDepth 100000 in
theorem ct_X12_price {l : Launch} {G : Gl} {S : Sh} {D : Dy} (hF : FM S) {a1 : Int32} {a2 : Int32} {post : Int32 → Dy → Prop} (E : fX12_price a1 a2 D post) : Ct l G yX12_price cX12_price 4 (some .int) 2 0 0 S D [.ref (G.1 + 33), .int a1, .int a2] (PI S post) := by
  refine z_enter (lv0 := [(0, .ref (G.1 + 33)), (1, .int a1), (2, .int a2)]) pl_12 (Nat.le_of_ble_eq_true rfl) rfl ?_
  intro p e s m args below meth c hC hnm
  unfold fX12_price at E
  refine z_aload_n hC dX12_price_0 rfl 0 rfl ?_
  refine z_iload_n hC dX12_price_1 rfl 1 rfl ?_
  refine z_callV (ci := 12) (rest := []) hC (ck_mk lk_X12_182 in_X12_isThing cd_X12_isThing ds_X12_isThing (Nat.le_of_ble_eq_true rfl) (Nat.le_of_ble_eq_true rfl)) iy_X12_isThing sy_X12_isThing cf_12 (by decide) (kM_33 hF) (ct_X12_isThing hF E) rfl rfl (Nat.le_of_ble_eq_true rfl) ⟨Nat.le_refl _, Nat.le_refl _⟩ dX12_price_2 ?_
  rintro _ _ _ ⟨v2, rfl, rfl, rfl, E⟩
  refine z_if_ne (tgt := 10) hC dX12_price_5 (by decide) (fun c6 => ?_) (fun c6 => ?_)
  · replace E := E.1 c6
    refine z_aload_n hC dX12_price_10 rfl 0 rfl ?_
    refine z_iload_n hC dX12_price_11 rfl 2 rfl ?_
    refine z_iconst (v := 0) hC dX12_price_12 rfl ?_
    refine z_bipush (v := 99) hC dX12_price_13 rfl ?_
    refine z_callV (ci := 12) (rest := []) hC (ck_mk lk_X12_178 in_X12_in cd_X12_in ds_X12_in (Nat.le_of_ble_eq_true rfl) (Nat.le_of_ble_eq_true rfl)) iy_X12_in sy_X12_in cf_12 (by decide) (kM_33 hF) (ct_X12_in hF E) rfl rfl (Nat.le_of_ble_eq_true rfl) ⟨Nat.le_refl _, Nat.le_refl _⟩ dX12_price_15 ?_
    rintro _ _ _ ⟨v8, rfl, rfl, rfl, E⟩
    refine z_if_ne (tgt := 24) hC dX12_price_18 (by decide) (fun c12 => ?_) (fun c12 => ?_)
    · replace E := E.1 c12
      refine z_aload_n hC dX12_price_24 rfl 0 rfl ?_
      refine z_get hC lf_X12_26_12 (kM_33 hF) dX12_price_25 (fV_ref rfl (rM_33_5 hF)) ?_
      refine z_iload_n hC dX12_price_28 rfl 1 rfl ?_
      refine z_iald hC (kM_35 hF) (nM_35 hF) E.1 dX12_price_29 ?_
      replace E := E.2
      refine z_topi (fun v13 h14 => ?_)
      replace E := E v13 h14
      refine z_istore_n (lv' := [(3, .int v13), (0, .ref (G.1 + 33)), (1, .int a1), (2, .int a2)]) hC dX12_price_30 rfl (Nat.le_of_ble_eq_true rfl) rfl ?_
      refine z_aload_n hC dX12_price_31 rfl 1 rfl ?_
      refine z_get hC lf_X12_26_12 (kM_33 hF) dX12_price_32 (fV_ref rfl (rM_33_5 hF)) ?_
      refine z_iload_n hC dX12_price_35 rfl 2 rfl ?_
      refine z_iload_n hC dX12_price_36 rfl 3 rfl ?_
      refine z_iast hC (kM_35 hF) (nM_35 hF) E.1 dX12_price_37 ?_
      replace E := E.2
      refine z_topD (fun D15 h16 => ?_)
      replace E := E D15 h16
      refine z_iload_n hC dX12_price_38 rfl 0 rfl ?_
      exact z_iret hC dX12_price_39 (Nat.le_refl _) (Nat.le_refl _) ⟨_, rfl, rfl, E⟩
    · replace E := E.2 c12
      refine z_bipush (v := -2) hC dX12_price_21 rfl ?_
      exact z_iret hC dX12_price_23 (Nat.le_refl _) (Nat.le_refl _) ⟨_, rfl, rfl, E⟩
  · replace E := E.2 c6
    refine z_iconst (v := -1) hC dX12_price_8 rfl ?_
    exact z_iret hC dX12_price_9 (Nat.le_refl _) (Nat.le_refl _) ⟨_, rfl, rfl, E⟩
def fX12_put (a1 : Int32) (a2 : Int32) (D : Dy) (post : Int32 → Dy → Prop) : Prop :=
  (fX12_isChoice a1 D (fun (v2 : Int32) => ((¬ v2 = 0 → (fX12_in a2 (0 : Int32) (2 : Int32) (fun (v8 : Int32) => ((¬ v8 = 0 → (vp_in a1 80 ∧ (∀ v13 : Int32, v13 = (D.1 41 (a1).toNatClampNeg) → (vp_in a1 80 ∧ (∀ D15 : Dy, D15 = sI D 41 (a1).toNatClampNeg a2 → (vp_in a1 80 ∧ (vp_in (D15.1 38 (a1).toNatClampNeg) 16 ∧ (∀ D17 : Dy, D17 = sI D15 58 ((D15.1 38 (a1).toNatClampNeg)).toNatClampNeg (0 : Int32) → post v13 D17)))))))) ∧ (v8 = 0 → post (-2 : Int32) D))))) ∧ (v2 = 0 → post (-1 : Int32) D))))
set_option maxHeartbeats 4000000 in
set_option maxRecDepth 100000 in
theorem ct_X12_put {l : Launch} {G : Gl} {S : Sh} {D : Dy} (hF : FM S) {a1 : Int32} {a2 : Int32} {post : Int32 → Dy → Prop} (E : fX12_put a1 a2 D post) : Ct l G yX12_put cX12_put 4 (some .int) 2 0 0 S D [.ref (G.1 + 33), .int a1, .int a2] (PI S post) := by
  refine z_enter (lv0 := [(0, .ref (G.1 + 33)), (1, .int a1), (2, .int a2)]) pl_12 (Nat.le_of_ble_eq_true rfl) rfl ?_
  intro p e s m args below meth c hC hnm
  unfold fX12_put at E
  refine z_aload_n hC dX12_put_0 rfl 0 rfl ?_
  refine z_iload_n hC dX12_put_1 rfl 1 rfl ?_
  refine z_callV (ci := 12) (rest := []) hC (ck_mk lk_X12_196 in_X12_isChoice cd_X12_isChoice ds_X12_isChoice (Nat.le_of_ble_eq_true rfl) (Nat.le_of_ble_eq_true rfl)) iy_X12_isChoice sy_X12_isChoice cf_12 (by decide) (kM_33 hF) (ct_X12_isChoice hF E) rfl rfl (Nat.le_of_ble_eq_true rfl) ⟨Nat.le_refl _, Nat.le_refl _⟩ dX12_put_2 ?_
  rintro _ _ _ ⟨v2, rfl, rfl, rfl, E⟩
  refine z_if_ne (tgt := 10) hC dX12_put_5 (by decide) (fun c6 => ?_) (fun c6 => ?_)
  · replace E := E.1 c6
    refine z_aload_n hC dX12_put_10 rfl 0 rfl ?_
    refine z_iload_n hC dX12_put_11 rfl 2 rfl ?_
    refine z_iconst (v := 0) hC dX12_put_12 rfl ?_
    refine z_iconst (v := 2) hC dX12_put_13 rfl ?_
    refine z_callV (ci := 12) (rest := []) hC (ck_mk lk_X12_178 in_X12_in cd_X12_in ds_X12_in (Nat.le_of_ble_eq_true rfl) (Nat.le_of_ble_eq_true rfl)) iy_X12_in sy_X12_in cf_12 (by decide) (kM_33 hF) (ct_X12_in hF E) rfl rfl (Nat.le_of_ble_eq_true rfl) ⟨Nat.le_refl _, Nat.le_refl _⟩ dX12_put_14 ?_
    rintro _ _ _ ⟨v8, rfl, rfl, rfl, E⟩
    refine z_if_ne (tgt := 23) hC dX12_put_17 (by decide) (fun c12 => ?_) (fun c12 => ?_)
    · replace E := E.1 c12
      refine z_aload_n hC dX12_put_23 rfl 0 rfl ?_
      refine z_get hC lf_X12_44_12 (kM_33 hF) dX12_put_24 (fV_ref rfl (rM_33_11 hF)) ?_
      refine z_iload_n hC dX12_put_27 rfl 1 rfl ?_
      refine z_iald hC (kM_41 hF) (nM_41 hF) E.1 dX12_put_28 ?_
      replace E := E.2
      refine z_topi (fun v13 h14 => ?_)
      replace E := E v13 h14
      refine z_istore_n (lv' := [(3, .int v13), (0, .ref (G.1 + 33)), (1, .int a1), (2, .int a2)]) hC dX12_put_29 rfl (Nat.le_of_ble_eq_true rfl) rfl ?_
      refine z_aload_n hC dX12_put_30 rfl 1 rfl ?_
      refine z_get hC lf_X12_44_12 (kM_33 hF) dX12_put_31 (fV_ref rfl (rM_33_11 hF)) ?_
      refine z_iload_n hC dX12_put_34 rfl 2 rfl ?_
      refine z_iload_n hC dX12_put_35 rfl 3 rfl ?_
      refine z_iast hC (kM_41 hF) (nM_41 hF) E.1 dX12_put_36 ?_
      replace E := E.2
      refine z_topD (fun D15 h16 => ?_)
      replace E := E D15 h16
      refine z_aload_n hC dX12_put_37 rfl 1 rfl ?_
      refine z_get hC lf_X12_150_12 (kM_33 hF) dX12_put_38 (fV_ref rfl (rM_33_45 hF)) ?_
      refine z_aload_n hC dX12_put_41 rfl 1 rfl ?_
      refine z_get hC lf_X12_35_12 (kM_33 hF) dX12_put_42 (fV_ref rfl (rM_33_8 hF)) ?_
      refine z_iload_n hC dX12_put_45 rfl 2 rfl ?_
      refine z_iald hC (kM_38 hF) (nM_38 hF) E.1 dX12_put_46 ?_
      replace E := E.2
      refine z_iconst (v := 0) hC dX12_put_47 rfl ?_
      refine z_zast hC (kM_58 hF) (nM_58 hF) (Or.inl rfl) E.1 dX12_put_48 ?_
      replace E := E.2
      refine z_topD (fun D17 h18 => ?_)
      replace E := E D17 h18
      refine z_iload_n hC dX12_put_49 rfl 0 rfl ?_
      exact z_iret hC dX12_put_50 (Nat.le_refl _) (Nat.le_refl _) ⟨_, rfl, rfl, E⟩
    · replace E := E.2 c12
      refine z_bipush (v := -2) hC dX12_put_20 rfl ?_
      exact z_iret hC dX12_put_22 (Nat.le_refl _) (Nat.le_refl _) ⟨_, rfl, rfl, E⟩
  · replace E := E.2 c6
    refine z_iconst (v := -1) hC dX12_put_8 rfl ?_
    exact z_iret hC dX12_put_9 (Nat.le_refl _) (Nat.le_refl _) ⟨_, rfl, rfl, E⟩
def fX12_read (a1 : Int32) (a2 : Int32) (D : Dy) (post : Int64 → Prop) : Prop :=
  (fX12_isTape a1 (fun (v2 : Int32) => (JN (post (-9223372036854775808 : Int64)) (fun K6 : Prop => ((v2 = 0 → K6) ∧ (¬ v2 = 0 → (vp_in a1 6 ∧ (((D.1 61 (a1).toNatClampNeg) < 0 → K6) ∧ (¬ (D.1 61 (a1).toNatClampNeg) < 0 → (vp_in a1 6 ∧ (fX12_in a2 (0 : Int32) ((D.1 62 (a1).toNatClampNeg) - (1 : Int32)) (fun (v11 : Int32) => ((¬ v11 = 0 → (vp_in (((60 : Int32) * a1) + a2) 360 ∧ post (D.2 63 ((((60 : Int32) * a1) + a2)).toNatClampNeg))) ∧ (v11 = 0 → K6))))))))))))))
set_option maxHeartbeats 4000000 in
set_option maxRecDepth 100000 in
theorem ct_X12_read {l : Launch} {G : Gl} {S : Sh} {D : Dy} (hF : FM S) {a1 : Int32} {a2 : Int32} {post : Int64 → Prop} (E : fX12_read a1 a2 D post) : Ct l G yX12_read cX12_read 3 (some .long) 2 0 0 S D [.ref (G.1 + 33), .int a1, .int a2] (PLr S D post) := by
  refine z_enter (lv0 := [(0, .ref (G.1 + 33)), (1, .int a1), (2, .int a2)]) pl_12 (Nat.le_of_ble_eq_true rfl) rfl ?_
  intro p e s m args below meth c hC hnm
  unfold fX12_read at E
  refine z_aload_n hC dX12_read_0 rfl 0 rfl ?_
  refine z_iload_n hC dX12_read_1 rfl 1 rfl ?_
  refine z_callV (ci := 12) (rest := []) hC (ck_mk lk_X12_368 in_X12_isTape cd_X12_isTape ds_X12_isTape (Nat.le_of_ble_eq_true rfl) (Nat.le_of_ble_eq_true rfl)) iy_X12_isTape sy_X12_isTape cf_12 (by decide) (kM_33 hF) (ct_X12_isTape hF E) rfl rfl (Nat.le_of_ble_eq_true rfl) ⟨Nat.le_refl _, Nat.le_refl _⟩ dX12_read_2 ?_
  rintro _ _ _ ⟨v2, rfl, rfl, rfl, E⟩
  obtain ⟨K6, hK7, EE⟩ := JN_use E (fun K6 : Prop => K6 → ZM l G p e s m args below meth c 3 2 S (PLr S D post) S D 34 [] []) (by
    intro E
    refine z_ldc2 hC kl_X12_296 dX12_read_34 ?_
    refine z_goto (tgt := 51) hC dX12_read_37 (by decide) ?_
    exact z_lret hC dX12_read_51 (Nat.le_refl _) (Nat.le_refl _) ⟨_, rfl, rfl, rfl, E⟩)
  replace E := EE
  clear EE
  refine z_if_eq (tgt := 34) hC dX12_read_5 (by decide) (fun c8 => ?_) (fun c8 => ?_)
  · replace E := E.1 c8
    refine z_sub [] rfl ?_
    exact hK7  E
  · replace E := E.2 c8
    refine z_aload_n hC dX12_read_8 rfl 0 rfl ?_
    refine z_get hC lf_X12_165_12 (kM_33 hF) dX12_read_9 (fV_ref rfl (rM_33_50 hF)) ?_
    refine z_iload_n hC dX12_read_12 rfl 1 rfl ?_
    refine z_iald hC (kM_61 hF) (nM_61 hF) E.1 dX12_read_13 ?_
    replace E := E.2
    refine z_if_lt (tgt := 34) hC dX12_read_14 (by decide) (fun c9 => ?_) (fun c9 => ?_)
    · replace E := E.1 c9
      refine z_sub [] rfl ?_
      exact hK7  E
    · replace E := E.2 c9
      refine z_aload_n hC dX12_read_17 rfl 0 rfl ?_
      refine z_iload_n hC dX12_read_18 rfl 2 rfl ?_
      refine z_iconst (v := 0) hC dX12_read_19 rfl ?_
      refine z_aload_n hC dX12_read_20 rfl 0 rfl ?_
      refine z_get hC lf_X12_168_12 (kM_33 hF) dX12_read_21 (fV_ref rfl (rM_33_51 hF)) ?_
      refine z_iload_n hC dX12_read_24 rfl 1 rfl ?_
      refine z_iald hC (kM_62 hF) (nM_62 hF) E.1 dX12_read_25 ?_
      replace E := E.2
      refine z_iconst (v := 1) hC dX12_read_26 rfl ?_
      refine z_isub hC dX12_read_27 ?_
      refine z_callV (ci := 12) (rest := []) hC (ck_mk lk_X12_178 in_X12_in cd_X12_in ds_X12_in (Nat.le_of_ble_eq_true rfl) (Nat.le_of_ble_eq_true rfl)) iy_X12_in sy_X12_in cf_12 (by decide) (kM_33 hF) (ct_X12_in hF E) rfl rfl (Nat.le_of_ble_eq_true rfl) ⟨Nat.le_refl _, Nat.le_refl _⟩ dX12_read_28 ?_
      rintro _ _ _ ⟨v11, rfl, rfl, rfl, E⟩
      refine z_if_ne (tgt := 40) hC dX12_read_31 (by decide) (fun c15 => ?_) (fun c15 => ?_)
      · replace E := E.1 c15
        refine z_aload_n hC dX12_read_40 rfl 0 rfl ?_
        refine z_get hC lf_X12_171_12 (kM_33 hF) dX12_read_41 (fV_ref rfl (rM_33_52 hF)) ?_
        refine z_bipush (v := 60) hC dX12_read_44 rfl ?_
        refine z_iload_n hC dX12_read_46 rfl 1 rfl ?_
        refine z_imul hC dX12_read_47 ?_
        refine z_iload_n hC dX12_read_48 rfl 2 rfl ?_
        refine z_iadd hC dX12_read_49 ?_
        refine z_lald hC (kM_63 hF) (nM_63 hF) E.1 dX12_read_50 ?_
        replace E := E.2
        exact z_lret hC dX12_read_51 (Nat.le_refl _) (Nat.le_refl _) ⟨_, rfl, rfl, rfl, E⟩
      · replace E := E.2 c15
        refine z_sub [] rfl ?_
        exact hK7  E
def fX12_score (a1 : Int32) (a2 : Int32) (D : Dy) (post : Int32 → Dy → Prop) : Prop :=
  (fX12_isModel a1 D (fun (v2 : Int32) => (JN (fun (D6 : Dy) => post (-1 : Int32) D6) (fun K7 : Dy → Prop => ((v2 = 0 → (K7 D)) ∧ (¬ v2 = 0 → (fX12_in a2 (0 : Int32) (1 : Int32) (fun (v11 : Int32) => ((v11 = 0 → (K7 D)) ∧ (¬ v11 = 0 → (fX12_listen a1 D (fun (v17 : Int32) (D21 : Dy) => ((¬ v17 = 0 → (fX12_scoreOf a1 a2 D21 (fun (v23 : Int32) (D28 : Dy) => post v23 D28))) ∧ (v17 = 0 → (K7 D21)))))))))))))))
set_option maxHeartbeats 4000000 in
set_option maxRecDepth 100000 in
theorem ct_X12_score {l : Launch} {G : Gl} {S : Sh} {D : Dy} (hF : FM S) {a1 : Int32} {a2 : Int32} {post : Int32 → Dy → Prop} (E : fX12_score a1 a2 D post) : Ct l G yX12_score cX12_score 3 (some .int) 9 0 0 S D [.ref (G.1 + 33), .int a1, .int a2] (PI S post) := by
  refine z_enter (lv0 := [(0, .ref (G.1 + 33)), (1, .int a1), (2, .int a2)]) pl_12 (Nat.le_of_ble_eq_true rfl) rfl ?_
  intro p e s m args below meth c hC hnm
  unfold fX12_score at E
  refine z_aload_n hC dX12_score_0 rfl 0 rfl ?_
  refine z_iload_n hC dX12_score_1 rfl 1 rfl ?_
  refine z_callV (ci := 12) (rest := []) hC (ck_mk lk_X12_258 in_X12_isModel cd_X12_isModel ds_X12_isModel (Nat.le_of_ble_eq_true rfl) (Nat.le_of_ble_eq_true rfl)) iy_X12_isModel sy_X12_isModel cf_12 (by decide) (kM_33 hF) (ct_X12_isModel hF E) rfl rfl (Nat.le_of_ble_eq_true rfl) ⟨Nat.le_refl _, Nat.le_refl _⟩ dX12_score_2 ?_
  rintro _ _ _ ⟨v2, rfl, rfl, rfl, E⟩
  obtain ⟨K7, hK8, EE⟩ := JN_use E (fun K7 : Dy → Prop => ∀ (D6 : Dy), K7 D6 → ZM l G p e s m args below meth c 3 9 S (PI S post) S D6 26 [] []) (by
    intro D6 E
    refine z_iconst (v := -1) hC dX12_score_26 rfl ?_
    refine z_goto (tgt := 36) hC dX12_score_27 (by decide) ?_
    exact z_iret hC dX12_score_36 (Nat.le_refl _) (Nat.le_refl _) ⟨_, rfl, rfl, E⟩)
  replace E := EE
  clear EE
  refine z_if_eq (tgt := 26) hC dX12_score_5 (by decide) (fun c9 => ?_) (fun c9 => ?_)
  · replace E := E.1 c9
    refine z_sub [] rfl ?_
    exact hK8 D E
  · replace E := E.2 c9
    refine z_aload_n hC dX12_score_8 rfl 0 rfl ?_
    refine z_iload_n hC dX12_score_9 rfl 2 rfl ?_
    refine z_iconst (v := 0) hC dX12_score_10 rfl ?_
    refine z_iconst (v := 1) hC dX12_score_11 rfl ?_
    refine z_callV (ci := 12) (rest := []) hC (ck_mk lk_X12_178 in_X12_in cd_X12_in ds_X12_in (Nat.le_of_ble_eq_true rfl) (Nat.le_of_ble_eq_true rfl)) iy_X12_in sy_X12_in cf_12 (by decide) (kM_33 hF) (ct_X12_in hF E) rfl rfl (Nat.le_of_ble_eq_true rfl) ⟨Nat.le_refl _, Nat.le_refl _⟩ dX12_score_12 ?_
    rintro _ _ _ ⟨v11, rfl, rfl, rfl, E⟩
    refine z_if_eq (tgt := 26) hC dX12_score_15 (by decide) (fun c15 => ?_) (fun c15 => ?_)
    · replace E := E.1 c15
      refine z_sub [] rfl ?_
      exact hK8 D E
    · replace E := E.2 c15
      refine z_aload_n hC dX12_score_18 rfl 0 rfl ?_
      refine z_iload_n hC dX12_score_19 rfl 1 rfl ?_
      refine z_callV (ci := 12) (rest := []) hC (ck_mk lk_X12_261 in_X12_listen cd_X12_listen ds_X12_listen (Nat.le_of_ble_eq_true rfl) (Nat.le_of_ble_eq_true rfl)) iy_X12_listen sy_X12_listen cf_12 (by decide) (kM_33 hF) (ct_X12_listen hF E) rfl rfl (Nat.le_of_ble_eq_true rfl) ⟨Nat.le_refl _, Nat.le_refl _⟩ dX12_score_20 ?_
      rintro _ _ D21 ⟨v17, rfl, rfl, E⟩
      refine z_if_ne (tgt := 30) hC dX12_score_23 (by decide) (fun c22 => ?_) (fun c22 => ?_)
      · replace E := E.1 c22
        refine z_aload_n hC dX12_score_30 rfl 0 rfl ?_
        refine z_iload_n hC dX12_score_31 rfl 1 rfl ?_
        refine z_iload_n hC dX12_score_32 rfl 2 rfl ?_
        refine z_callV (ci := 12) (rest := []) hC (ck_mk lk_X12_308 in_X12_scoreOf cd_X12_scoreOf ds_X12_scoreOf (Nat.le_of_ble_eq_true rfl) (Nat.le_of_ble_eq_true rfl)) iy_X12_scoreOf sy_X12_scoreOf cf_12 (by decide) (kM_33 hF) (ct_X12_scoreOf hF E) rfl rfl (Nat.le_of_ble_eq_true rfl) ⟨Nat.le_refl _, Nat.le_refl _⟩ dX12_score_33 ?_
        rintro _ _ D28 ⟨v23, rfl, rfl, E⟩
        exact z_iret hC dX12_score_36 (Nat.le_refl _) (Nat.le_refl _) ⟨_, rfl, rfl, E⟩
      · replace E := E.2 c22
        refine z_sub [] rfl ?_
        exact hK8 D21 E
def fX12_sheet (a1 : Int32) (a2 : Int32) (a3 : Int32) (a4 : Int32) (D : Dy) (post : Int32 → Dy → Prop) : Prop :=
  (fX12_isTape a1 (fun (v2 : Int32) => ((v2 = 0 → post (-1 : Int32) D) ∧ (¬ v2 = 0 → (fX12_isTaker a4 D (fun (v8 : Int32) => ((¬ v8 = 0 → (fX12_in a3 (1 : Int32) (20 : Int32) (fun (v14 : Int32) => ((¬ v14 = 0 → (vp_in a1 6 ∧ (JN ((LP3 (fun (rec24 : Int32 → Int32 → Dy → Prop) (v21 : Int32) (v22 : Int32) (D23 : Dy) => (JN (post ((((100 : Int32) * v21) + a3) - v21) D23) (fun K26 : Prop => ((a3 ≤ v22 → K26) ∧ (¬ a3 ≤ v22 → (vp_in a1 6 ∧ (((D23.1 61 (a1).toNatClampNeg) < 0 → K26) ∧ (¬ (D23.1 61 (a1).toNatClampNeg) < 0 → ((a2 < 0 → K26) ∧ (¬ a2 < 0 → (vp_in a1 6 ∧ ((a2 < ((D23.1 62 (a1).toNatClampNeg) - v22) → (vp_in ((((60 : Int32) * a1) + a2) + v22) 360 ∧ (∀ w32 : Int64, w32 = (D23.2 63 (((((60 : Int32) * a1) + a2) + v22)).toNatClampNeg) → (JN (fun (v34 : Int32) (D35 : Dy) => (∀ v38 : Int32, v38 = v22 + 1 → (rec24 v34 v38 D35))) (fun K36 : Int32 → Dy → Prop => (((lg_cmp w32 (0 : Int64)) < 0 → (K36 v21 D23)) ∧ (¬ (lg_cmp w32 (0 : Int64)) < 0 → ((0 ≤ (lg_cmp w32 (6400 : Int64)) → (K36 v21 D23)) ∧ (¬ 0 ≤ (lg_cmp w32 (6400 : Int64)) → (fX12_choice a4 ((w32 / (100 : Int64))).toInt32 (((w32 - w32 / (100 : Int64) * (100 : Int64))).toInt32 - (1 : Int32)) D23 (fun (v42 : Int32) (D47 : Dy) => ((v42 < 0 → (K36 v21 D47)) ∧ (¬ v42 < 0 → (∀ v49 : Int32, v49 = v21 + 1 → (K36 v49 D47))))))))))))))) ∧ (¬ a2 < ((D23.1 62 (a1).toNatClampNeg) - v22) → K26))))))))))))) FU (0 : Int32) (0 : Int32) D)) (fun K19 : Prop => (((D.1 61 (a1).toNatClampNeg) < 0 → K19) ∧ (¬ (D.1 61 (a1).toNatClampNeg) < 0 → (vp_in a1 6 ∧ (((D.1 61 (a1).toNatClampNeg) = (3 : Int32) → K19) ∧ (¬ (D.1 61 (a1).toNatClampNeg) = (3 : Int32) → post (-12 : Int32) D))))))))) ∧ (v14 = 0 → post (-2 : Int32) D))))) ∧ (v8 = 0 → post (-1 : Int32) D))))))))
set_option maxHeartbeats 4000000 in
set_option maxRecDepth 100000 in
theorem ct_X12_sheet {l : Launch} {G : Gl} {S : Sh} {D : Dy} (hF : FM S) {a1 : Int32} {a2 : Int32} {a3 : Int32} {a4 : Int32} {post : Int32 → Dy → Prop} (E : fX12_sheet a1 a2 a3 a4 D post) : Ct l G yX12_sheet cX12_sheet 9 (some .int) 3 0 0 S D [.ref (G.1 + 33), .int a1, .int a2, .int a3, .int a4] (PI S post) := by
  refine z_enter (lv0 := [(0, .ref (G.1 + 33)), (1, .int a1), (2, .int a2), (3, .int a3), (4, .int a4)]) pl_12 (Nat.le_of_ble_eq_true rfl) rfl ?_
  intro p e s m args below meth c hC hnm
  unfold fX12_sheet at E
  refine z_aload_n hC dX12_sheet_0 rfl 0 rfl ?_
  refine z_iload_n hC dX12_sheet_1 rfl 1 rfl ?_
  refine z_callV (ci := 12) (rest := []) hC (ck_mk lk_X12_368 in_X12_isTape cd_X12_isTape ds_X12_isTape (Nat.le_of_ble_eq_true rfl) (Nat.le_of_ble_eq_true rfl)) iy_X12_isTape sy_X12_isTape cf_12 (by decide) (kM_33 hF) (ct_X12_isTape hF E) rfl rfl (Nat.le_of_ble_eq_true rfl) ⟨Nat.le_refl _, Nat.le_refl _⟩ dX12_sheet_2 ?_
  rintro _ _ _ ⟨v2, rfl, rfl, rfl, E⟩
  refine z_if_eq (tgt := 17) hC dX12_sheet_5 (by decide) (fun c6 => ?_) (fun c6 => ?_)
  · replace E := E.1 c6
    refine z_iconst (v := -1) hC dX12_sheet_17 rfl ?_
    exact z_iret hC dX12_sheet_18 (Nat.le_refl _) (Nat.le_refl _) ⟨_, rfl, rfl, E⟩
  · replace E := E.2 c6
    refine z_aload_n hC dX12_sheet_8 rfl 0 rfl ?_
    refine z_iload hC dX12_sheet_9 4 rfl ?_
    refine z_callV (ci := 12) (rest := []) hC (ck_mk lk_X12_186 in_X12_isTaker cd_X12_isTaker ds_X12_isTaker (Nat.le_of_ble_eq_true rfl) (Nat.le_of_ble_eq_true rfl)) iy_X12_isTaker sy_X12_isTaker cf_12 (by decide) (kM_33 hF) (ct_X12_isTaker hF E) rfl rfl (Nat.le_of_ble_eq_true rfl) ⟨Nat.le_refl _, Nat.le_refl _⟩ dX12_sheet_11 ?_
    rintro _ _ _ ⟨v8, rfl, rfl, rfl, E⟩
    refine z_if_ne (tgt := 19) hC dX12_sheet_14 (by decide) (fun c12 => ?_) (fun c12 => ?_)
    · replace E := E.1 c12
      refine z_aload_n hC dX12_sheet_19 rfl 0 rfl ?_
      refine z_iload_n hC dX12_sheet_20 rfl 3 rfl ?_
      refine z_iconst (v := 1) hC dX12_sheet_21 rfl ?_
      refine z_bipush (v := 20) hC dX12_sheet_22 rfl ?_
      refine z_callV (ci := 12) (rest := []) hC (ck_mk lk_X12_178 in_X12_in cd_X12_in ds_X12_in (Nat.le_of_ble_eq_true rfl) (Nat.le_of_ble_eq_true rfl)) iy_X12_in sy_X12_in cf_12 (by decide) (kM_33 hF) (ct_X12_in hF E) rfl rfl (Nat.le_of_ble_eq_true rfl) ⟨Nat.le_refl _, Nat.le_refl _⟩ dX12_sheet_24 ?_
      rintro _ _ _ ⟨v14, rfl, rfl, rfl, E⟩
      refine z_if_ne (tgt := 33) hC dX12_sheet_27 (by decide) (fun c18 => ?_) (fun c18 => ?_)
      · replace E := E.1 c18
        refine z_aload_n hC dX12_sheet_33 rfl 0 rfl ?_
        refine z_get hC lf_X12_165_12 (kM_33 hF) dX12_sheet_34 (fV_ref rfl (rM_33_50 hF)) ?_
        refine z_iload_n hC dX12_sheet_37 rfl 1 rfl ?_
        refine z_iald hC (kM_61 hF) (nM_61 hF) E.1 dX12_sheet_38 ?_
        replace E := E.2
        obtain ⟨K19, hK20, EE⟩ := JN_use E (fun K19 : Prop => K19 → ZM l G p e s m args below meth c 9 3 S (PI S post) S D 55 [(0, .ref (G.1 + 33)), (1, .int a1), (2, .int a2), (3, .int a3), (4, .int a4)] []) (by
          intro E
          refine z_iconst (v := 0) hC dX12_sheet_55 rfl ?_
          refine z_istore (lv' := [(5, .int (0 : Int32)), (0, .ref (G.1 + 33)), (1, .int a1), (2, .int a2), (3, .int a3), (4, .int a4)]) hC dX12_sheet_56 (Nat.le_of_ble_eq_true rfl) rfl ?_
          refine z_iconst (v := 0) hC dX12_sheet_58 rfl ?_
          refine z_istore (lv' := [(6, .int (0 : Int32)), (5, .int (0 : Int32)), (0, .ref (G.1 + 33)), (1, .int a1), (2, .int a2), (3, .int a3), (4, .int a4)]) hC dX12_sheet_59 (Nat.le_of_ble_eq_true rfl) rfl ?_
          refine z_sub [2, 3, 4, 5, 6, 1, 0] rfl ?_
          refine LP3_use (fun (v21 : Int32) (v22 : Int32) (D23 : Dy) => ZM l G p e s m args below meth c 9 3 S (PI S post) S D23 61 [(0, .ref (G.1 + 33)), (1, .int a1), (2, .int a2), (3, .int a3), (4, .int a4), (5, .int v21), (6, .int v22)] []) ?_ FU (0 : Int32) (0 : Int32) D E
          intro rec24 hrec25 v21 v22 D23 E
          refine z_iload hC dX12_sheet_61 6 rfl ?_
          refine z_iload_n hC dX12_sheet_63 rfl 3 rfl ?_
          obtain ⟨K26, hK27, EE⟩ := JN_use E (fun K26 : Prop => K26 → ZM l G p e s m args below meth c 9 3 S (PI S post) S D23 162 [(3, .int a3), (5, .int v21)] []) (by
            intro E
            refine z_bipush (v := 100) hC dX12_sheet_162 rfl ?_
            refine z_iload hC dX12_sheet_164 1 rfl ?_
            refine z_imul hC dX12_sheet_166 ?_
            refine z_iload_n hC dX12_sheet_167 rfl 0 rfl ?_
            refine z_iadd hC dX12_sheet_168 ?_
            refine z_iload hC dX12_sheet_169 1 rfl ?_
            refine z_isub hC dX12_sheet_171 ?_
            exact z_iret hC dX12_sheet_172 (Nat.le_refl _) (Nat.le_refl _) ⟨_, rfl, rfl, E⟩)
          replace E := EE
          clear EE
          refine z_icmp_ge (tgt := 162) hC dX12_sheet_64 (by decide) (fun c28 => ?_) (fun c28 => ?_)
          · replace E := E.1 c28
            refine z_sub [3, 5] rfl ?_
            exact hK27  E
          · replace E := E.2 c28
            refine z_aload_n hC dX12_sheet_67 rfl 0 rfl ?_
            refine z_get hC lf_X12_165_12 (kM_33 hF) dX12_sheet_68 (fV_ref rfl (rM_33_50 hF)) ?_
            refine z_iload_n hC dX12_sheet_71 rfl 1 rfl ?_
            refine z_iald hC (kM_61 hF) (nM_61 hF) E.1 dX12_sheet_72 ?_
            replace E := E.2
            refine z_if_lt (tgt := 162) hC dX12_sheet_73 (by decide) (fun c29 => ?_) (fun c29 => ?_)
            · replace E := E.1 c29
              refine z_sub [3, 5] rfl ?_
              exact hK27  E
            · replace E := E.2 c29
              refine z_iload_n hC dX12_sheet_76 rfl 2 rfl ?_
              refine z_if_lt (tgt := 162) hC dX12_sheet_77 (by decide) (fun c30 => ?_) (fun c30 => ?_)
              · replace E := E.1 c30
                refine z_sub [3, 5] rfl ?_
                exact hK27  E
              · replace E := E.2 c30
                refine z_iload_n hC dX12_sheet_80 rfl 2 rfl ?_
                refine z_aload_n hC dX12_sheet_81 rfl 0 rfl ?_
                refine z_get hC lf_X12_168_12 (kM_33 hF) dX12_sheet_82 (fV_ref rfl (rM_33_51 hF)) ?_
                refine z_iload_n hC dX12_sheet_85 rfl 1 rfl ?_
                refine z_iald hC (kM_62 hF) (nM_62 hF) E.1 dX12_sheet_86 ?_
                replace E := E.2
                refine z_iload hC dX12_sheet_87 6 rfl ?_
                refine z_isub hC dX12_sheet_89 ?_
                refine z_icmp_lt (tgt := 96) hC dX12_sheet_90 (by decide) (fun c31 => ?_) (fun c31 => ?_)
                · replace E := E.1 c31
                  refine z_aload_n hC dX12_sheet_96 rfl 0 rfl ?_
                  refine z_get hC lf_X12_171_12 (kM_33 hF) dX12_sheet_97 (fV_ref rfl (rM_33_52 hF)) ?_
                  refine z_bipush (v := 60) hC dX12_sheet_100 rfl ?_
                  refine z_iload_n hC dX12_sheet_102 rfl 1 rfl ?_
                  refine z_imul hC dX12_sheet_103 ?_
                  refine z_iload_n hC dX12_sheet_104 rfl 2 rfl ?_
                  refine z_iadd hC dX12_sheet_105 ?_
                  refine z_iload hC dX12_sheet_106 6 rfl ?_
                  refine z_iadd hC dX12_sheet_108 ?_
                  refine z_lald hC (kM_63 hF) (nM_63 hF) E.1 dX12_sheet_109 ?_
                  replace E := E.2
                  refine z_topl (fun w32 h33 => ?_)
                  replace E := E w32 h33
                  refine z_lstore (lv' := [(7, .long w32), (0, .ref (G.1 + 33)), (1, .int a1), (2, .int a2), (3, .int a3), (4, .int a4), (5, .int v21), (6, .int v22)]) hC dX12_sheet_110 (Nat.le_of_ble_eq_true rfl) rfl ?_
                  refine z_lload hC dX12_sheet_112 0 rfl ?_
                  refine z_lconst (v := 0) hC dX12_sheet_114 rfl ?_
                  refine z_lcmp hC dX12_sheet_115 ?_
                  obtain ⟨K36, hK37, EE⟩ := JN_use E (fun K36 : Int32 → Dy → Prop => ∀ (v34 : Int32) (D35 : Dy), K36 v34 D35 → ZM l G p e s m args below meth c 9 3 S (PI S post) S D35 156 [(0, .ref (G.1 + 33)), (1, .int a1), (2, .int a2), (3, .int a3), (4, .int a4), (5, .int v34), (6, .int v22)] []) (by
                    intro v34 D35 E
                    obtain ⟨v38, h39⟩ : ∃ y : Int32, y = v22 + 1 := ⟨_, rfl⟩
                    replace E := E v38 h39
                    refine z_iinc (q := 6) (v := v38) (lv' := [(6, .int v38), (0, .ref (G.1 + 33)), (1, .int a1), (2, .int a2), (3, .int a3), (4, .int a4), (5, .int v34)]) hC dX12_sheet_156 rfl (by rw [h39]; rfl) (Nat.le_of_ble_eq_true rfl) rfl ?_
                    refine z_goto (tgt := 61) hC dX12_sheet_159 (by decide) ?_
                    refine z_sub [1, 2, 3, 4, 5, 6, 0] rfl ?_
                    exact hrec25 v34 v38 D35 E)
                  replace E := EE
                  clear EE
                  refine z_if_lt (tgt := 156) hC dX12_sheet_116 (by decide) (fun c40 => ?_) (fun c40 => ?_)
                  · replace E := E.1 c40
                    refine z_sub [1, 2, 3, 4, 5, 6, 7] rfl ?_
                    exact hK37 v21 D23 E
                  · replace E := E.2 c40
                    refine z_lload hC dX12_sheet_119 0 rfl ?_
                    refine z_ldc2 hC kl_X12_371 dX12_sheet_121 ?_
                    refine z_lcmp hC dX12_sheet_124 ?_
                    refine z_if_ge (tgt := 156) hC dX12_sheet_125 (by decide) (fun c41 => ?_) (fun c41 => ?_)
                    · replace E := E.1 c41
                      refine z_sub [1, 2, 3, 4, 5, 6, 7] rfl ?_
                      exact hK37 v21 D23 E
                    · replace E := E.2 c41
                      refine z_aload_n hC dX12_sheet_128 rfl 1 rfl ?_
                      refine z_iload hC dX12_sheet_129 5 rfl ?_
                      refine z_lload hC dX12_sheet_131 0 rfl ?_
                      refine z_ldc2 hC kl_X12_373 dX12_sheet_133 ?_
                      refine z_ldiv hC dX12_sheet_136 (by decide) ?_
                      refine z_l2i hC dX12_sheet_137 ?_
                      refine z_lload hC dX12_sheet_138 0 rfl ?_
                      refine z_ldc2 hC kl_X12_373 dX12_sheet_140 ?_
                      refine z_lrem hC dX12_sheet_143 (by decide) ?_
                      refine z_l2i hC dX12_sheet_144 ?_
                      refine z_iconst (v := 1) hC dX12_sheet_145 rfl ?_
                      refine z_isub hC dX12_sheet_146 ?_
                      refine z_callV (ci := 12) (rest := []) hC (ck_mk lk_X12_375 in_X12_choice cd_X12_choice ds_X12_choice (Nat.le_of_ble_eq_true rfl) (Nat.le_of_ble_eq_true rfl)) iy_X12_choice sy_X12_choice cf_12 (by decide) (kM_33 hF) (ct_X12_choice hF E) rfl rfl (Nat.le_of_ble_eq_true rfl) ⟨Nat.le_refl _, Nat.le_refl _⟩ dX12_sheet_147 ?_
                      rintro _ _ D47 ⟨v42, rfl, rfl, E⟩
                      refine z_if_lt (tgt := 156) hC dX12_sheet_150 (by decide) (fun c48 => ?_) (fun c48 => ?_)
                      · replace E := E.1 c48
                        refine z_sub [1, 2, 3, 4, 5, 6, 7] rfl ?_
                        exact hK37 v21 D47 E
                      · replace E := E.2 c48
                        obtain ⟨v49, h50⟩ : ∃ y : Int32, y = v21 + 1 := ⟨_, rfl⟩
                        replace E := E v49 h50
                        refine z_iinc (q := 6) (v := v49) (lv' := [(5, .int v49), (7, .long w32), (0, .ref (G.1 + 33)), (1, .int a1), (2, .int a2), (3, .int a3), (4, .int a4), (6, .int v22)]) hC dX12_sheet_153 rfl (by rw [h50]; rfl) (Nat.le_of_ble_eq_true rfl) rfl ?_
                        refine z_sub [2, 3, 4, 5, 6, 0, 7] rfl ?_
                        exact hK37 v49 D47 E
                · replace E := E.2 c31
                  refine z_goto (tgt := 162) hC dX12_sheet_93 (by decide) ?_
                  refine z_sub [3, 5] rfl ?_
                  exact hK27  E)
        replace E := EE
        clear EE
        refine z_if_lt (tgt := 55) hC dX12_sheet_39 (by decide) (fun c51 => ?_) (fun c51 => ?_)
        · replace E := E.1 c51
          exact hK20  E
        · replace E := E.2 c51
          refine z_aload_n hC dX12_sheet_42 rfl 0 rfl ?_
          refine z_get hC lf_X12_165_12 (kM_33 hF) dX12_sheet_43 (fV_ref rfl (rM_33_50 hF)) ?_
          refine z_iload_n hC dX12_sheet_46 rfl 1 rfl ?_
          refine z_iald hC (kM_61 hF) (nM_61 hF) E.1 dX12_sheet_47 ?_
          replace E := E.2
          refine z_iconst (v := 3) hC dX12_sheet_48 rfl ?_
          refine z_icmp_eq (tgt := 55) hC dX12_sheet_49 (by decide) (fun c52 => ?_) (fun c52 => ?_)
          · replace E := E.1 c52
            exact hK20  E
          · replace E := E.2 c52
            refine z_bipush (v := -12) hC dX12_sheet_52 rfl ?_
            exact z_iret hC dX12_sheet_54 (Nat.le_refl _) (Nat.le_refl _) ⟨_, rfl, rfl, E⟩
      · replace E := E.2 c18
        refine z_bipush (v := -2) hC dX12_sheet_30 rfl ?_
        exact z_iret hC dX12_sheet_32 (Nat.le_refl _) (Nat.le_refl _) ⟨_, rfl, rfl, E⟩
    · replace E := E.2 c12
      refine z_iconst (v := -1) hC dX12_sheet_17 rfl ?_
      exact z_iret hC dX12_sheet_18 (Nat.le_refl _) (Nat.le_refl _) ⟨_, rfl, rfl, E⟩
def fX12_shift (a1 : Int32) (a2 : Int32) (a3 : Int32) (a4 : Int32) (a5 : Int32) (D : Dy) (post : Int32 → Dy → Prop) : Prop :=
  (fX12_isTape a1 (fun (v2 : Int32) => ((v2 = 0 → post (-1 : Int32) D) ∧ (¬ v2 = 0 → (fX12_isTape a3 (fun (v8 : Int32) => ((¬ v8 = 0 → (vp_in a1 6 ∧ (((D.1 61 (a1).toNatClampNeg) < 0 → post (-11 : Int32) D) ∧ (¬ (D.1 61 (a1).toNatClampNeg) < 0 → (vp_in a3 6 ∧ ((0 ≤ (D.1 61 (a3).toNatClampNeg) → (vp_in a1 6 ∧ (vp_in a3 6 ∧ (((D.1 61 (a1).toNatClampNeg) = (D.1 61 (a3).toNatClampNeg) → ((a5 < 0 → post (-13 : Int32) D) ∧ (¬ a5 < 0 → ((a2 < 0 → post (-13 : Int32) D) ∧ (¬ a2 < 0 → ((a4 < 0 → post (-13 : Int32) D) ∧ (¬ a4 < 0 → (vp_in a1 6 ∧ ((((D.1 62 (a1).toNatClampNeg) - a5) < a2 → post (-13 : Int32) D) ∧ (¬ ((D.1 62 (a1).toNatClampNeg) - a5) < a2 → (vp_in a3 6 ∧ ((a4 ≤ ((D.1 62 (a3).toNatClampNeg) - a5) → (LP2 (fun (rec23 : Int32 → Dy → Prop) (v21 : Int32) (D22 : Dy) => ((a5 ≤ v21 → (LP2 (fun (rec28 : Int32 → Dy → Prop) (v26 : Int32) (D27 : Dy) => ((a5 ≤ v26 → post a5 D27) ∧ (¬ a5 ≤ v26 → (vp_in v26 60 ∧ (vp_in ((((60 : Int32) * a3) + a4) + v26) 360 ∧ (∀ D31 : Dy, D31 = sL D27 63 (((((60 : Int32) * a3) + a4) + v26)).toNatClampNeg (D27.2 64 (v26).toNatClampNeg) → (∀ v33 : Int32, v33 = v26 + 1 → (rec28 v33 D31)))))))) FU (0 : Int32) D22)) ∧ (¬ a5 ≤ v21 → (vp_in ((((60 : Int32) * a1) + a2) + v21) 360 ∧ (vp_in v21 60 ∧ (∀ D35 : Dy, D35 = sL D22 64 (v21).toNatClampNeg (D22.2 63 (((((60 : Int32) * a1) + a2) + v21)).toNatClampNeg) → (∀ v37 : Int32, v37 = v21 + 1 → (rec23 v37 D35)))))))) FU (0 : Int32) D)) ∧ (¬ a4 ≤ ((D.1 62 (a3).toNatClampNeg) - a5) → post (-13 : Int32) D))))))))))))) ∧ (¬ (D.1 61 (a1).toNatClampNeg) = (D.1 61 (a3).toNatClampNeg) → post (-12 : Int32) D))))) ∧ (¬ 0 ≤ (D.1 61 (a3).toNatClampNeg) → post (-11 : Int32) D))))))) ∧ (v8 = 0 → post (-1 : Int32) D))))))))
set_option maxHeartbeats 4000000 in
set_option maxRecDepth 100000 in
theorem ct_X12_shift {l : Launch} {G : Gl} {S : Sh} {D : Dy} (hF : FM S) {a1 : Int32} {a2 : Int32} {a3 : Int32} {a4 : Int32} {a5 : Int32} {post : Int32 → Dy → Prop} (E : fX12_shift a1 a2 a3 a4 a5 D post) : Ct l G yX12_shift cX12_shift 7 (some .int) 2 0 0 S D [.ref (G.1 + 33), .int a1, .int a2, .int a3, .int a4, .int a5] (PI S post) := by
  refine z_enter (lv0 := [(0, .ref (G.1 + 33)), (1, .int a1), (2, .int a2), (3, .int a3), (4, .int a4), (5, .int a5)]) pl_12 (Nat.le_of_ble_eq_true rfl) rfl ?_
  intro p e s m args below meth c hC hnm
  unfold fX12_shift at E
  refine z_aload_n hC dX12_shift_0 rfl 0 rfl ?_
  refine z_iload_n hC dX12_shift_1 rfl 1 rfl ?_
  refine z_callV (ci := 12) (rest := []) hC (ck_mk lk_X12_368 in_X12_isTape cd_X12_isTape ds_X12_isTape (Nat.le_of_ble_eq_true rfl) (Nat.le_of_ble_eq_true rfl)) iy_X12_isTape sy_X12_isTape cf_12 (by decide) (kM_33 hF) (ct_X12_isTape hF E) rfl rfl (Nat.le_of_ble_eq_true rfl) ⟨Nat.le_refl _, Nat.le_refl _⟩ dX12_shift_2 ?_
  rintro _ _ _ ⟨v2, rfl, rfl, rfl, E⟩
  refine z_if_eq (tgt := 16) hC dX12_shift_5 (by decide) (fun c6 => ?_) (fun c6 => ?_)
  · replace E := E.1 c6
    refine z_iconst (v := -1) hC dX12_shift_16 rfl ?_
    exact z_iret hC dX12_shift_17 (Nat.le_refl _) (Nat.le_refl _) ⟨_, rfl, rfl, E⟩
  · replace E := E.2 c6
    refine z_aload_n hC dX12_shift_8 rfl 0 rfl ?_
    refine z_iload_n hC dX12_shift_9 rfl 3 rfl ?_
    refine z_callV (ci := 12) (rest := []) hC (ck_mk lk_X12_368 in_X12_isTape cd_X12_isTape ds_X12_isTape (Nat.le_of_ble_eq_true rfl) (Nat.le_of_ble_eq_true rfl)) iy_X12_isTape sy_X12_isTape cf_12 (by decide) (kM_33 hF) (ct_X12_isTape hF E) rfl rfl (Nat.le_of_ble_eq_true rfl) ⟨Nat.le_refl _, Nat.le_refl _⟩ dX12_shift_10 ?_
    rintro _ _ _ ⟨v8, rfl, rfl, rfl, E⟩
    refine z_if_ne (tgt := 18) hC dX12_shift_13 (by decide) (fun c12 => ?_) (fun c12 => ?_)
    · replace E := E.1 c12
      refine z_aload_n hC dX12_shift_18 rfl 0 rfl ?_
      refine z_get hC lf_X12_165_12 (kM_33 hF) dX12_shift_19 (fV_ref rfl (rM_33_50 hF)) ?_
      refine z_iload_n hC dX12_shift_22 rfl 1 rfl ?_
      refine z_iald hC (kM_61 hF) (nM_61 hF) E.1 dX12_shift_23 ?_
      replace E := E.2
      refine z_if_lt (tgt := 36) hC dX12_shift_24 (by decide) (fun c13 => ?_) (fun c13 => ?_)
      · replace E := E.1 c13
        refine z_bipush (v := -11) hC dX12_shift_36 rfl ?_
        exact z_iret hC dX12_shift_38 (Nat.le_refl _) (Nat.le_refl _) ⟨_, rfl, rfl, E⟩
      · replace E := E.2 c13
        refine z_aload_n hC dX12_shift_27 rfl 0 rfl ?_
        refine z_get hC lf_X12_165_12 (kM_33 hF) dX12_shift_28 (fV_ref rfl (rM_33_50 hF)) ?_
        refine z_iload_n hC dX12_shift_31 rfl 3 rfl ?_
        refine z_iald hC (kM_61 hF) (nM_61 hF) E.1 dX12_shift_32 ?_
        replace E := E.2
        refine z_if_ge (tgt := 39) hC dX12_shift_33 (by decide) (fun c14 => ?_) (fun c14 => ?_)
        · replace E := E.1 c14
          refine z_aload_n hC dX12_shift_39 rfl 0 rfl ?_
          refine z_get hC lf_X12_165_12 (kM_33 hF) dX12_shift_40 (fV_ref rfl (rM_33_50 hF)) ?_
          refine z_iload_n hC dX12_shift_43 rfl 1 rfl ?_
          refine z_iald hC (kM_61 hF) (nM_61 hF) E.1 dX12_shift_44 ?_
          replace E := E.2
          refine z_aload_n hC dX12_shift_45 rfl 0 rfl ?_
          refine z_get hC lf_X12_165_12 (kM_33 hF) dX12_shift_46 (fV_ref rfl (rM_33_50 hF)) ?_
          refine z_iload_n hC dX12_shift_49 rfl 3 rfl ?_
          refine z_iald hC (kM_61 hF) (nM_61 hF) E.1 dX12_shift_50 ?_
          replace E := E.2
          refine z_icmp_eq (tgt := 57) hC dX12_shift_51 (by decide) (fun c15 => ?_) (fun c15 => ?_)
          · replace E := E.1 c15
            refine z_iload hC dX12_shift_57 5 rfl ?_
            refine z_if_lt (tgt := 98) hC dX12_shift_59 (by decide) (fun c16 => ?_) (fun c16 => ?_)
            · replace E := E.1 c16
              refine z_bipush (v := -13) hC dX12_shift_98 rfl ?_
              exact z_iret hC dX12_shift_100 (Nat.le_refl _) (Nat.le_refl _) ⟨_, rfl, rfl, E⟩
            · replace E := E.2 c16
              refine z_iload_n hC dX12_shift_62 rfl 2 rfl ?_
              refine z_if_lt (tgt := 98) hC dX12_shift_63 (by decide) (fun c17 => ?_) (fun c17 => ?_)
              · replace E := E.1 c17
                refine z_bipush (v := -13) hC dX12_shift_98 rfl ?_
                exact z_iret hC dX12_shift_100 (Nat.le_refl _) (Nat.le_refl _) ⟨_, rfl, rfl, E⟩
              · replace E := E.2 c17
                refine z_iload hC dX12_shift_66 4 rfl ?_
                refine z_if_lt (tgt := 98) hC dX12_shift_68 (by decide) (fun c18 => ?_) (fun c18 => ?_)
                · replace E := E.1 c18
                  refine z_bipush (v := -13) hC dX12_shift_98 rfl ?_
                  exact z_iret hC dX12_shift_100 (Nat.le_refl _) (Nat.le_refl _) ⟨_, rfl, rfl, E⟩
                · replace E := E.2 c18
                  refine z_iload_n hC dX12_shift_71 rfl 2 rfl ?_
                  refine z_aload_n hC dX12_shift_72 rfl 0 rfl ?_
                  refine z_get hC lf_X12_168_12 (kM_33 hF) dX12_shift_73 (fV_ref rfl (rM_33_51 hF)) ?_
                  refine z_iload_n hC dX12_shift_76 rfl 1 rfl ?_
                  refine z_iald hC (kM_62 hF) (nM_62 hF) E.1 dX12_shift_77 ?_
                  replace E := E.2
                  refine z_iload hC dX12_shift_78 5 rfl ?_
                  refine z_isub hC dX12_shift_80 ?_
                  refine z_icmp_gt (tgt := 98) hC dX12_shift_81 (by decide) (fun c19 => ?_) (fun c19 => ?_)
                  · replace E := E.1 c19
                    refine z_bipush (v := -13) hC dX12_shift_98 rfl ?_
                    exact z_iret hC dX12_shift_100 (Nat.le_refl _) (Nat.le_refl _) ⟨_, rfl, rfl, E⟩
                  · replace E := E.2 c19
                    refine z_iload hC dX12_shift_84 4 rfl ?_
                    refine z_aload_n hC dX12_shift_86 rfl 0 rfl ?_
                    refine z_get hC lf_X12_168_12 (kM_33 hF) dX12_shift_87 (fV_ref rfl (rM_33_51 hF)) ?_
                    refine z_iload_n hC dX12_shift_90 rfl 3 rfl ?_
                    refine z_iald hC (kM_62 hF) (nM_62 hF) E.1 dX12_shift_91 ?_
                    replace E := E.2
                    refine z_iload hC dX12_shift_92 5 rfl ?_
                    refine z_isub hC dX12_shift_94 ?_
                    refine z_icmp_le (tgt := 101) hC dX12_shift_95 (by decide) (fun c20 => ?_) (fun c20 => ?_)
                    · replace E := E.1 c20
                      refine z_iconst (v := 0) hC dX12_shift_101 rfl ?_
                      refine z_istore (lv' := [(6, .int (0 : Int32)), (0, .ref (G.1 + 33)), (1, .int a1), (2, .int a2), (3, .int a3), (4, .int a4), (5, .int a5)]) hC dX12_shift_102 (Nat.le_of_ble_eq_true rfl) rfl ?_
                      refine z_sub [1, 2, 3, 4, 5, 6, 0] rfl ?_
                      refine LP2_use (fun (v21 : Int32) (D22 : Dy) => ZM l G p e s m args below meth c 7 2 S (PI S post) S D22 104 [(0, .ref (G.1 + 33)), (1, .int a1), (2, .int a2), (3, .int a3), (4, .int a4), (5, .int a5), (6, .int v21)] []) ?_ FU (0 : Int32) D E
                      intro rec23 hrec24 v21 D22 E
                      refine z_iload hC dX12_shift_104 6 rfl ?_
                      refine z_iload hC dX12_shift_106 5 rfl ?_
                      refine z_icmp_ge (tgt := 138) hC dX12_shift_108 (by decide) (fun c25 => ?_) (fun c25 => ?_)
                      · replace E := E.1 c25
                        refine z_iconst (v := 0) hC dX12_shift_138 rfl ?_
                        refine z_istore (lv' := [(6, .int (0 : Int32)), (0, .ref (G.1 + 33)), (1, .int a1), (2, .int a2), (3, .int a3), (4, .int a4), (5, .int a5)]) hC dX12_shift_139 (Nat.le_of_ble_eq_true rfl) rfl ?_
                        refine z_sub [1, 4, 5, 6, 0] rfl ?_
                        refine LP2_use (fun (v26 : Int32) (D27 : Dy) => ZM l G p e s m args below meth c 7 2 S (PI S post) S D27 141 [(0, .ref (G.1 + 33)), (3, .int a3), (4, .int a4), (5, .int a5), (6, .int v26)] []) ?_ FU (0 : Int32) D22 E
                        intro rec28 hrec29 v26 D27 E
                        refine z_iload hC dX12_shift_141 4 rfl ?_
                        refine z_iload hC dX12_shift_143 3 rfl ?_
                        refine z_icmp_ge (tgt := 176) hC dX12_shift_145 (by decide) (fun c30 => ?_) (fun c30 => ?_)
                        · replace E := E.1 c30
                          refine z_iload hC dX12_shift_176 3 rfl ?_
                          exact z_iret hC dX12_shift_178 (Nat.le_refl _) (Nat.le_refl _) ⟨_, rfl, rfl, E⟩
                        · replace E := E.2 c30
                          refine z_aload_n hC dX12_shift_148 rfl 0 rfl ?_
                          refine z_get hC lf_X12_171_12 (kM_33 hF) dX12_shift_149 (fV_ref rfl (rM_33_52 hF)) ?_
                          refine z_bipush (v := 60) hC dX12_shift_152 rfl ?_
                          refine z_iload_n hC dX12_shift_154 rfl 1 rfl ?_
                          refine z_imul hC dX12_shift_155 ?_
                          refine z_iload hC dX12_shift_156 2 rfl ?_
                          refine z_iadd hC dX12_shift_158 ?_
                          refine z_iload hC dX12_shift_159 4 rfl ?_
                          refine z_iadd hC dX12_shift_161 ?_
                          refine z_aload_n hC dX12_shift_162 rfl 0 rfl ?_
                          refine z_get hC lf_X12_175_12 (kM_33 hF) dX12_shift_163 (fV_ref rfl (rM_33_53 hF)) ?_
                          refine z_iload hC dX12_shift_166 4 rfl ?_
                          refine z_lald hC (kM_64 hF) (nM_64 hF) E.1 dX12_shift_168 ?_
                          replace E := E.2
                          refine z_last hC (kM_63 hF) (nM_63 hF) E.1 dX12_shift_169 ?_
                          replace E := E.2
                          refine z_topD (fun D31 h32 => ?_)
                          replace E := E D31 h32
                          obtain ⟨v33, h34⟩ : ∃ y : Int32, y = v26 + 1 := ⟨_, rfl⟩
                          replace E := E v33 h34
                          refine z_iinc (q := 4) (v := v33) (lv' := [(6, .int v33), (0, .ref (G.1 + 33)), (3, .int a3), (4, .int a4), (5, .int a5)]) hC dX12_shift_170 rfl (by rw [h34]; rfl) (Nat.le_of_ble_eq_true rfl) rfl ?_
                          refine z_goto (tgt := 141) hC dX12_shift_173 (by decide) ?_
                          refine z_sub [1, 2, 3, 4, 0] rfl ?_
                          exact hrec29 v33 D31 E
                      · replace E := E.2 c25
                        refine z_aload_n hC dX12_shift_111 rfl 0 rfl ?_
                        refine z_get hC lf_X12_175_12 (kM_33 hF) dX12_shift_112 (fV_ref rfl (rM_33_53 hF)) ?_
                        refine z_iload hC dX12_shift_115 6 rfl ?_
                        refine z_aload_n hC dX12_shift_117 rfl 0 rfl ?_
                        refine z_get hC lf_X12_171_12 (kM_33 hF) dX12_shift_118 (fV_ref rfl (rM_33_52 hF)) ?_
                        refine z_bipush (v := 60) hC dX12_shift_121 rfl ?_
                        refine z_iload_n hC dX12_shift_123 rfl 1 rfl ?_
                        refine z_imul hC dX12_shift_124 ?_
                        refine z_iload_n hC dX12_shift_125 rfl 2 rfl ?_
                        refine z_iadd hC dX12_shift_126 ?_
                        refine z_iload hC dX12_shift_127 6 rfl ?_
                        refine z_iadd hC dX12_shift_129 ?_
                        refine z_lald hC (kM_63 hF) (nM_63 hF) E.1 dX12_shift_130 ?_
                        replace E := E.2
                        refine z_last hC (kM_64 hF) (nM_64 hF) E.1 dX12_shift_131 ?_
                        replace E := E.2
                        refine z_topD (fun D35 h36 => ?_)
                        replace E := E D35 h36
                        obtain ⟨v37, h38⟩ : ∃ y : Int32, y = v21 + 1 := ⟨_, rfl⟩
                        replace E := E v37 h38
                        refine z_iinc (q := 6) (v := v37) (lv' := [(6, .int v37), (0, .ref (G.1 + 33)), (1, .int a1), (2, .int a2), (3, .int a3), (4, .int a4), (5, .int a5)]) hC dX12_shift_132 rfl (by rw [h38]; rfl) (Nat.le_of_ble_eq_true rfl) rfl ?_
                        refine z_goto (tgt := 104) hC dX12_shift_135 (by decide) ?_
                        refine z_sub [1, 2, 3, 4, 5, 6, 0] rfl ?_
                        exact hrec24 v37 D35 E
                    · replace E := E.2 c20
                      refine z_bipush (v := -13) hC dX12_shift_98 rfl ?_
                      exact z_iret hC dX12_shift_100 (Nat.le_refl _) (Nat.le_refl _) ⟨_, rfl, rfl, E⟩
          · replace E := E.2 c15
            refine z_bipush (v := -12) hC dX12_shift_54 rfl ?_
            exact z_iret hC dX12_shift_56 (Nat.le_refl _) (Nat.le_refl _) ⟨_, rfl, rfl, E⟩
        · replace E := E.2 c14
          refine z_bipush (v := -11) hC dX12_shift_36 rfl ?_
          exact z_iret hC dX12_shift_38 (Nat.le_refl _) (Nat.le_refl _) ⟨_, rfl, rfl, E⟩
    · replace E := E.2 c12
      refine z_iconst (v := -1) hC dX12_shift_16 rfl ?_
      exact z_iret hC dX12_shift_17 (Nat.le_refl _) (Nat.le_refl _) ⟨_, rfl, rfl, E⟩
def fX12_silly (a1 : Int32) (D : Dy) (post : Int32 → Prop) : Prop :=
  (fX12_isSet a1 D (fun (v2 : Int32) => ((¬ v2 = 0 → (fX12_ones a1 (fun (v7 : Int32) => (((2 : Int32) ≤ v7 → (LP1 (fun (rec14 : Int32 → Prop) (v13 : Int32) => (((D.1 33 0) ≤ v13 → post (0 : Int32)) ∧ (¬ (D.1 33 0) ≤ v13 → (fX12_has a1 v13 (fun (v18 : Int32) => (JN ((∀ v24 : Int32, v24 = v13 + 1 → (rec14 v24))) (fun K22 : Prop => ((¬ v18 = 0 → (LP2 (fun (rec29 : Int32 → Int32 → Prop) (v27 : Int32) (v28 : Int32) => (((D.1 33 0) ≤ v28 → ((v27 = 0 → K22) ∧ (¬ v27 = 0 → post (1 : Int32)))) ∧ (¬ (D.1 33 0) ≤ v28 → (JN (fun (v33 : Int32) => (∀ v36 : Int32, v36 = v28 + 1 → (rec29 v33 v36))) (fun K34 : Int32 → Prop => (JN ((K34 (0 : Int32))) (fun K38 : Prop => ((v27 = 0 → K38) ∧ (¬ v27 = 0 → (JN ((K34 (1 : Int32))) (fun K41 : Prop => ((v28 = v13 → K41) ∧ (¬ v28 = v13 → (fX12_has a1 v28 (fun (v45 : Int32) => ((v45 = 0 → K41) ∧ (¬ v45 = 0 → (vp_in v28 6 ∧ (vp_in v13 6 ∧ ((¬ ((D.1 34 (v28).toNatClampNeg) &&& ((D.1 34 (v13).toNatClampNeg) ^^^ (-1 : Int32))) = 0 → K38) ∧ (((D.1 34 (v28).toNatClampNeg) &&& ((D.1 34 (v13).toNatClampNeg) ^^^ (-1 : Int32))) = 0 → (vp_in v13 6 ∧ (vp_in v28 6 ∧ (((D.1 35 (v28).toNatClampNeg) < (D.1 35 (v13).toNatClampNeg) → K38) ∧ (¬ (D.1 35 (v28).toNatClampNeg) < (D.1 35 (v13).toNatClampNeg) → K41))))))))))))))))))))))))) FU (1 : Int32) (0 : Int32))) ∧ (v18 = 0 → K22))))))))) FU (0 : Int32))) ∧ (¬ (2 : Int32) ≤ v7 → post (0 : Int32)))))) ∧ (v2 = 0 → post (-2 : Int32)))))
set_option maxHeartbeats 4000000 in
set_option maxRecDepth 100000 in
theorem ct_X12_silly {l : Launch} {G : Gl} {S : Sh} {D : Dy} (hF : FM S) {a1 : Int32} {post : Int32 → Prop} (E : fX12_silly a1 D post) : Ct l G yX12_silly cX12_silly 5 (some .int) 2 0 0 S D [.ref (G.1 + 33), .int a1] (PIr S D post) := by
  refine z_enter (lv0 := [(0, .ref (G.1 + 33)), (1, .int a1)]) pl_12 (Nat.le_of_ble_eq_true rfl) rfl ?_
  intro p e s m args below meth c hC hnm
  unfold fX12_silly at E
  refine z_aload_n hC dX12_silly_0 rfl 0 rfl ?_
  refine z_iload_n hC dX12_silly_1 rfl 1 rfl ?_
  refine z_callV (ci := 12) (rest := []) hC (ck_mk lk_X12_189 in_X12_isSet cd_X12_isSet ds_X12_isSet (Nat.le_of_ble_eq_true rfl) (Nat.le_of_ble_eq_true rfl)) iy_X12_isSet sy_X12_isSet cf_12 (by decide) (kM_33 hF) (ct_X12_isSet hF E) rfl rfl (Nat.le_of_ble_eq_true rfl) ⟨Nat.le_refl _, Nat.le_refl _⟩ dX12_silly_2 ?_
  rintro _ _ _ ⟨v2, rfl, rfl, rfl, E⟩
  refine z_if_ne (tgt := 11) hC dX12_silly_5 (by decide) (fun c6 => ?_) (fun c6 => ?_)
  · replace E := E.1 c6
    refine z_aload_n hC dX12_silly_11 rfl 0 rfl ?_
    refine z_iload_n hC dX12_silly_12 rfl 1 rfl ?_
    refine z_callV (ci := 12) (rest := []) hC (ck_mk lk_X12_280 in_X12_ones cd_X12_ones ds_X12_ones (Nat.le_of_ble_eq_true rfl) (Nat.le_of_ble_eq_true rfl)) iy_X12_ones sy_X12_ones cf_12 (by decide) (kM_33 hF) (ct_X12_ones hF E) rfl rfl (Nat.le_of_ble_eq_true rfl) ⟨Nat.le_refl _, Nat.le_refl _⟩ dX12_silly_13 ?_
    rintro _ _ _ ⟨v7, rfl, rfl, rfl, E⟩
    refine z_iconst (v := 2) hC dX12_silly_16 rfl ?_
    refine z_icmp_ge (tgt := 22) hC dX12_silly_17 (by decide) (fun c12 => ?_) (fun c12 => ?_)
    · replace E := E.1 c12
      refine z_iconst (v := 0) hC dX12_silly_22 rfl ?_
      refine z_istore_n (lv' := [(2, .int (0 : Int32)), (0, .ref (G.1 + 33)), (1, .int a1)]) hC dX12_silly_23 rfl (Nat.le_of_ble_eq_true rfl) rfl ?_
      refine z_sub [1, 2, 0] rfl ?_
      refine LP1_use (fun (v13 : Int32) => ZM l G p e s m args below meth c 5 2 S (PIr S D post) S D 24 [(0, .ref (G.1 + 33)), (1, .int a1), (2, .int v13)] []) ?_ FU (0 : Int32) E
      intro rec14 hrec15 v13 E
      refine z_iload_n hC dX12_silly_24 rfl 2 rfl ?_
      refine z_aload_n hC dX12_silly_25 rfl 0 rfl ?_
      refine z_get hC lf_X12_7_12 (kM_33 hF) dX12_silly_26 (fV_int rfl) ?_
      refine z_icmp_ge (tgt := 137) hC dX12_silly_29 (by decide) (fun c16 => ?_) (fun c16 => ?_)
      · replace E := E.1 c16
        refine z_iconst (v := 0) hC dX12_silly_137 rfl ?_
        exact z_iret hC dX12_silly_138 (Nat.le_refl _) (Nat.le_refl _) ⟨_, rfl, rfl, rfl, E⟩
      · replace E := E.2 c16
        refine z_aload_n hC dX12_silly_32 rfl 0 rfl ?_
        refine z_iload_n hC dX12_silly_33 rfl 1 rfl ?_
        refine z_iload_n hC dX12_silly_34 rfl 2 rfl ?_
        refine z_callV (ci := 12) (rest := []) hC (ck_mk lk_X12_192 in_X12_has cd_X12_has ds_X12_has (Nat.le_of_ble_eq_true rfl) (Nat.le_of_ble_eq_true rfl)) iy_X12_has sy_X12_has cf_12 (by decide) (kM_33 hF) (ct_X12_has hF E) rfl rfl (Nat.le_of_ble_eq_true rfl) ⟨Nat.le_refl _, Nat.le_refl _⟩ dX12_silly_35 ?_
        rintro _ _ _ ⟨v18, rfl, rfl, rfl, E⟩
        obtain ⟨K22, hK23, EE⟩ := JN_use E (fun K22 : Prop => K22 → ZM l G p e s m args below meth c 5 2 S (PIr S D post) S D 131 [(0, .ref (G.1 + 33)), (1, .int a1), (2, .int v13)] []) (by
          intro E
          obtain ⟨v24, h25⟩ : ∃ y : Int32, y = v13 + 1 := ⟨_, rfl⟩
          replace E := E v24 h25
          refine z_iinc (q := 2) (v := v24) (lv' := [(2, .int v24), (0, .ref (G.1 + 33)), (1, .int a1)]) hC dX12_silly_131 rfl (by rw [h25]; rfl) (Nat.le_of_ble_eq_true rfl) rfl ?_
          refine z_goto (tgt := 24) hC dX12_silly_134 (by decide) ?_
          refine z_sub [1, 2, 0] rfl ?_
          exact hrec15 v24 E)
        replace E := EE
        clear EE
        refine z_if_ne (tgt := 44) hC dX12_silly_38 (by decide) (fun c26 => ?_) (fun c26 => ?_)
        · replace E := E.1 c26
          refine z_iconst (v := 1) hC dX12_silly_44 rfl ?_
          refine z_istore_n (lv' := [(3, .int (1 : Int32)), (0, .ref (G.1 + 33)), (1, .int a1), (2, .int v13)]) hC dX12_silly_45 rfl (Nat.le_of_ble_eq_true rfl) rfl ?_
          refine z_iconst (v := 0) hC dX12_silly_46 rfl ?_
          refine z_istore (lv' := [(4, .int (0 : Int32)), (3, .int (1 : Int32)), (0, .ref (G.1 + 33)), (1, .int a1), (2, .int v13)]) hC dX12_silly_47 (Nat.le_of_ble_eq_true rfl) rfl ?_
          refine z_sub [2, 3, 4, 1, 0] rfl ?_
          refine LP2_use (fun (v27 : Int32) (v28 : Int32) => ZM l G p e s m args below meth c 5 2 S (PIr S D post) S D 49 [(0, .ref (G.1 + 33)), (1, .int a1), (2, .int v13), (3, .int v27), (4, .int v28)] []) ?_ FU (1 : Int32) (0 : Int32) E
          intro rec29 hrec30 v27 v28 E
          refine z_iload hC dX12_silly_49 4 rfl ?_
          refine z_aload_n hC dX12_silly_51 rfl 0 rfl ?_
          refine z_get hC lf_X12_7_12 (kM_33 hF) dX12_silly_52 (fV_int rfl) ?_
          refine z_icmp_ge (tgt := 125) hC dX12_silly_55 (by decide) (fun c31 => ?_) (fun c31 => ?_)
          · replace E := E.1 c31
            refine z_iload_n hC dX12_silly_125 rfl 3 rfl ?_
            refine z_if_eq (tgt := 131) hC dX12_silly_126 (by decide) (fun c32 => ?_) (fun c32 => ?_)
            · replace E := E.1 c32
              refine z_sub [0, 1, 2] rfl ?_
              exact hK23  E
            · replace E := E.2 c32
              refine z_iconst (v := 1) hC dX12_silly_129 rfl ?_
              exact z_iret hC dX12_silly_130 (Nat.le_refl _) (Nat.le_refl _) ⟨_, rfl, rfl, rfl, E⟩
          · replace E := E.2 c31
            refine z_iload_n hC dX12_silly_58 rfl 3 rfl ?_
            obtain ⟨K34, hK35, EE⟩ := JN_use E (fun K34 : Int32 → Prop => ∀ (v33 : Int32), K34 v33 → ZM l G p e s m args below meth c 5 2 S (PIr S D post) S D 118 [(0, .ref (G.1 + 33)), (1, .int a1), (2, .int v13), (4, .int v28)] [.int v33]) (by
              intro v33 E
              refine z_istore_n (lv' := [(3, .int v33), (0, .ref (G.1 + 33)), (1, .int a1), (2, .int v13), (4, .int v28)]) hC dX12_silly_118 rfl (Nat.le_of_ble_eq_true rfl) rfl ?_
              obtain ⟨v36, h37⟩ : ∃ y : Int32, y = v28 + 1 := ⟨_, rfl⟩
              replace E := E v36 h37
              refine z_iinc (q := 4) (v := v36) (lv' := [(4, .int v36), (3, .int v33), (0, .ref (G.1 + 33)), (1, .int a1), (2, .int v13)]) hC dX12_silly_119 rfl (by rw [h37]; rfl) (Nat.le_of_ble_eq_true rfl) rfl ?_
              refine z_goto (tgt := 49) hC dX12_silly_122 (by decide) ?_
              refine z_sub [2, 3, 4, 1, 0] rfl ?_
              exact hrec30 v33 v36 E)
            replace E := EE
            clear EE
            obtain ⟨K38, hK39, EE⟩ := JN_use E (fun K38 : Prop => K38 → ZM l G p e s m args below meth c 5 2 S (PIr S D post) S D 117 [(0, .ref (G.1 + 33)), (1, .int a1), (2, .int v13), (4, .int v28)] []) (by
              intro E
              refine z_iconst (v := 0) hC dX12_silly_117 rfl ?_
              exact hK35 (0 : Int32) E)
            replace E := EE
            clear EE
            refine z_if_eq (tgt := 117) hC dX12_silly_59 (by decide) (fun c40 => ?_) (fun c40 => ?_)
            · replace E := E.1 c40
              refine z_sub [0, 1, 2, 4] rfl ?_
              exact hK39  E
            · replace E := E.2 c40
              refine z_iload hC dX12_silly_62 4 rfl ?_
              refine z_iload_n hC dX12_silly_64 rfl 2 rfl ?_
              obtain ⟨K41, hK42, EE⟩ := JN_use E (fun K41 : Prop => K41 → ZM l G p e s m args below meth c 5 2 S (PIr S D post) S D 113 [(0, .ref (G.1 + 33)), (1, .int a1), (2, .int v13), (4, .int v28)] []) (by
                intro E
                refine z_iconst (v := 1) hC dX12_silly_113 rfl ?_
                refine z_goto (tgt := 118) hC dX12_silly_114 (by decide) ?_
                exact hK35 (1 : Int32) E)
              replace E := EE
              clear EE
              refine z_icmp_eq (tgt := 113) hC dX12_silly_65 (by decide) (fun c43 => ?_) (fun c43 => ?_)
              · replace E := E.1 c43
                refine z_sub [0, 1, 2, 4] rfl ?_
                exact hK42  E
              · replace E := E.2 c43
                refine z_aload_n hC dX12_silly_68 rfl 0 rfl ?_
                refine z_iload_n hC dX12_silly_69 rfl 1 rfl ?_
                refine z_iload hC dX12_silly_70 4 rfl ?_
                refine z_callV (ci := 12) (rest := []) hC (ck_mk lk_X12_192 in_X12_has cd_X12_has ds_X12_has (Nat.le_of_ble_eq_true rfl) (Nat.le_of_ble_eq_true rfl)) iy_X12_has sy_X12_has cf_12 (by decide) (kM_33 hF) (ct_X12_has hF E) rfl rfl (Nat.le_of_ble_eq_true rfl) ⟨Nat.le_refl _, Nat.le_refl _⟩ dX12_silly_72 ?_
                rintro _ _ _ ⟨v45, rfl, rfl, rfl, E⟩
                refine z_if_eq (tgt := 113) hC dX12_silly_75 (by decide) (fun c49 => ?_) (fun c49 => ?_)
                · replace E := E.1 c49
                  refine z_sub [0, 1, 2, 4] rfl ?_
                  exact hK42  E
                · replace E := E.2 c49
                  refine z_aload_n hC dX12_silly_78 rfl 0 rfl ?_
                  refine z_get hC lf_X12_22_12 (kM_33 hF) dX12_silly_79 (fV_ref rfl (rM_33_4 hF)) ?_
                  refine z_iload hC dX12_silly_82 4 rfl ?_
                  refine z_iald hC (kM_34 hF) (nM_34 hF) E.1 dX12_silly_84 ?_
                  replace E := E.2
                  refine z_aload_n hC dX12_silly_85 rfl 0 rfl ?_
                  refine z_get hC lf_X12_22_12 (kM_33 hF) dX12_silly_86 (fV_ref rfl (rM_33_4 hF)) ?_
                  refine z_iload_n hC dX12_silly_89 rfl 2 rfl ?_
                  refine z_iald hC (kM_34 hF) (nM_34 hF) E.1 dX12_silly_90 ?_
                  replace E := E.2
                  refine z_iconst (v := -1) hC dX12_silly_91 rfl ?_
                  refine z_ixor hC dX12_silly_92 ?_
                  refine z_iand hC dX12_silly_93 ?_
                  refine z_if_ne (tgt := 117) hC dX12_silly_94 (by decide) (fun c50 => ?_) (fun c50 => ?_)
                  · replace E := E.1 c50
                    refine z_sub [0, 1, 2, 4] rfl ?_
                    exact hK39  E
                  · replace E := E.2 c50
                    refine z_aload_n hC dX12_silly_97 rfl 0 rfl ?_
                    refine z_get hC lf_X12_26_12 (kM_33 hF) dX12_silly_98 (fV_ref rfl (rM_33_5 hF)) ?_
                    refine z_iload_n hC dX12_silly_101 rfl 2 rfl ?_
                    refine z_iald hC (kM_35 hF) (nM_35 hF) E.1 dX12_silly_102 ?_
                    replace E := E.2
                    refine z_aload_n hC dX12_silly_103 rfl 0 rfl ?_
                    refine z_get hC lf_X12_26_12 (kM_33 hF) dX12_silly_104 (fV_ref rfl (rM_33_5 hF)) ?_
                    refine z_iload hC dX12_silly_107 4 rfl ?_
                    refine z_iald hC (kM_35 hF) (nM_35 hF) E.1 dX12_silly_109 ?_
                    replace E := E.2
                    refine z_icmp_gt (tgt := 117) hC dX12_silly_110 (by decide) (fun c51 => ?_) (fun c51 => ?_)
                    · replace E := E.1 c51
                      refine z_sub [0, 1, 2, 4] rfl ?_
                      exact hK39  E
                    · replace E := E.2 c51
                      refine z_sub [0, 1, 2, 4] rfl ?_
                      exact hK42  E
        · replace E := E.2 c26
          refine z_goto (tgt := 131) hC dX12_silly_41 (by decide) ?_
          exact hK23  E
    · replace E := E.2 c12
      refine z_iconst (v := 0) hC dX12_silly_20 rfl ?_
      exact z_iret hC dX12_silly_21 (Nat.le_refl _) (Nat.le_refl _) ⟨_, rfl, rfl, rfl, E⟩
  · replace E := E.2 c6
    refine z_bipush (v := -2) hC dX12_silly_8 rfl ?_
    exact z_iret hC dX12_silly_10 (Nat.le_refl _) (Nat.le_refl _) ⟨_, rfl, rfl, rfl, E⟩
def fX12_taken (a1 : Int32) (a2 : Int32) (D : Dy) (post : Int32 → Prop) : Prop :=
  (fX12_in a2 (0 : Int32) (5 : Int32) (fun (v2 : Int32) => ((¬ v2 = 0 → (fX12_isModel a1 D (fun (v8 : Int32) => ((¬ v8 = 0 → (JN ((vp_in a1 10 ∧ post (D.1 43 (a1).toNatClampNeg))) (fun K13 : Prop => ((a2 = 0 → K13) ∧ (¬ a2 = 0 → (vp_in a1 10 ∧ (((D.1 43 (a1).toNatClampNeg) = a2 → K13) ∧ (¬ (D.1 43 (a1).toNatClampNeg) = a2 → (JN (post (-12 : Int32)) (fun K17 : Prop => ((¬ a2 = (1 : Int32) → K17) ∧ (a2 = (1 : Int32) → (vp_in a1 10 ∧ (fX12_in (D.1 43 (a1).toNatClampNeg) (2 : Int32) (4 : Int32) (fun (v21 : Int32) => ((v21 = 0 → K17) ∧ (¬ v21 = 0 → K13))))))))))))))))) ∧ (v8 = 0 → post (-11 : Int32)))))) ∧ (v2 = 0 → post (-2 : Int32)))))
set_option maxHeartbeats 4000000 in
set_option maxRecDepth 100000 in
theorem ct_X12_taken {l : Launch} {G : Gl} {S : Sh} {D : Dy} (hF : FM S) {a1 : Int32} {a2 : Int32} {post : Int32 → Prop} (E : fX12_taken a1 a2 D post) : Ct l G yX12_taken cX12_taken 3 (some .int) 2 0 0 S D [.ref (G.1 + 33), .int a1, .int a2] (PIr S D post) := by
  refine z_enter (lv0 := [(0, .ref (G.1 + 33)), (1, .int a1), (2, .int a2)]) pl_12 (Nat.le_of_ble_eq_true rfl) rfl ?_
  intro p e s m args below meth c hC hnm
  unfold fX12_taken at E
  refine z_aload_n hC dX12_taken_0 rfl 0 rfl ?_
  refine z_iload_n hC dX12_taken_1 rfl 2 rfl ?_
  refine z_iconst (v := 0) hC dX12_taken_2 rfl ?_
  refine z_iconst (v := 5) hC dX12_taken_3 rfl ?_
  refine z_callV (ci := 12) (rest := []) hC (ck_mk lk_X12_178 in_X12_in cd_X12_in ds_X12_in (Nat.le_of_ble_eq_true rfl) (Nat.le_of_ble_eq_true rfl)) iy_X12_in sy_X12_in cf_12 (by decide) (kM_33 hF) (ct_X12_in hF E) rfl rfl (Nat.le_of_ble_eq_true rfl) ⟨Nat.le_refl _, Nat.le_refl _⟩ dX12_taken_4 ?_
  rintro _ _ _ ⟨v2, rfl, rfl, rfl, E⟩
  refine z_if_ne (tgt := 13) hC dX12_taken_7 (by decide) (fun c6 => ?_) (fun c6 => ?_)
  · replace E := E.1 c6
    refine z_aload_n hC dX12_taken_13 rfl 0 rfl ?_
    refine z_iload_n hC dX12_taken_14 rfl 1 rfl ?_
    refine z_callV (ci := 12) (rest := []) hC (ck_mk lk_X12_258 in_X12_isModel cd_X12_isModel ds_X12_isModel (Nat.le_of_ble_eq_true rfl) (Nat.le_of_ble_eq_true rfl)) iy_X12_isModel sy_X12_isModel cf_12 (by decide) (kM_33 hF) (ct_X12_isModel hF E) rfl rfl (Nat.le_of_ble_eq_true rfl) ⟨Nat.le_refl _, Nat.le_refl _⟩ dX12_taken_15 ?_
    rintro _ _ _ ⟨v8, rfl, rfl, rfl, E⟩
    refine z_if_ne (tgt := 24) hC dX12_taken_18 (by decide) (fun c12 => ?_) (fun c12 => ?_)
    · replace E := E.1 c12
      refine z_iload_n hC dX12_taken_24 rfl 2 rfl ?_
      obtain ⟨K13, hK14, EE⟩ := JN_use E (fun K13 : Prop => K13 → ZM l G p e s m args below meth c 3 2 S (PIr S D post) S D 58 [(0, .ref (G.1 + 33)), (1, .int a1)] []) (by
        intro E
        refine z_aload_n hC dX12_taken_58 rfl 0 rfl ?_
        refine z_get hC lf_X12_56_12 (kM_33 hF) dX12_taken_59 (fV_ref rfl (rM_33_15 hF)) ?_
        refine z_iload_n hC dX12_taken_62 rfl 1 rfl ?_
        refine z_iald hC (kM_43 hF) (nM_43 hF) E.1 dX12_taken_63 ?_
        replace E := E.2
        refine z_goto (tgt := 69) hC dX12_taken_64 (by decide) ?_
        exact z_iret hC dX12_taken_69 (Nat.le_refl _) (Nat.le_refl _) ⟨_, rfl, rfl, rfl, E⟩)
      replace E := EE
      clear EE
      refine z_if_eq (tgt := 58) hC dX12_taken_25 (by decide) (fun c15 => ?_) (fun c15 => ?_)
      · replace E := E.1 c15
        refine z_sub [0, 1] rfl ?_
        exact hK14  E
      · replace E := E.2 c15
        refine z_aload_n hC dX12_taken_28 rfl 0 rfl ?_
        refine z_get hC lf_X12_56_12 (kM_33 hF) dX12_taken_29 (fV_ref rfl (rM_33_15 hF)) ?_
        refine z_iload_n hC dX12_taken_32 rfl 1 rfl ?_
        refine z_iald hC (kM_43 hF) (nM_43 hF) E.1 dX12_taken_33 ?_
        replace E := E.2
        refine z_iload_n hC dX12_taken_34 rfl 2 rfl ?_
        refine z_icmp_eq (tgt := 58) hC dX12_taken_35 (by decide) (fun c16 => ?_) (fun c16 => ?_)
        · replace E := E.1 c16
          refine z_sub [0, 1] rfl ?_
          exact hK14  E
        · replace E := E.2 c16
          refine z_iload_n hC dX12_taken_38 rfl 2 rfl ?_
          refine z_iconst (v := 1) hC dX12_taken_39 rfl ?_
          obtain ⟨K17, hK18, EE⟩ := JN_use E (fun K17 : Prop => K17 → ZM l G p e s m args below meth c 3 2 S (PIr S D post) S D 67 [] []) (by
            intro E
            refine z_bipush (v := -12) hC dX12_taken_67 rfl ?_
            exact z_iret hC dX12_taken_69 (Nat.le_refl _) (Nat.le_refl _) ⟨_, rfl, rfl, rfl, E⟩)
          replace E := EE
          clear EE
          refine z_icmp_ne (tgt := 67) hC dX12_taken_40 (by decide) (fun c19 => ?_) (fun c19 => ?_)
          · replace E := E.1 c19
            refine z_sub [] rfl ?_
            exact hK18  E
          · replace E := E.2 c19
            refine z_aload_n hC dX12_taken_43 rfl 0 rfl ?_
            refine z_aload_n hC dX12_taken_44 rfl 0 rfl ?_
            refine z_get hC lf_X12_56_12 (kM_33 hF) dX12_taken_45 (fV_ref rfl (rM_33_15 hF)) ?_
            refine z_iload_n hC dX12_taken_48 rfl 1 rfl ?_
            refine z_iald hC (kM_43 hF) (nM_43 hF) E.1 dX12_taken_49 ?_
            replace E := E.2
            refine z_iconst (v := 2) hC dX12_taken_50 rfl ?_
            refine z_iconst (v := 4) hC dX12_taken_51 rfl ?_
            refine z_callV (ci := 12) (rest := []) hC (ck_mk lk_X12_178 in_X12_in cd_X12_in ds_X12_in (Nat.le_of_ble_eq_true rfl) (Nat.le_of_ble_eq_true rfl)) iy_X12_in sy_X12_in cf_12 (by decide) (kM_33 hF) (ct_X12_in hF E) rfl rfl (Nat.le_of_ble_eq_true rfl) ⟨Nat.le_refl _, Nat.le_refl _⟩ dX12_taken_52 ?_
            rintro _ _ _ ⟨v21, rfl, rfl, rfl, E⟩
            refine z_if_eq (tgt := 67) hC dX12_taken_55 (by decide) (fun c25 => ?_) (fun c25 => ?_)
            · replace E := E.1 c25
              refine z_sub [] rfl ?_
              exact hK18  E
            · replace E := E.2 c25
              refine z_sub [0, 1] rfl ?_
              exact hK14  E
    · replace E := E.2 c12
      refine z_bipush (v := -11) hC dX12_taken_21 rfl ?_
      exact z_iret hC dX12_taken_23 (Nat.le_refl _) (Nat.le_refl _) ⟨_, rfl, rfl, rfl, E⟩
  · replace E := E.2 c6
    refine z_bipush (v := -2) hC dX12_taken_10 rfl ?_
    exact z_iret hC dX12_taken_12 (Nat.le_refl _) (Nat.le_refl _) ⟨_, rfl, rfl, rfl, E⟩
def fX12_taker (a1 : Int32) (D : Dy) (post : Int32 → Dy → Prop) : Prop :=
  (fX12_in a1 (0 : Int32) (2 : Int32) (fun (v2 : Int32) => ((¬ v2 = 0 → ((¬ (D.1 33 1) = (16 : Int32) → (vp_in (D.1 33 1) 16 ∧ (∀ D8 : Dy, D8 = sI D 37 ((D.1 33 1)).toNatClampNeg a1 → (∀ D10 : Dy, D10 = sI D8 33 1 ((D8.1 33 1) + (1 : Int32)) → post ((D10.1 33 1) - (1 : Int32)) D10)))) ∧ ((D.1 33 1) = (16 : Int32) → post (-4 : Int32) D))) ∧ (v2 = 0 → post (-2 : Int32) D))))
set_option maxHeartbeats 4000000 in
set_option maxRecDepth 100000 in
theorem ct_X12_taker {l : Launch} {G : Gl} {S : Sh} {D : Dy} (hF : FM S) {a1 : Int32} {post : Int32 → Dy → Prop} (E : fX12_taker a1 D post) : Ct l G yX12_taker cX12_taker 2 (some .int) 1 0 0 S D [.ref (G.1 + 33), .int a1] (PI S post) := by
  refine z_enter (lv0 := [(0, .ref (G.1 + 33)), (1, .int a1)]) pl_12 (Nat.le_of_ble_eq_true rfl) rfl ?_
  intro p e s m args below meth c hC hnm
  unfold fX12_taker at E
  refine z_aload_n hC dX12_taker_0 rfl 0 rfl ?_
  refine z_iload_n hC dX12_taker_1 rfl 1 rfl ?_
  refine z_iconst (v := 0) hC dX12_taker_2 rfl ?_
  refine z_iconst (v := 2) hC dX12_taker_3 rfl ?_
  refine z_callV (ci := 12) (rest := []) hC (ck_mk lk_X12_178 in_X12_in cd_X12_in ds_X12_in (Nat.le_of_ble_eq_true rfl) (Nat.le_of_ble_eq_true rfl)) iy_X12_in sy_X12_in cf_12 (by decide) (kM_33 hF) (ct_X12_in hF E) rfl rfl (Nat.le_of_ble_eq_true rfl) ⟨Nat.le_refl _, Nat.le_refl _⟩ dX12_taker_4 ?_
  rintro _ _ _ ⟨v2, rfl, rfl, rfl, E⟩
  refine z_if_ne (tgt := 13) hC dX12_taker_7 (by decide) (fun c6 => ?_) (fun c6 => ?_)
  · replace E := E.1 c6
    refine z_aload_n hC dX12_taker_13 rfl 0 rfl ?_
    refine z_get hC lf_X12_13_12 (kM_33 hF) dX12_taker_14 (fV_int rfl) ?_
    refine z_bipush (v := 16) hC dX12_taker_17 rfl ?_
    refine z_icmp_ne (tgt := 25) hC dX12_taker_19 (by decide) (fun c7 => ?_) (fun c7 => ?_)
    · replace E := E.1 c7
      refine z_aload_n hC dX12_taker_25 rfl 0 rfl ?_
      refine z_get hC lf_X12_32_12 (kM_33 hF) dX12_taker_26 (fV_ref rfl (rM_33_7 hF)) ?_
      refine z_aload_n hC dX12_taker_29 rfl 0 rfl ?_
      refine z_get hC lf_X12_13_12 (kM_33 hF) dX12_taker_30 (fV_int rfl) ?_
      refine z_iload_n hC dX12_taker_33 rfl 1 rfl ?_
      refine z_iast hC (kM_37 hF) (nM_37 hF) E.1 dX12_taker_34 ?_
      replace E := E.2
      refine z_topD (fun D8 h9 => ?_)
      replace E := E D8 h9
      refine z_aload_n hC dX12_taker_35 rfl 0 rfl ?_
      refine z_dup hC dX12_taker_36 rfl ?_
      refine z_get hC lf_X12_13_12 (kM_33 hF) dX12_taker_37 (fV_int rfl) ?_
      refine z_iconst (v := 1) hC dX12_taker_40 rfl ?_
      refine z_iadd hC dX12_taker_41 ?_
      refine z_puti hC lf_X12_13_12 rfl (kM_33 hF) dX12_taker_42 ?_
      refine z_topD (fun D10 h11 => ?_)
      replace E := E D10 h11
      refine z_aload_n hC dX12_taker_45 rfl 0 rfl ?_
      refine z_get hC lf_X12_13_12 (kM_33 hF) dX12_taker_46 (fV_int rfl) ?_
      refine z_iconst (v := 1) hC dX12_taker_49 rfl ?_
      refine z_isub hC dX12_taker_50 ?_
      exact z_iret hC dX12_taker_51 (Nat.le_refl _) (Nat.le_refl _) ⟨_, rfl, rfl, E⟩
    · replace E := E.2 c7
      refine z_bipush (v := -4) hC dX12_taker_22 rfl ?_
      exact z_iret hC dX12_taker_24 (Nat.le_refl _) (Nat.le_refl _) ⟨_, rfl, rfl, E⟩
  · replace E := E.2 c6
    refine z_bipush (v := -2) hC dX12_taker_10 rfl ?_
    exact z_iret hC dX12_taker_12 (Nat.le_refl _) (Nat.le_refl _) ⟨_, rfl, rfl, E⟩
def fX12_tape (a1 : Int32) (a2 : Int32) (a3 : Int32) (D : Dy) (post : Int32 → Dy → Prop) : Prop :=
  (fX12_isTape a1 (fun (v2 : Int32) => ((¬ v2 = 0 → (fX12_in a2 (-1 : Int32) (4 : Int32) (fun (v8 : Int32) => ((v8 = 0 → post (-2 : Int32) D) ∧ (¬ v8 = 0 → (JN ((JN ((vp_in a1 6 ∧ (∀ D17 : Dy, D17 = sI D 61 (a1).toNatClampNeg a2 → (JN (fun (v19 : Int32) => (vp_in a1 6 ∧ (∀ D22 : Dy, D22 = sI D17 62 (a1).toNatClampNeg v19 → (LP2 (fun (rec26 : Int32 → Dy → Prop) (v24 : Int32) (D25 : Dy) => (((60 : Int32) ≤ v24 → post (1 : Int32) D25) ∧ (¬ (60 : Int32) ≤ v24 → (vp_in (((60 : Int32) * a1) + v24) 360 ∧ (∀ D29 : Dy, D29 = sL D25 63 ((((60 : Int32) * a1) + v24)).toNatClampNeg (0 : Int64) → (∀ v31 : Int32, v31 = v24 + 1 → (rec26 v31 D29))))))) FU (0 : Int32) D22)))) (fun K20 : Int32 → Prop => ((0 ≤ a2 → (K20 a3)) ∧ (¬ 0 ≤ a2 → (K20 (0 : Int32))))))))) (fun K15 : Prop => ((a2 < 0 → K15) ∧ (¬ a2 < 0 → ((0 ≤ a3 → K15) ∧ (¬ 0 ≤ a3 → post (-14 : Int32) D))))))) (fun K13 : Prop => ((a2 < 0 → K13) ∧ (¬ a2 < 0 → ((a3 ≤ (60 : Int32) → K13) ∧ (¬ a3 ≤ (60 : Int32) → post (-2 : Int32) D))))))))))) ∧ (v2 = 0 → post (-1 : Int32) D))))
set_option maxHeartbeats 4000000 in
set_option maxRecDepth 100000 in
theorem ct_X12_tape {l : Launch} {G : Gl} {S : Sh} {D : Dy} (hF : FM S) {a1 : Int32} {a2 : Int32} {a3 : Int32} {post : Int32 → Dy → Prop} (E : fX12_tape a1 a2 a3 D post) : Ct l G yX12_tape cX12_tape 5 (some .int) 2 0 0 S D [.ref (G.1 + 33), .int a1, .int a2, .int a3] (PI S post) := by
  refine z_enter (lv0 := [(0, .ref (G.1 + 33)), (1, .int a1), (2, .int a2), (3, .int a3)]) pl_12 (Nat.le_of_ble_eq_true rfl) rfl ?_
  intro p e s m args below meth c hC hnm
  unfold fX12_tape at E
  refine z_aload_n hC dX12_tape_0 rfl 0 rfl ?_
  refine z_iload_n hC dX12_tape_1 rfl 1 rfl ?_
  refine z_callV (ci := 12) (rest := []) hC (ck_mk lk_X12_368 in_X12_isTape cd_X12_isTape ds_X12_isTape (Nat.le_of_ble_eq_true rfl) (Nat.le_of_ble_eq_true rfl)) iy_X12_isTape sy_X12_isTape cf_12 (by decide) (kM_33 hF) (ct_X12_isTape hF E) rfl rfl (Nat.le_of_ble_eq_true rfl) ⟨Nat.le_refl _, Nat.le_refl _⟩ dX12_tape_2 ?_
  rintro _ _ _ ⟨v2, rfl, rfl, rfl, E⟩
  refine z_if_ne (tgt := 10) hC dX12_tape_5 (by decide) (fun c6 => ?_) (fun c6 => ?_)
  · replace E := E.1 c6
    refine z_aload_n hC dX12_tape_10 rfl 0 rfl ?_
    refine z_iload_n hC dX12_tape_11 rfl 2 rfl ?_
    refine z_iconst (v := -1) hC dX12_tape_12 rfl ?_
    refine z_iconst (v := 4) hC dX12_tape_13 rfl ?_
    refine z_callV (ci := 12) (rest := []) hC (ck_mk lk_X12_178 in_X12_in cd_X12_in ds_X12_in (Nat.le_of_ble_eq_true rfl) (Nat.le_of_ble_eq_true rfl)) iy_X12_in sy_X12_in cf_12 (by decide) (kM_33 hF) (ct_X12_in hF E) rfl rfl (Nat.le_of_ble_eq_true rfl) ⟨Nat.le_refl _, Nat.le_refl _⟩ dX12_tape_14 ?_
    rintro _ _ _ ⟨v8, rfl, rfl, rfl, E⟩
    refine z_if_eq (tgt := 30) hC dX12_tape_17 (by decide) (fun c12 => ?_) (fun c12 => ?_)
    · replace E := E.1 c12
      refine z_bipush (v := -2) hC dX12_tape_30 rfl ?_
      exact z_iret hC dX12_tape_32 (Nat.le_refl _) (Nat.le_refl _) ⟨_, rfl, rfl, E⟩
    · replace E := E.2 c12
      refine z_iload_n hC dX12_tape_20 rfl 2 rfl ?_
      obtain ⟨K13, hK14, EE⟩ := JN_use E (fun K13 : Prop => K13 → ZM l G p e s m args below meth c 5 2 S (PI S post) S D 33 [(0, .ref (G.1 + 33)), (1, .int a1), (2, .int a2), (3, .int a3)] []) (by
        intro E
        refine z_iload_n hC dX12_tape_33 rfl 2 rfl ?_
        obtain ⟨K15, hK16, EE⟩ := JN_use E (fun K15 : Prop => K15 → ZM l G p e s m args below meth c 5 2 S (PI S post) S D 44 [(0, .ref (G.1 + 33)), (1, .int a1), (2, .int a2), (3, .int a3)] []) (by
          intro E
          refine z_aload_n hC dX12_tape_44 rfl 0 rfl ?_
          refine z_get hC lf_X12_165_12 (kM_33 hF) dX12_tape_45 (fV_ref rfl (rM_33_50 hF)) ?_
          refine z_iload_n hC dX12_tape_48 rfl 1 rfl ?_
          refine z_iload_n hC dX12_tape_49 rfl 2 rfl ?_
          refine z_iast hC (kM_61 hF) (nM_61 hF) E.1 dX12_tape_50 ?_
          replace E := E.2
          refine z_topD (fun D17 h18 => ?_)
          replace E := E D17 h18
          refine z_aload_n hC dX12_tape_51 rfl 0 rfl ?_
          refine z_get hC lf_X12_168_12 (kM_33 hF) dX12_tape_52 (fV_ref rfl (rM_33_51 hF)) ?_
          refine z_iload_n hC dX12_tape_55 rfl 1 rfl ?_
          refine z_iload_n hC dX12_tape_56 rfl 2 rfl ?_
          obtain ⟨K20, hK21, EE⟩ := JN_use E (fun K20 : Int32 → Prop => ∀ (v19 : Int32), K20 v19 → ZM l G p e s m args below meth c 5 2 S (PI S post) S D17 65 [(0, .ref (G.1 + 33)), (1, .int a1)] [.int v19, .int a1, .ref (G.1 + 62)]) (by
            intro v19 E
            refine z_iast hC (kM_62 hF) (nM_62 hF) E.1 dX12_tape_65 ?_
            replace E := E.2
            refine z_topD (fun D22 h23 => ?_)
            replace E := E D22 h23
            refine z_iconst (v := 0) hC dX12_tape_66 rfl ?_
            refine z_istore (lv' := [(4, .int (0 : Int32)), (0, .ref (G.1 + 33)), (1, .int a1)]) hC dX12_tape_67 (Nat.le_of_ble_eq_true rfl) rfl ?_
            refine z_sub [1, 2, 0] rfl ?_
            refine LP2_use (fun (v24 : Int32) (D25 : Dy) => ZM l G p e s m args below meth c 5 2 S (PI S post) S D25 69 [(0, .ref (G.1 + 33)), (1, .int a1), (4, .int v24)] []) ?_ FU (0 : Int32) D22 E
            intro rec26 hrec27 v24 D25 E
            refine z_iload hC dX12_tape_69 2 rfl ?_
            refine z_bipush (v := 60) hC dX12_tape_71 rfl ?_
            refine z_icmp_ge (tgt := 95) hC dX12_tape_73 (by decide) (fun c28 => ?_) (fun c28 => ?_)
            · replace E := E.1 c28
              refine z_iconst (v := 1) hC dX12_tape_95 rfl ?_
              exact z_iret hC dX12_tape_96 (Nat.le_refl _) (Nat.le_refl _) ⟨_, rfl, rfl, E⟩
            · replace E := E.2 c28
              refine z_aload_n hC dX12_tape_76 rfl 0 rfl ?_
              refine z_get hC lf_X12_171_12 (kM_33 hF) dX12_tape_77 (fV_ref rfl (rM_33_52 hF)) ?_
              refine z_bipush (v := 60) hC dX12_tape_80 rfl ?_
              refine z_iload_n hC dX12_tape_82 rfl 1 rfl ?_
              refine z_imul hC dX12_tape_83 ?_
              refine z_iload hC dX12_tape_84 2 rfl ?_
              refine z_iadd hC dX12_tape_86 ?_
              refine z_lconst (v := 0) hC dX12_tape_87 rfl ?_
              refine z_last hC (kM_63 hF) (nM_63 hF) E.1 dX12_tape_88 ?_
              replace E := E.2
              refine z_topD (fun D29 h30 => ?_)
              replace E := E D29 h30
              obtain ⟨v31, h32⟩ : ∃ y : Int32, y = v24 + 1 := ⟨_, rfl⟩
              replace E := E v31 h32
              refine z_iinc (q := 2) (v := v31) (lv' := [(4, .int v31), (0, .ref (G.1 + 33)), (1, .int a1)]) hC dX12_tape_89 rfl (by rw [h32]; rfl) (Nat.le_of_ble_eq_true rfl) rfl ?_
              refine z_goto (tgt := 69) hC dX12_tape_92 (by decide) ?_
              refine z_sub [1, 2, 0] rfl ?_
              exact hrec27 v31 D29 E)
          replace E := EE
          clear EE
          refine z_if_ge (tgt := 64) hC dX12_tape_57 (by decide) (fun c33 => ?_) (fun c33 => ?_)
          · replace E := E.1 c33
            refine z_iload_n hC dX12_tape_64 rfl 3 rfl ?_
            refine z_sub [0, 1] rfl ?_
            exact hK21 a3 E
          · replace E := E.2 c33
            refine z_iconst (v := 0) hC dX12_tape_60 rfl ?_
            refine z_goto (tgt := 65) hC dX12_tape_61 (by decide) ?_
            refine z_sub [0, 1] rfl ?_
            exact hK21 (0 : Int32) E)
        replace E := EE
        clear EE
        refine z_if_lt (tgt := 44) hC dX12_tape_34 (by decide) (fun c34 => ?_) (fun c34 => ?_)
        · replace E := E.1 c34
          exact hK16  E
        · replace E := E.2 c34
          refine z_iload_n hC dX12_tape_37 rfl 3 rfl ?_
          refine z_if_ge (tgt := 44) hC dX12_tape_38 (by decide) (fun c35 => ?_) (fun c35 => ?_)
          · replace E := E.1 c35
            exact hK16  E
          · replace E := E.2 c35
            refine z_bipush (v := -14) hC dX12_tape_41 rfl ?_
            exact z_iret hC dX12_tape_43 (Nat.le_refl _) (Nat.le_refl _) ⟨_, rfl, rfl, E⟩)
      replace E := EE
      clear EE
      refine z_if_lt (tgt := 33) hC dX12_tape_21 (by decide) (fun c36 => ?_) (fun c36 => ?_)
      · replace E := E.1 c36
        exact hK14  E
      · replace E := E.2 c36
        refine z_iload_n hC dX12_tape_24 rfl 3 rfl ?_
        refine z_bipush (v := 60) hC dX12_tape_25 rfl ?_
        refine z_icmp_le (tgt := 33) hC dX12_tape_27 (by decide) (fun c37 => ?_) (fun c37 => ?_)
        · replace E := E.1 c37
          exact hK14  E
        · replace E := E.2 c37
          refine z_bipush (v := -2) hC dX12_tape_30 rfl ?_
          exact z_iret hC dX12_tape_32 (Nat.le_refl _) (Nat.le_refl _) ⟨_, rfl, rfl, E⟩
  · replace E := E.2 c6
    refine z_iconst (v := -1) hC dX12_tape_8 rfl ?_
    exact z_iret hC dX12_tape_9 (Nat.le_refl _) (Nat.le_refl _) ⟨_, rfl, rfl, E⟩
def fX12_thing (a1 : Int32) (a2 : Int32) (a3 : Int32) (D : Dy) (post : Int32 → Dy → Prop) : Prop :=
  (fX12_in a1 (0 : Int32) (255 : Int32) (fun (v2 : Int32) => ((v2 = 0 → post (-2 : Int32) D) ∧ (¬ v2 = 0 → (fX12_in a2 (0 : Int32) (99 : Int32) (fun (v8 : Int32) => ((v8 = 0 → post (-2 : Int32) D) ∧ (¬ v8 = 0 → (fX12_in a3 (0 : Int32) (3 : Int32) (fun (v14 : Int32) => ((¬ v14 = 0 → ((0 < (D.1 33 2) → post (-3 : Int32) D) ∧ (¬ 0 < (D.1 33 2) → (((D.1 33 3) ≤ 0 → ((¬ (D.1 33 0) = (6 : Int32) → (vp_in (D.1 33 0) 6 ∧ (∀ D22 : Dy, D22 = sI D 34 ((D.1 33 0)).toNatClampNeg a1 → (vp_in (D22.1 33 0) 6 ∧ (∀ D24 : Dy, D24 = sI D22 35 ((D22.1 33 0)).toNatClampNeg a2 → (vp_in (D24.1 33 0) 6 ∧ (∀ D26 : Dy, D26 = sI D24 36 ((D24.1 33 0)).toNatClampNeg a3 → (∀ D28 : Dy, D28 = sI D26 33 0 ((D26.1 33 0) + (1 : Int32)) → post ((D28.1 33 0) - (1 : Int32)) D28)))))))) ∧ ((D.1 33 0) = (6 : Int32) → post (-4 : Int32) D))) ∧ (¬ (D.1 33 3) ≤ 0 → post (-3 : Int32) D))))) ∧ (v14 = 0 → post (-2 : Int32) D))))))))))))
set_option maxHeartbeats 4000000 in
set_option maxRecDepth 100000 in
theorem ct_X12_thing {l : Launch} {G : Gl} {S : Sh} {D : Dy} (hF : FM S) {a1 : Int32} {a2 : Int32} {a3 : Int32} {post : Int32 → Dy → Prop} (E : fX12_thing a1 a2 a3 D post) : Ct l G yX12_thing cX12_thing 4 (some .int) 1 0 0 S D [.ref (G.1 + 33), .int a1, .int a2, .int a3] (PI S post) := by
  refine z_enter (lv0 := [(0, .ref (G.1 + 33)), (1, .int a1), (2, .int a2), (3, .int a3)]) pl_12 (Nat.le_of_ble_eq_true rfl) rfl ?_
  intro p e s m args below meth c hC hnm
  unfold fX12_thing at E
  refine z_aload_n hC dX12_thing_0 rfl 0 rfl ?_
  refine z_iload_n hC dX12_thing_1 rfl 1 rfl ?_
  refine z_iconst (v := 0) hC dX12_thing_2 rfl ?_
  refine z_sipush (v := 255) hC dX12_thing_3 rfl ?_
  refine z_callV (ci := 12) (rest := []) hC (ck_mk lk_X12_178 in_X12_in cd_X12_in ds_X12_in (Nat.le_of_ble_eq_true rfl) (Nat.le_of_ble_eq_true rfl)) iy_X12_in sy_X12_in cf_12 (by decide) (kM_33 hF) (ct_X12_in hF E) rfl rfl (Nat.le_of_ble_eq_true rfl) ⟨Nat.le_refl _, Nat.le_refl _⟩ dX12_thing_6 ?_
  rintro _ _ _ ⟨v2, rfl, rfl, rfl, E⟩
  refine z_if_eq (tgt := 33) hC dX12_thing_9 (by decide) (fun c6 => ?_) (fun c6 => ?_)
  · replace E := E.1 c6
    refine z_bipush (v := -2) hC dX12_thing_33 rfl ?_
    exact z_iret hC dX12_thing_35 (Nat.le_refl _) (Nat.le_refl _) ⟨_, rfl, rfl, E⟩
  · replace E := E.2 c6
    refine z_aload_n hC dX12_thing_12 rfl 0 rfl ?_
    refine z_iload_n hC dX12_thing_13 rfl 2 rfl ?_
    refine z_iconst (v := 0) hC dX12_thing_14 rfl ?_
    refine z_bipush (v := 99) hC dX12_thing_15 rfl ?_
    refine z_callV (ci := 12) (rest := []) hC (ck_mk lk_X12_178 in_X12_in cd_X12_in ds_X12_in (Nat.le_of_ble_eq_true rfl) (Nat.le_of_ble_eq_true rfl)) iy_X12_in sy_X12_in cf_12 (by decide) (kM_33 hF) (ct_X12_in hF E) rfl rfl (Nat.le_of_ble_eq_true rfl) ⟨Nat.le_refl _, Nat.le_refl _⟩ dX12_thing_17 ?_
    rintro _ _ _ ⟨v8, rfl, rfl, rfl, E⟩
    refine z_if_eq (tgt := 33) hC dX12_thing_20 (by decide) (fun c12 => ?_) (fun c12 => ?_)
    · replace E := E.1 c12
      refine z_bipush (v := -2) hC dX12_thing_33 rfl ?_
      exact z_iret hC dX12_thing_35 (Nat.le_refl _) (Nat.le_refl _) ⟨_, rfl, rfl, E⟩
    · replace E := E.2 c12
      refine z_aload_n hC dX12_thing_23 rfl 0 rfl ?_
      refine z_iload_n hC dX12_thing_24 rfl 3 rfl ?_
      refine z_iconst (v := 0) hC dX12_thing_25 rfl ?_
      refine z_iconst (v := 3) hC dX12_thing_26 rfl ?_
      refine z_callV (ci := 12) (rest := []) hC (ck_mk lk_X12_178 in_X12_in cd_X12_in ds_X12_in (Nat.le_of_ble_eq_true rfl) (Nat.le_of_ble_eq_true rfl)) iy_X12_in sy_X12_in cf_12 (by decide) (kM_33 hF) (ct_X12_in hF E) rfl rfl (Nat.le_of_ble_eq_true rfl) ⟨Nat.le_refl _, Nat.le_refl _⟩ dX12_thing_27 ?_
      rintro _ _ _ ⟨v14, rfl, rfl, rfl, E⟩
      refine z_if_ne (tgt := 36) hC dX12_thing_30 (by decide) (fun c18 => ?_) (fun c18 => ?_)
      · replace E := E.1 c18
        refine z_aload_n hC dX12_thing_36 rfl 0 rfl ?_
        refine z_get hC lf_X12_16_12 (kM_33 hF) dX12_thing_37 (fV_int rfl) ?_
        refine z_if_gt (tgt := 50) hC dX12_thing_40 (by decide) (fun c19 => ?_) (fun c19 => ?_)
        · replace E := E.1 c19
          refine z_bipush (v := -3) hC dX12_thing_50 rfl ?_
          exact z_iret hC dX12_thing_52 (Nat.le_refl _) (Nat.le_refl _) ⟨_, rfl, rfl, E⟩
        · replace E := E.2 c19
          refine z_aload_n hC dX12_thing_43 rfl 0 rfl ?_
          refine z_get hC lf_X12_19_12 (kM_33 hF) dX12_thing_44 (fV_int rfl) ?_
          refine z_if_le (tgt := 53) hC dX12_thing_47 (by decide) (fun c20 => ?_) (fun c20 => ?_)
          · replace E := E.1 c20
            refine z_aload_n hC dX12_thing_53 rfl 0 rfl ?_
            refine z_get hC lf_X12_7_12 (kM_33 hF) dX12_thing_54 (fV_int rfl) ?_
            refine z_bipush (v := 6) hC dX12_thing_57 rfl ?_
            refine z_icmp_ne (tgt := 65) hC dX12_thing_59 (by decide) (fun c21 => ?_) (fun c21 => ?_)
            · replace E := E.1 c21
              refine z_aload_n hC dX12_thing_65 rfl 0 rfl ?_
              refine z_get hC lf_X12_22_12 (kM_33 hF) dX12_thing_66 (fV_ref rfl (rM_33_4 hF)) ?_
              refine z_aload_n hC dX12_thing_69 rfl 0 rfl ?_
              refine z_get hC lf_X12_7_12 (kM_33 hF) dX12_thing_70 (fV_int rfl) ?_
              refine z_iload_n hC dX12_thing_73 rfl 1 rfl ?_
              refine z_iast hC (kM_34 hF) (nM_34 hF) E.1 dX12_thing_74 ?_
              replace E := E.2
              refine z_topD (fun D22 h23 => ?_)
              replace E := E D22 h23
              refine z_aload_n hC dX12_thing_75 rfl 0 rfl ?_
              refine z_get hC lf_X12_26_12 (kM_33 hF) dX12_thing_76 (fV_ref rfl (rM_33_5 hF)) ?_
              refine z_aload_n hC dX12_thing_79 rfl 0 rfl ?_
              refine z_get hC lf_X12_7_12 (kM_33 hF) dX12_thing_80 (fV_int rfl) ?_
              refine z_iload_n hC dX12_thing_83 rfl 2 rfl ?_
              refine z_iast hC (kM_35 hF) (nM_35 hF) E.1 dX12_thing_84 ?_
              replace E := E.2
              refine z_topD (fun D24 h25 => ?_)
              replace E := E D24 h25
              refine z_aload_n hC dX12_thing_85 rfl 0 rfl ?_
              refine z_get hC lf_X12_29_12 (kM_33 hF) dX12_thing_86 (fV_ref rfl (rM_33_6 hF)) ?_
              refine z_aload_n hC dX12_thing_89 rfl 0 rfl ?_
              refine z_get hC lf_X12_7_12 (kM_33 hF) dX12_thing_90 (fV_int rfl) ?_
              refine z_iload_n hC dX12_thing_93 rfl 3 rfl ?_
              refine z_iast hC (kM_36 hF) (nM_36 hF) E.1 dX12_thing_94 ?_
              replace E := E.2
              refine z_topD (fun D26 h27 => ?_)
              replace E := E D26 h27
              refine z_aload_n hC dX12_thing_95 rfl 0 rfl ?_
              refine z_dup hC dX12_thing_96 rfl ?_
              refine z_get hC lf_X12_7_12 (kM_33 hF) dX12_thing_97 (fV_int rfl) ?_
              refine z_iconst (v := 1) hC dX12_thing_100 rfl ?_
              refine z_iadd hC dX12_thing_101 ?_
              refine z_puti hC lf_X12_7_12 rfl (kM_33 hF) dX12_thing_102 ?_
              refine z_topD (fun D28 h29 => ?_)
              replace E := E D28 h29
              refine z_aload_n hC dX12_thing_105 rfl 0 rfl ?_
              refine z_get hC lf_X12_7_12 (kM_33 hF) dX12_thing_106 (fV_int rfl) ?_
              refine z_iconst (v := 1) hC dX12_thing_109 rfl ?_
              refine z_isub hC dX12_thing_110 ?_
              exact z_iret hC dX12_thing_111 (Nat.le_refl _) (Nat.le_refl _) ⟨_, rfl, rfl, E⟩
            · replace E := E.2 c21
              refine z_bipush (v := -4) hC dX12_thing_62 rfl ?_
              exact z_iret hC dX12_thing_64 (Nat.le_refl _) (Nat.le_refl _) ⟨_, rfl, rfl, E⟩
          · replace E := E.2 c20
            refine z_bipush (v := -3) hC dX12_thing_50 rfl ?_
            exact z_iret hC dX12_thing_52 (Nat.le_refl _) (Nat.le_refl _) ⟨_, rfl, rfl, E⟩
      · replace E := E.2 c18
        refine z_bipush (v := -2) hC dX12_thing_33 rfl ?_
        exact z_iret hC dX12_thing_35 (Nat.le_refl _) (Nat.le_refl _) ⟨_, rfl, rfl, E⟩
def fX12_trace (a1 : Int32) (D : Dy) (post : Int32 → Prop) : Prop :=
  (fX12_in a1 (0 : Int32) (19 : Int32) (fun (v2 : Int32) => (JN (post (-1 : Int32)) (fun K6 : Prop => ((v2 = 0 → K6) ∧ (¬ v2 = 0 → (((D.1 33 48) ≤ a1 → K6) ∧ (¬ (D.1 33 48) ≤ a1 → (vp_in a1 20 ∧ post (D.1 60 (a1).toNatClampNeg))))))))))
set_option maxHeartbeats 4000000 in
set_option maxRecDepth 100000 in
theorem ct_X12_trace {l : Launch} {G : Gl} {S : Sh} {D : Dy} (hF : FM S) {a1 : Int32} {post : Int32 → Prop} (E : fX12_trace a1 D post) : Ct l G yX12_trace cX12_trace 2 (some .int) 1 0 0 S D [.ref (G.1 + 33), .int a1] (PIr S D post) := by
  refine z_enter (lv0 := [(0, .ref (G.1 + 33)), (1, .int a1)]) pl_12 (Nat.le_of_ble_eq_true rfl) rfl ?_
  intro p e s m args below meth c hC hnm
  unfold fX12_trace at E
  refine z_aload_n hC dX12_trace_0 rfl 0 rfl ?_
  refine z_iload_n hC dX12_trace_1 rfl 1 rfl ?_
  refine z_iconst (v := 0) hC dX12_trace_2 rfl ?_
  refine z_bipush (v := 19) hC dX12_trace_3 rfl ?_
  refine z_callV (ci := 12) (rest := []) hC (ck_mk lk_X12_178 in_X12_in cd_X12_in ds_X12_in (Nat.le_of_ble_eq_true rfl) (Nat.le_of_ble_eq_true rfl)) iy_X12_in sy_X12_in cf_12 (by decide) (kM_33 hF) (ct_X12_in hF E) rfl rfl (Nat.le_of_ble_eq_true rfl) ⟨Nat.le_refl _, Nat.le_refl _⟩ dX12_trace_5 ?_
  rintro _ _ _ ⟨v2, rfl, rfl, rfl, E⟩
  obtain ⟨K6, hK7, EE⟩ := JN_use E (fun K6 : Prop => K6 → ZM l G p e s m args below meth c 2 1 S (PIr S D post) S D 28 [] []) (by
    intro E
    refine z_iconst (v := -1) hC dX12_trace_28 rfl ?_
    exact z_iret hC dX12_trace_29 (Nat.le_refl _) (Nat.le_refl _) ⟨_, rfl, rfl, rfl, E⟩)
  replace E := EE
  clear EE
  refine z_if_eq (tgt := 28) hC dX12_trace_8 (by decide) (fun c8 => ?_) (fun c8 => ?_)
  · replace E := E.1 c8
    refine z_sub [] rfl ?_
    exact hK7  E
  · replace E := E.2 c8
    refine z_iload_n hC dX12_trace_11 rfl 1 rfl ?_
    refine z_aload_n hC dX12_trace_12 rfl 0 rfl ?_
    refine z_get hC lf_X12_159_12 (kM_33 hF) dX12_trace_13 (fV_int rfl) ?_
    refine z_icmp_ge (tgt := 28) hC dX12_trace_16 (by decide) (fun c9 => ?_) (fun c9 => ?_)
    · replace E := E.1 c9
      refine z_sub [] rfl ?_
      exact hK7  E
    · replace E := E.2 c9
      refine z_aload_n hC dX12_trace_19 rfl 0 rfl ?_
      refine z_get hC lf_X12_162_12 (kM_33 hF) dX12_trace_20 (fV_ref rfl (rM_33_49 hF)) ?_
      refine z_iload_n hC dX12_trace_23 rfl 1 rfl ?_
      refine z_iald hC (kM_60 hF) (nM_60 hF) E.1 dX12_trace_24 ?_
      replace E := E.2
      refine z_goto (tgt := 29) hC dX12_trace_25 (by decide) ?_
      exact z_iret hC dX12_trace_29 (Nat.le_refl _) (Nat.le_refl _) ⟨_, rfl, rfl, rfl, E⟩
def fX12_weight (a1 : Int32) (a2 : Int32) (a3 : Int32) (D : Dy) (post : Int32 → Dy → Prop) : Prop :=
  (fX12_isModel a1 D (fun (v2 : Int32) => ((v2 = 0 → post (-1 : Int32) D) ∧ (¬ v2 = 0 → (JN ((fX12_in a3 (0 : Int32) (2 : Int32) (fun (v10 : Int32) => ((¬ v10 = 0 → (fX12_listen a1 D (fun (v16 : Int32) (D20 : Dy) => ((v16 = 0 → post (-1 : Int32) D20) ∧ (¬ v16 = 0 → (fX12_weightOf a2 a3 D20 (fun (v22 : Int32) => post v22 D20))))))) ∧ (v10 = 0 → post (-1 : Int32) D))))) (fun K7 : Prop => ((a2 = (7 : Int32) → K7) ∧ (¬ a2 = (7 : Int32) → (fX12_isThing a2 D (fun (v29 : Int32) => ((v29 = 0 → post (-1 : Int32) D) ∧ (¬ v29 = 0 → K7))))))))))))
set_option maxHeartbeats 4000000 in
set_option maxRecDepth 100000 in
theorem ct_X12_weight {l : Launch} {G : Gl} {S : Sh} {D : Dy} (hF : FM S) {a1 : Int32} {a2 : Int32} {a3 : Int32} {post : Int32 → Dy → Prop} (E : fX12_weight a1 a2 a3 D post) : Ct l G yX12_weight cX12_weight 4 (some .int) 9 0 0 S D [.ref (G.1 + 33), .int a1, .int a2, .int a3] (PI S post) := by
  refine z_enter (lv0 := [(0, .ref (G.1 + 33)), (1, .int a1), (2, .int a2), (3, .int a3)]) pl_12 (Nat.le_of_ble_eq_true rfl) rfl ?_
  intro p e s m args below meth c hC hnm
  unfold fX12_weight at E
  refine z_aload_n hC dX12_weight_0 rfl 0 rfl ?_
  refine z_iload_n hC dX12_weight_1 rfl 1 rfl ?_
  refine z_callV (ci := 12) (rest := []) hC (ck_mk lk_X12_258 in_X12_isModel cd_X12_isModel ds_X12_isModel (Nat.le_of_ble_eq_true rfl) (Nat.le_of_ble_eq_true rfl)) iy_X12_isModel sy_X12_isModel cf_12 (by decide) (kM_33 hF) (ct_X12_isModel hF E) rfl rfl (Nat.le_of_ble_eq_true rfl) ⟨Nat.le_refl _, Nat.le_refl _⟩ dX12_weight_2 ?_
  rintro _ _ _ ⟨v2, rfl, rfl, rfl, E⟩
  refine z_if_eq (tgt := 32) hC dX12_weight_5 (by decide) (fun c6 => ?_) (fun c6 => ?_)
  · replace E := E.1 c6
    refine z_iconst (v := -1) hC dX12_weight_32 rfl ?_
    exact z_iret hC dX12_weight_33 (Nat.le_refl _) (Nat.le_refl _) ⟨_, rfl, rfl, E⟩
  · replace E := E.2 c6
    refine z_iload_n hC dX12_weight_8 rfl 2 rfl ?_
    refine z_bipush (v := 7) hC dX12_weight_9 rfl ?_
    obtain ⟨K7, hK8, EE⟩ := JN_use E (fun K7 : Prop => K7 → ZM l G p e s m args below meth c 4 9 S (PI S post) S D 22 [(0, .ref (G.1 + 33)), (1, .int a1), (2, .int a2), (3, .int a3)] []) (by
      intro E
      refine z_aload_n hC dX12_weight_22 rfl 0 rfl ?_
      refine z_iload_n hC dX12_weight_23 rfl 3 rfl ?_
      refine z_iconst (v := 0) hC dX12_weight_24 rfl ?_
      refine z_iconst (v := 2) hC dX12_weight_25 rfl ?_
      refine z_callV (ci := 12) (rest := []) hC (ck_mk lk_X12_178 in_X12_in cd_X12_in ds_X12_in (Nat.le_of_ble_eq_true rfl) (Nat.le_of_ble_eq_true rfl)) iy_X12_in sy_X12_in cf_12 (by decide) (kM_33 hF) (ct_X12_in hF E) rfl rfl (Nat.le_of_ble_eq_true rfl) ⟨Nat.le_refl _, Nat.le_refl _⟩ dX12_weight_26 ?_
      rintro _ _ _ ⟨v10, rfl, rfl, rfl, E⟩
      refine z_if_ne (tgt := 34) hC dX12_weight_29 (by decide) (fun c14 => ?_) (fun c14 => ?_)
      · replace E := E.1 c14
        refine z_aload_n hC dX12_weight_34 rfl 0 rfl ?_
        refine z_iload_n hC dX12_weight_35 rfl 1 rfl ?_
        refine z_callV (ci := 12) (rest := []) hC (ck_mk lk_X12_261 in_X12_listen cd_X12_listen ds_X12_listen (Nat.le_of_ble_eq_true rfl) (Nat.le_of_ble_eq_true rfl)) iy_X12_listen sy_X12_listen cf_12 (by decide) (kM_33 hF) (ct_X12_listen hF E) rfl rfl (Nat.le_of_ble_eq_true rfl) ⟨Nat.le_refl _, Nat.le_refl _⟩ dX12_weight_36 ?_
        rintro _ _ D20 ⟨v16, rfl, rfl, E⟩
        refine z_if_eq (tgt := 51) hC dX12_weight_39 (by decide) (fun c21 => ?_) (fun c21 => ?_)
        · replace E := E.1 c21
          refine z_iconst (v := -1) hC dX12_weight_51 rfl ?_
          exact z_iret hC dX12_weight_52 (Nat.le_refl _) (Nat.le_refl _) ⟨_, rfl, rfl, E⟩
        · replace E := E.2 c21
          refine z_aload_n hC dX12_weight_42 rfl 0 rfl ?_
          refine z_iload_n hC dX12_weight_43 rfl 2 rfl ?_
          refine z_iload_n hC dX12_weight_44 rfl 3 rfl ?_
          refine z_callV (ci := 12) (rest := []) hC (ck_mk lk_X12_264 in_X12_weightOf cd_X12_weightOf ds_X12_weightOf (Nat.le_of_ble_eq_true rfl) (Nat.le_of_ble_eq_true rfl)) iy_X12_weightOf sy_X12_weightOf cf_12 (by decide) (kM_33 hF) (ct_X12_weightOf hF E) rfl rfl (Nat.le_of_ble_eq_true rfl) ⟨Nat.le_refl _, Nat.le_refl _⟩ dX12_weight_45 ?_
          rintro _ _ _ ⟨v22, rfl, rfl, rfl, E⟩
          refine z_goto (tgt := 52) hC dX12_weight_48 (by decide) ?_
          exact z_iret hC dX12_weight_52 (Nat.le_refl _) (Nat.le_refl _) ⟨_, rfl, rfl, E⟩
      · replace E := E.2 c14
        refine z_iconst (v := -1) hC dX12_weight_32 rfl ?_
        exact z_iret hC dX12_weight_33 (Nat.le_refl _) (Nat.le_refl _) ⟨_, rfl, rfl, E⟩)
    replace E := EE
    clear EE
    refine z_icmp_eq (tgt := 22) hC dX12_weight_11 (by decide) (fun c27 => ?_) (fun c27 => ?_)
    · replace E := E.1 c27
      exact hK8  E
    · replace E := E.2 c27
      refine z_aload_n hC dX12_weight_14 rfl 0 rfl ?_
      refine z_iload_n hC dX12_weight_15 rfl 2 rfl ?_
      refine z_callV (ci := 12) (rest := []) hC (ck_mk lk_X12_182 in_X12_isThing cd_X12_isThing ds_X12_isThing (Nat.le_of_ble_eq_true rfl) (Nat.le_of_ble_eq_true rfl)) iy_X12_isThing sy_X12_isThing cf_12 (by decide) (kM_33 hF) (ct_X12_isThing hF E) rfl rfl (Nat.le_of_ble_eq_true rfl) ⟨Nat.le_refl _, Nat.le_refl _⟩ dX12_weight_16 ?_
      rintro _ _ _ ⟨v29, rfl, rfl, rfl, E⟩
      refine z_if_eq (tgt := 32) hC dX12_weight_19 (by decide) (fun c33 => ?_) (fun c33 => ?_)
      · replace E := E.1 c33
        refine z_iconst (v := -1) hC dX12_weight_32 rfl ?_
        exact z_iret hC dX12_weight_33 (Nat.le_refl _) (Nat.le_refl _) ⟨_, rfl, rfl, E⟩
      · replace E := E.2 c33
        exact hK8  E
def fX12_which (a1 : Int32) (a2 : Int32) (D : Dy) (post : Int32 → Dy → Prop) : Prop :=
  (fX12_isModel a1 D (fun (v2 : Int32) => ((v2 = 0 → post (-1 : Int32) D) ∧ (¬ v2 = 0 → (fX12_isModel a2 D (fun (v8 : Int32) => ((v8 = 0 → post (-1 : Int32) D) ∧ (¬ v8 = 0 → ((a1 ≤ a2 → (LP5 (fun (rec19 : Int32 → Int32 → Int32 → Int32 → Dy → Prop) (v14 : Int32) (v15 : Int32) (v16 : Int32) (v17 : Int32) (D18 : Dy) => ((a2 < v17 → post v14 D18) ∧ (¬ a2 < v17 → (fX12_listen v17 D18 (fun (v23 : Int32) (D27 : Dy) => ((¬ v23 = 0 → (fX12_scoreOf v17 (1 : Int32) D27 (fun (v29 : Int32) (D34 : Dy) => (fX12_missesOf v17 (1 : Int32) D34 (fun (v35 : Int32) (D40 : Dy) => (JN (fun (v41 : Int32) (v42 : Int32) (v43 : Int32) => (∀ v46 : Int32, v46 = v17 + 1 → (rec19 v41 v42 v43 v46 D40))) (fun K44 : Int32 → Int32 → Int32 → Prop => (JN ((K44 v17 v29 v35)) (fun K48 : Prop => ((v14 < 0 → K48) ∧ (¬ v14 < 0 → ((v29 < v15 → (K44 v14 v15 v16)) ∧ (¬ v29 < v15 → ((¬ v29 = v15 → K48) ∧ (v29 = v15 → ((v35 < v16 → K48) ∧ (¬ v35 < v16 → (K44 v14 v15 v16)))))))))))))))))) ∧ (v23 = 0 → post (-1 : Int32) D27))))))) FU (-1 : Int32) (0 : Int32) (0 : Int32) a1 D)) ∧ (¬ a1 ≤ a2 → post (-1 : Int32) D))))))))))
set_option maxHeartbeats 4000000 in
set_option maxRecDepth 100000 in
theorem ct_X12_which {l : Launch} {G : Gl} {S : Sh} {D : Dy} (hF : FM S) {a1 : Int32} {a2 : Int32} {post : Int32 → Dy → Prop} (E : fX12_which a1 a2 D post) : Ct l G yX12_which cX12_which 9 (some .int) 9 0 0 S D [.ref (G.1 + 33), .int a1, .int a2] (PI S post) := by
  refine z_enter (lv0 := [(0, .ref (G.1 + 33)), (1, .int a1), (2, .int a2)]) pl_12 (Nat.le_of_ble_eq_true rfl) rfl ?_
  intro p e s m args below meth c hC hnm
  unfold fX12_which at E
  refine z_aload_n hC dX12_which_0 rfl 0 rfl ?_
  refine z_iload_n hC dX12_which_1 rfl 1 rfl ?_
  refine z_callV (ci := 12) (rest := []) hC (ck_mk lk_X12_258 in_X12_isModel cd_X12_isModel ds_X12_isModel (Nat.le_of_ble_eq_true rfl) (Nat.le_of_ble_eq_true rfl)) iy_X12_isModel sy_X12_isModel cf_12 (by decide) (kM_33 hF) (ct_X12_isModel hF E) rfl rfl (Nat.le_of_ble_eq_true rfl) ⟨Nat.le_refl _, Nat.le_refl _⟩ dX12_which_2 ?_
  rintro _ _ _ ⟨v2, rfl, rfl, rfl, E⟩
  refine z_if_eq (tgt := 21) hC dX12_which_5 (by decide) (fun c6 => ?_) (fun c6 => ?_)
  · replace E := E.1 c6
    refine z_iconst (v := -1) hC dX12_which_21 rfl ?_
    exact z_iret hC dX12_which_22 (Nat.le_refl _) (Nat.le_refl _) ⟨_, rfl, rfl, E⟩
  · replace E := E.2 c6
    refine z_aload_n hC dX12_which_8 rfl 0 rfl ?_
    refine z_iload_n hC dX12_which_9 rfl 2 rfl ?_
    refine z_callV (ci := 12) (rest := []) hC (ck_mk lk_X12_258 in_X12_isModel cd_X12_isModel ds_X12_isModel (Nat.le_of_ble_eq_true rfl) (Nat.le_of_ble_eq_true rfl)) iy_X12_isModel sy_X12_isModel cf_12 (by decide) (kM_33 hF) (ct_X12_isModel hF E) rfl rfl (Nat.le_of_ble_eq_true rfl) ⟨Nat.le_refl _, Nat.le_refl _⟩ dX12_which_10 ?_
    rintro _ _ _ ⟨v8, rfl, rfl, rfl, E⟩
    refine z_if_eq (tgt := 21) hC dX12_which_13 (by decide) (fun c12 => ?_) (fun c12 => ?_)
    · replace E := E.1 c12
      refine z_iconst (v := -1) hC dX12_which_21 rfl ?_
      exact z_iret hC dX12_which_22 (Nat.le_refl _) (Nat.le_refl _) ⟨_, rfl, rfl, E⟩
    · replace E := E.2 c12
      refine z_iload_n hC dX12_which_16 rfl 1 rfl ?_
      refine z_iload_n hC dX12_which_17 rfl 2 rfl ?_
      refine z_icmp_le (tgt := 23) hC dX12_which_18 (by decide) (fun c13 => ?_) (fun c13 => ?_)
      · replace E := E.1 c13
        refine z_iconst (v := -1) hC dX12_which_23 rfl ?_
        refine z_istore_n (lv' := [(3, .int (-1 : Int32)), (0, .ref (G.1 + 33)), (1, .int a1), (2, .int a2)]) hC dX12_which_24 rfl (Nat.le_of_ble_eq_true rfl) rfl ?_
        refine z_iconst (v := 0) hC dX12_which_25 rfl ?_
        refine z_istore (lv' := [(4, .int (0 : Int32)), (3, .int (-1 : Int32)), (0, .ref (G.1 + 33)), (1, .int a1), (2, .int a2)]) hC dX12_which_26 (Nat.le_of_ble_eq_true rfl) rfl ?_
        refine z_iconst (v := 0) hC dX12_which_28 rfl ?_
        refine z_istore (lv' := [(5, .int (0 : Int32)), (4, .int (0 : Int32)), (3, .int (-1 : Int32)), (0, .ref (G.1 + 33)), (1, .int a1), (2, .int a2)]) hC dX12_which_29 (Nat.le_of_ble_eq_true rfl) rfl ?_
        refine z_iload_n hC dX12_which_31 rfl 4 rfl ?_
        refine z_istore (lv' := [(6, .int a1), (5, .int (0 : Int32)), (4, .int (0 : Int32)), (3, .int (-1 : Int32)), (0, .ref (G.1 + 33)), (1, .int a1), (2, .int a2)]) hC dX12_which_32 (Nat.le_of_ble_eq_true rfl) rfl ?_
        refine z_sub [4, 6, 3, 2, 1, 0] rfl ?_
        refine LP5_use (fun (v14 : Int32) (v15 : Int32) (v16 : Int32) (v17 : Int32) (D18 : Dy) => ZM l G p e s m args below meth c 9 9 S (PI S post) S D18 34 [(0, .ref (G.1 + 33)), (2, .int a2), (3, .int v14), (4, .int v15), (5, .int v16), (6, .int v17)] []) ?_ FU (-1 : Int32) (0 : Int32) (0 : Int32) a1 D E
        intro rec19 hrec20 v14 v15 v16 v17 D18 E
        refine z_iload hC dX12_which_34 5 rfl ?_
        refine z_iload_n hC dX12_which_36 rfl 1 rfl ?_
        refine z_icmp_gt (tgt := 114) hC dX12_which_37 (by decide) (fun c21 => ?_) (fun c21 => ?_)
        · replace E := E.1 c21
          refine z_iload_n hC dX12_which_114 rfl 2 rfl ?_
          exact z_iret hC dX12_which_115 (Nat.le_refl _) (Nat.le_refl _) ⟨_, rfl, rfl, E⟩
        · replace E := E.2 c21
          refine z_aload_n hC dX12_which_40 rfl 0 rfl ?_
          refine z_iload hC dX12_which_41 5 rfl ?_
          refine z_callV (ci := 12) (rest := []) hC (ck_mk lk_X12_261 in_X12_listen cd_X12_listen ds_X12_listen (Nat.le_of_ble_eq_true rfl) (Nat.le_of_ble_eq_true rfl)) iy_X12_listen sy_X12_listen cf_12 (by decide) (kM_33 hF) (ct_X12_listen hF E) rfl rfl (Nat.le_of_ble_eq_true rfl) ⟨Nat.le_refl _, Nat.le_refl _⟩ dX12_which_43 ?_
          rintro _ _ D27 ⟨v23, rfl, rfl, E⟩
          refine z_if_ne (tgt := 51) hC dX12_which_46 (by decide) (fun c28 => ?_) (fun c28 => ?_)
          · replace E := E.1 c28
            refine z_aload_n hC dX12_which_51 rfl 0 rfl ?_
            refine z_iload hC dX12_which_52 5 rfl ?_
            refine z_iconst (v := 1) hC dX12_which_54 rfl ?_
            refine z_callV (ci := 12) (rest := []) hC (ck_mk lk_X12_308 in_X12_scoreOf cd_X12_scoreOf ds_X12_scoreOf (Nat.le_of_ble_eq_true rfl) (Nat.le_of_ble_eq_true rfl)) iy_X12_scoreOf sy_X12_scoreOf cf_12 (by decide) (kM_33 hF) (ct_X12_scoreOf hF E) rfl rfl (Nat.le_of_ble_eq_true rfl) ⟨Nat.le_refl _, Nat.le_refl _⟩ dX12_which_55 ?_
            rintro _ _ D34 ⟨v29, rfl, rfl, E⟩
            refine z_istore (lv' := [(7, .int v29), (0, .ref (G.1 + 33)), (2, .int a2), (3, .int v14), (4, .int v15), (5, .int v16), (6, .int v17)]) hC dX12_which_58 (Nat.le_of_ble_eq_true rfl) rfl ?_
            refine z_aload_n hC dX12_which_60 rfl 1 rfl ?_
            refine z_iload hC dX12_which_61 6 rfl ?_
            refine z_iconst (v := 1) hC dX12_which_63 rfl ?_
            refine z_callV (ci := 12) (rest := []) hC (ck_mk lk_X12_311 in_X12_missesOf cd_X12_missesOf ds_X12_missesOf (Nat.le_of_ble_eq_true rfl) (Nat.le_of_ble_eq_true rfl)) iy_X12_missesOf sy_X12_missesOf cf_12 (by decide) (kM_33 hF) (ct_X12_missesOf hF E) rfl rfl (Nat.le_of_ble_eq_true rfl) ⟨Nat.le_refl _, Nat.le_refl _⟩ dX12_which_64 ?_
            rintro _ _ D40 ⟨v35, rfl, rfl, E⟩
            refine z_istore (lv' := [(8, .int v35), (7, .int v29), (0, .ref (G.1 + 33)), (2, .int a2), (3, .int v14), (4, .int v15), (5, .int v16), (6, .int v17)]) hC dX12_which_67 (Nat.le_of_ble_eq_true rfl) rfl ?_
            refine z_iload_n hC dX12_which_69 rfl 4 rfl ?_
            obtain ⟨K44, hK45, EE⟩ := JN_use E (fun K44 : Int32 → Int32 → Int32 → Prop => ∀ (v41 : Int32) (v42 : Int32) (v43 : Int32), K44 v41 v42 v43 → ZM l G p e s m args below meth c 9 9 S (PI S post) S D40 108 [(0, .ref (G.1 + 33)), (2, .int a2), (3, .int v41), (4, .int v42), (5, .int v43), (6, .int v17)] []) (by
              intro v41 v42 v43 E
              obtain ⟨v46, h47⟩ : ∃ y : Int32, y = v17 + 1 := ⟨_, rfl⟩
              replace E := E v46 h47
              refine z_iinc (q := 5) (v := v46) (lv' := [(6, .int v46), (0, .ref (G.1 + 33)), (2, .int a2), (3, .int v41), (4, .int v42), (5, .int v43)]) hC dX12_which_108 rfl (by rw [h47]; rfl) (Nat.le_of_ble_eq_true rfl) rfl ?_
              refine z_goto (tgt := 34) hC dX12_which_111 (by decide) ?_
              refine z_sub [1, 2, 3, 4, 5, 0] rfl ?_
              exact hrec20 v41 v42 v43 v46 D40 E)
            replace E := EE
            clear EE
            obtain ⟨K48, hK49, EE⟩ := JN_use E (fun K48 : Prop => K48 → ZM l G p e s m args below meth c 9 9 S (PI S post) S D40 97 [(0, .ref (G.1 + 33)), (2, .int a2), (6, .int v17), (7, .int v29), (8, .int v35)] []) (by
              intro E
              refine z_iload hC dX12_which_97 2 rfl ?_
              refine z_istore_n (lv' := [(3, .int v17), (0, .ref (G.1 + 33)), (2, .int a2), (6, .int v17), (7, .int v29), (8, .int v35)]) hC dX12_which_99 rfl (Nat.le_of_ble_eq_true rfl) rfl ?_
              refine z_iload hC dX12_which_100 4 rfl ?_
              refine z_istore (lv' := [(4, .int v29), (3, .int v17), (0, .ref (G.1 + 33)), (2, .int a2), (6, .int v17), (7, .int v29), (8, .int v35)]) hC dX12_which_102 (Nat.le_of_ble_eq_true rfl) rfl ?_
              refine z_iload hC dX12_which_104 6 rfl ?_
              refine z_istore (lv' := [(5, .int v35), (4, .int v29), (3, .int v17), (0, .ref (G.1 + 33)), (2, .int a2), (6, .int v17), (7, .int v29), (8, .int v35)]) hC dX12_which_106 (Nat.le_of_ble_eq_true rfl) rfl ?_
              refine z_sub [3, 4, 2, 1, 0, 5] rfl ?_
              exact hK45 v17 v29 v35 E)
            replace E := EE
            clear EE
            refine z_if_lt (tgt := 97) hC dX12_which_70 (by decide) (fun c50 => ?_) (fun c50 => ?_)
            · replace E := E.1 c50
              refine z_sub [2, 3, 7, 1, 0] rfl ?_
              exact hK49  E
            · replace E := E.2 c50
              refine z_iload hC dX12_which_73 1 rfl ?_
              refine z_iload hC dX12_which_75 5 rfl ?_
              refine z_icmp_lt (tgt := 108) hC dX12_which_77 (by decide) (fun c51 => ?_) (fun c51 => ?_)
              · replace E := E.1 c51
                refine z_sub [2, 3, 4, 5, 6, 7] rfl ?_
                exact hK45 v14 v15 v16 E
              · replace E := E.2 c51
                refine z_iload hC dX12_which_80 1 rfl ?_
                refine z_iload hC dX12_which_82 5 rfl ?_
                refine z_icmp_ne (tgt := 97) hC dX12_which_84 (by decide) (fun c52 => ?_) (fun c52 => ?_)
                · replace E := E.1 c52
                  refine z_sub [2, 3, 7, 1, 0] rfl ?_
                  exact hK49  E
                · replace E := E.2 c52
                  refine z_iload hC dX12_which_87 0 rfl ?_
                  refine z_iload hC dX12_which_89 6 rfl ?_
                  refine z_icmp_lt (tgt := 97) hC dX12_which_91 (by decide) (fun c53 => ?_) (fun c53 => ?_)
                  · replace E := E.1 c53
                    refine z_sub [2, 3, 7, 1, 0] rfl ?_
                    exact hK49  E
                  · replace E := E.2 c53
                    refine z_goto (tgt := 108) hC dX12_which_94 (by decide) ?_
                    refine z_sub [2, 3, 4, 5, 6, 7] rfl ?_
                    exact hK45 v14 v15 v16 E
          · replace E := E.2 c28
            refine z_iconst (v := -1) hC dX12_which_49 rfl ?_
            exact z_iret hC dX12_which_50 (Nat.le_refl _) (Nat.le_refl _) ⟨_, rfl, rfl, E⟩
      · replace E := E.2 c13
        refine z_iconst (v := -1) hC dX12_which_21 rfl ?_
        exact z_iret hC dX12_which_22 (Nat.le_refl _) (Nat.le_refl _) ⟨_, rfl, rfl, E⟩
def fX12_worse (a1 : Int32) (a2 : Int32) (a3 : Int32) (D : Dy) (post : Int32 → Dy → Prop) : Prop :=
  (fX12_isModel a1 D (fun (v2 : Int32) => ((v2 = 0 → post (-1 : Int32) D) ∧ (¬ v2 = 0 → (fX12_listen a1 D (fun (v8 : Int32) (D12 : Dy) => ((¬ v8 = 0 → (fX12_isSet a2 D12 (fun (v15 : Int32) => ((v15 = 0 → post (-2 : Int32) D12) ∧ (¬ v15 = 0 → (fX12_isSet a3 D12 (fun (v21 : Int32) => ((¬ v21 = 0 → (LP2 (fun (rec28 : Int32 → Int32 → Prop) (v26 : Int32) (v27 : Int32) => (((D12.1 33 1) ≤ v27 → post v26 D12) ∧ (¬ (D12.1 33 1) ≤ v27 → (vp_in v27 16 ∧ (fX12_greatestIn a2 (D12.1 37 (v27).toNatClampNeg) D12 (fun (v31 : Int32) => (vp_in v27 16 ∧ (fX12_greatestIn a3 (D12.1 37 (v27).toNatClampNeg) D12 (fun (v36 : Int32) => (JN (fun (v41 : Int32) => (∀ v44 : Int32, v44 = (v26 + v41) → (∀ v46 : Int32, v46 = v27 + 1 → (rec28 v44 v46)))) (fun K42 : Int32 → Prop => ((v36 ≤ v31 → (K42 (0 : Int32))) ∧ (¬ v36 ≤ v31 → (K42 (1 : Int32))))))))))))))) FU (0 : Int32) (0 : Int32))) ∧ (v21 = 0 → post (-2 : Int32) D12))))))))) ∧ (v8 = 0 → post (-1 : Int32) D12))))))))
set_option maxHeartbeats 4000000 in
set_option maxRecDepth 100000 in
theorem ct_X12_worse {l : Launch} {G : Gl} {S : Sh} {D : Dy} (hF : FM S) {a1 : Int32} {a2 : Int32} {a3 : Int32} {post : Int32 → Dy → Prop} (E : fX12_worse a1 a2 a3 D post) : Ct l G yX12_worse cX12_worse 6 (some .int) 9 0 0 S D [.ref (G.1 + 33), .int a1, .int a2, .int a3] (PI S post) := by
  refine z_enter (lv0 := [(0, .ref (G.1 + 33)), (1, .int a1), (2, .int a2), (3, .int a3)]) pl_12 (Nat.le_of_ble_eq_true rfl) rfl ?_
  intro p e s m args below meth c hC hnm
  unfold fX12_worse at E
  refine z_aload_n hC dX12_worse_0 rfl 0 rfl ?_
  refine z_iload_n hC dX12_worse_1 rfl 1 rfl ?_
  refine z_callV (ci := 12) (rest := []) hC (ck_mk lk_X12_258 in_X12_isModel cd_X12_isModel ds_X12_isModel (Nat.le_of_ble_eq_true rfl) (Nat.le_of_ble_eq_true rfl)) iy_X12_isModel sy_X12_isModel cf_12 (by decide) (kM_33 hF) (ct_X12_isModel hF E) rfl rfl (Nat.le_of_ble_eq_true rfl) ⟨Nat.le_refl _, Nat.le_refl _⟩ dX12_worse_2 ?_
  rintro _ _ _ ⟨v2, rfl, rfl, rfl, E⟩
  refine z_if_eq (tgt := 16) hC dX12_worse_5 (by decide) (fun c6 => ?_) (fun c6 => ?_)
  · replace E := E.1 c6
    refine z_iconst (v := -1) hC dX12_worse_16 rfl ?_
    exact z_iret hC dX12_worse_17 (Nat.le_refl _) (Nat.le_refl _) ⟨_, rfl, rfl, E⟩
  · replace E := E.2 c6
    refine z_aload_n hC dX12_worse_8 rfl 0 rfl ?_
    refine z_iload_n hC dX12_worse_9 rfl 1 rfl ?_
    refine z_callV (ci := 12) (rest := []) hC (ck_mk lk_X12_261 in_X12_listen cd_X12_listen ds_X12_listen (Nat.le_of_ble_eq_true rfl) (Nat.le_of_ble_eq_true rfl)) iy_X12_listen sy_X12_listen cf_12 (by decide) (kM_33 hF) (ct_X12_listen hF E) rfl rfl (Nat.le_of_ble_eq_true rfl) ⟨Nat.le_refl _, Nat.le_refl _⟩ dX12_worse_10 ?_
    rintro _ _ D12 ⟨v8, rfl, rfl, E⟩
    refine z_if_ne (tgt := 18) hC dX12_worse_13 (by decide) (fun c13 => ?_) (fun c13 => ?_)
    · replace E := E.1 c13
      refine z_aload_n hC dX12_worse_18 rfl 0 rfl ?_
      refine z_iload_n hC dX12_worse_19 rfl 2 rfl ?_
      refine z_callV (ci := 12) (rest := []) hC (ck_mk lk_X12_189 in_X12_isSet cd_X12_isSet ds_X12_isSet (Nat.le_of_ble_eq_true rfl) (Nat.le_of_ble_eq_true rfl)) iy_X12_isSet sy_X12_isSet cf_12 (by decide) (kM_33 hF) (ct_X12_isSet hF E) rfl rfl (Nat.le_of_ble_eq_true rfl) ⟨Nat.le_refl _, Nat.le_refl _⟩ dX12_worse_20 ?_
      rintro _ _ _ ⟨v15, rfl, rfl, rfl, E⟩
      refine z_if_eq (tgt := 34) hC dX12_worse_23 (by decide) (fun c19 => ?_) (fun c19 => ?_)
      · replace E := E.1 c19
        refine z_bipush (v := -2) hC dX12_worse_34 rfl ?_
        exact z_iret hC dX12_worse_36 (Nat.le_refl _) (Nat.le_refl _) ⟨_, rfl, rfl, E⟩
      · replace E := E.2 c19
        refine z_aload_n hC dX12_worse_26 rfl 0 rfl ?_
        refine z_iload_n hC dX12_worse_27 rfl 3 rfl ?_
        refine z_callV (ci := 12) (rest := []) hC (ck_mk lk_X12_189 in_X12_isSet cd_X12_isSet ds_X12_isSet (Nat.le_of_ble_eq_true rfl) (Nat.le_of_ble_eq_true rfl)) iy_X12_isSet sy_X12_isSet cf_12 (by decide) (kM_33 hF) (ct_X12_isSet hF E) rfl rfl (Nat.le_of_ble_eq_true rfl) ⟨Nat.le_refl _, Nat.le_refl _⟩ dX12_worse_28 ?_
        rintro _ _ _ ⟨v21, rfl, rfl, rfl, E⟩
        refine z_if_ne (tgt := 37) hC dX12_worse_31 (by decide) (fun c25 => ?_) (fun c25 => ?_)
        · replace E := E.1 c25
          refine z_iconst (v := 0) hC dX12_worse_37 rfl ?_
          refine z_istore (lv' := [(4, .int (0 : Int32)), (0, .ref (G.1 + 33)), (1, .int a1), (2, .int a2), (3, .int a3)]) hC dX12_worse_38 (Nat.le_of_ble_eq_true rfl) rfl ?_
          refine z_iconst (v := 0) hC dX12_worse_40 rfl ?_
          refine z_istore (lv' := [(5, .int (0 : Int32)), (4, .int (0 : Int32)), (0, .ref (G.1 + 33)), (1, .int a1), (2, .int a2), (3, .int a3)]) hC dX12_worse_41 (Nat.le_of_ble_eq_true rfl) rfl ?_
          refine z_sub [2, 4, 5, 1, 0] rfl ?_
          refine LP2_use (fun (v26 : Int32) (v27 : Int32) => ZM l G p e s m args below meth c 6 9 S (PI S post) S D12 43 [(0, .ref (G.1 + 33)), (2, .int a2), (3, .int a3), (4, .int v26), (5, .int v27)] []) ?_ FU (0 : Int32) (0 : Int32) E
          intro rec28 hrec29 v26 v27 E
          refine z_iload hC dX12_worse_43 4 rfl ?_
          refine z_aload_n hC dX12_worse_45 rfl 0 rfl ?_
          refine z_get hC lf_X12_13_12 (kM_33 hF) dX12_worse_46 (fV_int rfl) ?_
          refine z_icmp_ge (tgt := 95) hC dX12_worse_49 (by decide) (fun c30 => ?_) (fun c30 => ?_)
          · replace E := E.1 c30
            refine z_iload hC dX12_worse_95 3 rfl ?_
            exact z_iret hC dX12_worse_97 (Nat.le_refl _) (Nat.le_refl _) ⟨_, rfl, rfl, E⟩
          · replace E := E.2 c30
            refine z_iload hC dX12_worse_52 3 rfl ?_
            refine z_aload_n hC dX12_worse_54 rfl 0 rfl ?_
            refine z_iload_n hC dX12_worse_55 rfl 1 rfl ?_
            refine z_aload_n hC dX12_worse_56 rfl 0 rfl ?_
            refine z_get hC lf_X12_32_12 (kM_33 hF) dX12_worse_57 (fV_ref rfl (rM_33_7 hF)) ?_
            refine z_iload hC dX12_worse_60 4 rfl ?_
            refine z_iald hC (kM_37 hF) (nM_37 hF) E.1 dX12_worse_62 ?_
            replace E := E.2
            refine z_callV (ci := 12) (rest := [.int v26]) hC (ck_mk lk_X12_341 in_X12_greatestIn cd_X12_greatestIn ds_X12_greatestIn (Nat.le_of_ble_eq_true rfl) (Nat.le_of_ble_eq_true rfl)) iy_X12_greatestIn sy_X12_greatestIn cf_12 (by decide) (kM_33 hF) (ct_X12_greatestIn hF E) rfl rfl (Nat.le_of_ble_eq_true rfl) ⟨Nat.le_refl _, Nat.le_refl _⟩ dX12_worse_63 ?_
            rintro _ _ _ ⟨v31, rfl, rfl, rfl, E⟩
            refine z_aload_n hC dX12_worse_66 rfl 0 rfl ?_
            refine z_iload_n hC dX12_worse_67 rfl 2 rfl ?_
            refine z_aload_n hC dX12_worse_68 rfl 0 rfl ?_
            refine z_get hC lf_X12_32_12 (kM_33 hF) dX12_worse_69 (fV_ref rfl (rM_33_7 hF)) ?_
            refine z_iload hC dX12_worse_72 4 rfl ?_
            refine z_iald hC (kM_37 hF) (nM_37 hF) E.1 dX12_worse_74 ?_
            replace E := E.2
            refine z_callV (ci := 12) (rest := [.int v31, .int v26]) hC (ck_mk lk_X12_341 in_X12_greatestIn cd_X12_greatestIn ds_X12_greatestIn (Nat.le_of_ble_eq_true rfl) (Nat.le_of_ble_eq_true rfl)) iy_X12_greatestIn sy_X12_greatestIn cf_12 (by decide) (kM_33 hF) (ct_X12_greatestIn hF E) rfl rfl (Nat.le_of_ble_eq_true rfl) ⟨Nat.le_refl _, Nat.le_refl _⟩ dX12_worse_75 ?_
            rintro _ _ _ ⟨v36, rfl, rfl, rfl, E⟩
            obtain ⟨K42, hK43, EE⟩ := JN_use E (fun K42 : Int32 → Prop => ∀ (v41 : Int32), K42 v41 → ZM l G p e s m args below meth c 6 9 S (PI S post) S D12 86 [(0, .ref (G.1 + 33)), (2, .int a2), (3, .int a3), (5, .int v27)] [.int v41, .int v26]) (by
              intro v41 E
              refine z_iadd hC dX12_worse_86 ?_
              refine z_topi (fun v44 h45 => ?_)
              replace E := E v44 h45
              refine z_istore (lv' := [(4, .int v44), (0, .ref (G.1 + 33)), (2, .int a2), (3, .int a3), (5, .int v27)]) hC dX12_worse_87 (Nat.le_of_ble_eq_true rfl) rfl ?_
              obtain ⟨v46, h47⟩ : ∃ y : Int32, y = v27 + 1 := ⟨_, rfl⟩
              replace E := E v46 h47
              refine z_iinc (q := 4) (v := v46) (lv' := [(5, .int v46), (4, .int v44), (0, .ref (G.1 + 33)), (2, .int a2), (3, .int a3)]) hC dX12_worse_89 rfl (by rw [h47]; rfl) (Nat.le_of_ble_eq_true rfl) rfl ?_
              refine z_goto (tgt := 43) hC dX12_worse_92 (by decide) ?_
              refine z_sub [2, 3, 4, 1, 0] rfl ?_
              exact hrec29 v44 v46 E)
            replace E := EE
            clear EE
            refine z_icmp_ge (tgt := 85) hC dX12_worse_78 (by decide) (fun c48 => ?_) (fun c48 => ?_)
            · replace E := E.1 c48
              refine z_iconst (v := 0) hC dX12_worse_85 rfl ?_
              refine z_sub [0, 1, 2, 4] rfl ?_
              exact hK43 (0 : Int32) E
            · replace E := E.2 c48
              refine z_iconst (v := 1) hC dX12_worse_81 rfl ?_
              refine z_goto (tgt := 86) hC dX12_worse_82 (by decide) ?_
              refine z_sub [0, 1, 2, 4] rfl ?_
              exact hK43 (1 : Int32) E
        · replace E := E.2 c25
          refine z_bipush (v := -2) hC dX12_worse_34 rfl ?_
          exact z_iret hC dX12_worse_36 (Nat.le_refl _) (Nat.le_refl _) ⟨_, rfl, rfl, E⟩
    · replace E := E.2 c13
      refine z_iconst (v := -1) hC dX12_worse_16 rfl ?_
      exact z_iret hC dX12_worse_17 (Nat.le_refl _) (Nat.le_refl _) ⟨_, rfl, rfl, E⟩
def fX12_would (a1 : Int32) (a2 : Int32) (D : Dy) (post : Int32 → Dy → Prop) : Prop :=
  (fX12_isTaker a1 D (fun (v2 : Int32) => ((¬ v2 = 0 → (fX12_isSet a2 D (fun (v8 : Int32) => (JN (post (-2 : Int32) D) (fun K12 : Prop => ((v8 = 0 → K12) ∧ (¬ v8 = 0 → ((¬ a2 = 0 → (fX12_wouldOf a1 a2 D (fun (v16 : Int32) (D21 : Dy) => post v16 D21))) ∧ (a2 = 0 → K12))))))))) ∧ (v2 = 0 → post (-1 : Int32) D))))
set_option maxHeartbeats 4000000 in
set_option maxRecDepth 100000 in
theorem ct_X12_would {l : Launch} {G : Gl} {S : Sh} {D : Dy} (hF : FM S) {a1 : Int32} {a2 : Int32} {post : Int32 → Dy → Prop} (E : fX12_would a1 a2 D post) : Ct l G yX12_would cX12_would 3 (some .int) 5 0 0 S D [.ref (G.1 + 33), .int a1, .int a2] (PI S post) := by
  refine z_enter (lv0 := [(0, .ref (G.1 + 33)), (1, .int a1), (2, .int a2)]) pl_12 (Nat.le_of_ble_eq_true rfl) rfl ?_
  intro p e s m args below meth c hC hnm
  unfold fX12_would at E
  refine z_aload_n hC dX12_would_0 rfl 0 rfl ?_
  refine z_iload_n hC dX12_would_1 rfl 1 rfl ?_
  refine z_callV (ci := 12) (rest := []) hC (ck_mk lk_X12_186 in_X12_isTaker cd_X12_isTaker ds_X12_isTaker (Nat.le_of_ble_eq_true rfl) (Nat.le_of_ble_eq_true rfl)) iy_X12_isTaker sy_X12_isTaker cf_12 (by decide) (kM_33 hF) (ct_X12_isTaker hF E) rfl rfl (Nat.le_of_ble_eq_true rfl) ⟨Nat.le_refl _, Nat.le_refl _⟩ dX12_would_2 ?_
  rintro _ _ _ ⟨v2, rfl, rfl, rfl, E⟩
  refine z_if_ne (tgt := 12) hC dX12_would_5 (by decide) (fun c6 => ?_) (fun c6 => ?_)
  · replace E := E.1 c6
    refine z_aload_n hC dX12_would_12 rfl 0 rfl ?_
    refine z_iload_n hC dX12_would_13 rfl 2 rfl ?_
    refine z_callV (ci := 12) (rest := []) hC (ck_mk lk_X12_189 in_X12_isSet cd_X12_isSet ds_X12_isSet (Nat.le_of_ble_eq_true rfl) (Nat.le_of_ble_eq_true rfl)) iy_X12_isSet sy_X12_isSet cf_12 (by decide) (kM_33 hF) (ct_X12_isSet hF E) rfl rfl (Nat.le_of_ble_eq_true rfl) ⟨Nat.le_refl _, Nat.le_refl _⟩ dX12_would_14 ?_
    rintro _ _ _ ⟨v8, rfl, rfl, rfl, E⟩
    obtain ⟨K12, hK13, EE⟩ := JN_use E (fun K12 : Prop => K12 → ZM l G p e s m args below meth c 3 5 S (PI S post) S D 24 [] []) (by
      intro E
      refine z_bipush (v := -2) hC dX12_would_24 rfl ?_
      refine z_goto (tgt := 35) hC dX12_would_26 (by decide) ?_
      exact z_iret hC dX12_would_35 (Nat.le_refl _) (Nat.le_refl _) ⟨_, rfl, rfl, E⟩)
    replace E := EE
    clear EE
    refine z_if_eq (tgt := 24) hC dX12_would_17 (by decide) (fun c14 => ?_) (fun c14 => ?_)
    · replace E := E.1 c14
      refine z_sub [] rfl ?_
      exact hK13  E
    · replace E := E.2 c14
      refine z_iload_n hC dX12_would_20 rfl 2 rfl ?_
      refine z_if_ne (tgt := 29) hC dX12_would_21 (by decide) (fun c15 => ?_) (fun c15 => ?_)
      · replace E := E.1 c15
        refine z_aload_n hC dX12_would_29 rfl 0 rfl ?_
        refine z_iload_n hC dX12_would_30 rfl 1 rfl ?_
        refine z_iload_n hC dX12_would_31 rfl 2 rfl ?_
        refine z_callV (ci := 12) (rest := []) hC (ck_mk lk_X12_332 in_X12_wouldOf cd_X12_wouldOf ds_X12_wouldOf (Nat.le_of_ble_eq_true rfl) (Nat.le_of_ble_eq_true rfl)) iy_X12_wouldOf sy_X12_wouldOf cf_12 (by decide) (kM_33 hF) (ct_X12_wouldOf hF E) rfl rfl (Nat.le_of_ble_eq_true rfl) ⟨Nat.le_refl _, Nat.le_refl _⟩ dX12_would_32 ?_
        rintro _ _ D21 ⟨v16, rfl, rfl, E⟩
        exact z_iret hC dX12_would_35 (Nat.le_refl _) (Nat.le_refl _) ⟨_, rfl, rfl, E⟩
      · replace E := E.2 c15
        refine z_sub [] rfl ?_
        exact hK13  E
  · replace E := E.2 c6
    refine z_iconst (v := -1) hC dX12_would_8 rfl ?_
    refine z_goto (tgt := 35) hC dX12_would_9 (by decide) ?_
    exact z_iret hC dX12_would_35 (Nat.le_refl _) (Nat.le_refl _) ⟨_, rfl, rfl, E⟩
