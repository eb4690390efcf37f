/-! the members: their code, their links (laid by program) -/
theorem in_X0_add : Cond.initialized yX0_add.cls ∈ TB := icl_0
theorem cd_X0_add : Cond.code yX0_add cX0_add 4 (some .int) ∈ TB := tw_230
theorem dn_X0_add : (parseMethodDescriptor yX0_add.desc).map (fun d => d.parameters.length) = some 3 := by decide +kernel
theorem ds_X0_add : yX0_add.cls ≠ "java/lang/invoke/MethodHandle" ∧ yX0_add.cls ≠ "java/lang/invoke/VarHandle" ∧ (parseMethodDescriptor yX0_add.desc).map (fun d => d.parameters.length) = some 3 := ⟨by decide +kernel, by decide +kernel, dn_X0_add⟩
theorem iy_X0_add : Cond.instanceMethod yX0_add ∈ TB := tw_228
theorem sy_X0_add : Cond.selects yX0_add.cls yX0_add yX0_add ∈ TB := tw_229
theorem in_X11_isIn : Cond.initialized yX11_isIn.cls ∈ TB := icl_11
theorem cd_X11_isIn : Cond.code yX11_isIn cX11_isIn 2 (some .boolean) ∈ TB := tw_226
theorem dn_X11_isIn : (parseMethodDescriptor yX11_isIn.desc).map (fun d => d.parameters.length) = some 2 := by decide +kernel
theorem ds_X11_isIn : yX11_isIn.cls ≠ "java/lang/invoke/MethodHandle" ∧ yX11_isIn.cls ≠ "java/lang/invoke/VarHandle" ∧ (parseMethodDescriptor yX11_isIn.desc).map (fun d => d.parameters.length) = some 2 := ⟨by decide +kernel, by decide +kernel, dn_X11_isIn⟩
theorem st_X11_isIn : Cond.static yX11_isIn ∈ TB := tw_225
theorem in_X0_countWith : Cond.initialized yX0_countWith.cls ∈ TB := icl_0
theorem cd_X0_countWith : Cond.code yX0_countWith cX0_countWith 8 (some .int) ∈ TB := tw_899
theorem dn_X0_countWith : (parseMethodDescriptor yX0_countWith.desc).map (fun d => d.parameters.length) = some 4 := by decide +kernel
theorem ds_X0_countWith : yX0_countWith.cls ≠ "java/lang/invoke/MethodHandle" ∧ yX0_countWith.cls ≠ "java/lang/invoke/VarHandle" ∧ (parseMethodDescriptor yX0_countWith.desc).map (fun d => d.parameters.length) = some 4 := ⟨by decide +kernel, by decide +kernel, dn_X0_countWith⟩
theorem iy_X0_countWith : Cond.instanceMethod yX0_countWith ∈ TB := tw_897
theorem sy_X0_countWith : Cond.selects yX0_countWith.cls yX0_countWith yX0_countWith ∈ TB := tw_898
theorem in_X1_add : Cond.initialized yX1_add.cls ∈ TB := icl_1
theorem cd_X1_add : Cond.code yX1_add cX1_add 4 (some .int) ∈ TB := tw_194
theorem dn_X1_add : (parseMethodDescriptor yX1_add.desc).map (fun d => d.parameters.length) = some 3 := by decide +kernel
theorem ds_X1_add : yX1_add.cls ≠ "java/lang/invoke/MethodHandle" ∧ yX1_add.cls ≠ "java/lang/invoke/VarHandle" ∧ (parseMethodDescriptor yX1_add.desc).map (fun d => d.parameters.length) = some 3 := ⟨by decide +kernel, by decide +kernel, dn_X1_add⟩
theorem iy_X1_add : Cond.instanceMethod yX1_add ∈ TB := tw_192
theorem sy_X1_add : Cond.selects yX1_add.cls yX1_add yX1_add ∈ TB := tw_193
theorem in_X1_cheapestOf : Cond.initialized yX1_cheapestOf.cls ∈ TB := icl_1
theorem cd_X1_cheapestOf : Cond.code yX1_cheapestOf cX1_cheapestOf 4 (some .int) ∈ TB := tw_733
theorem dn_X1_cheapestOf : (parseMethodDescriptor yX1_cheapestOf.desc).map (fun d => d.parameters.length) = some 1 := by decide +kernel
theorem ds_X1_cheapestOf : yX1_cheapestOf.cls ≠ "java/lang/invoke/MethodHandle" ∧ yX1_cheapestOf.cls ≠ "java/lang/invoke/VarHandle" ∧ (parseMethodDescriptor yX1_cheapestOf.desc).map (fun d => d.parameters.length) = some 1 := ⟨by decide +kernel, by decide +kernel, dn_X1_cheapestOf⟩
theorem iy_X1_cheapestOf : Cond.instanceMethod yX1_cheapestOf ∈ TB := tw_731
theorem sy_X1_cheapestOf : Cond.selects yX1_cheapestOf.cls yX1_cheapestOf yX1_cheapestOf ∈ TB := tw_732
theorem in_X11_within : Cond.initialized yX11_within.cls ∈ TB := icl_11
theorem cd_X11_within : Cond.code yX11_within cX11_within 2 (some .boolean) ∈ TB := tw_190
theorem dn_X11_within : (parseMethodDescriptor yX11_within.desc).map (fun d => d.parameters.length) = some 2 := by decide +kernel
theorem ds_X11_within : yX11_within.cls ≠ "java/lang/invoke/MethodHandle" ∧ yX11_within.cls ≠ "java/lang/invoke/VarHandle" ∧ (parseMethodDescriptor yX11_within.desc).map (fun d => d.parameters.length) = some 2 := ⟨by decide +kernel, by decide +kernel, dn_X11_within⟩
theorem st_X11_within : Cond.static yX11_within ∈ TB := tw_189
theorem in_X1_has : Cond.initialized yX1_has.cls ∈ TB := icl_1
theorem cd_X1_has : Cond.code yX1_has cX1_has 2 (some .boolean) ∈ TB := tw_202
theorem dn_X1_has : (parseMethodDescriptor yX1_has.desc).map (fun d => d.parameters.length) = some 1 := by decide +kernel
theorem ds_X1_has : yX1_has.cls ≠ "java/lang/invoke/MethodHandle" ∧ yX1_has.cls ≠ "java/lang/invoke/VarHandle" ∧ (parseMethodDescriptor yX1_has.desc).map (fun d => d.parameters.length) = some 1 := ⟨by decide +kernel, by decide +kernel, dn_X1_has⟩
theorem iy_X1_has : Cond.instanceMethod yX1_has ∈ TB := tw_200
theorem sy_X1_has : Cond.selects yX1_has.cls yX1_has yX1_has ∈ TB := tw_201
theorem in_X1_hasAll : Cond.initialized yX1_hasAll.cls ∈ TB := icl_1
theorem cd_X1_hasAll : Cond.code yX1_hasAll cX1_hasAll 2 (some .boolean) ∈ TB := tw_223
theorem dn_X1_hasAll : (parseMethodDescriptor yX1_hasAll.desc).map (fun d => d.parameters.length) = some 1 := by decide +kernel
theorem ds_X1_hasAll : yX1_hasAll.cls ≠ "java/lang/invoke/MethodHandle" ∧ yX1_hasAll.cls ≠ "java/lang/invoke/VarHandle" ∧ (parseMethodDescriptor yX1_hasAll.desc).map (fun d => d.parameters.length) = some 1 := ⟨by decide +kernel, by decide +kernel, dn_X1_hasAll⟩
theorem iy_X1_hasAll : Cond.instanceMethod yX1_hasAll ∈ TB := tw_221
theorem sy_X1_hasAll : Cond.selects yX1_hasAll.cls yX1_hasAll yX1_hasAll ∈ TB := tw_222
theorem in_X1_hasSome : Cond.initialized yX1_hasSome.cls ∈ TB := icl_1
theorem cd_X1_hasSome : Cond.code yX1_hasSome cX1_hasSome 2 (some .boolean) ∈ TB := tw_219
theorem dn_X1_hasSome : (parseMethodDescriptor yX1_hasSome.desc).map (fun d => d.parameters.length) = some 1 := by decide +kernel
theorem ds_X1_hasSome : yX1_hasSome.cls ≠ "java/lang/invoke/MethodHandle" ∧ yX1_hasSome.cls ≠ "java/lang/invoke/VarHandle" ∧ (parseMethodDescriptor yX1_hasSome.desc).map (fun d => d.parameters.length) = some 1 := ⟨by decide +kernel, by decide +kernel, dn_X1_hasSome⟩
theorem iy_X1_hasSome : Cond.instanceMethod yX1_hasSome ∈ TB := tw_217
theorem sy_X1_hasSome : Cond.selects yX1_hasSome.cls yX1_hasSome yX1_hasSome ∈ TB := tw_218
theorem in_X1_outdoesAll : Cond.initialized yX1_outdoesAll.cls ∈ TB := icl_1
theorem cd_X1_outdoesAll : Cond.code yX1_outdoesAll cX1_outdoesAll 4 (some .boolean) ∈ TB := tw_887
theorem dn_X1_outdoesAll : (parseMethodDescriptor yX1_outdoesAll.desc).map (fun d => d.parameters.length) = some 2 := by decide +kernel
theorem ds_X1_outdoesAll : yX1_outdoesAll.cls ≠ "java/lang/invoke/MethodHandle" ∧ yX1_outdoesAll.cls ≠ "java/lang/invoke/VarHandle" ∧ (parseMethodDescriptor yX1_outdoesAll.desc).map (fun d => d.parameters.length) = some 2 := ⟨by decide +kernel, by decide +kernel, dn_X1_outdoesAll⟩
theorem iy_X1_outdoesAll : Cond.instanceMethod yX1_outdoesAll ∈ TB := tw_886
theorem sy_X1_outdoesAll : Cond.selects yX1_outdoesAll.cls yX1_outdoesAll yX1_outdoesAll ∈ TB := TB_sel 33 (q := (yX1_outdoesAll, 4)) (by decide +kernel) rfl
theorem in_X1_isSilly : Cond.initialized yX1_isSilly.cls ∈ TB := icl_1
theorem cd_X1_isSilly : Cond.code yX1_isSilly cX1_isSilly 3 (some .boolean) ∈ TB := tw_883
theorem dn_X1_isSilly : (parseMethodDescriptor yX1_isSilly.desc).map (fun d => d.parameters.length) = some 1 := by decide +kernel
theorem ds_X1_isSilly : yX1_isSilly.cls ≠ "java/lang/invoke/MethodHandle" ∧ yX1_isSilly.cls ≠ "java/lang/invoke/VarHandle" ∧ (parseMethodDescriptor yX1_isSilly.desc).map (fun d => d.parameters.length) = some 1 := ⟨by decide +kernel, by decide +kernel, dn_X1_isSilly⟩
theorem iy_X1_isSilly : Cond.instanceMethod yX1_isSilly ∈ TB := tw_881
theorem sy_X1_isSilly : Cond.selects yX1_isSilly.cls yX1_isSilly yX1_isSilly ∈ TB := tw_882
theorem in_X1_mostMarkedOf : Cond.initialized yX1_mostMarkedOf.cls ∈ TB := icl_1
theorem cd_X1_mostMarkedOf : Cond.code yX1_mostMarkedOf cX1_mostMarkedOf 5 (some .int) ∈ TB := tw_651
theorem dn_X1_mostMarkedOf : (parseMethodDescriptor yX1_mostMarkedOf.desc).map (fun d => d.parameters.length) = some 1 := by decide +kernel
theorem ds_X1_mostMarkedOf : yX1_mostMarkedOf.cls ≠ "java/lang/invoke/MethodHandle" ∧ yX1_mostMarkedOf.cls ≠ "java/lang/invoke/VarHandle" ∧ (parseMethodDescriptor yX1_mostMarkedOf.desc).map (fun d => d.parameters.length) = some 1 := ⟨by decide +kernel, by decide +kernel, dn_X1_mostMarkedOf⟩
theorem iy_X1_mostMarkedOf : Cond.instanceMethod yX1_mostMarkedOf ∈ TB := tw_649
theorem sy_X1_mostMarkedOf : Cond.selects yX1_mostMarkedOf.cls yX1_mostMarkedOf yX1_mostMarkedOf ∈ TB := tw_650
theorem in_X1_passes : Cond.initialized yX1_passes.cls ∈ TB := icl_1
theorem cd_X1_passes : Cond.code yX1_passes cX1_passes 4 (some .boolean) ∈ TB := tw_633
theorem dn_X1_passes : (parseMethodDescriptor yX1_passes.desc).map (fun d => d.parameters.length) = some 3 := by decide +kernel
theorem ds_X1_passes : yX1_passes.cls ≠ "java/lang/invoke/MethodHandle" ∧ yX1_passes.cls ≠ "java/lang/invoke/VarHandle" ∧ (parseMethodDescriptor yX1_passes.desc).map (fun d => d.parameters.length) = some 3 := ⟨by decide +kernel, by decide +kernel, dn_X1_passes⟩
theorem iy_X1_passes : Cond.instanceMethod yX1_passes ∈ TB := tw_632
theorem sy_X1_passes : Cond.selects yX1_passes.cls yX1_passes yX1_passes ∈ TB := TB_sel 21 (q := (yX1_passes, 4)) (by decide +kernel) rfl
theorem in_X1_passing : Cond.initialized yX1_passing.cls ∈ TB := icl_1
theorem cd_X1_passing : Cond.code yX1_passing cX1_passing 5 (some .int) ∈ TB := tw_629
theorem dn_X1_passing : (parseMethodDescriptor yX1_passing.desc).map (fun d => d.parameters.length) = some 2 := by decide +kernel
theorem ds_X1_passing : yX1_passing.cls ≠ "java/lang/invoke/MethodHandle" ∧ yX1_passing.cls ≠ "java/lang/invoke/VarHandle" ∧ (parseMethodDescriptor yX1_passing.desc).map (fun d => d.parameters.length) = some 2 := ⟨by decide +kernel, by decide +kernel, dn_X1_passing⟩
theorem iy_X1_passing : Cond.instanceMethod yX1_passing ∈ TB := tw_627
theorem sy_X1_passing : Cond.selects yX1_passing.cls yX1_passing yX1_passing ∈ TB := tw_628
theorem in_X10_note : Cond.initialized yX10_note.cls ∈ TB := icl_10
theorem cd_X10_note : Cond.code yX10_note cX10_note 2 none ∈ TB := tw_960
theorem dn_X10_note : (parseMethodDescriptor yX10_note.desc).map (fun d => d.parameters.length) = some 1 := by decide +kernel
theorem ds_X10_note : yX10_note.cls ≠ "java/lang/invoke/MethodHandle" ∧ yX10_note.cls ≠ "java/lang/invoke/VarHandle" ∧ (parseMethodDescriptor yX10_note.desc).map (fun d => d.parameters.length) = some 1 := ⟨by decide +kernel, by decide +kernel, dn_X10_note⟩
theorem iy_X10_note : Cond.instanceMethod yX10_note ∈ TB := tw_958
theorem sy_X10_note : Cond.selects yX10_note.cls yX10_note yX10_note ∈ TB := tw_959
theorem in_X4_weighsBody : Cond.initialized yX4_weighsBody.cls ∈ TB := icl_4
theorem cd_X4_weighsBody : Cond.code yX4_weighsBody cX4_weighsBody 3 (some .int) ∈ TB := tw_970
theorem dn_X4_weighsBody : (parseMethodDescriptor yX4_weighsBody.desc).map (fun d => d.parameters.length) = some 2 := by decide +kernel
theorem ds_X4_weighsBody : yX4_weighsBody.cls ≠ "java/lang/invoke/MethodHandle" ∧ yX4_weighsBody.cls ≠ "java/lang/invoke/VarHandle" ∧ (parseMethodDescriptor yX4_weighsBody.desc).map (fun d => d.parameters.length) = some 2 := ⟨by decide +kernel, by decide +kernel, dn_X4_weighsBody⟩
theorem iy_X4_weighsBody : Cond.instanceMethod yX4_weighsBody ∈ TB := tw_949
theorem sy_X4_weighsBody : Cond.selects yX4_weighsBody.cls yX4_weighsBody yX4_weighsBody ∈ TB := tw_950
theorem in_X5_weighsBody : Cond.initialized yX5_weighsBody.cls ∈ TB := icl_5
theorem cd_X5_weighsBody : Cond.code yX5_weighsBody cX5_weighsBody 3 (some .int) ∈ TB := tw_956
theorem dn_X5_weighsBody : (parseMethodDescriptor yX5_weighsBody.desc).map (fun d => d.parameters.length) = some 2 := by decide +kernel
theorem ds_X5_weighsBody : yX5_weighsBody.cls ≠ "java/lang/invoke/MethodHandle" ∧ yX5_weighsBody.cls ≠ "java/lang/invoke/VarHandle" ∧ (parseMethodDescriptor yX5_weighsBody.desc).map (fun d => d.parameters.length) = some 2 := ⟨by decide +kernel, by decide +kernel, dn_X5_weighsBody⟩
theorem iy_X5_weighsBody : Cond.instanceMethod yX5_weighsBody ∈ TB := tw_955
theorem in_X8_weighsBody : Cond.initialized yX8_weighsBody.cls ∈ TB := icl_8
theorem cd_X8_weighsBody : Cond.code yX8_weighsBody cX8_weighsBody 3 (some .int) ∈ TB := tw_967
theorem dn_X8_weighsBody : (parseMethodDescriptor yX8_weighsBody.desc).map (fun d => d.parameters.length) = some 2 := by decide +kernel
theorem ds_X8_weighsBody : yX8_weighsBody.cls ≠ "java/lang/invoke/MethodHandle" ∧ yX8_weighsBody.cls ≠ "java/lang/invoke/VarHandle" ∧ (parseMethodDescriptor yX8_weighsBody.desc).map (fun d => d.parameters.length) = some 2 := ⟨by decide +kernel, by decide +kernel, dn_X8_weighsBody⟩
theorem iy_X8_weighsBody : Cond.instanceMethod yX8_weighsBody ∈ TB := tw_966
theorem in_X4_oddsBody : Cond.initialized yX4_oddsBody.cls ∈ TB := icl_4
theorem cd_X4_oddsBody : Cond.code yX4_oddsBody cX4_oddsBody 3 (some .int) ∈ TB := tw_994
theorem dn_X4_oddsBody : (parseMethodDescriptor yX4_oddsBody.desc).map (fun d => d.parameters.length) = some 2 := by decide +kernel
theorem ds_X4_oddsBody : yX4_oddsBody.cls ≠ "java/lang/invoke/MethodHandle" ∧ yX4_oddsBody.cls ≠ "java/lang/invoke/VarHandle" ∧ (parseMethodDescriptor yX4_oddsBody.desc).map (fun d => d.parameters.length) = some 2 := ⟨by decide +kernel, by decide +kernel, dn_X4_oddsBody⟩
theorem iy_X4_oddsBody : Cond.instanceMethod yX4_oddsBody ∈ TB := tw_973
theorem sy_X4_oddsBody : Cond.selects yX4_oddsBody.cls yX4_oddsBody yX4_oddsBody ∈ TB := tw_974
theorem in_X7_oddsBody : Cond.initialized yX7_oddsBody.cls ∈ TB := icl_7
theorem cd_X7_oddsBody : Cond.code yX7_oddsBody cX7_oddsBody 3 (some .int) ∈ TB := tw_982
theorem dn_X7_oddsBody : (parseMethodDescriptor yX7_oddsBody.desc).map (fun d => d.parameters.length) = some 2 := by decide +kernel
theorem ds_X7_oddsBody : yX7_oddsBody.cls ≠ "java/lang/invoke/MethodHandle" ∧ yX7_oddsBody.cls ≠ "java/lang/invoke/VarHandle" ∧ (parseMethodDescriptor yX7_oddsBody.desc).map (fun d => d.parameters.length) = some 2 := ⟨by decide +kernel, by decide +kernel, dn_X7_oddsBody⟩
theorem iy_X7_oddsBody : Cond.instanceMethod yX7_oddsBody ∈ TB := tw_981
theorem in_X2_oddsBody : Cond.initialized yX2_oddsBody.cls ∈ TB := icl_2
theorem cd_X2_oddsBody : Cond.code yX2_oddsBody cX2_oddsBody 3 (some .int) ∈ TB := tw_978
theorem dn_X2_oddsBody : (parseMethodDescriptor yX2_oddsBody.desc).map (fun d => d.parameters.length) = some 2 := by decide +kernel
theorem ds_X2_oddsBody : yX2_oddsBody.cls ≠ "java/lang/invoke/MethodHandle" ∧ yX2_oddsBody.cls ≠ "java/lang/invoke/VarHandle" ∧ (parseMethodDescriptor yX2_oddsBody.desc).map (fun d => d.parameters.length) = some 2 := ⟨by decide +kernel, by decide +kernel, dn_X2_oddsBody⟩
theorem iy_X2_oddsBody : Cond.instanceMethod yX2_oddsBody ∈ TB := tw_977
theorem in_X2_seenOf : Cond.initialized yX2_seenOf.cls ∈ TB := icl_2
theorem cd_X2_seenOf : Cond.code yX2_seenOf cX2_seenOf 5 (some .int) ∈ TB := tw_647
theorem dn_X2_seenOf : (parseMethodDescriptor yX2_seenOf.desc).map (fun d => d.parameters.length) = some 2 := by decide +kernel
theorem ds_X2_seenOf : yX2_seenOf.cls ≠ "java/lang/invoke/MethodHandle" ∧ yX2_seenOf.cls ≠ "java/lang/invoke/VarHandle" ∧ (parseMethodDescriptor yX2_seenOf.desc).map (fun d => d.parameters.length) = some 2 := ⟨by decide +kernel, by decide +kernel, dn_X2_seenOf⟩
theorem iy_X2_seenOf : Cond.instanceMethod yX2_seenOf ∈ TB := tw_646
theorem sy_X2_seenOf : Cond.selects yX2_seenOf.cls yX2_seenOf yX2_seenOf ∈ TB := TB_sel 22 (q := (yX2_seenOf, 6)) (by decide +kernel) rfl
theorem in_X4_clearShares : Cond.initialized yX4_clearShares.cls ∈ TB := icl_4
theorem cd_X4_clearShares : Cond.code yX4_clearShares cX4_clearShares 2 none ∈ TB := tw_669
theorem dn_X4_clearShares : (parseMethodDescriptor yX4_clearShares.desc).map (fun d => d.parameters.length) = some 0 := by decide +kernel
theorem ds_X4_clearShares : yX4_clearShares.cls ≠ "java/lang/invoke/MethodHandle" ∧ yX4_clearShares.cls ≠ "java/lang/invoke/VarHandle" ∧ (parseMethodDescriptor yX4_clearShares.desc).map (fun d => d.parameters.length) = some 0 := ⟨by decide +kernel, by decide +kernel, dn_X4_clearShares⟩
theorem iy_X4_clearShares : Cond.instanceMethod yX4_clearShares ∈ TB := tw_668
theorem sy_X4_clearShares : Cond.selects yX4_clearShares.cls yX4_clearShares yX4_clearShares ∈ TB := tw_1654
theorem in_X4_weighed : Cond.initialized yX4_weighed.cls ∈ TB := icl_4
theorem cd_X4_weighed : Cond.code yX4_weighed cX4_weighed 3 (some .int) ∈ TB := tw_678
theorem dn_X4_weighed : (parseMethodDescriptor yX4_weighed.desc).map (fun d => d.parameters.length) = some 2 := by decide +kernel
theorem ds_X4_weighed : yX4_weighed.cls ≠ "java/lang/invoke/MethodHandle" ∧ yX4_weighed.cls ≠ "java/lang/invoke/VarHandle" ∧ (parseMethodDescriptor yX4_weighed.desc).map (fun d => d.parameters.length) = some 2 := ⟨by decide +kernel, by decide +kernel, dn_X4_weighed⟩
theorem iy_X4_weighed : Cond.instanceMethod yX4_weighed ∈ TB := tw_677
theorem sy_X4_weighed : Cond.selects yX4_weighed.cls yX4_weighed yX4_weighed ∈ TB := tw_1647
theorem in_X4_sumWeights : Cond.initialized yX4_sumWeights.cls ∈ TB := icl_4
theorem cd_X4_sumWeights : Cond.code yX4_sumWeights cX4_sumWeights 6 (some .int) ∈ TB := tw_687
theorem dn_X4_sumWeights : (parseMethodDescriptor yX4_sumWeights.desc).map (fun d => d.parameters.length) = some 3 := by decide +kernel
theorem ds_X4_sumWeights : yX4_sumWeights.cls ≠ "java/lang/invoke/MethodHandle" ∧ yX4_sumWeights.cls ≠ "java/lang/invoke/VarHandle" ∧ (parseMethodDescriptor yX4_sumWeights.desc).map (fun d => d.parameters.length) = some 3 := ⟨by decide +kernel, by decide +kernel, dn_X4_sumWeights⟩
theorem iy_X4_sumWeights : Cond.instanceMethod yX4_sumWeights ∈ TB := tw_686
theorem in_X7_share : Cond.initialized yX7_share.cls ∈ TB := icl_7
theorem cd_X7_share : Cond.code yX7_share cX7_share 7 none ∈ TB := tw_660
theorem dn_X7_share : (parseMethodDescriptor yX7_share.desc).map (fun d => d.parameters.length) = some 3 := by decide +kernel
theorem ds_X7_share : yX7_share.cls ≠ "java/lang/invoke/MethodHandle" ∧ yX7_share.cls ≠ "java/lang/invoke/VarHandle" ∧ (parseMethodDescriptor yX7_share.desc).map (fun d => d.parameters.length) = some 3 := ⟨by decide +kernel, by decide +kernel, dn_X7_share⟩
theorem iy_X7_share : Cond.instanceMethod yX7_share ∈ TB := tw_659
theorem in_X2_share : Cond.initialized yX2_share.cls ∈ TB := icl_2
theorem cd_X2_share : Cond.code yX2_share cX2_share 4 none ∈ TB := tw_643
theorem dn_X2_share : (parseMethodDescriptor yX2_share.desc).map (fun d => d.parameters.length) = some 3 := by decide +kernel
theorem ds_X2_share : yX2_share.cls ≠ "java/lang/invoke/MethodHandle" ∧ yX2_share.cls ≠ "java/lang/invoke/VarHandle" ∧ (parseMethodDescriptor yX2_share.desc).map (fun d => d.parameters.length) = some 3 := ⟨by decide +kernel, by decide +kernel, dn_X2_share⟩
theorem iy_X2_share : Cond.instanceMethod yX2_share ∈ TB := tw_642
theorem in_X3_oddsBody : Cond.initialized yX3_oddsBody.cls ∈ TB := icl_3
theorem cd_X3_oddsBody : Cond.code yX3_oddsBody cX3_oddsBody 3 (some .int) ∈ TB := tw_988
theorem dn_X3_oddsBody : (parseMethodDescriptor yX3_oddsBody.desc).map (fun d => d.parameters.length) = some 2 := by decide +kernel
theorem ds_X3_oddsBody : yX3_oddsBody.cls ≠ "java/lang/invoke/MethodHandle" ∧ yX3_oddsBody.cls ≠ "java/lang/invoke/VarHandle" ∧ (parseMethodDescriptor yX3_oddsBody.desc).map (fun d => d.parameters.length) = some 2 := ⟨by decide +kernel, by decide +kernel, dn_X3_oddsBody⟩
theorem iy_X3_oddsBody : Cond.instanceMethod yX3_oddsBody ∈ TB := tw_987
theorem in_X4_tellsBody : Cond.initialized yX4_tellsBody.cls ∈ TB := icl_4
theorem cd_X4_tellsBody : Cond.code yX4_tellsBody cX4_tellsBody 3 (some .int) ∈ TB := tw_1024
theorem dn_X4_tellsBody : (parseMethodDescriptor yX4_tellsBody.desc).map (fun d => d.parameters.length) = some 2 := by decide +kernel
theorem ds_X4_tellsBody : yX4_tellsBody.cls ≠ "java/lang/invoke/MethodHandle" ∧ yX4_tellsBody.cls ≠ "java/lang/invoke/VarHandle" ∧ (parseMethodDescriptor yX4_tellsBody.desc).map (fun d => d.parameters.length) = some 2 := ⟨by decide +kernel, by decide +kernel, dn_X4_tellsBody⟩
theorem iy_X4_tellsBody : Cond.instanceMethod yX4_tellsBody ∈ TB := tw_997
theorem sy_X4_tellsBody : Cond.selects yX4_tellsBody.cls yX4_tellsBody yX4_tellsBody ∈ TB := tw_998
theorem in_X2_tellsBody : Cond.initialized yX2_tellsBody.cls ∈ TB := icl_2
theorem cd_X2_tellsBody : Cond.code yX2_tellsBody cX2_tellsBody 3 (some .int) ∈ TB := tw_1002
theorem dn_X2_tellsBody : (parseMethodDescriptor yX2_tellsBody.desc).map (fun d => d.parameters.length) = some 2 := by decide +kernel
theorem ds_X2_tellsBody : yX2_tellsBody.cls ≠ "java/lang/invoke/MethodHandle" ∧ yX2_tellsBody.cls ≠ "java/lang/invoke/VarHandle" ∧ (parseMethodDescriptor yX2_tellsBody.desc).map (fun d => d.parameters.length) = some 2 := ⟨by decide +kernel, by decide +kernel, dn_X2_tellsBody⟩
theorem iy_X2_tellsBody : Cond.instanceMethod yX2_tellsBody ∈ TB := tw_1001
theorem in_X3_share : Cond.initialized yX3_share.cls ∈ TB := icl_3
theorem cd_X3_share : Cond.code yX3_share cX3_share 19 none ∈ TB := tw_692
theorem dn_X3_share : (parseMethodDescriptor yX3_share.desc).map (fun d => d.parameters.length) = some 3 := by decide +kernel
theorem ds_X3_share : yX3_share.cls ≠ "java/lang/invoke/MethodHandle" ∧ yX3_share.cls ≠ "java/lang/invoke/VarHandle" ∧ (parseMethodDescriptor yX3_share.desc).map (fun d => d.parameters.length) = some 3 := ⟨by decide +kernel, by decide +kernel, dn_X3_share⟩
theorem iy_X3_share : Cond.instanceMethod yX3_share ∈ TB := tw_691
theorem in_X4_greatestWeight : Cond.initialized yX4_greatestWeight.cls ∈ TB := icl_4
theorem cd_X4_greatestWeight : Cond.code yX4_greatestWeight cX4_greatestWeight 6 (some .int) ∈ TB := tw_939
theorem dn_X4_greatestWeight : (parseMethodDescriptor yX4_greatestWeight.desc).map (fun d => d.parameters.length) = some 3 := by decide +kernel
theorem ds_X4_greatestWeight : yX4_greatestWeight.cls ≠ "java/lang/invoke/MethodHandle" ∧ yX4_greatestWeight.cls ≠ "java/lang/invoke/VarHandle" ∧ (parseMethodDescriptor yX4_greatestWeight.desc).map (fun d => d.parameters.length) = some 3 := ⟨by decide +kernel, by decide +kernel, dn_X4_greatestWeight⟩
theorem iy_X4_greatestWeight : Cond.instanceMethod yX4_greatestWeight ∈ TB := tw_931
theorem sy_X4_greatestWeight : Cond.selects yX4_greatestWeight.cls yX4_greatestWeight yX4_greatestWeight ∈ TB := tw_932
theorem in_X4_isBeaten : Cond.initialized yX4_isBeaten.cls ∈ TB := icl_4
theorem cd_X4_isBeaten : Cond.code yX4_isBeaten cX4_isBeaten 3 (some .boolean) ∈ TB := tw_779
theorem dn_X4_isBeaten : (parseMethodDescriptor yX4_isBeaten.desc).map (fun d => d.parameters.length) = some 1 := by decide +kernel
theorem ds_X4_isBeaten : yX4_isBeaten.cls ≠ "java/lang/invoke/MethodHandle" ∧ yX4_isBeaten.cls ≠ "java/lang/invoke/VarHandle" ∧ (parseMethodDescriptor yX4_isBeaten.desc).map (fun d => d.parameters.length) = some 1 := ⟨by decide +kernel, by decide +kernel, dn_X4_isBeaten⟩
theorem iy_X4_isBeaten : Cond.instanceMethod yX4_isBeaten ∈ TB := tw_771
theorem sy_X4_isBeaten : Cond.selects yX4_isBeaten.cls yX4_isBeaten yX4_isBeaten ∈ TB := tw_772
theorem in_X4_weightOf : Cond.initialized yX4_weightOf.cls ∈ TB := icl_4
theorem cd_X4_weightOf : Cond.code yX4_weightOf cX4_weightOf 6 (some .int) ∈ TB := tw_595
theorem dn_X4_weightOf : (parseMethodDescriptor yX4_weightOf.desc).map (fun d => d.parameters.length) = some 3 := by decide +kernel
theorem ds_X4_weightOf : yX4_weightOf.cls ≠ "java/lang/invoke/MethodHandle" ∧ yX4_weightOf.cls ≠ "java/lang/invoke/VarHandle" ∧ (parseMethodDescriptor yX4_weightOf.desc).map (fun d => d.parameters.length) = some 3 := ⟨by decide +kernel, by decide +kernel, dn_X4_weightOf⟩
theorem iy_X4_weightOf : Cond.instanceMethod yX4_weightOf ∈ TB := tw_587
theorem sy_X4_weightOf : Cond.selects yX4_weightOf.cls yX4_weightOf yX4_weightOf ∈ TB := tw_588
theorem in_X4_prepare : Cond.initialized yX4_prepare.cls ∈ TB := icl_4
theorem cd_X4_prepare : Cond.code yX4_prepare cX4_prepare 4 none ∈ TB := tw_635
theorem dn_X4_prepare : (parseMethodDescriptor yX4_prepare.desc).map (fun d => d.parameters.length) = some 1 := by decide +kernel
theorem ds_X4_prepare : yX4_prepare.cls ≠ "java/lang/invoke/MethodHandle" ∧ yX4_prepare.cls ≠ "java/lang/invoke/VarHandle" ∧ (parseMethodDescriptor yX4_prepare.desc).map (fun d => d.parameters.length) = some 1 := ⟨by decide +kernel, by decide +kernel, dn_X4_prepare⟩
theorem iy_X4_prepare : Cond.instanceMethod yX4_prepare ∈ TB := tw_607
theorem sy_X4_prepare : Cond.selects yX4_prepare.cls yX4_prepare yX4_prepare ∈ TB := tw_608
theorem in_X4_share : Cond.initialized yX4_share.cls ∈ TB := icl_4
theorem cd_X4_share : Cond.code yX4_share cX4_share 5 none ∈ TB := tw_734
theorem dn_X4_share : (parseMethodDescriptor yX4_share.desc).map (fun d => d.parameters.length) = some 3 := by decide +kernel
theorem ds_X4_share : yX4_share.cls ≠ "java/lang/invoke/MethodHandle" ∧ yX4_share.cls ≠ "java/lang/invoke/VarHandle" ∧ (parseMethodDescriptor yX4_share.desc).map (fun d => d.parameters.length) = some 3 := ⟨by decide +kernel, by decide +kernel, dn_X4_share⟩
theorem iy_X4_share : Cond.instanceMethod yX4_share ∈ TB := tw_638
theorem sy_X4_share : Cond.selects yX4_share.cls yX4_share yX4_share ∈ TB := tw_639
theorem in_X4_thousandths : Cond.initialized yX4_thousandths.cls ∈ TB := icl_4
theorem cd_X4_thousandths : Cond.code yX4_thousandths cX4_thousandths 2 (some .int) ∈ TB := tw_760
theorem dn_X4_thousandths : (parseMethodDescriptor yX4_thousandths.desc).map (fun d => d.parameters.length) = some 1 := by decide +kernel
theorem ds_X4_thousandths : yX4_thousandths.cls ≠ "java/lang/invoke/MethodHandle" ∧ yX4_thousandths.cls ≠ "java/lang/invoke/VarHandle" ∧ (parseMethodDescriptor yX4_thousandths.desc).map (fun d => d.parameters.length) = some 1 := ⟨by decide +kernel, by decide +kernel, dn_X4_thousandths⟩
theorem iy_X4_thousandths : Cond.instanceMethod yX4_thousandths ∈ TB := tw_752
theorem sy_X4_thousandths : Cond.selects yX4_thousandths.cls yX4_thousandths yX4_thousandths ∈ TB := tw_753
theorem in_X5_gatherNests : Cond.initialized yX5_gatherNests.cls ∈ TB := icl_5
theorem cd_X5_gatherNests : Cond.code yX5_gatherNests cX5_gatherNests 6 none ∈ TB := tw_713
theorem dn_X5_gatherNests : (parseMethodDescriptor yX5_gatherNests.desc).map (fun d => d.parameters.length) = some 3 := by decide +kernel
theorem ds_X5_gatherNests : yX5_gatherNests.cls ≠ "java/lang/invoke/MethodHandle" ∧ yX5_gatherNests.cls ≠ "java/lang/invoke/VarHandle" ∧ (parseMethodDescriptor yX5_gatherNests.desc).map (fun d => d.parameters.length) = some 3 := ⟨by decide +kernel, by decide +kernel, dn_X5_gatherNests⟩
theorem iy_X5_gatherNests : Cond.instanceMethod yX5_gatherNests ∈ TB := tw_712
theorem sy_X5_gatherNests : Cond.selects yX5_gatherNests.cls yX5_gatherNests yX5_gatherNests ∈ TB := TB_sel 23 (q := (yX5_gatherNests, 8)) (by decide +kernel) rfl
theorem in_X5_share : Cond.initialized yX5_share.cls ∈ TB := icl_5
theorem cd_X5_share : Cond.code yX5_share cX5_share 8 none ∈ TB := tw_706
theorem dn_X5_share : (parseMethodDescriptor yX5_share.desc).map (fun d => d.parameters.length) = some 3 := by decide +kernel
theorem ds_X5_share : yX5_share.cls ≠ "java/lang/invoke/MethodHandle" ∧ yX5_share.cls ≠ "java/lang/invoke/VarHandle" ∧ (parseMethodDescriptor yX5_share.desc).map (fun d => d.parameters.length) = some 3 := ⟨by decide +kernel, by decide +kernel, dn_X5_share⟩
theorem iy_X5_share : Cond.instanceMethod yX5_share ∈ TB := tw_705
theorem in_X5_tellsBody : Cond.initialized yX5_tellsBody.cls ∈ TB := icl_5
theorem cd_X5_tellsBody : Cond.code yX5_tellsBody cX5_tellsBody 3 (some .int) ∈ TB := tw_1009
theorem dn_X5_tellsBody : (parseMethodDescriptor yX5_tellsBody.desc).map (fun d => d.parameters.length) = some 2 := by decide +kernel
theorem ds_X5_tellsBody : yX5_tellsBody.cls ≠ "java/lang/invoke/MethodHandle" ∧ yX5_tellsBody.cls ≠ "java/lang/invoke/VarHandle" ∧ (parseMethodDescriptor yX5_tellsBody.desc).map (fun d => d.parameters.length) = some 2 := ⟨by decide +kernel, by decide +kernel, dn_X5_tellsBody⟩
theorem iy_X5_tellsBody : Cond.instanceMethod yX5_tellsBody ∈ TB := tw_1008
theorem in_X6_clear : Cond.initialized yX6_clear.cls ∈ TB := icl_6
theorem cd_X6_clear : Cond.code yX6_clear cX6_clear 3 none ∈ TB := tw_799
theorem dn_X6_clear : (parseMethodDescriptor yX6_clear.desc).map (fun d => d.parameters.length) = some 1 := by decide +kernel
theorem ds_X6_clear : yX6_clear.cls ≠ "java/lang/invoke/MethodHandle" ∧ yX6_clear.cls ≠ "java/lang/invoke/VarHandle" ∧ (parseMethodDescriptor yX6_clear.desc).map (fun d => d.parameters.length) = some 1 := ⟨by decide +kernel, by decide +kernel, dn_X6_clear⟩
theorem iy_X6_clear : Cond.instanceMethod yX6_clear ∈ TB := tw_797
theorem sy_X6_clear : Cond.selects yX6_clear.cls yX6_clear yX6_clear ∈ TB := tw_798
theorem in_X6_mayFollow : Cond.initialized yX6_mayFollow.cls ∈ TB := icl_6
theorem cd_X6_mayFollow : Cond.code yX6_mayFollow cX6_mayFollow 3 (some .boolean) ∈ TB := tw_820
theorem dn_X6_mayFollow : (parseMethodDescriptor yX6_mayFollow.desc).map (fun d => d.parameters.length) = some 2 := by decide +kernel
theorem ds_X6_mayFollow : yX6_mayFollow.cls ≠ "java/lang/invoke/MethodHandle" ∧ yX6_mayFollow.cls ≠ "java/lang/invoke/VarHandle" ∧ (parseMethodDescriptor yX6_mayFollow.desc).map (fun d => d.parameters.length) = some 2 := ⟨by decide +kernel, by decide +kernel, dn_X6_mayFollow⟩
theorem iy_X6_mayFollow : Cond.instanceMethod yX6_mayFollow ∈ TB := tw_819
theorem sy_X6_mayFollow : Cond.selects yX6_mayFollow.cls yX6_mayFollow yX6_mayFollow ∈ TB := TB_sel 29 (q := (yX6_mayFollow, 8)) (by decide +kernel) rfl
theorem in_X6_countRests : Cond.initialized yX6_countRests.cls ∈ TB := icl_6
theorem cd_X6_countRests : Cond.code yX6_countRests cX6_countRests 4 none ∈ TB := tw_824
theorem dn_X6_countRests : (parseMethodDescriptor yX6_countRests.desc).map (fun d => d.parameters.length) = some 1 := by decide +kernel
theorem ds_X6_countRests : yX6_countRests.cls ≠ "java/lang/invoke/MethodHandle" ∧ yX6_countRests.cls ≠ "java/lang/invoke/VarHandle" ∧ (parseMethodDescriptor yX6_countRests.desc).map (fun d => d.parameters.length) = some 1 := ⟨by decide +kernel, by decide +kernel, dn_X6_countRests⟩
theorem iy_X6_countRests : Cond.instanceMethod yX6_countRests ∈ TB := tw_823
theorem sy_X6_countRests : Cond.selects yX6_countRests.cls yX6_countRests yX6_countRests ∈ TB := TB_sel 30 (q := (yX6_countRests, 8)) (by decide +kernel) rfl
theorem in_X6_countAgreeing : Cond.initialized yX6_countAgreeing.cls ∈ TB := icl_6
theorem cd_X6_countAgreeing : Cond.code yX6_countAgreeing cX6_countAgreeing 4 (some .int) ∈ TB := tw_816
theorem dn_X6_countAgreeing : (parseMethodDescriptor yX6_countAgreeing.desc).map (fun d => d.parameters.length) = some 0 := by decide +kernel
theorem ds_X6_countAgreeing : yX6_countAgreeing.cls ≠ "java/lang/invoke/MethodHandle" ∧ yX6_countAgreeing.cls ≠ "java/lang/invoke/VarHandle" ∧ (parseMethodDescriptor yX6_countAgreeing.desc).map (fun d => d.parameters.length) = some 0 := ⟨by decide +kernel, by decide +kernel, dn_X6_countAgreeing⟩
theorem iy_X6_countAgreeing : Cond.instanceMethod yX6_countAgreeing ∈ TB := tw_814
theorem sy_X6_countAgreeing : Cond.selects yX6_countAgreeing.cls yX6_countAgreeing yX6_countAgreeing ∈ TB := tw_815
theorem in_X6_countBroken : Cond.initialized yX6_countBroken.cls ∈ TB := icl_6
theorem cd_X6_countBroken : Cond.code yX6_countBroken cX6_countBroken 4 none ∈ TB := tw_836
theorem dn_X6_countBroken : (parseMethodDescriptor yX6_countBroken.desc).map (fun d => d.parameters.length) = some 2 := by decide +kernel
theorem ds_X6_countBroken : yX6_countBroken.cls ≠ "java/lang/invoke/MethodHandle" ∧ yX6_countBroken.cls ≠ "java/lang/invoke/VarHandle" ∧ (parseMethodDescriptor yX6_countBroken.desc).map (fun d => d.parameters.length) = some 2 := ⟨by decide +kernel, by decide +kernel, dn_X6_countBroken⟩
theorem iy_X6_countBroken : Cond.instanceMethod yX6_countBroken ∈ TB := tw_835
theorem sy_X6_countBroken : Cond.selects yX6_countBroken.cls yX6_countBroken yX6_countBroken ∈ TB := TB_sel 31 (q := (yX6_countBroken, 8)) (by decide +kernel) rfl
theorem in_X6_withNothing : Cond.initialized yX6_withNothing.cls ∈ TB := icl_6
theorem cd_X6_withNothing : Cond.code yX6_withNothing cX6_withNothing 2 (some .int) ∈ TB := tw_811
theorem dn_X6_withNothing : (parseMethodDescriptor yX6_withNothing.desc).map (fun d => d.parameters.length) = some 1 := by decide +kernel
theorem ds_X6_withNothing : yX6_withNothing.cls ≠ "java/lang/invoke/MethodHandle" ∧ yX6_withNothing.cls ≠ "java/lang/invoke/VarHandle" ∧ (parseMethodDescriptor yX6_withNothing.desc).map (fun d => d.parameters.length) = some 1 := ⟨by decide +kernel, by decide +kernel, dn_X6_withNothing⟩
theorem iy_X6_withNothing : Cond.instanceMethod yX6_withNothing ∈ TB := tw_810
theorem sy_X6_withNothing : Cond.selects yX6_withNothing.cls yX6_withNothing yX6_withNothing ∈ TB := TB_sel 28 (q := (yX6_withNothing, 8)) (by decide +kernel) rfl
theorem in_X6_countTakes : Cond.initialized yX6_countTakes.cls ∈ TB := icl_6
theorem cd_X6_countTakes : Cond.code yX6_countTakes cX6_countTakes 6 none ∈ TB := tw_853
theorem dn_X6_countTakes : (parseMethodDescriptor yX6_countTakes.desc).map (fun d => d.parameters.length) = some 1 := by decide +kernel
theorem ds_X6_countTakes : yX6_countTakes.cls ≠ "java/lang/invoke/MethodHandle" ∧ yX6_countTakes.cls ≠ "java/lang/invoke/VarHandle" ∧ (parseMethodDescriptor yX6_countTakes.desc).map (fun d => d.parameters.length) = some 1 := ⟨by decide +kernel, by decide +kernel, dn_X6_countTakes⟩
theorem iy_X6_countTakes : Cond.instanceMethod yX6_countTakes ∈ TB := tw_851
theorem sy_X6_countTakes : Cond.selects yX6_countTakes.cls yX6_countTakes yX6_countTakes ∈ TB := tw_852
theorem in_X6_fewestBroken : Cond.initialized yX6_fewestBroken.cls ∈ TB := icl_6
theorem cd_X6_fewestBroken : Cond.code yX6_fewestBroken cX6_fewestBroken 7 (some .int) ∈ TB := tw_832
theorem dn_X6_fewestBroken : (parseMethodDescriptor yX6_fewestBroken.desc).map (fun d => d.parameters.length) = some 0 := by decide +kernel
theorem ds_X6_fewestBroken : yX6_fewestBroken.cls ≠ "java/lang/invoke/MethodHandle" ∧ yX6_fewestBroken.cls ≠ "java/lang/invoke/VarHandle" ∧ (parseMethodDescriptor yX6_fewestBroken.desc).map (fun d => d.parameters.length) = some 0 := ⟨by decide +kernel, by decide +kernel, dn_X6_fewestBroken⟩
theorem iy_X6_fewestBroken : Cond.instanceMethod yX6_fewestBroken ∈ TB := tw_830
theorem sy_X6_fewestBroken : Cond.selects yX6_fewestBroken.cls yX6_fewestBroken yX6_fewestBroken ∈ TB := tw_831
theorem in_X6_mostTakes : Cond.initialized yX6_mostTakes.cls ∈ TB := icl_6
theorem cd_X6_mostTakes : Cond.code yX6_mostTakes cX6_mostTakes 3 (some .int) ∈ TB := tw_873
theorem dn_X6_mostTakes : (parseMethodDescriptor yX6_mostTakes.desc).map (fun d => d.parameters.length) = some 0 := by decide +kernel
theorem ds_X6_mostTakes : yX6_mostTakes.cls ≠ "java/lang/invoke/MethodHandle" ∧ yX6_mostTakes.cls ≠ "java/lang/invoke/VarHandle" ∧ (parseMethodDescriptor yX6_mostTakes.desc).map (fun d => d.parameters.length) = some 0 := ⟨by decide +kernel, by decide +kernel, dn_X6_mostTakes⟩
theorem iy_X6_mostTakes : Cond.instanceMethod yX6_mostTakes ∈ TB := tw_871
theorem sy_X6_mostTakes : Cond.selects yX6_mostTakes.cls yX6_mostTakes yX6_mostTakes ∈ TB := tw_872
theorem in_X6_require : Cond.initialized yX6_require.cls ∈ TB := icl_6
theorem cd_X6_require : Cond.code yX6_require cX6_require 6 none ∈ TB := tw_807
theorem dn_X6_require : (parseMethodDescriptor yX6_require.desc).map (fun d => d.parameters.length) = some 2 := by decide +kernel
theorem ds_X6_require : yX6_require.cls ≠ "java/lang/invoke/MethodHandle" ∧ yX6_require.cls ≠ "java/lang/invoke/VarHandle" ∧ (parseMethodDescriptor yX6_require.desc).map (fun d => d.parameters.length) = some 2 := ⟨by decide +kernel, by decide +kernel, dn_X6_require⟩
theorem iy_X6_require : Cond.instanceMethod yX6_require ∈ TB := tw_805
theorem sy_X6_require : Cond.selects yX6_require.cls yX6_require yX6_require ∈ TB := tw_806
theorem in_X6_takenBits : Cond.initialized yX6_takenBits.cls ∈ TB := icl_6
theorem cd_X6_takenBits : Cond.code yX6_takenBits cX6_takenBits 3 (some .int) ∈ TB := tw_857
theorem dn_X6_takenBits : (parseMethodDescriptor yX6_takenBits.desc).map (fun d => d.parameters.length) = some 0 := by decide +kernel
theorem ds_X6_takenBits : yX6_takenBits.cls ≠ "java/lang/invoke/MethodHandle" ∧ yX6_takenBits.cls ≠ "java/lang/invoke/VarHandle" ∧ (parseMethodDescriptor yX6_takenBits.desc).map (fun d => d.parameters.length) = some 0 := ⟨by decide +kernel, by decide +kernel, dn_X6_takenBits⟩
theorem iy_X6_takenBits : Cond.instanceMethod yX6_takenBits ∈ TB := tw_855
theorem sy_X6_takenBits : Cond.selects yX6_takenBits.cls yX6_takenBits yX6_takenBits ∈ TB := tw_856
theorem in_X9_holdingFor : Cond.initialized yX9_holdingFor.cls ∈ TB := icl_9
theorem cd_X9_holdingFor : Cond.code yX9_holdingFor cX9_holdingFor 7 (some .int) ∈ TB := tw_625
theorem dn_X9_holdingFor : (parseMethodDescriptor yX9_holdingFor.desc).map (fun d => d.parameters.length) = some 3 := by decide +kernel
theorem ds_X9_holdingFor : yX9_holdingFor.cls ≠ "java/lang/invoke/MethodHandle" ∧ yX9_holdingFor.cls ≠ "java/lang/invoke/VarHandle" ∧ (parseMethodDescriptor yX9_holdingFor.desc).map (fun d => d.parameters.length) = some 3 := ⟨by decide +kernel, by decide +kernel, dn_X9_holdingFor⟩
theorem iy_X9_holdingFor : Cond.instanceMethod yX9_holdingFor ∈ TB := tw_624
theorem sy_X9_holdingFor : Cond.selects yX9_holdingFor.cls yX9_holdingFor yX9_holdingFor ∈ TB := TB_sel 20 (q := (yX9_holdingFor, 17)) (by decide +kernel) rfl
theorem in_X9_runPicks : Cond.initialized yX9_runPicks.cls ∈ TB := icl_9
theorem cd_X9_runPicks : Cond.code yX9_runPicks cX9_runPicks 4 none ∈ TB := tw_621
theorem dn_X9_runPicks : (parseMethodDescriptor yX9_runPicks.desc).map (fun d => d.parameters.length) = some 1 := by decide +kernel
theorem ds_X9_runPicks : yX9_runPicks.cls ≠ "java/lang/invoke/MethodHandle" ∧ yX9_runPicks.cls ≠ "java/lang/invoke/VarHandle" ∧ (parseMethodDescriptor yX9_runPicks.desc).map (fun d => d.parameters.length) = some 1 := ⟨by decide +kernel, by decide +kernel, dn_X9_runPicks⟩
theorem iy_X9_runPicks : Cond.instanceMethod yX9_runPicks ∈ TB := tw_619
theorem sy_X9_runPicks : Cond.selects yX9_runPicks.cls yX9_runPicks yX9_runPicks ∈ TB := tw_620
theorem in_X8_prepare : Cond.initialized yX8_prepare.cls ∈ TB := icl_8
theorem cd_X8_prepare : Cond.code yX8_prepare cX8_prepare 2 none ∈ TB := tw_616
theorem dn_X8_prepare : (parseMethodDescriptor yX8_prepare.desc).map (fun d => d.parameters.length) = some 1 := by decide +kernel
theorem ds_X8_prepare : yX8_prepare.cls ≠ "java/lang/invoke/MethodHandle" ∧ yX8_prepare.cls ≠ "java/lang/invoke/VarHandle" ∧ (parseMethodDescriptor yX8_prepare.desc).map (fun d => d.parameters.length) = some 1 := ⟨by decide +kernel, by decide +kernel, dn_X8_prepare⟩
theorem iy_X8_prepare : Cond.instanceMethod yX8_prepare ∈ TB := tw_615
theorem in_X9_pickFrom : Cond.initialized yX9_pickFrom.cls ∈ TB := icl_9
theorem cd_X9_pickFrom : Cond.code yX9_pickFrom cX9_pickFrom 4 (some .int) ∈ TB := tw_729
theorem dn_X9_pickFrom : (parseMethodDescriptor yX9_pickFrom.desc).map (fun d => d.parameters.length) = some 2 := by decide +kernel
theorem ds_X9_pickFrom : yX9_pickFrom.cls ≠ "java/lang/invoke/MethodHandle" ∧ yX9_pickFrom.cls ≠ "java/lang/invoke/VarHandle" ∧ (parseMethodDescriptor yX9_pickFrom.desc).map (fun d => d.parameters.length) = some 2 := ⟨by decide +kernel, by decide +kernel, dn_X9_pickFrom⟩
theorem iy_X9_pickFrom : Cond.instanceMethod yX9_pickFrom ∈ TB := tw_727
theorem sy_X9_pickFrom : Cond.selects yX9_pickFrom.cls yX9_pickFrom yX9_pickFrom ∈ TB := tw_728
theorem in_X8_share : Cond.initialized yX8_share.cls ∈ TB := icl_8
theorem cd_X8_share : Cond.code yX8_share cX8_share 4 none ∈ TB := tw_722
theorem dn_X8_share : (parseMethodDescriptor yX8_share.desc).map (fun d => d.parameters.length) = some 3 := by decide +kernel
theorem ds_X8_share : yX8_share.cls ≠ "java/lang/invoke/MethodHandle" ∧ yX8_share.cls ≠ "java/lang/invoke/VarHandle" ∧ (parseMethodDescriptor yX8_share.desc).map (fun d => d.parameters.length) = some 3 := ⟨by decide +kernel, by decide +kernel, dn_X8_share⟩
theorem iy_X8_share : Cond.instanceMethod yX8_share ∈ TB := tw_721
theorem in_X8_tellsBody : Cond.initialized yX8_tellsBody.cls ∈ TB := icl_8
theorem cd_X8_tellsBody : Cond.code yX8_tellsBody cX8_tellsBody 3 (some .int) ∈ TB := tw_1018
theorem dn_X8_tellsBody : (parseMethodDescriptor yX8_tellsBody.desc).map (fun d => d.parameters.length) = some 2 := by decide +kernel
theorem ds_X8_tellsBody : yX8_tellsBody.cls ≠ "java/lang/invoke/MethodHandle" ∧ yX8_tellsBody.cls ≠ "java/lang/invoke/VarHandle" ∧ (parseMethodDescriptor yX8_tellsBody.desc).map (fun d => d.parameters.length) = some 2 := ⟨by decide +kernel, by decide +kernel, dn_X8_tellsBody⟩
theorem iy_X8_tellsBody : Cond.instanceMethod yX8_tellsBody ∈ TB := tw_1017
theorem in_X9_countAlike : Cond.initialized yX9_countAlike.cls ∈ TB := icl_9
theorem cd_X9_countAlike : Cond.code yX9_countAlike cX9_countAlike 3 (some .int) ∈ TB := tw_341
theorem dn_X9_countAlike : (parseMethodDescriptor yX9_countAlike.desc).map (fun d => d.parameters.length) = some 1 := by decide +kernel
theorem ds_X9_countAlike : yX9_countAlike.cls ≠ "java/lang/invoke/MethodHandle" ∧ yX9_countAlike.cls ≠ "java/lang/invoke/VarHandle" ∧ (parseMethodDescriptor yX9_countAlike.desc).map (fun d => d.parameters.length) = some 1 := ⟨by decide +kernel, by decide +kernel, dn_X9_countAlike⟩
theorem iy_X9_countAlike : Cond.instanceMethod yX9_countAlike ∈ TB := tw_340
theorem sy_X9_countAlike : Cond.selects yX9_countAlike.cls yX9_countAlike yX9_countAlike ∈ TB := TB_sel 3 (q := (yX9_countAlike, 17)) (by decide +kernel) rfl
theorem in_X9_emit : Cond.initialized yX9_emit.cls ∈ TB := icl_9
theorem cd_X9_emit : Cond.code yX9_emit cX9_emit 3 none ∈ TB := tw_436
theorem dn_X9_emit : (parseMethodDescriptor yX9_emit.desc).map (fun d => d.parameters.length) = some 2 := by decide +kernel
theorem ds_X9_emit : yX9_emit.cls ≠ "java/lang/invoke/MethodHandle" ∧ yX9_emit.cls ≠ "java/lang/invoke/VarHandle" ∧ (parseMethodDescriptor yX9_emit.desc).map (fun d => d.parameters.length) = some 2 := ⟨by decide +kernel, by decide +kernel, dn_X9_emit⟩
theorem iy_X9_emit : Cond.instanceMethod yX9_emit ∈ TB := tw_435
theorem sy_X9_emit : Cond.selects yX9_emit.cls yX9_emit yX9_emit ∈ TB := TB_sel 14 (q := (yX9_emit, 17)) (by decide +kernel) rfl
theorem in_X9_endPick : Cond.initialized yX9_endPick.cls ∈ TB := icl_9
theorem cd_X9_endPick : Cond.code yX9_endPick cX9_endPick 1 (some .boolean) ∈ TB := tw_448
theorem dn_X9_endPick : (parseMethodDescriptor yX9_endPick.desc).map (fun d => d.parameters.length) = some 0 := by decide +kernel
theorem ds_X9_endPick : yX9_endPick.cls ≠ "java/lang/invoke/MethodHandle" ∧ yX9_endPick.cls ≠ "java/lang/invoke/VarHandle" ∧ (parseMethodDescriptor yX9_endPick.desc).map (fun d => d.parameters.length) = some 0 := ⟨by decide +kernel, by decide +kernel, dn_X9_endPick⟩
theorem iy_X9_endPick : Cond.instanceMethod yX9_endPick ∈ TB := tw_447
theorem sy_X9_endPick : Cond.selects yX9_endPick.cls yX9_endPick yX9_endPick ∈ TB := TB_sel 17 (q := (yX9_endPick, 17)) (by decide +kernel) rfl
theorem in_X9_take : Cond.initialized yX9_take.cls ∈ TB := icl_9
theorem cd_X9_take : Cond.code yX9_take cX9_take 2 (some .boolean) ∈ TB := tw_404
theorem dn_X9_take : (parseMethodDescriptor yX9_take.desc).map (fun d => d.parameters.length) = some 1 := by decide +kernel
theorem ds_X9_take : yX9_take.cls ≠ "java/lang/invoke/MethodHandle" ∧ yX9_take.cls ≠ "java/lang/invoke/VarHandle" ∧ (parseMethodDescriptor yX9_take.desc).map (fun d => d.parameters.length) = some 1 := ⟨by decide +kernel, by decide +kernel, dn_X9_take⟩
theorem iy_X9_take : Cond.instanceMethod yX9_take ∈ TB := tw_403
theorem sy_X9_take : Cond.selects yX9_take.cls yX9_take yX9_take ∈ TB := TB_sel 6 (q := (yX9_take, 17)) (by decide +kernel) rfl
theorem in_X9_readAny : Cond.initialized yX9_readAny.cls ∈ TB := icl_9
theorem cd_X9_readAny : Cond.code yX9_readAny cX9_readAny 3 (some .boolean) ∈ TB := tw_424
theorem dn_X9_readAny : (parseMethodDescriptor yX9_readAny.desc).map (fun d => d.parameters.length) = some 1 := by decide +kernel
theorem ds_X9_readAny : yX9_readAny.cls ≠ "java/lang/invoke/MethodHandle" ∧ yX9_readAny.cls ≠ "java/lang/invoke/VarHandle" ∧ (parseMethodDescriptor yX9_readAny.desc).map (fun d => d.parameters.length) = some 1 := ⟨by decide +kernel, by decide +kernel, dn_X9_readAny⟩
theorem iy_X9_readAny : Cond.instanceMethod yX9_readAny ∈ TB := tw_423
theorem sy_X9_readAny : Cond.selects yX9_readAny.cls yX9_readAny yX9_readAny ∈ TB := TB_sel 11 (q := (yX9_readAny, 17)) (by decide +kernel) rfl
theorem in_X9_readNumber : Cond.initialized yX9_readNumber.cls ∈ TB := icl_9
theorem cd_X9_readNumber : Cond.code yX9_readNumber cX9_readNumber 4 (some .int) ∈ TB := tw_416
theorem dn_X9_readNumber : (parseMethodDescriptor yX9_readNumber.desc).map (fun d => d.parameters.length) = some 0 := by decide +kernel
theorem ds_X9_readNumber : yX9_readNumber.cls ≠ "java/lang/invoke/MethodHandle" ∧ yX9_readNumber.cls ≠ "java/lang/invoke/VarHandle" ∧ (parseMethodDescriptor yX9_readNumber.desc).map (fun d => d.parameters.length) = some 0 := ⟨by decide +kernel, by decide +kernel, dn_X9_readNumber⟩
theorem iy_X9_readNumber : Cond.instanceMethod yX9_readNumber ∈ TB := tw_415
theorem sy_X9_readNumber : Cond.selects yX9_readNumber.cls yX9_readNumber yX9_readNumber ∈ TB := TB_sel 9 (q := (yX9_readNumber, 17)) (by decide +kernel) rfl
theorem in_X9_readPriceTest : Cond.initialized yX9_readPriceTest.cls ∈ TB := icl_9
theorem cd_X9_readPriceTest : Cond.code yX9_readPriceTest cX9_readPriceTest 3 (some .boolean) ∈ TB := tw_440
theorem dn_X9_readPriceTest : (parseMethodDescriptor yX9_readPriceTest.desc).map (fun d => d.parameters.length) = some 0 := by decide +kernel
theorem ds_X9_readPriceTest : yX9_readPriceTest.cls ≠ "java/lang/invoke/MethodHandle" ∧ yX9_readPriceTest.cls ≠ "java/lang/invoke/VarHandle" ∧ (parseMethodDescriptor yX9_readPriceTest.desc).map (fun d => d.parameters.length) = some 0 := ⟨by decide +kernel, by decide +kernel, dn_X9_readPriceTest⟩
theorem iy_X9_readPriceTest : Cond.instanceMethod yX9_readPriceTest ∈ TB := tw_439
theorem sy_X9_readPriceTest : Cond.selects yX9_readPriceTest.cls yX9_readPriceTest yX9_readPriceTest ∈ TB := TB_sel 15 (q := (yX9_readPriceTest, 17)) (by decide +kernel) rfl
theorem in_X9_readFigure : Cond.initialized yX9_readFigure.cls ∈ TB := icl_9
theorem cd_X9_readFigure : Cond.code yX9_readFigure cX9_readFigure 4 (some .int) ∈ TB := tw_408
theorem dn_X9_readFigure : (parseMethodDescriptor yX9_readFigure.desc).map (fun d => d.parameters.length) = some 2 := by decide +kernel
theorem ds_X9_readFigure : yX9_readFigure.cls ≠ "java/lang/invoke/MethodHandle" ∧ yX9_readFigure.cls ≠ "java/lang/invoke/VarHandle" ∧ (parseMethodDescriptor yX9_readFigure.desc).map (fun d => d.parameters.length) = some 2 := ⟨by decide +kernel, by decide +kernel, dn_X9_readFigure⟩
theorem iy_X9_readFigure : Cond.instanceMethod yX9_readFigure ∈ TB := tw_407
theorem sy_X9_readFigure : Cond.selects yX9_readFigure.cls yX9_readFigure yX9_readFigure ∈ TB := TB_sel 7 (q := (yX9_readFigure, 17)) (by decide +kernel) rfl
theorem in_X9_readFigureTest : Cond.initialized yX9_readFigureTest.cls ∈ TB := icl_9
theorem cd_X9_readFigureTest : Cond.code yX9_readFigureTest cX9_readFigureTest 3 (some .boolean) ∈ TB := tw_444
theorem dn_X9_readFigureTest : (parseMethodDescriptor yX9_readFigureTest.desc).map (fun d => d.parameters.length) = some 1 := by decide +kernel
theorem ds_X9_readFigureTest : yX9_readFigureTest.cls ≠ "java/lang/invoke/MethodHandle" ∧ yX9_readFigureTest.cls ≠ "java/lang/invoke/VarHandle" ∧ (parseMethodDescriptor yX9_readFigureTest.desc).map (fun d => d.parameters.length) = some 1 := ⟨by decide +kernel, by decide +kernel, dn_X9_readFigureTest⟩
theorem iy_X9_readFigureTest : Cond.instanceMethod yX9_readFigureTest ∈ TB := tw_443
theorem sy_X9_readFigureTest : Cond.selects yX9_readFigureTest.cls yX9_readFigureTest yX9_readFigureTest ∈ TB := TB_sel 16 (q := (yX9_readFigureTest, 17)) (by decide +kernel) rfl
theorem in_X9_readOne : Cond.initialized yX9_readOne.cls ∈ TB := icl_9
theorem cd_X9_readOne : Cond.code yX9_readOne cX9_readOne 3 (some .boolean) ∈ TB := tw_432
theorem dn_X9_readOne : (parseMethodDescriptor yX9_readOne.desc).map (fun d => d.parameters.length) = some 1 := by decide +kernel
theorem ds_X9_readOne : yX9_readOne.cls ≠ "java/lang/invoke/MethodHandle" ∧ yX9_readOne.cls ≠ "java/lang/invoke/VarHandle" ∧ (parseMethodDescriptor yX9_readOne.desc).map (fun d => d.parameters.length) = some 1 := ⟨by decide +kernel, by decide +kernel, dn_X9_readOne⟩
theorem iy_X9_readOne : Cond.instanceMethod yX9_readOne ∈ TB := tw_431
theorem sy_X9_readOne : Cond.selects yX9_readOne.cls yX9_readOne yX9_readOne ∈ TB := TB_sel 13 (q := (yX9_readOne, 17)) (by decide +kernel) rfl
theorem in_X9_readAll : Cond.initialized yX9_readAll.cls ∈ TB := icl_9
theorem cd_X9_readAll : Cond.code yX9_readAll cX9_readAll 3 (some .boolean) ∈ TB := tw_428
theorem dn_X9_readAll : (parseMethodDescriptor yX9_readAll.desc).map (fun d => d.parameters.length) = some 1 := by decide +kernel
theorem ds_X9_readAll : yX9_readAll.cls ≠ "java/lang/invoke/MethodHandle" ∧ yX9_readAll.cls ≠ "java/lang/invoke/VarHandle" ∧ (parseMethodDescriptor yX9_readAll.desc).map (fun d => d.parameters.length) = some 1 := ⟨by decide +kernel, by decide +kernel, dn_X9_readAll⟩
theorem iy_X9_readAll : Cond.instanceMethod yX9_readAll ∈ TB := tw_427
theorem sy_X9_readAll : Cond.selects yX9_readAll.cls yX9_readAll yX9_readAll ∈ TB := TB_sel 12 (q := (yX9_readAll, 17)) (by decide +kernel) rfl
theorem in_X9_wordAt : Cond.initialized yX9_wordAt.cls ∈ TB := icl_9
theorem cd_X9_wordAt : Cond.code yX9_wordAt cX9_wordAt 1 (some (.object "java/lang/String")) ∈ TB := tw_330
theorem dn_X9_wordAt : (parseMethodDescriptor yX9_wordAt.desc).map (fun d => d.parameters.length) = some 1 := by decide +kernel
theorem ds_X9_wordAt : yX9_wordAt.cls ≠ "java/lang/invoke/MethodHandle" ∧ yX9_wordAt.cls ≠ "java/lang/invoke/VarHandle" ∧ (parseMethodDescriptor yX9_wordAt.desc).map (fun d => d.parameters.length) = some 1 := ⟨by decide +kernel, by decide +kernel, dn_X9_wordAt⟩
theorem st_X9_wordAt : Cond.static yX9_wordAt ∈ TB := tw_329
theorem in_X9_readWord : Cond.initialized yX9_readWord.cls ∈ TB := icl_9
theorem cd_X9_readWord : Cond.code yX9_readWord cX9_readWord 5 (some .int) ∈ TB := tw_327
theorem dn_X9_readWord : (parseMethodDescriptor yX9_readWord.desc).map (fun d => d.parameters.length) = some 0 := by decide +kernel
theorem ds_X9_readWord : yX9_readWord.cls ≠ "java/lang/invoke/MethodHandle" ∧ yX9_readWord.cls ≠ "java/lang/invoke/VarHandle" ∧ (parseMethodDescriptor yX9_readWord.desc).map (fun d => d.parameters.length) = some 0 := ⟨by decide +kernel, by decide +kernel, dn_X9_readWord⟩
theorem iy_X9_readWord : Cond.instanceMethod yX9_readWord ∈ TB := tw_326
theorem sy_X9_readWord : Cond.selects yX9_readWord.cls yX9_readWord yX9_readWord ∈ TB := TB_sel 2 (q := (yX9_readWord, 17)) (by decide +kernel) rfl
theorem in_X9_readFigurePart : Cond.initialized yX9_readFigurePart.cls ∈ TB := icl_9
theorem cd_X9_readFigurePart : Cond.code yX9_readFigurePart cX9_readFigurePart 3 (some .int) ∈ TB := tw_400
theorem dn_X9_readFigurePart : (parseMethodDescriptor yX9_readFigurePart.desc).map (fun d => d.parameters.length) = some 2 := by decide +kernel
theorem ds_X9_readFigurePart : yX9_readFigurePart.cls ≠ "java/lang/invoke/MethodHandle" ∧ yX9_readFigurePart.cls ≠ "java/lang/invoke/VarHandle" ∧ (parseMethodDescriptor yX9_readFigurePart.desc).map (fun d => d.parameters.length) = some 2 := ⟨by decide +kernel, by decide +kernel, dn_X9_readFigurePart⟩
theorem iy_X9_readFigurePart : Cond.instanceMethod yX9_readFigurePart ∈ TB := tw_399
theorem sy_X9_readFigurePart : Cond.selects yX9_readFigurePart.cls yX9_readFigurePart yX9_readFigurePart ∈ TB := TB_sel 5 (q := (yX9_readFigurePart, 17)) (by decide +kernel) rfl
theorem in_X9_readPart : Cond.initialized yX9_readPart.cls ∈ TB := icl_9
theorem cd_X9_readPart : Cond.code yX9_readPart cX9_readPart 1 (some .int) ∈ TB := tw_412
theorem dn_X9_readPart : (parseMethodDescriptor yX9_readPart.desc).map (fun d => d.parameters.length) = some 0 := by decide +kernel
theorem ds_X9_readPart : yX9_readPart.cls ≠ "java/lang/invoke/MethodHandle" ∧ yX9_readPart.cls ≠ "java/lang/invoke/VarHandle" ∧ (parseMethodDescriptor yX9_readPart.desc).map (fun d => d.parameters.length) = some 0 := ⟨by decide +kernel, by decide +kernel, dn_X9_readPart⟩
theorem iy_X9_readPart : Cond.instanceMethod yX9_readPart ∈ TB := tw_411
theorem sy_X9_readPart : Cond.selects yX9_readPart.cls yX9_readPart yX9_readPart ∈ TB := TB_sel 8 (q := (yX9_readPart, 17)) (by decide +kernel) rfl
theorem in_X9_readWorth : Cond.initialized yX9_readWorth.cls ∈ TB := icl_9
theorem cd_X9_readWorth : Cond.code yX9_readWorth cX9_readWorth 4 (some .boolean) ∈ TB := tw_396
theorem dn_X9_readWorth : (parseMethodDescriptor yX9_readWorth.desc).map (fun d => d.parameters.length) = some 1 := by decide +kernel
theorem ds_X9_readWorth : yX9_readWorth.cls ≠ "java/lang/invoke/MethodHandle" ∧ yX9_readWorth.cls ≠ "java/lang/invoke/VarHandle" ∧ (parseMethodDescriptor yX9_readWorth.desc).map (fun d => d.parameters.length) = some 1 := ⟨by decide +kernel, by decide +kernel, dn_X9_readWorth⟩
theorem iy_X9_readWorth : Cond.instanceMethod yX9_readWorth ∈ TB := tw_395
theorem sy_X9_readWorth : Cond.selects yX9_readWorth.cls yX9_readWorth yX9_readWorth ∈ TB := TB_sel 4 (q := (yX9_readWorth, 17)) (by decide +kernel) rfl
theorem in_X9_readKind : Cond.initialized yX9_readKind.cls ∈ TB := icl_9
theorem cd_X9_readKind : Cond.code yX9_readKind cX9_readKind 2 (some .boolean) ∈ TB := tw_420
theorem dn_X9_readKind : (parseMethodDescriptor yX9_readKind.desc).map (fun d => d.parameters.length) = some 0 := by decide +kernel
theorem ds_X9_readKind : yX9_readKind.cls ≠ "java/lang/invoke/MethodHandle" ∧ yX9_readKind.cls ≠ "java/lang/invoke/VarHandle" ∧ (parseMethodDescriptor yX9_readKind.desc).map (fun d => d.parameters.length) = some 0 := ⟨by decide +kernel, by decide +kernel, dn_X9_readKind⟩
theorem iy_X9_readKind : Cond.instanceMethod yX9_readKind ∈ TB := tw_419
theorem sy_X9_readKind : Cond.selects yX9_readKind.cls yX9_readKind yX9_readKind ∈ TB := TB_sel 10 (q := (yX9_readKind, 17)) (by decide +kernel) rfl
theorem in_X9_readClause : Cond.initialized yX9_readClause.cls ∈ TB := icl_9
theorem cd_X9_readClause : Cond.code yX9_readClause cX9_readClause 1 (some .boolean) ∈ TB := tw_323
theorem dn_X9_readClause : (parseMethodDescriptor yX9_readClause.desc).map (fun d => d.parameters.length) = some 0 := by decide +kernel
theorem ds_X9_readClause : yX9_readClause.cls ≠ "java/lang/invoke/MethodHandle" ∧ yX9_readClause.cls ≠ "java/lang/invoke/VarHandle" ∧ (parseMethodDescriptor yX9_readClause.desc).map (fun d => d.parameters.length) = some 0 := ⟨by decide +kernel, by decide +kernel, dn_X9_readClause⟩
theorem iy_X9_readClause : Cond.instanceMethod yX9_readClause ∈ TB := tw_322
theorem sy_X9_readClause : Cond.selects yX9_readClause.cls yX9_readClause yX9_readClause ∈ TB := TB_sel 1 (q := (yX9_readClause, 17)) (by decide +kernel) rfl
theorem in_X9_readClauses : Cond.initialized yX9_readClauses.cls ∈ TB := icl_9
theorem cd_X9_readClauses : Cond.code yX9_readClauses cX9_readClauses 2 (some .boolean) ∈ TB := tw_319
theorem dn_X9_readClauses : (parseMethodDescriptor yX9_readClauses.desc).map (fun d => d.parameters.length) = some 0 := by decide +kernel
theorem ds_X9_readClauses : yX9_readClauses.cls ≠ "java/lang/invoke/MethodHandle" ∧ yX9_readClauses.cls ≠ "java/lang/invoke/VarHandle" ∧ (parseMethodDescriptor yX9_readClauses.desc).map (fun d => d.parameters.length) = some 0 := ⟨by decide +kernel, by decide +kernel, dn_X9_readClauses⟩
theorem iy_X9_readClauses : Cond.instanceMethod yX9_readClauses ∈ TB := tw_317
theorem sy_X9_readClauses : Cond.selects yX9_readClauses.cls yX9_readClauses yX9_readClauses ∈ TB := tw_318
theorem in_X10_clear : Cond.initialized yX10_clear.cls ∈ TB := icl_10
theorem cd_X10_clear : Cond.code yX10_clear cX10_clear 1 none ∈ TB := tw_947
theorem dn_X10_clear : (parseMethodDescriptor yX10_clear.desc).map (fun d => d.parameters.length) = some 0 := by decide +kernel
theorem ds_X10_clear : yX10_clear.cls ≠ "java/lang/invoke/MethodHandle" ∧ yX10_clear.cls ≠ "java/lang/invoke/VarHandle" ∧ (parseMethodDescriptor yX10_clear.desc).map (fun d => d.parameters.length) = some 0 := ⟨by decide +kernel, by decide +kernel, dn_X10_clear⟩
theorem iy_X10_clear : Cond.instanceMethod yX10_clear ∈ TB := tw_945
theorem sy_X10_clear : Cond.selects yX10_clear.cls yX10_clear yX10_clear ∈ TB := tw_946
theorem in_X10_kept : Cond.initialized yX10_kept.cls ∈ TB := icl_10
theorem cd_X10_kept : Cond.code yX10_kept cX10_kept 1 (some .int) ∈ TB := tw_1033
theorem dn_X10_kept : (parseMethodDescriptor yX10_kept.desc).map (fun d => d.parameters.length) = some 0 := by decide +kernel
theorem ds_X10_kept : yX10_kept.cls ≠ "java/lang/invoke/MethodHandle" ∧ yX10_kept.cls ≠ "java/lang/invoke/VarHandle" ∧ (parseMethodDescriptor yX10_kept.desc).map (fun d => d.parameters.length) = some 0 := ⟨by decide +kernel, by decide +kernel, dn_X10_kept⟩
theorem iy_X10_kept : Cond.instanceMethod yX10_kept ∈ TB := tw_1031
theorem sy_X10_kept : Cond.selects yX10_kept.cls yX10_kept yX10_kept ∈ TB := tw_1032
theorem in_X11_modelAt : Cond.initialized yX11_modelAt.cls ∈ TB := icl_11
theorem cd_X11_modelAt : Cond.code yX11_modelAt cX11_modelAt 2 (some (.object "WhyChosen$Model")) ∈ TB := tw_581
theorem dn_X11_modelAt : (parseMethodDescriptor yX11_modelAt.desc).map (fun d => d.parameters.length) = some 1 := by decide +kernel
theorem ds_X11_modelAt : yX11_modelAt.cls ≠ "java/lang/invoke/MethodHandle" ∧ yX11_modelAt.cls ≠ "java/lang/invoke/VarHandle" ∧ (parseMethodDescriptor yX11_modelAt.desc).map (fun d => d.parameters.length) = some 1 := ⟨by decide +kernel, by decide +kernel, dn_X11_modelAt⟩
theorem iy_X11_modelAt : Cond.instanceMethod yX11_modelAt ∈ TB := tw_580
theorem sy_X11_modelAt : Cond.selects yX11_modelAt.cls yX11_modelAt yX11_modelAt ∈ TB := TB_sel 18 (q := (yX11_modelAt, 16)) (by decide +kernel) rfl
theorem in_X11_act : Cond.initialized yX11_act.cls ∈ TB := icl_11
theorem cd_X11_act : Cond.code yX11_act cX11_act 5 (some .int) ∈ TB := tw_943
theorem dn_X11_act : (parseMethodDescriptor yX11_act.desc).map (fun d => d.parameters.length) = some 3 := by decide +kernel
theorem ds_X11_act : yX11_act.cls ≠ "java/lang/invoke/MethodHandle" ∧ yX11_act.cls ≠ "java/lang/invoke/VarHandle" ∧ (parseMethodDescriptor yX11_act.desc).map (fun d => d.parameters.length) = some 3 := ⟨by decide +kernel, by decide +kernel, dn_X11_act⟩
theorem iy_X11_act : Cond.instanceMethod yX11_act ∈ TB := tw_941
theorem sy_X11_act : Cond.selects yX11_act.cls yX11_act yX11_act ∈ TB := tw_942
theorem in_X11_gatherMore : Cond.initialized yX11_gatherMore.cls ∈ TB := icl_11
theorem cd_X11_gatherMore : Cond.code yX11_gatherMore cX11_gatherMore 3 none ∈ TB := tw_803
theorem dn_X11_gatherMore : (parseMethodDescriptor yX11_gatherMore.desc).map (fun d => d.parameters.length) = some 1 := by decide +kernel
theorem ds_X11_gatherMore : yX11_gatherMore.cls ≠ "java/lang/invoke/MethodHandle" ∧ yX11_gatherMore.cls ≠ "java/lang/invoke/VarHandle" ∧ (parseMethodDescriptor yX11_gatherMore.desc).map (fun d => d.parameters.length) = some 1 := ⟨by decide +kernel, by decide +kernel, dn_X11_gatherMore⟩
theorem iy_X11_gatherMore : Cond.instanceMethod yX11_gatherMore ∈ TB := tw_802
theorem sy_X11_gatherMore : Cond.selects yX11_gatherMore.cls yX11_gatherMore yX11_gatherMore ∈ TB := TB_sel 27 (q := (yX11_gatherMore, 16)) (by decide +kernel) rfl
theorem in_X11_gatherOne : Cond.initialized yX11_gatherOne.cls ∈ TB := icl_11
theorem cd_X11_gatherOne : Cond.code yX11_gatherOne cX11_gatherOne 2 none ∈ TB := tw_795
theorem dn_X11_gatherOne : (parseMethodDescriptor yX11_gatherOne.desc).map (fun d => d.parameters.length) = some 1 := by decide +kernel
theorem ds_X11_gatherOne : yX11_gatherOne.cls ≠ "java/lang/invoke/MethodHandle" ∧ yX11_gatherOne.cls ≠ "java/lang/invoke/VarHandle" ∧ (parseMethodDescriptor yX11_gatherOne.desc).map (fun d => d.parameters.length) = some 1 := ⟨by decide +kernel, by decide +kernel, dn_X11_gatherOne⟩
theorem iy_X11_gatherOne : Cond.instanceMethod yX11_gatherOne ∈ TB := tw_794
theorem sy_X11_gatherOne : Cond.selects yX11_gatherOne.cls yX11_gatherOne yX11_gatherOne ∈ TB := TB_sel 26 (q := (yX11_gatherOne, 16)) (by decide +kernel) rfl
theorem in_X11_agree : Cond.initialized yX11_agree.cls ∈ TB := icl_11
theorem cd_X11_agree : Cond.code yX11_agree cX11_agree 2 (some .int) ∈ TB := tw_791
theorem dn_X11_agree : (parseMethodDescriptor yX11_agree.desc).map (fun d => d.parameters.length) = some 1 := by decide +kernel
theorem ds_X11_agree : yX11_agree.cls ≠ "java/lang/invoke/MethodHandle" ∧ yX11_agree.cls ≠ "java/lang/invoke/VarHandle" ∧ (parseMethodDescriptor yX11_agree.desc).map (fun d => d.parameters.length) = some 1 := ⟨by decide +kernel, by decide +kernel, dn_X11_agree⟩
theorem iy_X11_agree : Cond.instanceMethod yX11_agree ∈ TB := tw_789
theorem sy_X11_agree : Cond.selects yX11_agree.cls yX11_agree yX11_agree ∈ TB := tw_790
theorem in_X11_asItem : Cond.initialized yX11_asItem.cls ∈ TB := icl_11
theorem cd_X11_asItem : Cond.code yX11_asItem cX11_asItem 3 (some .long) ∈ TB := tw_1070
theorem dn_X11_asItem : (parseMethodDescriptor yX11_asItem.desc).map (fun d => d.parameters.length) = some 2 := by decide +kernel
theorem ds_X11_asItem : yX11_asItem.cls ≠ "java/lang/invoke/MethodHandle" ∧ yX11_asItem.cls ≠ "java/lang/invoke/VarHandle" ∧ (parseMethodDescriptor yX11_asItem.desc).map (fun d => d.parameters.length) = some 2 := ⟨by decide +kernel, by decide +kernel, dn_X11_asItem⟩
theorem st_X11_asItem : Cond.static yX11_asItem ∈ TB := tw_1069
theorem in_X11_ask : Cond.initialized yX11_ask.cls ∈ TB := icl_11
theorem cd_X11_ask : Cond.code yX11_ask cX11_ask 2 (some .int) ∈ TB := tw_865
theorem dn_X11_ask : (parseMethodDescriptor yX11_ask.desc).map (fun d => d.parameters.length) = some 1 := by decide +kernel
theorem ds_X11_ask : yX11_ask.cls ≠ "java/lang/invoke/MethodHandle" ∧ yX11_ask.cls ≠ "java/lang/invoke/VarHandle" ∧ (parseMethodDescriptor yX11_ask.desc).map (fun d => d.parameters.length) = some 1 := ⟨by decide +kernel, by decide +kernel, dn_X11_ask⟩
theorem iy_X11_ask : Cond.instanceMethod yX11_ask ∈ TB := tw_863
theorem sy_X11_ask : Cond.selects yX11_ask.cls yX11_ask yX11_ask ∈ TB := tw_864
theorem in_X11_compareAway : Cond.initialized yX11_compareAway.cls ∈ TB := icl_11
theorem cd_X11_compareAway : Cond.code yX11_compareAway cX11_compareAway 9 (some .int) ∈ TB := tw_904
theorem dn_X11_compareAway : (parseMethodDescriptor yX11_compareAway.desc).map (fun d => d.parameters.length) = some 2 := by decide +kernel
theorem ds_X11_compareAway : yX11_compareAway.cls ≠ "java/lang/invoke/MethodHandle" ∧ yX11_compareAway.cls ≠ "java/lang/invoke/VarHandle" ∧ (parseMethodDescriptor yX11_compareAway.desc).map (fun d => d.parameters.length) = some 2 := ⟨by decide +kernel, by decide +kernel, dn_X11_compareAway⟩
theorem iy_X11_compareAway : Cond.instanceMethod yX11_compareAway ∈ TB := tw_903
theorem sy_X11_compareAway : Cond.selects yX11_compareAway.cls yX11_compareAway yX11_compareAway ∈ TB := TB_sel 34 (q := (yX11_compareAway, 16)) (by decide +kernel) rfl
theorem in_X11_away : Cond.initialized yX11_away.cls ∈ TB := icl_11
theorem cd_X11_away : Cond.code yX11_away cX11_away 4 (some .int) ∈ TB := tw_895
theorem dn_X11_away : (parseMethodDescriptor yX11_away.desc).map (fun d => d.parameters.length) = some 3 := by decide +kernel
theorem ds_X11_away : yX11_away.cls ≠ "java/lang/invoke/MethodHandle" ∧ yX11_away.cls ≠ "java/lang/invoke/VarHandle" ∧ (parseMethodDescriptor yX11_away.desc).map (fun d => d.parameters.length) = some 3 := ⟨by decide +kernel, by decide +kernel, dn_X11_away⟩
theorem iy_X11_away : Cond.instanceMethod yX11_away ∈ TB := tw_893
theorem sy_X11_away : Cond.selects yX11_away.cls yX11_away yX11_away ∈ TB := tw_894
theorem in_X11_coinOfShares : Cond.initialized yX11_coinOfShares.cls ∈ TB := icl_11
theorem cd_X11_coinOfShares : Cond.code yX11_coinOfShares cX11_coinOfShares 5 (some .int) ∈ TB := tw_916
theorem dn_X11_coinOfShares : (parseMethodDescriptor yX11_coinOfShares.desc).map (fun d => d.parameters.length) = some 2 := by decide +kernel
theorem ds_X11_coinOfShares : yX11_coinOfShares.cls ≠ "java/lang/invoke/MethodHandle" ∧ yX11_coinOfShares.cls ≠ "java/lang/invoke/VarHandle" ∧ (parseMethodDescriptor yX11_coinOfShares.desc).map (fun d => d.parameters.length) = some 2 := ⟨by decide +kernel, by decide +kernel, dn_X11_coinOfShares⟩
theorem iy_X11_coinOfShares : Cond.instanceMethod yX11_coinOfShares ∈ TB := tw_915
theorem sy_X11_coinOfShares : Cond.selects yX11_coinOfShares.cls yX11_coinOfShares yX11_coinOfShares ∈ TB := TB_sel 36 (q := (yX11_coinOfShares, 16)) (by decide +kernel) rfl
theorem in_X11_coinOf : Cond.initialized yX11_coinOf.cls ∈ TB := icl_11
theorem cd_X11_coinOf : Cond.code yX11_coinOf cX11_coinOf 5 (some .int) ∈ TB := tw_912
theorem dn_X11_coinOf : (parseMethodDescriptor yX11_coinOf.desc).map (fun d => d.parameters.length) = some 2 := by decide +kernel
theorem ds_X11_coinOf : yX11_coinOf.cls ≠ "java/lang/invoke/MethodHandle" ∧ yX11_coinOf.cls ≠ "java/lang/invoke/VarHandle" ∧ (parseMethodDescriptor yX11_coinOf.desc).map (fun d => d.parameters.length) = some 2 := ⟨by decide +kernel, by decide +kernel, dn_X11_coinOf⟩
theorem iy_X11_coinOf : Cond.instanceMethod yX11_coinOf ∈ TB := tw_911
theorem sy_X11_coinOf : Cond.selects yX11_coinOf.cls yX11_coinOf yX11_coinOf ∈ TB := TB_sel 35 (q := (yX11_coinOf, 16)) (by decide +kernel) rfl
theorem in_X11_best : Cond.initialized yX11_best.cls ∈ TB := icl_11
theorem cd_X11_best : Cond.code yX11_best cX11_best 10 (some .int) ∈ TB := tw_925
theorem dn_X11_best : (parseMethodDescriptor yX11_best.desc).map (fun d => d.parameters.length) = some 3 := by decide +kernel
theorem ds_X11_best : yX11_best.cls ≠ "java/lang/invoke/MethodHandle" ∧ yX11_best.cls ≠ "java/lang/invoke/VarHandle" ∧ (parseMethodDescriptor yX11_best.desc).map (fun d => d.parameters.length) = some 3 := ⟨by decide +kernel, by decide +kernel, dn_X11_best⟩
theorem iy_X11_best : Cond.instanceMethod yX11_best ∈ TB := tw_923
theorem sy_X11_best : Cond.selects yX11_best.cls yX11_best yX11_best ∈ TB := tw_924
theorem in_X11_tellChoice : Cond.initialized yX11_tellChoice.cls ∈ TB := icl_11
theorem cd_X11_tellChoice : Cond.code yX11_tellChoice cX11_tellChoice 4 (some .int) ∈ TB := tw_215
theorem dn_X11_tellChoice : (parseMethodDescriptor yX11_tellChoice.desc).map (fun d => d.parameters.length) = some 3 := by decide +kernel
theorem ds_X11_tellChoice : yX11_tellChoice.cls ≠ "java/lang/invoke/MethodHandle" ∧ yX11_tellChoice.cls ≠ "java/lang/invoke/VarHandle" ∧ (parseMethodDescriptor yX11_tellChoice.desc).map (fun d => d.parameters.length) = some 3 := ⟨by decide +kernel, by decide +kernel, dn_X11_tellChoice⟩
theorem iy_X11_tellChoice : Cond.instanceMethod yX11_tellChoice ∈ TB := tw_214
theorem sy_X11_tellChoice : Cond.selects yX11_tellChoice.cls yX11_tellChoice yX11_tellChoice ∈ TB := TB_sel 0 (q := (yX11_tellChoice, 16)) (by decide +kernel) rfl
theorem in_X11_choice : Cond.initialized yX11_choice.cls ∈ TB := icl_11
theorem cd_X11_choice : Cond.code yX11_choice cX11_choice 4 (some .int) ∈ TB := tw_211
theorem dn_X11_choice : (parseMethodDescriptor yX11_choice.desc).map (fun d => d.parameters.length) = some 3 := by decide +kernel
theorem ds_X11_choice : yX11_choice.cls ≠ "java/lang/invoke/MethodHandle" ∧ yX11_choice.cls ≠ "java/lang/invoke/VarHandle" ∧ (parseMethodDescriptor yX11_choice.desc).map (fun d => d.parameters.length) = some 3 := ⟨by decide +kernel, by decide +kernel, dn_X11_choice⟩
theorem iy_X11_choice : Cond.instanceMethod yX11_choice ∈ TB := tw_209
theorem sy_X11_choice : Cond.selects yX11_choice.cls yX11_choice yX11_choice ∈ TB := tw_210
theorem in_X11_coin : Cond.initialized yX11_coin.cls ∈ TB := icl_11
theorem cd_X11_coin : Cond.code yX11_coin cX11_coin 4 (some .long) ∈ TB := tw_908
theorem dn_X11_coin : (parseMethodDescriptor yX11_coin.desc).map (fun d => d.parameters.length) = some 2 := by decide +kernel
theorem ds_X11_coin : yX11_coin.cls ≠ "java/lang/invoke/MethodHandle" ∧ yX11_coin.cls ≠ "java/lang/invoke/VarHandle" ∧ (parseMethodDescriptor yX11_coin.desc).map (fun d => d.parameters.length) = some 2 := ⟨by decide +kernel, by decide +kernel, dn_X11_coin⟩
theorem iy_X11_coin : Cond.instanceMethod yX11_coin ∈ TB := tw_906
theorem sy_X11_coin : Cond.selects yX11_coin.cls yX11_coin yX11_coin ∈ TB := tw_907
theorem in_X11_could : Cond.initialized yX11_could.cls ∈ TB := icl_11
theorem cd_X11_could : Cond.code yX11_could cX11_could 5 (some .int) ∈ TB := tw_891
theorem dn_X11_could : (parseMethodDescriptor yX11_could.desc).map (fun d => d.parameters.length) = some 1 := by decide +kernel
theorem ds_X11_could : yX11_could.cls ≠ "java/lang/invoke/MethodHandle" ∧ yX11_could.cls ≠ "java/lang/invoke/VarHandle" ∧ (parseMethodDescriptor yX11_could.desc).map (fun d => d.parameters.length) = some 1 := ⟨by decide +kernel, by decide +kernel, dn_X11_could⟩
theorem iy_X11_could : Cond.instanceMethod yX11_could ∈ TB := tw_889
theorem sy_X11_could : Cond.selects yX11_could.cls yX11_could yX11_could ∈ TB := tw_890
theorem in_X11_couldTake : Cond.initialized yX11_couldTake.cls ∈ TB := icl_11
theorem cd_X11_couldTake : Cond.code yX11_couldTake cX11_couldTake 3 (some .int) ∈ TB := tw_849
theorem dn_X11_couldTake : (parseMethodDescriptor yX11_couldTake.desc).map (fun d => d.parameters.length) = some 2 := by decide +kernel
theorem ds_X11_couldTake : yX11_couldTake.cls ≠ "java/lang/invoke/MethodHandle" ∧ yX11_couldTake.cls ≠ "java/lang/invoke/VarHandle" ∧ (parseMethodDescriptor yX11_couldTake.desc).map (fun d => d.parameters.length) = some 2 := ⟨by decide +kernel, by decide +kernel, dn_X11_couldTake⟩
theorem iy_X11_couldTake : Cond.instanceMethod yX11_couldTake ∈ TB := tw_848
theorem sy_X11_couldTake : Cond.selects yX11_couldTake.cls yX11_couldTake yX11_couldTake ∈ TB := TB_sel 32 (q := (yX11_couldTake, 16)) (by decide +kernel) rfl
theorem in_X11_ordersThereAre : Cond.initialized yX11_ordersThereAre.cls ∈ TB := icl_11
theorem cd_X11_ordersThereAre : Cond.code yX11_ordersThereAre cX11_ordersThereAre 3 (some .int) ∈ TB := tw_1059
theorem dn_X11_ordersThereAre : (parseMethodDescriptor yX11_ordersThereAre.desc).map (fun d => d.parameters.length) = some 0 := by decide +kernel
theorem ds_X11_ordersThereAre : yX11_ordersThereAre.cls ≠ "java/lang/invoke/MethodHandle" ∧ yX11_ordersThereAre.cls ≠ "java/lang/invoke/VarHandle" ∧ (parseMethodDescriptor yX11_ordersThereAre.desc).map (fun d => d.parameters.length) = some 0 := ⟨by decide +kernel, by decide +kernel, dn_X11_ordersThereAre⟩
theorem iy_X11_ordersThereAre : Cond.instanceMethod yX11_ordersThereAre ∈ TB := tw_1058
theorem sy_X11_ordersThereAre : Cond.selects yX11_ordersThereAre.cls yX11_ordersThereAre yX11_ordersThereAre ∈ TB := TB_sel 38 (q := (yX11_ordersThereAre, 16)) (by decide +kernel) rfl
theorem in_X11_count : Cond.initialized yX11_count.cls ∈ TB := icl_11
theorem cd_X11_count : Cond.code yX11_count cX11_count 2 (some .int) ∈ TB := tw_1055
theorem dn_X11_count : (parseMethodDescriptor yX11_count.desc).map (fun d => d.parameters.length) = some 1 := by decide +kernel
theorem ds_X11_count : yX11_count.cls ≠ "java/lang/invoke/MethodHandle" ∧ yX11_count.cls ≠ "java/lang/invoke/VarHandle" ∧ (parseMethodDescriptor yX11_count.desc).map (fun d => d.parameters.length) = some 1 := ⟨by decide +kernel, by decide +kernel, dn_X11_count⟩
theorem iy_X11_count : Cond.instanceMethod yX11_count ∈ TB := tw_1053
theorem sy_X11_count : Cond.selects yX11_count.cls yX11_count yX11_count ∈ TB := tw_1054
theorem in_X11_feed : Cond.initialized yX11_feed.cls ∈ TB := icl_11
theorem cd_X11_feed : Cond.code yX11_feed cX11_feed 4 (some .int) ∈ TB := tw_242
theorem dn_X11_feed : (parseMethodDescriptor yX11_feed.desc).map (fun d => d.parameters.length) = some 2 := by decide +kernel
theorem ds_X11_feed : yX11_feed.cls ≠ "java/lang/invoke/MethodHandle" ∧ yX11_feed.cls ≠ "java/lang/invoke/VarHandle" ∧ (parseMethodDescriptor yX11_feed.desc).map (fun d => d.parameters.length) = some 2 := ⟨by decide +kernel, by decide +kernel, dn_X11_feed⟩
theorem iy_X11_feed : Cond.instanceMethod yX11_feed ∈ TB := tw_240
theorem sy_X11_feed : Cond.selects yX11_feed.cls yX11_feed yX11_feed ∈ TB := tw_241
theorem in_X11_fits : Cond.initialized yX11_fits.cls ∈ TB := icl_11
theorem cd_X11_fits : Cond.code yX11_fits cX11_fits 3 (some .boolean) ∈ TB := tw_1081
theorem dn_X11_fits : (parseMethodDescriptor yX11_fits.desc).map (fun d => d.parameters.length) = some 3 := by decide +kernel
theorem ds_X11_fits : yX11_fits.cls ≠ "java/lang/invoke/MethodHandle" ∧ yX11_fits.cls ≠ "java/lang/invoke/VarHandle" ∧ (parseMethodDescriptor yX11_fits.desc).map (fun d => d.parameters.length) = some 3 := ⟨by decide +kernel, by decide +kernel, dn_X11_fits⟩
theorem st_X11_fits : Cond.static yX11_fits ∈ TB := tw_1080
theorem in_X11_greatestCommon : Cond.initialized yX11_greatestCommon.cls ∈ TB := icl_11
theorem cd_X11_greatestCommon : Cond.code yX11_greatestCommon cX11_greatestCommon 7 (some .long) ∈ TB := tw_739
theorem dn_X11_greatestCommon : (parseMethodDescriptor yX11_greatestCommon.desc).map (fun d => d.parameters.length) = some 2 := by decide +kernel
theorem ds_X11_greatestCommon : yX11_greatestCommon.cls ≠ "java/lang/invoke/MethodHandle" ∧ yX11_greatestCommon.cls ≠ "java/lang/invoke/VarHandle" ∧ (parseMethodDescriptor yX11_greatestCommon.desc).map (fun d => d.parameters.length) = some 2 := ⟨by decide +kernel, by decide +kernel, dn_X11_greatestCommon⟩
theorem st_X11_greatestCommon : Cond.static yX11_greatestCommon ∈ TB := tw_738
theorem in_X11_scoreOf : Cond.initialized yX11_scoreOf.cls ∈ TB := icl_11
theorem cd_X11_scoreOf : Cond.code yX11_scoreOf cX11_scoreOf 5 (some .int) ∈ TB := tw_750
theorem dn_X11_scoreOf : (parseMethodDescriptor yX11_scoreOf.desc).map (fun d => d.parameters.length) = some 2 := by decide +kernel
theorem ds_X11_scoreOf : yX11_scoreOf.cls ≠ "java/lang/invoke/MethodHandle" ∧ yX11_scoreOf.cls ≠ "java/lang/invoke/VarHandle" ∧ (parseMethodDescriptor yX11_scoreOf.desc).map (fun d => d.parameters.length) = some 2 := ⟨by decide +kernel, by decide +kernel, dn_X11_scoreOf⟩
theorem iy_X11_scoreOf : Cond.instanceMethod yX11_scoreOf ∈ TB := tw_749
theorem sy_X11_scoreOf : Cond.selects yX11_scoreOf.cls yX11_scoreOf yX11_scoreOf ∈ TB := TB_sel 24 (q := (yX11_scoreOf, 16)) (by decide +kernel) rfl
theorem in_X11_grid : Cond.initialized yX11_grid.cls ∈ TB := icl_11
theorem cd_X11_grid : Cond.code yX11_grid cX11_grid 9 (some .int) ∈ TB := tw_783
theorem dn_X11_grid : (parseMethodDescriptor yX11_grid.desc).map (fun d => d.parameters.length) = some 2 := by decide +kernel
theorem ds_X11_grid : yX11_grid.cls ≠ "java/lang/invoke/MethodHandle" ∧ yX11_grid.cls ≠ "java/lang/invoke/VarHandle" ∧ (parseMethodDescriptor yX11_grid.desc).map (fun d => d.parameters.length) = some 2 := ⟨by decide +kernel, by decide +kernel, dn_X11_grid⟩
theorem iy_X11_grid : Cond.instanceMethod yX11_grid ∈ TB := tw_781
theorem sy_X11_grid : Cond.selects yX11_grid.cls yX11_grid yX11_grid ∈ TB := tw_782
theorem in_X11_isOfKind : Cond.initialized yX11_isOfKind.cls ∈ TB := icl_11
theorem cd_X11_isOfKind : Cond.code yX11_isOfKind cX11_isOfKind 2 (some .boolean) ∈ TB := tw_1041
theorem dn_X11_isOfKind : (parseMethodDescriptor yX11_isOfKind.desc).map (fun d => d.parameters.length) = some 2 := by decide +kernel
theorem ds_X11_isOfKind : yX11_isOfKind.cls ≠ "java/lang/invoke/MethodHandle" ∧ yX11_isOfKind.cls ≠ "java/lang/invoke/VarHandle" ∧ (parseMethodDescriptor yX11_isOfKind.desc).map (fun d => d.parameters.length) = some 2 := ⟨by decide +kernel, by decide +kernel, dn_X11_isOfKind⟩
theorem st_X11_isOfKind : Cond.static yX11_isOfKind ∈ TB := tw_1040
theorem in_X11_isOption : Cond.initialized yX11_isOption.cls ∈ TB := icl_11
theorem cd_X11_isOption : Cond.code yX11_isOption cX11_isOption 2 (some .boolean) ∈ TB := tw_585
theorem dn_X11_isOption : (parseMethodDescriptor yX11_isOption.desc).map (fun d => d.parameters.length) = some 1 := by decide +kernel
theorem ds_X11_isOption : yX11_isOption.cls ≠ "java/lang/invoke/MethodHandle" ∧ yX11_isOption.cls ≠ "java/lang/invoke/VarHandle" ∧ (parseMethodDescriptor yX11_isOption.desc).map (fun d => d.parameters.length) = some 1 := ⟨by decide +kernel, by decide +kernel, dn_X11_isOption⟩
theorem iy_X11_isOption : Cond.instanceMethod yX11_isOption ∈ TB := tw_584
theorem sy_X11_isOption : Cond.selects yX11_isOption.cls yX11_isOption yX11_isOption ∈ TB := TB_sel 19 (q := (yX11_isOption, 16)) (by decide +kernel) rfl
theorem in_X11_isScored : Cond.initialized yX11_isScored.cls ∈ TB := icl_11
theorem cd_X11_isScored : Cond.code yX11_isScored cX11_isScored 1 (some .boolean) ∈ TB := tw_746
theorem dn_X11_isScored : (parseMethodDescriptor yX11_isScored.desc).map (fun d => d.parameters.length) = some 1 := by decide +kernel
theorem ds_X11_isScored : yX11_isScored.cls ≠ "java/lang/invoke/MethodHandle" ∧ yX11_isScored.cls ≠ "java/lang/invoke/VarHandle" ∧ (parseMethodDescriptor yX11_isScored.desc).map (fun d => d.parameters.length) = some 1 := ⟨by decide +kernel, by decide +kernel, dn_X11_isScored⟩
theorem st_X11_isScored : Cond.static yX11_isScored ∈ TB := tw_745
theorem in_X11_item : Cond.initialized yX11_item.cls ∈ TB := icl_11
theorem cd_X11_item : Cond.code yX11_item cX11_item 5 (some .int) ∈ TB := tw_1067
theorem dn_X11_item : (parseMethodDescriptor yX11_item.desc).map (fun d => d.parameters.length) = some 3 := by decide +kernel
theorem ds_X11_item : yX11_item.cls ≠ "java/lang/invoke/MethodHandle" ∧ yX11_item.cls ≠ "java/lang/invoke/VarHandle" ∧ (parseMethodDescriptor yX11_item.desc).map (fun d => d.parameters.length) = some 3 := ⟨by decide +kernel, by decide +kernel, dn_X11_item⟩
theorem iy_X11_item : Cond.instanceMethod yX11_item ∈ TB := tw_1065
theorem sy_X11_item : Cond.selects yX11_item.cls yX11_item yX11_item ∈ TB := tw_1066
theorem in_X11_lay : Cond.initialized yX11_lay.cls ∈ TB := icl_11
theorem cd_X11_lay : Cond.code yX11_lay cX11_lay 9 (some .int) ∈ TB := tw_920
theorem dn_X11_lay : (parseMethodDescriptor yX11_lay.desc).map (fun d => d.parameters.length) = some 2 := by decide +kernel
theorem ds_X11_lay : yX11_lay.cls ≠ "java/lang/invoke/MethodHandle" ∧ yX11_lay.cls ≠ "java/lang/invoke/VarHandle" ∧ (parseMethodDescriptor yX11_lay.desc).map (fun d => d.parameters.length) = some 2 := ⟨by decide +kernel, by decide +kernel, dn_X11_lay⟩
theorem iy_X11_lay : Cond.instanceMethod yX11_lay ∈ TB := tw_918
theorem sy_X11_lay : Cond.selects yX11_lay.cls yX11_lay yX11_lay ∈ TB := tw_919
theorem in_X11_letgo : Cond.initialized yX11_letgo.cls ∈ TB := icl_11
theorem cd_X11_letgo : Cond.code yX11_letgo cX11_letgo 2 (some .int) ∈ TB := tw_828
theorem dn_X11_letgo : (parseMethodDescriptor yX11_letgo.desc).map (fun d => d.parameters.length) = some 1 := by decide +kernel
theorem ds_X11_letgo : yX11_letgo.cls ≠ "java/lang/invoke/MethodHandle" ∧ yX11_letgo.cls ≠ "java/lang/invoke/VarHandle" ∧ (parseMethodDescriptor yX11_letgo.desc).map (fun d => d.parameters.length) = some 1 := ⟨by decide +kernel, by decide +kernel, dn_X11_letgo⟩
theorem iy_X11_letgo : Cond.instanceMethod yX11_letgo ∈ TB := tw_826
theorem sy_X11_letgo : Cond.selects yX11_letgo.cls yX11_letgo yX11_letgo ∈ TB := tw_827
theorem in_X11_like : Cond.initialized yX11_like.cls ∈ TB := icl_11
theorem cd_X11_like : Cond.code yX11_like cX11_like 3 (some .int) ∈ TB := tw_841
theorem dn_X11_like : (parseMethodDescriptor yX11_like.desc).map (fun d => d.parameters.length) = some 2 := by decide +kernel
theorem ds_X11_like : yX11_like.cls ≠ "java/lang/invoke/MethodHandle" ∧ yX11_like.cls ≠ "java/lang/invoke/VarHandle" ∧ (parseMethodDescriptor yX11_like.desc).map (fun d => d.parameters.length) = some 2 := ⟨by decide +kernel, by decide +kernel, dn_X11_like⟩
theorem iy_X11_like : Cond.instanceMethod yX11_like ∈ TB := tw_839
theorem sy_X11_like : Cond.selects yX11_like.cls yX11_like yX11_like ∈ TB := tw_840
theorem in_X11_missesOf : Cond.initialized yX11_missesOf.cls ∈ TB := icl_11
theorem cd_X11_missesOf : Cond.code yX11_missesOf cX11_missesOf 5 (some .int) ∈ TB := tw_769
theorem dn_X11_missesOf : (parseMethodDescriptor yX11_missesOf.desc).map (fun d => d.parameters.length) = some 2 := by decide +kernel
theorem ds_X11_missesOf : yX11_missesOf.cls ≠ "java/lang/invoke/MethodHandle" ∧ yX11_missesOf.cls ≠ "java/lang/invoke/VarHandle" ∧ (parseMethodDescriptor yX11_missesOf.desc).map (fun d => d.parameters.length) = some 2 := ⟨by decide +kernel, by decide +kernel, dn_X11_missesOf⟩
theorem iy_X11_missesOf : Cond.instanceMethod yX11_missesOf ∈ TB := tw_768
theorem sy_X11_missesOf : Cond.selects yX11_missesOf.cls yX11_missesOf yX11_missesOf ∈ TB := TB_sel 25 (q := (yX11_missesOf, 16)) (by decide +kernel) rfl
theorem in_X11_misses : Cond.initialized yX11_misses.cls ∈ TB := icl_11
theorem cd_X11_misses : Cond.code yX11_misses cX11_misses 4 (some .int) ∈ TB := tw_765
theorem dn_X11_misses : (parseMethodDescriptor yX11_misses.desc).map (fun d => d.parameters.length) = some 2 := by decide +kernel
theorem ds_X11_misses : yX11_misses.cls ≠ "java/lang/invoke/MethodHandle" ∧ yX11_misses.cls ≠ "java/lang/invoke/VarHandle" ∧ (parseMethodDescriptor yX11_misses.desc).map (fun d => d.parameters.length) = some 2 := ⟨by decide +kernel, by decide +kernel, dn_X11_misses⟩
theorem iy_X11_misses : Cond.instanceMethod yX11_misses ∈ TB := tw_763
theorem sy_X11_misses : Cond.selects yX11_misses.cls yX11_misses yX11_misses ∈ TB := tw_764
theorem in_X11_must : Cond.initialized yX11_must.cls ∈ TB := icl_11
theorem cd_X11_must : Cond.code yX11_must cX11_must 7 (some .int) ∈ TB := tw_861
theorem dn_X11_must : (parseMethodDescriptor yX11_must.desc).map (fun d => d.parameters.length) = some 3 := by decide +kernel
theorem ds_X11_must : yX11_must.cls ≠ "java/lang/invoke/MethodHandle" ∧ yX11_must.cls ≠ "java/lang/invoke/VarHandle" ∧ (parseMethodDescriptor yX11_must.desc).map (fun d => d.parameters.length) = some 3 := ⟨by decide +kernel, by decide +kernel, dn_X11_must⟩
theorem iy_X11_must : Cond.instanceMethod yX11_must ∈ TB := tw_859
theorem sy_X11_must : Cond.selects yX11_must.cls yX11_must yX11_must ∈ TB := tw_860
theorem in_X11_next : Cond.initialized yX11_next.cls ∈ TB := icl_11
theorem cd_X11_next : Cond.code yX11_next cX11_next 6 (some .int) ∈ TB := tw_869
theorem dn_X11_next : (parseMethodDescriptor yX11_next.desc).map (fun d => d.parameters.length) = some 1 := by decide +kernel
theorem ds_X11_next : yX11_next.cls ≠ "java/lang/invoke/MethodHandle" ∧ yX11_next.cls ≠ "java/lang/invoke/VarHandle" ∧ (parseMethodDescriptor yX11_next.desc).map (fun d => d.parameters.length) = some 1 := ⟨by decide +kernel, by decide +kernel, dn_X11_next⟩
theorem iy_X11_next : Cond.instanceMethod yX11_next ∈ TB := tw_867
theorem sy_X11_next : Cond.selects yX11_next.cls yX11_next yX11_next ∈ TB := tw_868
theorem in_X11_odds : Cond.initialized yX11_odds.cls ∈ TB := icl_11
theorem cd_X11_odds : Cond.code yX11_odds cX11_odds 9 (some .long) ∈ TB := tw_604
theorem dn_X11_odds : (parseMethodDescriptor yX11_odds.desc).map (fun d => d.parameters.length) = some 5 := by decide +kernel
theorem ds_X11_odds : yX11_odds.cls ≠ "java/lang/invoke/MethodHandle" ∧ yX11_odds.cls ≠ "java/lang/invoke/VarHandle" ∧ (parseMethodDescriptor yX11_odds.desc).map (fun d => d.parameters.length) = some 5 := ⟨by decide +kernel, by decide +kernel, dn_X11_odds⟩
theorem iy_X11_odds : Cond.instanceMethod yX11_odds ∈ TB := tw_602
theorem sy_X11_odds : Cond.selects yX11_odds.cls yX11_odds yX11_odds ∈ TB := tw_603
theorem in_X11_of : Cond.initialized yX11_of.cls ∈ TB := icl_11
theorem cd_X11_of : Cond.code yX11_of cX11_of 3 (some .int) ∈ TB := tw_238
theorem dn_X11_of : (parseMethodDescriptor yX11_of.desc).map (fun d => d.parameters.length) = some 2 := by decide +kernel
theorem ds_X11_of : yX11_of.cls ≠ "java/lang/invoke/MethodHandle" ∧ yX11_of.cls ≠ "java/lang/invoke/VarHandle" ∧ (parseMethodDescriptor yX11_of.desc).map (fun d => d.parameters.length) = some 2 := ⟨by decide +kernel, by decide +kernel, dn_X11_of⟩
theorem iy_X11_of : Cond.instanceMethod yX11_of ∈ TB := tw_236
theorem sy_X11_of : Cond.selects yX11_of.cls yX11_of yX11_of ∈ TB := tw_237
theorem in_X11_price : Cond.initialized yX11_price.cls ∈ TB := icl_11
theorem cd_X11_price : Cond.code yX11_price cX11_price 4 (some .int) ∈ TB := tw_198
theorem dn_X11_price : (parseMethodDescriptor yX11_price.desc).map (fun d => d.parameters.length) = some 2 := by decide +kernel
theorem ds_X11_price : yX11_price.cls ≠ "java/lang/invoke/MethodHandle" ∧ yX11_price.cls ≠ "java/lang/invoke/VarHandle" ∧ (parseMethodDescriptor yX11_price.desc).map (fun d => d.parameters.length) = some 2 := ⟨by decide +kernel, by decide +kernel, dn_X11_price⟩
theorem iy_X11_price : Cond.instanceMethod yX11_price ∈ TB := tw_196
theorem sy_X11_price : Cond.selects yX11_price.cls yX11_price yX11_price ∈ TB := tw_197
theorem in_X11_put : Cond.initialized yX11_put.cls ∈ TB := icl_11
theorem cd_X11_put : Cond.code yX11_put cX11_put 4 (some .int) ∈ TB := tw_234
theorem dn_X11_put : (parseMethodDescriptor yX11_put.desc).map (fun d => d.parameters.length) = some 2 := by decide +kernel
theorem ds_X11_put : yX11_put.cls ≠ "java/lang/invoke/MethodHandle" ∧ yX11_put.cls ≠ "java/lang/invoke/VarHandle" ∧ (parseMethodDescriptor yX11_put.desc).map (fun d => d.parameters.length) = some 2 := ⟨by decide +kernel, by decide +kernel, dn_X11_put⟩
theorem iy_X11_put : Cond.instanceMethod yX11_put ∈ TB := tw_232
theorem sy_X11_put : Cond.selects yX11_put.cls yX11_put yX11_put ∈ TB := tw_233
theorem in_X11_read : Cond.initialized yX11_read.cls ∈ TB := icl_11
theorem cd_X11_read : Cond.code yX11_read cX11_read 3 (some .long) ∈ TB := tw_1074
theorem dn_X11_read : (parseMethodDescriptor yX11_read.desc).map (fun d => d.parameters.length) = some 2 := by decide +kernel
theorem ds_X11_read : yX11_read.cls ≠ "java/lang/invoke/MethodHandle" ∧ yX11_read.cls ≠ "java/lang/invoke/VarHandle" ∧ (parseMethodDescriptor yX11_read.desc).map (fun d => d.parameters.length) = some 2 := ⟨by decide +kernel, by decide +kernel, dn_X11_read⟩
theorem iy_X11_read : Cond.instanceMethod yX11_read ∈ TB := tw_1072
theorem sy_X11_read : Cond.selects yX11_read.cls yX11_read yX11_read ∈ TB := tw_1073
theorem in_X11_score : Cond.initialized yX11_score.cls ∈ TB := icl_11
theorem cd_X11_score : Cond.code yX11_score cX11_score 4 (some .int) ∈ TB := tw_743
theorem dn_X11_score : (parseMethodDescriptor yX11_score.desc).map (fun d => d.parameters.length) = some 2 := by decide +kernel
theorem ds_X11_score : yX11_score.cls ≠ "java/lang/invoke/MethodHandle" ∧ yX11_score.cls ≠ "java/lang/invoke/VarHandle" ∧ (parseMethodDescriptor yX11_score.desc).map (fun d => d.parameters.length) = some 2 := ⟨by decide +kernel, by decide +kernel, dn_X11_score⟩
theorem iy_X11_score : Cond.instanceMethod yX11_score ∈ TB := tw_741
theorem sy_X11_score : Cond.selects yX11_score.cls yX11_score yX11_score ∈ TB := tw_742
theorem in_X11_tellLine : Cond.initialized yX11_tellLine.cls ∈ TB := icl_11
theorem cd_X11_tellLine : Cond.code yX11_tellLine cX11_tellLine 6 (some .int) ∈ TB := tw_1049
theorem dn_X11_tellLine : (parseMethodDescriptor yX11_tellLine.desc).map (fun d => d.parameters.length) = some 2 := by decide +kernel
theorem ds_X11_tellLine : yX11_tellLine.cls ≠ "java/lang/invoke/MethodHandle" ∧ yX11_tellLine.cls ≠ "java/lang/invoke/VarHandle" ∧ (parseMethodDescriptor yX11_tellLine.desc).map (fun d => d.parameters.length) = some 2 := ⟨by decide +kernel, by decide +kernel, dn_X11_tellLine⟩
theorem iy_X11_tellLine : Cond.instanceMethod yX11_tellLine ∈ TB := tw_1048
theorem sy_X11_tellLine : Cond.selects yX11_tellLine.cls yX11_tellLine yX11_tellLine ∈ TB := TB_sel 37 (q := (yX11_tellLine, 16)) (by decide +kernel) rfl
theorem in_X11_sheet : Cond.initialized yX11_sheet.cls ∈ TB := icl_11
theorem cd_X11_sheet : Cond.code yX11_sheet cX11_sheet 7 (some .int) ∈ TB := tw_1045
theorem dn_X11_sheet : (parseMethodDescriptor yX11_sheet.desc).map (fun d => d.parameters.length) = some 4 := by decide +kernel
theorem ds_X11_sheet : yX11_sheet.cls ≠ "java/lang/invoke/MethodHandle" ∧ yX11_sheet.cls ≠ "java/lang/invoke/VarHandle" ∧ (parseMethodDescriptor yX11_sheet.desc).map (fun d => d.parameters.length) = some 4 := ⟨by decide +kernel, by decide +kernel, dn_X11_sheet⟩
theorem iy_X11_sheet : Cond.instanceMethod yX11_sheet ∈ TB := tw_1043
theorem sy_X11_sheet : Cond.selects yX11_sheet.cls yX11_sheet yX11_sheet ∈ TB := tw_1044
theorem in_X11_shift : Cond.initialized yX11_shift.cls ∈ TB := icl_11
theorem cd_X11_shift : Cond.code yX11_shift cX11_shift 6 (some .int) ∈ TB := tw_1078
theorem dn_X11_shift : (parseMethodDescriptor yX11_shift.desc).map (fun d => d.parameters.length) = some 5 := by decide +kernel
theorem ds_X11_shift : yX11_shift.cls ≠ "java/lang/invoke/MethodHandle" ∧ yX11_shift.cls ≠ "java/lang/invoke/VarHandle" ∧ (parseMethodDescriptor yX11_shift.desc).map (fun d => d.parameters.length) = some 5 := ⟨by decide +kernel, by decide +kernel, dn_X11_shift⟩
theorem iy_X11_shift : Cond.instanceMethod yX11_shift ∈ TB := tw_1076
theorem sy_X11_shift : Cond.selects yX11_shift.cls yX11_shift yX11_shift ∈ TB := tw_1077
theorem in_X11_silly : Cond.initialized yX11_silly.cls ∈ TB := icl_11
theorem cd_X11_silly : Cond.code yX11_silly cX11_silly 2 (some .int) ∈ TB := tw_878
theorem dn_X11_silly : (parseMethodDescriptor yX11_silly.desc).map (fun d => d.parameters.length) = some 1 := by decide +kernel
theorem ds_X11_silly : yX11_silly.cls ≠ "java/lang/invoke/MethodHandle" ∧ yX11_silly.cls ≠ "java/lang/invoke/VarHandle" ∧ (parseMethodDescriptor yX11_silly.desc).map (fun d => d.parameters.length) = some 1 := ⟨by decide +kernel, by decide +kernel, dn_X11_silly⟩
theorem iy_X11_silly : Cond.instanceMethod yX11_silly ∈ TB := tw_876
theorem sy_X11_silly : Cond.selects yX11_silly.cls yX11_silly yX11_silly ∈ TB := tw_877
theorem in_X11_taken : Cond.initialized yX11_taken.cls ∈ TB := icl_11
theorem cd_X11_taken : Cond.code yX11_taken cX11_taken 4 (some .int) ∈ TB := tw_1038
theorem dn_X11_taken : (parseMethodDescriptor yX11_taken.desc).map (fun d => d.parameters.length) = some 2 := by decide +kernel
theorem ds_X11_taken : yX11_taken.cls ≠ "java/lang/invoke/MethodHandle" ∧ yX11_taken.cls ≠ "java/lang/invoke/VarHandle" ∧ (parseMethodDescriptor yX11_taken.desc).map (fun d => d.parameters.length) = some 2 := ⟨by decide +kernel, by decide +kernel, dn_X11_taken⟩
theorem iy_X11_taken : Cond.instanceMethod yX11_taken ∈ TB := tw_1036
theorem sy_X11_taken : Cond.selects yX11_taken.cls yX11_taken yX11_taken ∈ TB := tw_1037
theorem in_X11_taker : Cond.initialized yX11_taker.cls ∈ TB := icl_11
theorem cd_X11_taker : Cond.code yX11_taker cX11_taker 2 (some .int) ∈ TB := tw_207
theorem dn_X11_taker : (parseMethodDescriptor yX11_taker.desc).map (fun d => d.parameters.length) = some 1 := by decide +kernel
theorem ds_X11_taker : yX11_taker.cls ≠ "java/lang/invoke/MethodHandle" ∧ yX11_taker.cls ≠ "java/lang/invoke/VarHandle" ∧ (parseMethodDescriptor yX11_taker.desc).map (fun d => d.parameters.length) = some 1 := ⟨by decide +kernel, by decide +kernel, dn_X11_taker⟩
theorem iy_X11_taker : Cond.instanceMethod yX11_taker ∈ TB := tw_205
theorem sy_X11_taker : Cond.selects yX11_taker.cls yX11_taker yX11_taker ∈ TB := tw_206
theorem in_X11_tape : Cond.initialized yX11_tape.cls ∈ TB := icl_11
theorem cd_X11_tape : Cond.code yX11_tape cX11_tape 6 (some .int) ∈ TB := tw_1063
theorem dn_X11_tape : (parseMethodDescriptor yX11_tape.desc).map (fun d => d.parameters.length) = some 3 := by decide +kernel
theorem ds_X11_tape : yX11_tape.cls ≠ "java/lang/invoke/MethodHandle" ∧ yX11_tape.cls ≠ "java/lang/invoke/VarHandle" ∧ (parseMethodDescriptor yX11_tape.desc).map (fun d => d.parameters.length) = some 3 := ⟨by decide +kernel, by decide +kernel, dn_X11_tape⟩
theorem iy_X11_tape : Cond.instanceMethod yX11_tape ∈ TB := tw_1061
theorem sy_X11_tape : Cond.selects yX11_tape.cls yX11_tape yX11_tape ∈ TB := tw_1062
theorem in_X11_thing : Cond.initialized yX11_thing.cls ∈ TB := icl_11
theorem cd_X11_thing : Cond.code yX11_thing cX11_thing 4 (some .int) ∈ TB := tw_187
theorem dn_X11_thing : (parseMethodDescriptor yX11_thing.desc).map (fun d => d.parameters.length) = some 3 := by decide +kernel
theorem ds_X11_thing : yX11_thing.cls ≠ "java/lang/invoke/MethodHandle" ∧ yX11_thing.cls ≠ "java/lang/invoke/VarHandle" ∧ (parseMethodDescriptor yX11_thing.desc).map (fun d => d.parameters.length) = some 3 := ⟨by decide +kernel, by decide +kernel, dn_X11_thing⟩
theorem iy_X11_thing : Cond.instanceMethod yX11_thing ∈ TB := tw_185
theorem sy_X11_thing : Cond.selects yX11_thing.cls yX11_thing yX11_thing ∈ TB := tw_186
theorem in_X11_trace : Cond.initialized yX11_trace.cls ∈ TB := icl_11
theorem cd_X11_trace : Cond.code yX11_trace cX11_trace 2 (some .int) ∈ TB := tw_1029
theorem dn_X11_trace : (parseMethodDescriptor yX11_trace.desc).map (fun d => d.parameters.length) = some 1 := by decide +kernel
theorem ds_X11_trace : yX11_trace.cls ≠ "java/lang/invoke/MethodHandle" ∧ yX11_trace.cls ≠ "java/lang/invoke/VarHandle" ∧ (parseMethodDescriptor yX11_trace.desc).map (fun d => d.parameters.length) = some 1 := ⟨by decide +kernel, by decide +kernel, dn_X11_trace⟩
theorem iy_X11_trace : Cond.instanceMethod yX11_trace ∈ TB := tw_1027
theorem sy_X11_trace : Cond.selects yX11_trace.cls yX11_trace yX11_trace ∈ TB := tw_1028
theorem in_X11_weight : Cond.initialized yX11_weight.cls ∈ TB := icl_11
theorem cd_X11_weight : Cond.code yX11_weight cX11_weight 5 (some .int) ∈ TB := tw_577
theorem dn_X11_weight : (parseMethodDescriptor yX11_weight.desc).map (fun d => d.parameters.length) = some 3 := by decide +kernel
theorem ds_X11_weight : yX11_weight.cls ≠ "java/lang/invoke/MethodHandle" ∧ yX11_weight.cls ≠ "java/lang/invoke/VarHandle" ∧ (parseMethodDescriptor yX11_weight.desc).map (fun d => d.parameters.length) = some 3 := ⟨by decide +kernel, by decide +kernel, dn_X11_weight⟩
theorem iy_X11_weight : Cond.instanceMethod yX11_weight ∈ TB := tw_575
theorem sy_X11_weight : Cond.selects yX11_weight.cls yX11_weight yX11_weight ∈ TB := tw_576
theorem in_X11_which : Cond.initialized yX11_which.cls ∈ TB := icl_11
theorem cd_X11_which : Cond.code yX11_which cX11_which 10 (some .int) ∈ TB := tw_787
theorem dn_X11_which : (parseMethodDescriptor yX11_which.desc).map (fun d => d.parameters.length) = some 2 := by decide +kernel
theorem ds_X11_which : yX11_which.cls ≠ "java/lang/invoke/MethodHandle" ∧ yX11_which.cls ≠ "java/lang/invoke/VarHandle" ∧ (parseMethodDescriptor yX11_which.desc).map (fun d => d.parameters.length) = some 2 := ⟨by decide +kernel, by decide +kernel, dn_X11_which⟩
theorem iy_X11_which : Cond.instanceMethod yX11_which ∈ TB := tw_785
theorem sy_X11_which : Cond.selects yX11_which.cls yX11_which yX11_which ∈ TB := tw_786
theorem in_X11_worse : Cond.initialized yX11_worse.cls ∈ TB := icl_11
theorem cd_X11_worse : Cond.code yX11_worse cX11_worse 7 (some .int) ∈ TB := tw_929
theorem dn_X11_worse : (parseMethodDescriptor yX11_worse.desc).map (fun d => d.parameters.length) = some 3 := by decide +kernel
theorem ds_X11_worse : yX11_worse.cls ≠ "java/lang/invoke/MethodHandle" ∧ yX11_worse.cls ≠ "java/lang/invoke/VarHandle" ∧ (parseMethodDescriptor yX11_worse.desc).map (fun d => d.parameters.length) = some 3 := ⟨by decide +kernel, by decide +kernel, dn_X11_worse⟩
theorem iy_X11_worse : Cond.instanceMethod yX11_worse ∈ TB := tw_927
theorem sy_X11_worse : Cond.selects yX11_worse.cls yX11_worse yX11_worse ∈ TB := tw_928
theorem in_X11_would : Cond.initialized yX11_would.cls ∈ TB := icl_11
theorem cd_X11_would : Cond.code yX11_would cX11_would 3 (some .int) ∈ TB := tw_845
theorem dn_X11_would : (parseMethodDescriptor yX11_would.desc).map (fun d => d.parameters.length) = some 2 := by decide +kernel
theorem ds_X11_would : yX11_would.cls ≠ "java/lang/invoke/MethodHandle" ∧ yX11_would.cls ≠ "java/lang/invoke/VarHandle" ∧ (parseMethodDescriptor yX11_would.desc).map (fun d => d.parameters.length) = some 2 := ⟨by decide +kernel, by decide +kernel, dn_X11_would⟩
theorem iy_X11_would : Cond.instanceMethod yX11_would ∈ TB := tw_843
theorem sy_X11_would : Cond.selects yX11_would.cls yX11_would yX11_would ∈ TB := tw_844
theorem in_X12_in : Cond.initialized yX12_in.cls ∈ TB := icl_12
theorem cd_X12_in : Cond.code yX12_in cX12_in 4 (some .boolean) ∈ TB := tw_1264
theorem dn_X12_in : (parseMethodDescriptor yX12_in.desc).map (fun d => d.parameters.length) = some 3 := by decide +kernel
theorem ds_X12_in : yX12_in.cls ≠ "java/lang/invoke/MethodHandle" ∧ yX12_in.cls ≠ "java/lang/invoke/VarHandle" ∧ (parseMethodDescriptor yX12_in.desc).map (fun d => d.parameters.length) = some 3 := ⟨by decide +kernel, by decide +kernel, dn_X12_in⟩
theorem iy_X12_in : Cond.instanceMethod yX12_in ∈ TB := tw_1263
theorem sy_X12_in : Cond.selects yX12_in.cls yX12_in yX12_in ∈ TB := TB_sel 39 (q := (yX12_in, 54)) (by decide +kernel) rfl
theorem in_X12_isModel : Cond.initialized yX12_isModel.cls ∈ TB := icl_12
theorem cd_X12_isModel : Cond.code yX12_isModel cX12_isModel 2 (some .boolean) ∈ TB := tw_1391
theorem dn_X12_isModel : (parseMethodDescriptor yX12_isModel.desc).map (fun d => d.parameters.length) = some 1 := by decide +kernel
theorem ds_X12_isModel : yX12_isModel.cls ≠ "java/lang/invoke/MethodHandle" ∧ yX12_isModel.cls ≠ "java/lang/invoke/VarHandle" ∧ (parseMethodDescriptor yX12_isModel.desc).map (fun d => d.parameters.length) = some 1 := ⟨by decide +kernel, by decide +kernel, dn_X12_isModel⟩
theorem iy_X12_isModel : Cond.instanceMethod yX12_isModel ∈ TB := tw_1390
theorem sy_X12_isModel : Cond.selects yX12_isModel.cls yX12_isModel yX12_isModel ∈ TB := TB_sel 61 (q := (yX12_isModel, 54)) (by decide +kernel) rfl
theorem in_X12_body : Cond.initialized yX12_body.cls ∈ TB := icl_12
theorem cd_X12_body : Cond.code yX12_body cX12_body 2 none ∈ TB := tw_1574
theorem dn_X12_body : (parseMethodDescriptor yX12_body.desc).map (fun d => d.parameters.length) = some 1 := by decide +kernel
theorem ds_X12_body : yX12_body.cls ≠ "java/lang/invoke/MethodHandle" ∧ yX12_body.cls ≠ "java/lang/invoke/VarHandle" ∧ (parseMethodDescriptor yX12_body.desc).map (fun d => d.parameters.length) = some 1 := ⟨by decide +kernel, by decide +kernel, dn_X12_body⟩
theorem iy_X12_body : Cond.instanceMethod yX12_body ∈ TB := tw_1573
theorem sy_X12_body : Cond.selects yX12_body.cls yX12_body yX12_body ∈ TB := TB_sel 86 (q := (yX12_body, 54)) (by decide +kernel) rfl
theorem in_X12_plainWeighs : Cond.initialized yX12_plainWeighs.cls ∈ TB := icl_12
theorem cd_X12_plainWeighs : Cond.code yX12_plainWeighs cX12_plainWeighs 3 (some .int) ∈ TB := tw_1578
theorem dn_X12_plainWeighs : (parseMethodDescriptor yX12_plainWeighs.desc).map (fun d => d.parameters.length) = some 2 := by decide +kernel
theorem ds_X12_plainWeighs : yX12_plainWeighs.cls ≠ "java/lang/invoke/MethodHandle" ∧ yX12_plainWeighs.cls ≠ "java/lang/invoke/VarHandle" ∧ (parseMethodDescriptor yX12_plainWeighs.desc).map (fun d => d.parameters.length) = some 2 := ⟨by decide +kernel, by decide +kernel, dn_X12_plainWeighs⟩
theorem iy_X12_plainWeighs : Cond.instanceMethod yX12_plainWeighs ∈ TB := tw_1577
theorem sy_X12_plainWeighs : Cond.selects yX12_plainWeighs.cls yX12_plainWeighs yX12_plainWeighs ∈ TB := TB_sel 87 (q := (yX12_plainWeighs, 54)) (by decide +kernel) rfl
theorem in_X12_weighs : Cond.initialized yX12_weighs.cls ∈ TB := icl_12
theorem cd_X12_weighs : Cond.code yX12_weighs cX12_weighs 3 (some .int) ∈ TB := tw_1570
theorem dn_X12_weighs : (parseMethodDescriptor yX12_weighs.desc).map (fun d => d.parameters.length) = some 2 := by decide +kernel
theorem ds_X12_weighs : yX12_weighs.cls ≠ "java/lang/invoke/MethodHandle" ∧ yX12_weighs.cls ≠ "java/lang/invoke/VarHandle" ∧ (parseMethodDescriptor yX12_weighs.desc).map (fun d => d.parameters.length) = some 2 := ⟨by decide +kernel, by decide +kernel, dn_X12_weighs⟩
theorem iy_X12_weighs : Cond.instanceMethod yX12_weighs ∈ TB := tw_1569
theorem sy_X12_weighs : Cond.selects yX12_weighs.cls yX12_weighs yX12_weighs ∈ TB := TB_sel 85 (q := (yX12_weighs, 54)) (by decide +kernel) rfl
theorem in_X12_modelOdds : Cond.initialized yX12_modelOdds.cls ∈ TB := icl_12
theorem cd_X12_modelOdds : Cond.code yX12_modelOdds cX12_modelOdds 3 (some .int) ∈ TB := tw_1590
theorem dn_X12_modelOdds : (parseMethodDescriptor yX12_modelOdds.desc).map (fun d => d.parameters.length) = some 2 := by decide +kernel
theorem ds_X12_modelOdds : yX12_modelOdds.cls ≠ "java/lang/invoke/MethodHandle" ∧ yX12_modelOdds.cls ≠ "java/lang/invoke/VarHandle" ∧ (parseMethodDescriptor yX12_modelOdds.desc).map (fun d => d.parameters.length) = some 2 := ⟨by decide +kernel, by decide +kernel, dn_X12_modelOdds⟩
theorem iy_X12_modelOdds : Cond.instanceMethod yX12_modelOdds ∈ TB := tw_1589
theorem sy_X12_modelOdds : Cond.selects yX12_modelOdds.cls yX12_modelOdds yX12_modelOdds ∈ TB := TB_sel 90 (q := (yX12_modelOdds, 54)) (by decide +kernel) rfl
theorem in_X12_plainOdds : Cond.initialized yX12_plainOdds.cls ∈ TB := icl_12
theorem cd_X12_plainOdds : Cond.code yX12_plainOdds cX12_plainOdds 3 (some .int) ∈ TB := tw_1586
theorem dn_X12_plainOdds : (parseMethodDescriptor yX12_plainOdds.desc).map (fun d => d.parameters.length) = some 2 := by decide +kernel
theorem ds_X12_plainOdds : yX12_plainOdds.cls ≠ "java/lang/invoke/MethodHandle" ∧ yX12_plainOdds.cls ≠ "java/lang/invoke/VarHandle" ∧ (parseMethodDescriptor yX12_plainOdds.desc).map (fun d => d.parameters.length) = some 2 := ⟨by decide +kernel, by decide +kernel, dn_X12_plainOdds⟩
theorem iy_X12_plainOdds : Cond.instanceMethod yX12_plainOdds ∈ TB := tw_1585
theorem sy_X12_plainOdds : Cond.selects yX12_plainOdds.cls yX12_plainOdds yX12_plainOdds ∈ TB := TB_sel 89 (q := (yX12_plainOdds, 54)) (by decide +kernel) rfl
theorem in_X12_oddsBy : Cond.initialized yX12_oddsBy.cls ∈ TB := icl_12
theorem cd_X12_oddsBy : Cond.code yX12_oddsBy cX12_oddsBy 4 (some .int) ∈ TB := tw_1582
theorem dn_X12_oddsBy : (parseMethodDescriptor yX12_oddsBy.desc).map (fun d => d.parameters.length) = some 2 := by decide +kernel
theorem ds_X12_oddsBy : yX12_oddsBy.cls ≠ "java/lang/invoke/MethodHandle" ∧ yX12_oddsBy.cls ≠ "java/lang/invoke/VarHandle" ∧ (parseMethodDescriptor yX12_oddsBy.desc).map (fun d => d.parameters.length) = some 2 := ⟨by decide +kernel, by decide +kernel, dn_X12_oddsBy⟩
theorem iy_X12_oddsBy : Cond.instanceMethod yX12_oddsBy ∈ TB := tw_1581
theorem sy_X12_oddsBy : Cond.selects yX12_oddsBy.cls yX12_oddsBy yX12_oddsBy ∈ TB := TB_sel 88 (q := (yX12_oddsBy, 54)) (by decide +kernel) rfl
theorem in_X12_plainTells : Cond.initialized yX12_plainTells.cls ∈ TB := icl_12
theorem cd_X12_plainTells : Cond.code yX12_plainTells cX12_plainTells 3 (some .int) ∈ TB := tw_1598
theorem dn_X12_plainTells : (parseMethodDescriptor yX12_plainTells.desc).map (fun d => d.parameters.length) = some 2 := by decide +kernel
theorem ds_X12_plainTells : yX12_plainTells.cls ≠ "java/lang/invoke/MethodHandle" ∧ yX12_plainTells.cls ≠ "java/lang/invoke/VarHandle" ∧ (parseMethodDescriptor yX12_plainTells.desc).map (fun d => d.parameters.length) = some 2 := ⟨by decide +kernel, by decide +kernel, dn_X12_plainTells⟩
theorem iy_X12_plainTells : Cond.instanceMethod yX12_plainTells ∈ TB := tw_1597
theorem sy_X12_plainTells : Cond.selects yX12_plainTells.cls yX12_plainTells yX12_plainTells ∈ TB := TB_sel 92 (q := (yX12_plainTells, 54)) (by decide +kernel) rfl
theorem in_X12_tells : Cond.initialized yX12_tells.cls ∈ TB := icl_12
theorem cd_X12_tells : Cond.code yX12_tells cX12_tells 4 (some .int) ∈ TB := tw_1594
theorem dn_X12_tells : (parseMethodDescriptor yX12_tells.desc).map (fun d => d.parameters.length) = some 2 := by decide +kernel
theorem ds_X12_tells : yX12_tells.cls ≠ "java/lang/invoke/MethodHandle" ∧ yX12_tells.cls ≠ "java/lang/invoke/VarHandle" ∧ (parseMethodDescriptor yX12_tells.desc).map (fun d => d.parameters.length) = some 2 := ⟨by decide +kernel, by decide +kernel, dn_X12_tells⟩
theorem iy_X12_tells : Cond.instanceMethod yX12_tells ∈ TB := tw_1593
theorem sy_X12_tells : Cond.selects yX12_tells.cls yX12_tells yX12_tells ∈ TB := TB_sel 91 (q := (yX12_tells, 54)) (by decide +kernel) rfl
theorem in_X12_act : Cond.initialized yX12_act.cls ∈ TB := icl_12
theorem cd_X12_act : Cond.code yX12_act cX12_act 4 (some .int) ∈ TB := tw_1566
theorem dn_X12_act : (parseMethodDescriptor yX12_act.desc).map (fun d => d.parameters.length) = some 3 := by decide +kernel
theorem ds_X12_act : yX12_act.cls ≠ "java/lang/invoke/MethodHandle" ∧ yX12_act.cls ≠ "java/lang/invoke/VarHandle" ∧ (parseMethodDescriptor yX12_act.desc).map (fun d => d.parameters.length) = some 3 := ⟨by decide +kernel, by decide +kernel, dn_X12_act⟩
theorem iy_X12_act : Cond.instanceMethod yX12_act ∈ TB := tw_1564
theorem sy_X12_act : Cond.selects yX12_act.cls yX12_act yX12_act ∈ TB := tw_1565
theorem in_X12_has : Cond.initialized yX12_has.cls ∈ TB := icl_12
theorem cd_X12_has : Cond.code yX12_has cX12_has 3 (some .boolean) ∈ TB := tw_1292
theorem dn_X12_has : (parseMethodDescriptor yX12_has.desc).map (fun d => d.parameters.length) = some 2 := by decide +kernel
theorem ds_X12_has : yX12_has.cls ≠ "java/lang/invoke/MethodHandle" ∧ yX12_has.cls ≠ "java/lang/invoke/VarHandle" ∧ (parseMethodDescriptor yX12_has.desc).map (fun d => d.parameters.length) = some 2 := ⟨by decide +kernel, by decide +kernel, dn_X12_has⟩
theorem iy_X12_has : Cond.instanceMethod yX12_has ∈ TB := tw_1291
theorem sy_X12_has : Cond.selects yX12_has.cls yX12_has yX12_has ∈ TB := TB_sel 43 (q := (yX12_has, 54)) (by decide +kernel) rfl
theorem in_X12_takenFrom : Cond.initialized yX12_takenFrom.cls ∈ TB := icl_12
theorem cd_X12_takenFrom : Cond.code yX12_takenFrom cX12_takenFrom 5 (some .int) ∈ TB := tw_1497
theorem dn_X12_takenFrom : (parseMethodDescriptor yX12_takenFrom.desc).map (fun d => d.parameters.length) = some 2 := by decide +kernel
theorem ds_X12_takenFrom : yX12_takenFrom.cls ≠ "java/lang/invoke/MethodHandle" ∧ yX12_takenFrom.cls ≠ "java/lang/invoke/VarHandle" ∧ (parseMethodDescriptor yX12_takenFrom.desc).map (fun d => d.parameters.length) = some 2 := ⟨by decide +kernel, by decide +kernel, dn_X12_takenFrom⟩
theorem iy_X12_takenFrom : Cond.instanceMethod yX12_takenFrom ∈ TB := tw_1496
theorem sy_X12_takenFrom : Cond.selects yX12_takenFrom.cls yX12_takenFrom yX12_takenFrom ∈ TB := TB_sel 81 (q := (yX12_takenFrom, 54)) (by decide +kernel) rfl
theorem in_X12_against : Cond.initialized yX12_against.cls ∈ TB := icl_12
theorem cd_X12_against : Cond.code yX12_against cX12_against 5 (some .int) ∈ TB := tw_1493
theorem dn_X12_against : (parseMethodDescriptor yX12_against.desc).map (fun d => d.parameters.length) = some 2 := by decide +kernel
theorem ds_X12_against : yX12_against.cls ≠ "java/lang/invoke/MethodHandle" ∧ yX12_against.cls ≠ "java/lang/invoke/VarHandle" ∧ (parseMethodDescriptor yX12_against.desc).map (fun d => d.parameters.length) = some 2 := ⟨by decide +kernel, by decide +kernel, dn_X12_against⟩
theorem iy_X12_against : Cond.instanceMethod yX12_against ∈ TB := tw_1492
theorem sy_X12_against : Cond.selects yX12_against.cls yX12_against yX12_against ∈ TB := TB_sel 80 (q := (yX12_against, 54)) (by decide +kernel) rfl
theorem in_X12_isTaker : Cond.initialized yX12_isTaker.cls ∈ TB := icl_12
theorem cd_X12_isTaker : Cond.code yX12_isTaker cX12_isTaker 2 (some .boolean) ∈ TB := tw_1284
theorem dn_X12_isTaker : (parseMethodDescriptor yX12_isTaker.desc).map (fun d => d.parameters.length) = some 1 := by decide +kernel
theorem ds_X12_isTaker : yX12_isTaker.cls ≠ "java/lang/invoke/MethodHandle" ∧ yX12_isTaker.cls ≠ "java/lang/invoke/VarHandle" ∧ (parseMethodDescriptor yX12_isTaker.desc).map (fun d => d.parameters.length) = some 1 := ⟨by decide +kernel, by decide +kernel, dn_X12_isTaker⟩
theorem iy_X12_isTaker : Cond.instanceMethod yX12_isTaker ∈ TB := tw_1283
theorem sy_X12_isTaker : Cond.selects yX12_isTaker.cls yX12_isTaker yX12_isTaker ∈ TB := TB_sel 41 (q := (yX12_isTaker, 54)) (by decide +kernel) rfl
theorem in_X12_orders : Cond.initialized yX12_orders.cls ∈ TB := icl_12
theorem cd_X12_orders : Cond.code yX12_orders cX12_orders 3 (some .int) ∈ TB := tw_1485
theorem dn_X12_orders : (parseMethodDescriptor yX12_orders.desc).map (fun d => d.parameters.length) = some 0 := by decide +kernel
theorem ds_X12_orders : yX12_orders.cls ≠ "java/lang/invoke/MethodHandle" ∧ yX12_orders.cls ≠ "java/lang/invoke/VarHandle" ∧ (parseMethodDescriptor yX12_orders.desc).map (fun d => d.parameters.length) = some 0 := ⟨by decide +kernel, by decide +kernel, dn_X12_orders⟩
theorem iy_X12_orders : Cond.instanceMethod yX12_orders ∈ TB := tw_1484
theorem sy_X12_orders : Cond.selects yX12_orders.cls yX12_orders yX12_orders ∈ TB := TB_sel 78 (q := (yX12_orders, 54)) (by decide +kernel) rfl
theorem in_X12_unrank : Cond.initialized yX12_unrank.cls ∈ TB := icl_12
theorem cd_X12_unrank : Cond.code yX12_unrank cX12_unrank 8 none ∈ TB := tw_1489
theorem dn_X12_unrank : (parseMethodDescriptor yX12_unrank.desc).map (fun d => d.parameters.length) = some 1 := by decide +kernel
theorem ds_X12_unrank : yX12_unrank.cls ≠ "java/lang/invoke/MethodHandle" ∧ yX12_unrank.cls ≠ "java/lang/invoke/VarHandle" ∧ (parseMethodDescriptor yX12_unrank.desc).map (fun d => d.parameters.length) = some 1 := ⟨by decide +kernel, by decide +kernel, dn_X12_unrank⟩
theorem iy_X12_unrank : Cond.instanceMethod yX12_unrank ∈ TB := tw_1488
theorem sy_X12_unrank : Cond.selects yX12_unrank.cls yX12_unrank yX12_unrank ∈ TB := TB_sel 79 (q := (yX12_unrank, 54)) (by decide +kernel) rfl
theorem in_X12_findPlaces : Cond.initialized yX12_findPlaces.cls ∈ TB := icl_12
theorem cd_X12_findPlaces : Cond.code yX12_findPlaces cX12_findPlaces 3 none ∈ TB := tw_1481
theorem dn_X12_findPlaces : (parseMethodDescriptor yX12_findPlaces.desc).map (fun d => d.parameters.length) = some 0 := by decide +kernel
theorem ds_X12_findPlaces : yX12_findPlaces.cls ≠ "java/lang/invoke/MethodHandle" ∧ yX12_findPlaces.cls ≠ "java/lang/invoke/VarHandle" ∧ (parseMethodDescriptor yX12_findPlaces.desc).map (fun d => d.parameters.length) = some 0 := ⟨by decide +kernel, by decide +kernel, dn_X12_findPlaces⟩
theorem iy_X12_findPlaces : Cond.instanceMethod yX12_findPlaces ∈ TB := tw_1480
theorem sy_X12_findPlaces : Cond.selects yX12_findPlaces.cls yX12_findPlaces yX12_findPlaces ∈ TB := TB_sel 77 (q := (yX12_findPlaces, 54)) (by decide +kernel) rfl
theorem in_X12_findAgreeing : Cond.initialized yX12_findAgreeing.cls ∈ TB := icl_12
theorem cd_X12_findAgreeing : Cond.code yX12_findAgreeing cX12_findAgreeing 3 none ∈ TB := tw_1477
theorem dn_X12_findAgreeing : (parseMethodDescriptor yX12_findAgreeing.desc).map (fun d => d.parameters.length) = some 1 := by decide +kernel
theorem ds_X12_findAgreeing : yX12_findAgreeing.cls ≠ "java/lang/invoke/MethodHandle" ∧ yX12_findAgreeing.cls ≠ "java/lang/invoke/VarHandle" ∧ (parseMethodDescriptor yX12_findAgreeing.desc).map (fun d => d.parameters.length) = some 1 := ⟨by decide +kernel, by decide +kernel, dn_X12_findAgreeing⟩
theorem iy_X12_findAgreeing : Cond.instanceMethod yX12_findAgreeing ∈ TB := tw_1476
theorem sy_X12_findAgreeing : Cond.selects yX12_findAgreeing.cls yX12_findAgreeing yX12_findAgreeing ∈ TB := TB_sel 76 (q := (yX12_findAgreeing, 54)) (by decide +kernel) rfl
theorem in_X12_agree : Cond.initialized yX12_agree.cls ∈ TB := icl_12
theorem cd_X12_agree : Cond.code yX12_agree cX12_agree 4 (some .int) ∈ TB := tw_1473
theorem dn_X12_agree : (parseMethodDescriptor yX12_agree.desc).map (fun d => d.parameters.length) = some 1 := by decide +kernel
theorem ds_X12_agree : yX12_agree.cls ≠ "java/lang/invoke/MethodHandle" ∧ yX12_agree.cls ≠ "java/lang/invoke/VarHandle" ∧ (parseMethodDescriptor yX12_agree.desc).map (fun d => d.parameters.length) = some 1 := ⟨by decide +kernel, by decide +kernel, dn_X12_agree⟩
theorem iy_X12_agree : Cond.instanceMethod yX12_agree ∈ TB := tw_1471
theorem sy_X12_agree : Cond.selects yX12_agree.cls yX12_agree yX12_agree ∈ TB := tw_1472
theorem in_X12_isSet : Cond.initialized yX12_isSet.cls ∈ TB := icl_12
theorem cd_X12_isSet : Cond.code yX12_isSet cX12_isSet 2 (some .boolean) ∈ TB := tw_1288
theorem dn_X12_isSet : (parseMethodDescriptor yX12_isSet.desc).map (fun d => d.parameters.length) = some 1 := by decide +kernel
theorem ds_X12_isSet : yX12_isSet.cls ≠ "java/lang/invoke/MethodHandle" ∧ yX12_isSet.cls ≠ "java/lang/invoke/VarHandle" ∧ (parseMethodDescriptor yX12_isSet.desc).map (fun d => d.parameters.length) = some 1 := ⟨by decide +kernel, by decide +kernel, dn_X12_isSet⟩
theorem iy_X12_isSet : Cond.instanceMethod yX12_isSet ∈ TB := tw_1287
theorem sy_X12_isSet : Cond.selects yX12_isSet.cls yX12_isSet yX12_isSet ∈ TB := TB_sel 42 (q := (yX12_isSet, 54)) (by decide +kernel) rfl
theorem in_X12_ask : Cond.initialized yX12_ask.cls ∈ TB := icl_12
theorem cd_X12_ask : Cond.code yX12_ask cX12_ask 2 (some .int) ∈ TB := tw_1521
theorem dn_X12_ask : (parseMethodDescriptor yX12_ask.desc).map (fun d => d.parameters.length) = some 1 := by decide +kernel
theorem ds_X12_ask : yX12_ask.cls ≠ "java/lang/invoke/MethodHandle" ∧ yX12_ask.cls ≠ "java/lang/invoke/VarHandle" ∧ (parseMethodDescriptor yX12_ask.desc).map (fun d => d.parameters.length) = some 1 := ⟨by decide +kernel, by decide +kernel, dn_X12_ask⟩
theorem iy_X12_ask : Cond.instanceMethod yX12_ask ∈ TB := tw_1519
theorem sy_X12_ask : Cond.selects yX12_ask.cls yX12_ask yX12_ask ∈ TB := tw_1520
theorem in_X12_isThing : Cond.initialized yX12_isThing.cls ∈ TB := icl_12
theorem cd_X12_isThing : Cond.code yX12_isThing cX12_isThing 2 (some .boolean) ∈ TB := tw_1272
theorem dn_X12_isThing : (parseMethodDescriptor yX12_isThing.desc).map (fun d => d.parameters.length) = some 1 := by decide +kernel
theorem ds_X12_isThing : yX12_isThing.cls ≠ "java/lang/invoke/MethodHandle" ∧ yX12_isThing.cls ≠ "java/lang/invoke/VarHandle" ∧ (parseMethodDescriptor yX12_isThing.desc).map (fun d => d.parameters.length) = some 1 := ⟨by decide +kernel, by decide +kernel, dn_X12_isThing⟩
theorem iy_X12_isThing : Cond.instanceMethod yX12_isThing ∈ TB := tw_1271
theorem sy_X12_isThing : Cond.selects yX12_isThing.cls yX12_isThing yX12_isThing ∈ TB := TB_sel 40 (q := (yX12_isThing, 54)) (by decide +kernel) rfl
theorem in_X12_away : Cond.initialized yX12_away.cls ∈ TB := icl_12
theorem cd_X12_away : Cond.code yX12_away cX12_away 10 (some .int) ∈ TB := tw_1537
theorem dn_X12_away : (parseMethodDescriptor yX12_away.desc).map (fun d => d.parameters.length) = some 3 := by decide +kernel
theorem ds_X12_away : yX12_away.cls ≠ "java/lang/invoke/MethodHandle" ∧ yX12_away.cls ≠ "java/lang/invoke/VarHandle" ∧ (parseMethodDescriptor yX12_away.desc).map (fun d => d.parameters.length) = some 3 := ⟨by decide +kernel, by decide +kernel, dn_X12_away⟩
theorem iy_X12_away : Cond.instanceMethod yX12_away ∈ TB := tw_1535
theorem sy_X12_away : Cond.selects yX12_away.cls yX12_away yX12_away ∈ TB := tw_1536
theorem in_X12_nextByte : Cond.initialized yX12_nextByte.cls ∈ TB := icl_12
theorem cd_X12_nextByte : Cond.code yX12_nextByte cX12_nextByte 1 (some .int) ∈ TB := tw_1324
theorem dn_X12_nextByte : (parseMethodDescriptor yX12_nextByte.desc).map (fun d => d.parameters.length) = some 0 := by decide +kernel
theorem ds_X12_nextByte : yX12_nextByte.cls ≠ "java/lang/invoke/MethodHandle" ∧ yX12_nextByte.cls ≠ "java/lang/invoke/VarHandle" ∧ (parseMethodDescriptor yX12_nextByte.desc).map (fun d => d.parameters.length) = some 0 := ⟨by decide +kernel, by decide +kernel, dn_X12_nextByte⟩
theorem iy_X12_nextByte : Cond.instanceMethod yX12_nextByte ∈ TB := tw_1323
theorem sy_X12_nextByte : Cond.selects yX12_nextByte.cls yX12_nextByte yX12_nextByte ∈ TB := TB_sel 47 (q := (yX12_nextByte, 54)) (by decide +kernel) rfl
theorem in_X12_takes : Cond.initialized yX12_takes.cls ∈ TB := icl_12
theorem cd_X12_takes : Cond.code yX12_takes cX12_takes 2 (some .boolean) ∈ TB := tw_1337
theorem dn_X12_takes : (parseMethodDescriptor yX12_takes.desc).map (fun d => d.parameters.length) = some 1 := by decide +kernel
theorem ds_X12_takes : yX12_takes.cls ≠ "java/lang/invoke/MethodHandle" ∧ yX12_takes.cls ≠ "java/lang/invoke/VarHandle" ∧ (parseMethodDescriptor yX12_takes.desc).map (fun d => d.parameters.length) = some 1 := ⟨by decide +kernel, by decide +kernel, dn_X12_takes⟩
theorem iy_X12_takes : Cond.instanceMethod yX12_takes ∈ TB := tw_1336
theorem sy_X12_takes : Cond.selects yX12_takes.cls yX12_takes yX12_takes ∈ TB := TB_sel 50 (q := (yX12_takes, 54)) (by decide +kernel) rfl
theorem in_X12_takesWord : Cond.initialized yX12_takesWord.cls ∈ TB := icl_12
theorem cd_X12_takesWord : Cond.code yX12_takesWord cX12_takesWord 4 (some .boolean) ∈ TB := tw_1333
theorem dn_X12_takesWord : (parseMethodDescriptor yX12_takesWord.desc).map (fun d => d.parameters.length) = some 2 := by decide +kernel
theorem ds_X12_takesWord : yX12_takesWord.cls ≠ "java/lang/invoke/MethodHandle" ∧ yX12_takesWord.cls ≠ "java/lang/invoke/VarHandle" ∧ (parseMethodDescriptor yX12_takesWord.desc).map (fun d => d.parameters.length) = some 2 := ⟨by decide +kernel, by decide +kernel, dn_X12_takesWord⟩
theorem iy_X12_takesWord : Cond.instanceMethod yX12_takesWord ∈ TB := tw_1332
theorem sy_X12_takesWord : Cond.selects yX12_takesWord.cls yX12_takesWord yX12_takesWord ∈ TB := TB_sel 49 (q := (yX12_takesWord, 54)) (by decide +kernel) rfl
theorem in_X12_takesFigure : Cond.initialized yX12_takesFigure.cls ∈ TB := icl_12
theorem cd_X12_takesFigure : Cond.code yX12_takesFigure cX12_takesFigure 3 (some .boolean) ∈ TB := tw_1341
theorem dn_X12_takesFigure : (parseMethodDescriptor yX12_takesFigure.desc).map (fun d => d.parameters.length) = some 2 := by decide +kernel
theorem ds_X12_takesFigure : yX12_takesFigure.cls ≠ "java/lang/invoke/MethodHandle" ∧ yX12_takesFigure.cls ≠ "java/lang/invoke/VarHandle" ∧ (parseMethodDescriptor yX12_takesFigure.desc).map (fun d => d.parameters.length) = some 2 := ⟨by decide +kernel, by decide +kernel, dn_X12_takesFigure⟩
theorem iy_X12_takesFigure : Cond.instanceMethod yX12_takesFigure ∈ TB := tw_1340
theorem sy_X12_takesFigure : Cond.selects yX12_takesFigure.cls yX12_takesFigure yX12_takesFigure ∈ TB := TB_sel 51 (q := (yX12_takesFigure, 54)) (by decide +kernel) rfl
theorem in_X12_isDigit : Cond.initialized yX12_isDigit.cls ∈ TB := icl_12
theorem cd_X12_isDigit : Cond.code yX12_isDigit cX12_isDigit 1 (some .boolean) ∈ TB := tw_1349
theorem dn_X12_isDigit : (parseMethodDescriptor yX12_isDigit.desc).map (fun d => d.parameters.length) = some 0 := by decide +kernel
theorem ds_X12_isDigit : yX12_isDigit.cls ≠ "java/lang/invoke/MethodHandle" ∧ yX12_isDigit.cls ≠ "java/lang/invoke/VarHandle" ∧ (parseMethodDescriptor yX12_isDigit.desc).map (fun d => d.parameters.length) = some 0 := ⟨by decide +kernel, by decide +kernel, dn_X12_isDigit⟩
theorem iy_X12_isDigit : Cond.instanceMethod yX12_isDigit ∈ TB := tw_1348
theorem sy_X12_isDigit : Cond.selects yX12_isDigit.cls yX12_isDigit yX12_isDigit ∈ TB := TB_sel 53 (q := (yX12_isDigit, 54)) (by decide +kernel) rfl
theorem in_X12_takesNumber : Cond.initialized yX12_takesNumber.cls ∈ TB := icl_12
theorem cd_X12_takesNumber : Cond.code yX12_takesNumber cX12_takesNumber 2 (some .boolean) ∈ TB := tw_1345
theorem dn_X12_takesNumber : (parseMethodDescriptor yX12_takesNumber.desc).map (fun d => d.parameters.length) = some 0 := by decide +kernel
theorem ds_X12_takesNumber : yX12_takesNumber.cls ≠ "java/lang/invoke/MethodHandle" ∧ yX12_takesNumber.cls ≠ "java/lang/invoke/VarHandle" ∧ (parseMethodDescriptor yX12_takesNumber.desc).map (fun d => d.parameters.length) = some 0 := ⟨by decide +kernel, by decide +kernel, dn_X12_takesNumber⟩
theorem iy_X12_takesNumber : Cond.instanceMethod yX12_takesNumber ∈ TB := tw_1344
theorem sy_X12_takesNumber : Cond.selects yX12_takesNumber.cls yX12_takesNumber yX12_takesNumber ∈ TB := TB_sel 52 (q := (yX12_takesNumber, 54)) (by decide +kernel) rfl
theorem in_X12_takesWorth : Cond.initialized yX12_takesWorth.cls ∈ TB := icl_12
theorem cd_X12_takesWorth : Cond.code yX12_takesWorth cX12_takesWorth 2 (some .boolean) ∈ TB := tw_1328
theorem dn_X12_takesWorth : (parseMethodDescriptor yX12_takesWorth.desc).map (fun d => d.parameters.length) = some 0 := by decide +kernel
theorem ds_X12_takesWorth : yX12_takesWorth.cls ≠ "java/lang/invoke/MethodHandle" ∧ yX12_takesWorth.cls ≠ "java/lang/invoke/VarHandle" ∧ (parseMethodDescriptor yX12_takesWorth.desc).map (fun d => d.parameters.length) = some 0 := ⟨by decide +kernel, by decide +kernel, dn_X12_takesWorth⟩
theorem iy_X12_takesWorth : Cond.instanceMethod yX12_takesWorth ∈ TB := tw_1327
theorem sy_X12_takesWorth : Cond.selects yX12_takesWorth.cls yX12_takesWorth yX12_takesWorth ∈ TB := TB_sel 48 (q := (yX12_takesWorth, 54)) (by decide +kernel) rfl
theorem in_X12_takesMark : Cond.initialized yX12_takesMark.cls ∈ TB := icl_12
theorem cd_X12_takesMark : Cond.code yX12_takesMark cX12_takesMark 2 (some .boolean) ∈ TB := tw_1353
theorem dn_X12_takesMark : (parseMethodDescriptor yX12_takesMark.desc).map (fun d => d.parameters.length) = some 0 := by decide +kernel
theorem ds_X12_takesMark : yX12_takesMark.cls ≠ "java/lang/invoke/MethodHandle" ∧ yX12_takesMark.cls ≠ "java/lang/invoke/VarHandle" ∧ (parseMethodDescriptor yX12_takesMark.desc).map (fun d => d.parameters.length) = some 0 := ⟨by decide +kernel, by decide +kernel, dn_X12_takesMark⟩
theorem iy_X12_takesMark : Cond.instanceMethod yX12_takesMark ∈ TB := tw_1352
theorem sy_X12_takesMark : Cond.selects yX12_takesMark.cls yX12_takesMark yX12_takesMark ∈ TB := TB_sel 54 (q := (yX12_takesMark, 54)) (by decide +kernel) rfl
theorem in_X12_takesKind : Cond.initialized yX12_takesKind.cls ∈ TB := icl_12
theorem cd_X12_takesKind : Cond.code yX12_takesKind cX12_takesKind 3 (some .boolean) ∈ TB := tw_1358
theorem dn_X12_takesKind : (parseMethodDescriptor yX12_takesKind.desc).map (fun d => d.parameters.length) = some 0 := by decide +kernel
theorem ds_X12_takesKind : yX12_takesKind.cls ≠ "java/lang/invoke/MethodHandle" ∧ yX12_takesKind.cls ≠ "java/lang/invoke/VarHandle" ∧ (parseMethodDescriptor yX12_takesKind.desc).map (fun d => d.parameters.length) = some 0 := ⟨by decide +kernel, by decide +kernel, dn_X12_takesKind⟩
theorem iy_X12_takesKind : Cond.instanceMethod yX12_takesKind ∈ TB := tw_1357
theorem sy_X12_takesKind : Cond.selects yX12_takesKind.cls yX12_takesKind yX12_takesKind ∈ TB := TB_sel 55 (q := (yX12_takesKind, 54)) (by decide +kernel) rfl
theorem in_X12_push : Cond.initialized yX12_push.cls ∈ TB := icl_12
theorem cd_X12_push : Cond.code yX12_push cX12_push 3 none ∈ TB := tw_1376
theorem dn_X12_push : (parseMethodDescriptor yX12_push.desc).map (fun d => d.parameters.length) = some 1 := by decide +kernel
theorem ds_X12_push : yX12_push.cls ≠ "java/lang/invoke/MethodHandle" ∧ yX12_push.cls ≠ "java/lang/invoke/VarHandle" ∧ (parseMethodDescriptor yX12_push.desc).map (fun d => d.parameters.length) = some 1 := ⟨by decide +kernel, by decide +kernel, dn_X12_push⟩
theorem iy_X12_push : Cond.instanceMethod yX12_push ∈ TB := tw_1375
theorem sy_X12_push : Cond.selects yX12_push.cls yX12_push yX12_push ∈ TB := TB_sel 59 (q := (yX12_push, 54)) (by decide +kernel) rfl
theorem in_X12_takesTest : Cond.initialized yX12_takesTest.cls ∈ TB := icl_12
theorem cd_X12_takesTest : Cond.code yX12_takesTest cX12_takesTest 4 (some .boolean) ∈ TB := tw_1372
theorem dn_X12_takesTest : (parseMethodDescriptor yX12_takesTest.desc).map (fun d => d.parameters.length) = some 0 := by decide +kernel
theorem ds_X12_takesTest : yX12_takesTest.cls ≠ "java/lang/invoke/MethodHandle" ∧ yX12_takesTest.cls ≠ "java/lang/invoke/VarHandle" ∧ (parseMethodDescriptor yX12_takesTest.desc).map (fun d => d.parameters.length) = some 0 := ⟨by decide +kernel, by decide +kernel, dn_X12_takesTest⟩
theorem iy_X12_takesTest : Cond.instanceMethod yX12_takesTest ∈ TB := tw_1371
theorem sy_X12_takesTest : Cond.selects yX12_takesTest.cls yX12_takesTest yX12_takesTest ∈ TB := TB_sel 58 (q := (yX12_takesTest, 54)) (by decide +kernel) rfl
theorem in_X12_settle : Cond.initialized yX12_settle.cls ∈ TB := icl_12
theorem cd_X12_settle : Cond.code yX12_settle cX12_settle 2 none ∈ TB := tw_1380
theorem dn_X12_settle : (parseMethodDescriptor yX12_settle.desc).map (fun d => d.parameters.length) = some 1 := by decide +kernel
theorem ds_X12_settle : yX12_settle.cls ≠ "java/lang/invoke/MethodHandle" ∧ yX12_settle.cls ≠ "java/lang/invoke/VarHandle" ∧ (parseMethodDescriptor yX12_settle.desc).map (fun d => d.parameters.length) = some 1 := ⟨by decide +kernel, by decide +kernel, dn_X12_settle⟩
theorem iy_X12_settle : Cond.instanceMethod yX12_settle ∈ TB := tw_1379
theorem sy_X12_settle : Cond.selects yX12_settle.cls yX12_settle yX12_settle ∈ TB := TB_sel 60 (q := (yX12_settle, 54)) (by decide +kernel) rfl
theorem in_X12_takesE : Cond.initialized yX12_takesE.cls ∈ TB := icl_12
theorem cd_X12_takesE : Cond.code yX12_takesE cX12_takesE 3 (some .boolean) ∈ TB := tw_1368
theorem dn_X12_takesE : (parseMethodDescriptor yX12_takesE.desc).map (fun d => d.parameters.length) = some 0 := by decide +kernel
theorem ds_X12_takesE : yX12_takesE.cls ≠ "java/lang/invoke/MethodHandle" ∧ yX12_takesE.cls ≠ "java/lang/invoke/VarHandle" ∧ (parseMethodDescriptor yX12_takesE.desc).map (fun d => d.parameters.length) = some 0 := ⟨by decide +kernel, by decide +kernel, dn_X12_takesE⟩
theorem iy_X12_takesE : Cond.instanceMethod yX12_takesE ∈ TB := tw_1367
theorem sy_X12_takesE : Cond.selects yX12_takesE.cls yX12_takesE yX12_takesE ∈ TB := TB_sel 57 (q := (yX12_takesE, 54)) (by decide +kernel) rfl
theorem in_X12_takesP : Cond.initialized yX12_takesP.cls ∈ TB := icl_12
theorem cd_X12_takesP : Cond.code yX12_takesP cX12_takesP 2 (some .boolean) ∈ TB := tw_1363
theorem dn_X12_takesP : (parseMethodDescriptor yX12_takesP.desc).map (fun d => d.parameters.length) = some 0 := by decide +kernel
theorem ds_X12_takesP : yX12_takesP.cls ≠ "java/lang/invoke/MethodHandle" ∧ yX12_takesP.cls ≠ "java/lang/invoke/VarHandle" ∧ (parseMethodDescriptor yX12_takesP.desc).map (fun d => d.parameters.length) = some 0 := ⟨by decide +kernel, by decide +kernel, dn_X12_takesP⟩
theorem iy_X12_takesP : Cond.instanceMethod yX12_takesP ∈ TB := tw_1362
theorem sy_X12_takesP : Cond.selects yX12_takesP.cls yX12_takesP yX12_takesP ∈ TB := TB_sel 56 (q := (yX12_takesP, 54)) (by decide +kernel) rfl
theorem in_X12_takesClause : Cond.initialized yX12_takesClause.cls ∈ TB := icl_12
theorem cd_X12_takesClause : Cond.code yX12_takesClause cX12_takesClause 1 (some .boolean) ∈ TB := tw_1320
theorem dn_X12_takesClause : (parseMethodDescriptor yX12_takesClause.desc).map (fun d => d.parameters.length) = some 0 := by decide +kernel
theorem ds_X12_takesClause : yX12_takesClause.cls ≠ "java/lang/invoke/MethodHandle" ∧ yX12_takesClause.cls ≠ "java/lang/invoke/VarHandle" ∧ (parseMethodDescriptor yX12_takesClause.desc).map (fun d => d.parameters.length) = some 0 := ⟨by decide +kernel, by decide +kernel, dn_X12_takesClause⟩
theorem iy_X12_takesClause : Cond.instanceMethod yX12_takesClause ∈ TB := tw_1319
theorem sy_X12_takesClause : Cond.selects yX12_takesClause.cls yX12_takesClause yX12_takesClause ∈ TB := TB_sel 46 (q := (yX12_takesClause, 54)) (by decide +kernel) rfl
theorem in_X12_goes : Cond.initialized yX12_goes.cls ∈ TB := icl_12
theorem cd_X12_goes : Cond.code yX12_goes cX12_goes 3 (some .boolean) ∈ TB := tw_1316
theorem dn_X12_goes : (parseMethodDescriptor yX12_goes.desc).map (fun d => d.parameters.length) = some 1 := by decide +kernel
theorem ds_X12_goes : yX12_goes.cls ≠ "java/lang/invoke/MethodHandle" ∧ yX12_goes.cls ≠ "java/lang/invoke/VarHandle" ∧ (parseMethodDescriptor yX12_goes.desc).map (fun d => d.parameters.length) = some 1 := ⟨by decide +kernel, by decide +kernel, dn_X12_goes⟩
theorem iy_X12_goes : Cond.instanceMethod yX12_goes ∈ TB := tw_1315
theorem sy_X12_goes : Cond.selects yX12_goes.cls yX12_goes yX12_goes ∈ TB := TB_sel 45 (q := (yX12_goes, 54)) (by decide +kernel) rfl
theorem in_X12_listen : Cond.initialized yX12_listen.cls ∈ TB := icl_12
theorem cd_X12_listen : Cond.code yX12_listen cX12_listen 4 (some .boolean) ∈ TB := tw_1395
theorem dn_X12_listen : (parseMethodDescriptor yX12_listen.desc).map (fun d => d.parameters.length) = some 1 := by decide +kernel
theorem ds_X12_listen : yX12_listen.cls ≠ "java/lang/invoke/MethodHandle" ∧ yX12_listen.cls ≠ "java/lang/invoke/VarHandle" ∧ (parseMethodDescriptor yX12_listen.desc).map (fun d => d.parameters.length) = some 1 := ⟨by decide +kernel, by decide +kernel, dn_X12_listen⟩
theorem iy_X12_listen : Cond.instanceMethod yX12_listen ∈ TB := tw_1394
theorem sy_X12_listen : Cond.selects yX12_listen.cls yX12_listen yX12_listen ∈ TB := TB_sel 62 (q := (yX12_listen, 54)) (by decide +kernel) rfl
theorem in_X12_putOdds : Cond.initialized yX12_putOdds.cls ∈ TB := icl_12
theorem cd_X12_putOdds : Cond.code yX12_putOdds cX12_putOdds 5 none ∈ TB := tw_1412
theorem dn_X12_putOdds : (parseMethodDescriptor yX12_putOdds.desc).map (fun d => d.parameters.length) = some 2 := by decide +kernel
theorem ds_X12_putOdds : yX12_putOdds.cls ≠ "java/lang/invoke/MethodHandle" ∧ yX12_putOdds.cls ≠ "java/lang/invoke/VarHandle" ∧ (parseMethodDescriptor yX12_putOdds.desc).map (fun d => d.parameters.length) = some 2 := ⟨by decide +kernel, by decide +kernel, dn_X12_putOdds⟩
theorem iy_X12_putOdds : Cond.instanceMethod yX12_putOdds ∈ TB := tw_1411
theorem sy_X12_putOdds : Cond.selects yX12_putOdds.cls yX12_putOdds yX12_putOdds ∈ TB := TB_sel 65 (q := (yX12_putOdds, 54)) (by decide +kernel) rfl
theorem in_X12_weightOf : Cond.initialized yX12_weightOf.cls ∈ TB := icl_12
theorem cd_X12_weightOf : Cond.code yX12_weightOf cX12_weightOf 5 (some .int) ∈ TB := tw_1399
theorem dn_X12_weightOf : (parseMethodDescriptor yX12_weightOf.desc).map (fun d => d.parameters.length) = some 2 := by decide +kernel
theorem ds_X12_weightOf : yX12_weightOf.cls ≠ "java/lang/invoke/MethodHandle" ∧ yX12_weightOf.cls ≠ "java/lang/invoke/VarHandle" ∧ (parseMethodDescriptor yX12_weightOf.desc).map (fun d => d.parameters.length) = some 2 := ⟨by decide +kernel, by decide +kernel, dn_X12_weightOf⟩
theorem iy_X12_weightOf : Cond.instanceMethod yX12_weightOf ∈ TB := tw_1398
theorem sy_X12_weightOf : Cond.selects yX12_weightOf.cls yX12_weightOf yX12_weightOf ∈ TB := TB_sel 63 (q := (yX12_weightOf, 54)) (by decide +kernel) rfl
theorem in_X12_plain : Cond.initialized yX12_plain.cls ∈ TB := icl_12
theorem cd_X12_plain : Cond.code yX12_plain cX12_plain 7 none ∈ TB := tw_1416
theorem dn_X12_plain : (parseMethodDescriptor yX12_plain.desc).map (fun d => d.parameters.length) = some 3 := by decide +kernel
theorem ds_X12_plain : yX12_plain.cls ≠ "java/lang/invoke/MethodHandle" ∧ yX12_plain.cls ≠ "java/lang/invoke/VarHandle" ∧ (parseMethodDescriptor yX12_plain.desc).map (fun d => d.parameters.length) = some 3 := ⟨by decide +kernel, by decide +kernel, dn_X12_plain⟩
theorem iy_X12_plain : Cond.instanceMethod yX12_plain ∈ TB := tw_1415
theorem sy_X12_plain : Cond.selects yX12_plain.cls yX12_plain yX12_plain ∈ TB := TB_sel 66 (q := (yX12_plain, 54)) (by decide +kernel) rfl
theorem in_X12_greatestOf : Cond.initialized yX12_greatestOf.cls ∈ TB := icl_12
theorem cd_X12_greatestOf : Cond.code yX12_greatestOf cX12_greatestOf 6 (some .int) ∈ TB := tw_1424
theorem dn_X12_greatestOf : (parseMethodDescriptor yX12_greatestOf.desc).map (fun d => d.parameters.length) = some 3 := by decide +kernel
theorem ds_X12_greatestOf : yX12_greatestOf.cls ≠ "java/lang/invoke/MethodHandle" ∧ yX12_greatestOf.cls ≠ "java/lang/invoke/VarHandle" ∧ (parseMethodDescriptor yX12_greatestOf.desc).map (fun d => d.parameters.length) = some 3 := ⟨by decide +kernel, by decide +kernel, dn_X12_greatestOf⟩
theorem iy_X12_greatestOf : Cond.instanceMethod yX12_greatestOf ∈ TB := tw_1423
theorem sy_X12_greatestOf : Cond.selects yX12_greatestOf.cls yX12_greatestOf yX12_greatestOf ∈ TB := TB_sel 68 (q := (yX12_greatestOf, 54)) (by decide +kernel) rfl
theorem in_X12_nested : Cond.initialized yX12_nested.cls ∈ TB := icl_12
theorem cd_X12_nested : Cond.code yX12_nested cX12_nested 9 none ∈ TB := tw_1420
theorem dn_X12_nested : (parseMethodDescriptor yX12_nested.desc).map (fun d => d.parameters.length) = some 3 := by decide +kernel
theorem ds_X12_nested : yX12_nested.cls ≠ "java/lang/invoke/MethodHandle" ∧ yX12_nested.cls ≠ "java/lang/invoke/VarHandle" ∧ (parseMethodDescriptor yX12_nested.desc).map (fun d => d.parameters.length) = some 3 := ⟨by decide +kernel, by decide +kernel, dn_X12_nested⟩
theorem iy_X12_nested : Cond.instanceMethod yX12_nested ∈ TB := tw_1419
theorem sy_X12_nested : Cond.selects yX12_nested.cls yX12_nested yX12_nested ∈ TB := TB_sel 67 (q := (yX12_nested, 54)) (by decide +kernel) rfl
theorem in_X12_mixed : Cond.initialized yX12_mixed.cls ∈ TB := icl_12
theorem cd_X12_mixed : Cond.code yX12_mixed cX12_mixed 10 none ∈ TB := tw_1428
theorem dn_X12_mixed : (parseMethodDescriptor yX12_mixed.desc).map (fun d => d.parameters.length) = some 3 := by decide +kernel
theorem ds_X12_mixed : yX12_mixed.cls ≠ "java/lang/invoke/MethodHandle" ∧ yX12_mixed.cls ≠ "java/lang/invoke/VarHandle" ∧ (parseMethodDescriptor yX12_mixed.desc).map (fun d => d.parameters.length) = some 3 := ⟨by decide +kernel, by decide +kernel, dn_X12_mixed⟩
theorem iy_X12_mixed : Cond.instanceMethod yX12_mixed ∈ TB := tw_1427
theorem sy_X12_mixed : Cond.selects yX12_mixed.cls yX12_mixed yX12_mixed ∈ TB := TB_sel 69 (q := (yX12_mixed, 54)) (by decide +kernel) rfl
theorem in_X12_ones : Cond.initialized yX12_ones.cls ∈ TB := icl_12
theorem cd_X12_ones : Cond.code yX12_ones cX12_ones 4 (some .int) ∈ TB := tw_1436
theorem dn_X12_ones : (parseMethodDescriptor yX12_ones.desc).map (fun d => d.parameters.length) = some 1 := by decide +kernel
theorem ds_X12_ones : yX12_ones.cls ≠ "java/lang/invoke/MethodHandle" ∧ yX12_ones.cls ≠ "java/lang/invoke/VarHandle" ∧ (parseMethodDescriptor yX12_ones.desc).map (fun d => d.parameters.length) = some 1 := ⟨by decide +kernel, by decide +kernel, dn_X12_ones⟩
theorem iy_X12_ones : Cond.instanceMethod yX12_ones ∈ TB := tw_1435
theorem sy_X12_ones : Cond.selects yX12_ones.cls yX12_ones yX12_ones ∈ TB := TB_sel 71 (q := (yX12_ones, 54)) (by decide +kernel) rfl
theorem in_X12_seenOf : Cond.initialized yX12_seenOf.cls ∈ TB := icl_12
theorem cd_X12_seenOf : Cond.code yX12_seenOf cX12_seenOf 6 (some .int) ∈ TB := tw_1432
theorem dn_X12_seenOf : (parseMethodDescriptor yX12_seenOf.desc).map (fun d => d.parameters.length) = some 1 := by decide +kernel
theorem ds_X12_seenOf : yX12_seenOf.cls ≠ "java/lang/invoke/MethodHandle" ∧ yX12_seenOf.cls ≠ "java/lang/invoke/VarHandle" ∧ (parseMethodDescriptor yX12_seenOf.desc).map (fun d => d.parameters.length) = some 1 := ⟨by decide +kernel, by decide +kernel, dn_X12_seenOf⟩
theorem iy_X12_seenOf : Cond.instanceMethod yX12_seenOf ∈ TB := tw_1431
theorem sy_X12_seenOf : Cond.selects yX12_seenOf.cls yX12_seenOf yX12_seenOf ∈ TB := TB_sel 70 (q := (yX12_seenOf, 54)) (by decide +kernel) rfl
theorem in_X12_pickedOf : Cond.initialized yX12_pickedOf.cls ∈ TB := icl_12
theorem cd_X12_pickedOf : Cond.code yX12_pickedOf cX12_pickedOf 5 (some .int) ∈ TB := tw_1440
theorem dn_X12_pickedOf : (parseMethodDescriptor yX12_pickedOf.desc).map (fun d => d.parameters.length) = some 1 := by decide +kernel
theorem ds_X12_pickedOf : yX12_pickedOf.cls ≠ "java/lang/invoke/MethodHandle" ∧ yX12_pickedOf.cls ≠ "java/lang/invoke/VarHandle" ∧ (parseMethodDescriptor yX12_pickedOf.desc).map (fun d => d.parameters.length) = some 1 := ⟨by decide +kernel, by decide +kernel, dn_X12_pickedOf⟩
theorem iy_X12_pickedOf : Cond.instanceMethod yX12_pickedOf ∈ TB := tw_1439
theorem sy_X12_pickedOf : Cond.selects yX12_pickedOf.cls yX12_pickedOf yX12_pickedOf ∈ TB := TB_sel 72 (q := (yX12_pickedOf, 54)) (by decide +kernel) rfl
theorem in_X12_findOdds : Cond.initialized yX12_findOdds.cls ∈ TB := icl_12
theorem cd_X12_findOdds : Cond.code yX12_findOdds cX12_findOdds 5 none ∈ TB := tw_1408
theorem dn_X12_findOdds : (parseMethodDescriptor yX12_findOdds.desc).map (fun d => d.parameters.length) = some 4 := by decide +kernel
theorem ds_X12_findOdds : yX12_findOdds.cls ≠ "java/lang/invoke/MethodHandle" ∧ yX12_findOdds.cls ≠ "java/lang/invoke/VarHandle" ∧ (parseMethodDescriptor yX12_findOdds.desc).map (fun d => d.parameters.length) = some 4 := ⟨by decide +kernel, by decide +kernel, dn_X12_findOdds⟩
theorem iy_X12_findOdds : Cond.instanceMethod yX12_findOdds ∈ TB := tw_1407
theorem sy_X12_findOdds : Cond.selects yX12_findOdds.cls yX12_findOdds yX12_findOdds ∈ TB := TB_sel 64 (q := (yX12_findOdds, 54)) (by decide +kernel) rfl
theorem in_X12_coinOf : Cond.initialized yX12_coinOf.cls ∈ TB := icl_12
theorem cd_X12_coinOf : Cond.code yX12_coinOf cX12_coinOf 7 (some .long) ∈ TB := tw_1545
theorem dn_X12_coinOf : (parseMethodDescriptor yX12_coinOf.desc).map (fun d => d.parameters.length) = some 2 := by decide +kernel
theorem ds_X12_coinOf : yX12_coinOf.cls ≠ "java/lang/invoke/MethodHandle" ∧ yX12_coinOf.cls ≠ "java/lang/invoke/VarHandle" ∧ (parseMethodDescriptor yX12_coinOf.desc).map (fun d => d.parameters.length) = some 2 := ⟨by decide +kernel, by decide +kernel, dn_X12_coinOf⟩
theorem iy_X12_coinOf : Cond.instanceMethod yX12_coinOf ∈ TB := tw_1544
theorem sy_X12_coinOf : Cond.selects yX12_coinOf.cls yX12_coinOf yX12_coinOf ∈ TB := TB_sel 83 (q := (yX12_coinOf, 54)) (by decide +kernel) rfl
theorem in_X12_best : Cond.initialized yX12_best.cls ∈ TB := icl_12
theorem cd_X12_best : Cond.code yX12_best cX12_best 11 (some .int) ∈ TB := tw_1553
theorem dn_X12_best : (parseMethodDescriptor yX12_best.desc).map (fun d => d.parameters.length) = some 3 := by decide +kernel
theorem ds_X12_best : yX12_best.cls ≠ "java/lang/invoke/MethodHandle" ∧ yX12_best.cls ≠ "java/lang/invoke/VarHandle" ∧ (parseMethodDescriptor yX12_best.desc).map (fun d => d.parameters.length) = some 3 := ⟨by decide +kernel, by decide +kernel, dn_X12_best⟩
theorem iy_X12_best : Cond.instanceMethod yX12_best ∈ TB := tw_1551
theorem sy_X12_best : Cond.selects yX12_best.cls yX12_best yX12_best ∈ TB := tw_1552
theorem in_X12_choice : Cond.initialized yX12_choice.cls ∈ TB := icl_12
theorem cd_X12_choice : Cond.code yX12_choice cX12_choice 4 (some .int) ∈ TB := tw_1280
theorem dn_X12_choice : (parseMethodDescriptor yX12_choice.desc).map (fun d => d.parameters.length) = some 3 := by decide +kernel
theorem ds_X12_choice : yX12_choice.cls ≠ "java/lang/invoke/MethodHandle" ∧ yX12_choice.cls ≠ "java/lang/invoke/VarHandle" ∧ (parseMethodDescriptor yX12_choice.desc).map (fun d => d.parameters.length) = some 3 := ⟨by decide +kernel, by decide +kernel, dn_X12_choice⟩
theorem iy_X12_choice : Cond.instanceMethod yX12_choice ∈ TB := tw_1278
theorem sy_X12_choice : Cond.selects yX12_choice.cls yX12_choice yX12_choice ∈ TB := tw_1279
theorem in_X12_coin : Cond.initialized yX12_coin.cls ∈ TB := icl_12
theorem cd_X12_coin : Cond.code yX12_coin cX12_coin 3 (some .long) ∈ TB := tw_1541
theorem dn_X12_coin : (parseMethodDescriptor yX12_coin.desc).map (fun d => d.parameters.length) = some 2 := by decide +kernel
theorem ds_X12_coin : yX12_coin.cls ≠ "java/lang/invoke/MethodHandle" ∧ yX12_coin.cls ≠ "java/lang/invoke/VarHandle" ∧ (parseMethodDescriptor yX12_coin.desc).map (fun d => d.parameters.length) = some 2 := ⟨by decide +kernel, by decide +kernel, dn_X12_coin⟩
theorem iy_X12_coin : Cond.instanceMethod yX12_coin ∈ TB := tw_1539
theorem sy_X12_coin : Cond.selects yX12_coin.cls yX12_coin yX12_coin ∈ TB := tw_1540
theorem in_X12_isChoice : Cond.initialized yX12_isChoice.cls ∈ TB := icl_12
theorem cd_X12_isChoice : Cond.code yX12_isChoice cX12_isChoice 2 (some .boolean) ∈ TB := tw_1300
theorem dn_X12_isChoice : (parseMethodDescriptor yX12_isChoice.desc).map (fun d => d.parameters.length) = some 1 := by decide +kernel
theorem ds_X12_isChoice : yX12_isChoice.cls ≠ "java/lang/invoke/MethodHandle" ∧ yX12_isChoice.cls ≠ "java/lang/invoke/VarHandle" ∧ (parseMethodDescriptor yX12_isChoice.desc).map (fun d => d.parameters.length) = some 1 := ⟨by decide +kernel, by decide +kernel, dn_X12_isChoice⟩
theorem iy_X12_isChoice : Cond.instanceMethod yX12_isChoice ∈ TB := tw_1299
theorem sy_X12_isChoice : Cond.selects yX12_isChoice.cls yX12_isChoice yX12_isChoice ∈ TB := TB_sel 44 (q := (yX12_isChoice, 54)) (by decide +kernel) rfl
theorem in_X12_could : Cond.initialized yX12_could.cls ∈ TB := icl_12
theorem cd_X12_could : Cond.code yX12_could cX12_could 4 (some .int) ∈ TB := tw_1533
theorem dn_X12_could : (parseMethodDescriptor yX12_could.desc).map (fun d => d.parameters.length) = some 1 := by decide +kernel
theorem ds_X12_could : yX12_could.cls ≠ "java/lang/invoke/MethodHandle" ∧ yX12_could.cls ≠ "java/lang/invoke/VarHandle" ∧ (parseMethodDescriptor yX12_could.desc).map (fun d => d.parameters.length) = some 1 := ⟨by decide +kernel, by decide +kernel, dn_X12_could⟩
theorem iy_X12_could : Cond.instanceMethod yX12_could ∈ TB := tw_1531
theorem sy_X12_could : Cond.selects yX12_could.cls yX12_could yX12_could ∈ TB := tw_1532
theorem in_X12_count : Cond.initialized yX12_count.cls ∈ TB := icl_12
theorem cd_X12_count : Cond.code yX12_count cX12_count 2 (some .int) ∈ TB := tw_1610
theorem dn_X12_count : (parseMethodDescriptor yX12_count.desc).map (fun d => d.parameters.length) = some 1 := by decide +kernel
theorem ds_X12_count : yX12_count.cls ≠ "java/lang/invoke/MethodHandle" ∧ yX12_count.cls ≠ "java/lang/invoke/VarHandle" ∧ (parseMethodDescriptor yX12_count.desc).map (fun d => d.parameters.length) = some 1 := ⟨by decide +kernel, by decide +kernel, dn_X12_count⟩
theorem iy_X12_count : Cond.instanceMethod yX12_count ∈ TB := tw_1608
theorem sy_X12_count : Cond.selects yX12_count.cls yX12_count yX12_count ∈ TB := tw_1609
theorem in_X12_divisor : Cond.initialized yX12_divisor.cls ∈ TB := icl_12
theorem cd_X12_divisor : Cond.code yX12_divisor cX12_divisor 11 (some .long) ∈ TB := tw_1444
theorem dn_X12_divisor : (parseMethodDescriptor yX12_divisor.desc).map (fun d => d.parameters.length) = some 2 := by decide +kernel
theorem ds_X12_divisor : yX12_divisor.cls ≠ "java/lang/invoke/MethodHandle" ∧ yX12_divisor.cls ≠ "java/lang/invoke/VarHandle" ∧ (parseMethodDescriptor yX12_divisor.desc).map (fun d => d.parameters.length) = some 2 := ⟨by decide +kernel, by decide +kernel, dn_X12_divisor⟩
theorem iy_X12_divisor : Cond.instanceMethod yX12_divisor ∈ TB := tw_1443
theorem sy_X12_divisor : Cond.selects yX12_divisor.cls yX12_divisor yX12_divisor ∈ TB := TB_sel 73 (q := (yX12_divisor, 54)) (by decide +kernel) rfl
theorem in_X12_feed : Cond.initialized yX12_feed.cls ∈ TB := icl_12
theorem cd_X12_feed : Cond.code yX12_feed cX12_feed 4 (some .int) ∈ TB := tw_1308
theorem dn_X12_feed : (parseMethodDescriptor yX12_feed.desc).map (fun d => d.parameters.length) = some 2 := by decide +kernel
theorem ds_X12_feed : yX12_feed.cls ≠ "java/lang/invoke/MethodHandle" ∧ yX12_feed.cls ≠ "java/lang/invoke/VarHandle" ∧ (parseMethodDescriptor yX12_feed.desc).map (fun d => d.parameters.length) = some 2 := ⟨by decide +kernel, by decide +kernel, dn_X12_feed⟩
theorem iy_X12_feed : Cond.instanceMethod yX12_feed ∈ TB := tw_1306
theorem sy_X12_feed : Cond.selects yX12_feed.cls yX12_feed yX12_feed ∈ TB := tw_1307
theorem in_X12_greatestIn : Cond.initialized yX12_greatestIn.cls ∈ TB := icl_12
theorem cd_X12_greatestIn : Cond.code yX12_greatestIn cX12_greatestIn 5 (some .int) ∈ TB := tw_1562
theorem dn_X12_greatestIn : (parseMethodDescriptor yX12_greatestIn.desc).map (fun d => d.parameters.length) = some 2 := by decide +kernel
theorem ds_X12_greatestIn : yX12_greatestIn.cls ≠ "java/lang/invoke/MethodHandle" ∧ yX12_greatestIn.cls ≠ "java/lang/invoke/VarHandle" ∧ (parseMethodDescriptor yX12_greatestIn.desc).map (fun d => d.parameters.length) = some 2 := ⟨by decide +kernel, by decide +kernel, dn_X12_greatestIn⟩
theorem iy_X12_greatestIn : Cond.instanceMethod yX12_greatestIn ∈ TB := tw_1561
theorem sy_X12_greatestIn : Cond.selects yX12_greatestIn.cls yX12_greatestIn yX12_greatestIn ∈ TB := TB_sel 84 (q := (yX12_greatestIn, 54)) (by decide +kernel) rfl
theorem in_X12_scoreOf : Cond.initialized yX12_scoreOf.cls ∈ TB := icl_12
theorem cd_X12_scoreOf : Cond.code yX12_scoreOf cX12_scoreOf 6 (some .int) ∈ TB := tw_1452
theorem dn_X12_scoreOf : (parseMethodDescriptor yX12_scoreOf.desc).map (fun d => d.parameters.length) = some 2 := by decide +kernel
theorem ds_X12_scoreOf : yX12_scoreOf.cls ≠ "java/lang/invoke/MethodHandle" ∧ yX12_scoreOf.cls ≠ "java/lang/invoke/VarHandle" ∧ (parseMethodDescriptor yX12_scoreOf.desc).map (fun d => d.parameters.length) = some 2 := ⟨by decide +kernel, by decide +kernel, dn_X12_scoreOf⟩
theorem iy_X12_scoreOf : Cond.instanceMethod yX12_scoreOf ∈ TB := tw_1451
theorem sy_X12_scoreOf : Cond.selects yX12_scoreOf.cls yX12_scoreOf yX12_scoreOf ∈ TB := TB_sel 74 (q := (yX12_scoreOf, 54)) (by decide +kernel) rfl
theorem in_X12_grid : Cond.initialized yX12_grid.cls ∈ TB := icl_12
theorem cd_X12_grid : Cond.code yX12_grid cX12_grid 7 (some .int) ∈ TB := tw_1465
theorem dn_X12_grid : (parseMethodDescriptor yX12_grid.desc).map (fun d => d.parameters.length) = some 2 := by decide +kernel
theorem ds_X12_grid : yX12_grid.cls ≠ "java/lang/invoke/MethodHandle" ∧ yX12_grid.cls ≠ "java/lang/invoke/VarHandle" ∧ (parseMethodDescriptor yX12_grid.desc).map (fun d => d.parameters.length) = some 2 := ⟨by decide +kernel, by decide +kernel, dn_X12_grid⟩
theorem iy_X12_grid : Cond.instanceMethod yX12_grid ∈ TB := tw_1463
theorem sy_X12_grid : Cond.selects yX12_grid.cls yX12_grid yX12_grid ∈ TB := tw_1464
theorem in_X12_isTape : Cond.initialized yX12_isTape.cls ∈ TB := icl_12
theorem cd_X12_isTape : Cond.code yX12_isTape cX12_isTape 2 (some .boolean) ∈ TB := tw_1618
theorem dn_X12_isTape : (parseMethodDescriptor yX12_isTape.desc).map (fun d => d.parameters.length) = some 1 := by decide +kernel
theorem ds_X12_isTape : yX12_isTape.cls ≠ "java/lang/invoke/MethodHandle" ∧ yX12_isTape.cls ≠ "java/lang/invoke/VarHandle" ∧ (parseMethodDescriptor yX12_isTape.desc).map (fun d => d.parameters.length) = some 1 := ⟨by decide +kernel, by decide +kernel, dn_X12_isTape⟩
theorem iy_X12_isTape : Cond.instanceMethod yX12_isTape ∈ TB := tw_1617
theorem sy_X12_isTape : Cond.selects yX12_isTape.cls yX12_isTape yX12_isTape ∈ TB := TB_sel 93 (q := (yX12_isTape, 54)) (by decide +kernel) rfl
theorem in_X12_narrow : Cond.initialized yX12_narrow.cls ∈ TB := icl_12
theorem cd_X12_narrow : Cond.code yX12_narrow cX12_narrow 4 (some .long) ∈ TB := tw_1633
theorem dn_X12_narrow : (parseMethodDescriptor yX12_narrow.desc).map (fun d => d.parameters.length) = some 2 := by decide +kernel
theorem ds_X12_narrow : yX12_narrow.cls ≠ "java/lang/invoke/MethodHandle" ∧ yX12_narrow.cls ≠ "java/lang/invoke/VarHandle" ∧ (parseMethodDescriptor yX12_narrow.desc).map (fun d => d.parameters.length) = some 2 := ⟨by decide +kernel, by decide +kernel, dn_X12_narrow⟩
theorem iy_X12_narrow : Cond.instanceMethod yX12_narrow ∈ TB := tw_1632
theorem sy_X12_narrow : Cond.selects yX12_narrow.cls yX12_narrow yX12_narrow ∈ TB := TB_sel 94 (q := (yX12_narrow, 54)) (by decide +kernel) rfl
theorem in_X12_item : Cond.initialized yX12_item.cls ∈ TB := icl_12
theorem cd_X12_item : Cond.code yX12_item cX12_item 5 (some .int) ∈ TB := tw_1629
theorem dn_X12_item : (parseMethodDescriptor yX12_item.desc).map (fun d => d.parameters.length) = some 3 := by decide +kernel
theorem ds_X12_item : yX12_item.cls ≠ "java/lang/invoke/MethodHandle" ∧ yX12_item.cls ≠ "java/lang/invoke/VarHandle" ∧ (parseMethodDescriptor yX12_item.desc).map (fun d => d.parameters.length) = some 3 := ⟨by decide +kernel, by decide +kernel, dn_X12_item⟩
theorem iy_X12_item : Cond.instanceMethod yX12_item ∈ TB := tw_1627
theorem sy_X12_item : Cond.selects yX12_item.cls yX12_item yX12_item ∈ TB := tw_1628
theorem in_X12_lay : Cond.initialized yX12_lay.cls ∈ TB := icl_12
theorem cd_X12_lay : Cond.code yX12_lay cX12_lay 9 (some .int) ∈ TB := tw_1549
theorem dn_X12_lay : (parseMethodDescriptor yX12_lay.desc).map (fun d => d.parameters.length) = some 2 := by decide +kernel
theorem ds_X12_lay : yX12_lay.cls ≠ "java/lang/invoke/MethodHandle" ∧ yX12_lay.cls ≠ "java/lang/invoke/VarHandle" ∧ (parseMethodDescriptor yX12_lay.desc).map (fun d => d.parameters.length) = some 2 := ⟨by decide +kernel, by decide +kernel, dn_X12_lay⟩
theorem iy_X12_lay : Cond.instanceMethod yX12_lay ∈ TB := tw_1547
theorem sy_X12_lay : Cond.selects yX12_lay.cls yX12_lay yX12_lay ∈ TB := tw_1548
theorem in_X12_letgo : Cond.initialized yX12_letgo.cls ∈ TB := icl_12
theorem cd_X12_letgo : Cond.code yX12_letgo cX12_letgo 5 (some .int) ∈ TB := tw_1501
theorem dn_X12_letgo : (parseMethodDescriptor yX12_letgo.desc).map (fun d => d.parameters.length) = some 1 := by decide +kernel
theorem ds_X12_letgo : yX12_letgo.cls ≠ "java/lang/invoke/MethodHandle" ∧ yX12_letgo.cls ≠ "java/lang/invoke/VarHandle" ∧ (parseMethodDescriptor yX12_letgo.desc).map (fun d => d.parameters.length) = some 1 := ⟨by decide +kernel, by decide +kernel, dn_X12_letgo⟩
theorem iy_X12_letgo : Cond.instanceMethod yX12_letgo ∈ TB := tw_1499
theorem sy_X12_letgo : Cond.selects yX12_letgo.cls yX12_letgo yX12_letgo ∈ TB := tw_1500
theorem in_X12_like : Cond.initialized yX12_like.cls ∈ TB := icl_12
theorem cd_X12_like : Cond.code yX12_like cX12_like 4 (some .int) ∈ TB := tw_1505
theorem dn_X12_like : (parseMethodDescriptor yX12_like.desc).map (fun d => d.parameters.length) = some 2 := by decide +kernel
theorem ds_X12_like : yX12_like.cls ≠ "java/lang/invoke/MethodHandle" ∧ yX12_like.cls ≠ "java/lang/invoke/VarHandle" ∧ (parseMethodDescriptor yX12_like.desc).map (fun d => d.parameters.length) = some 2 := ⟨by decide +kernel, by decide +kernel, dn_X12_like⟩
theorem iy_X12_like : Cond.instanceMethod yX12_like ∈ TB := tw_1503
theorem sy_X12_like : Cond.selects yX12_like.cls yX12_like yX12_like ∈ TB := tw_1504
theorem in_X12_missesOf : Cond.initialized yX12_missesOf.cls ∈ TB := icl_12
theorem cd_X12_missesOf : Cond.code yX12_missesOf cX12_missesOf 11 (some .int) ∈ TB := tw_1461
theorem dn_X12_missesOf : (parseMethodDescriptor yX12_missesOf.desc).map (fun d => d.parameters.length) = some 2 := by decide +kernel
theorem ds_X12_missesOf : yX12_missesOf.cls ≠ "java/lang/invoke/MethodHandle" ∧ yX12_missesOf.cls ≠ "java/lang/invoke/VarHandle" ∧ (parseMethodDescriptor yX12_missesOf.desc).map (fun d => d.parameters.length) = some 2 := ⟨by decide +kernel, by decide +kernel, dn_X12_missesOf⟩
theorem iy_X12_missesOf : Cond.instanceMethod yX12_missesOf ∈ TB := tw_1460
theorem sy_X12_missesOf : Cond.selects yX12_missesOf.cls yX12_missesOf yX12_missesOf ∈ TB := TB_sel 75 (q := (yX12_missesOf, 54)) (by decide +kernel) rfl
theorem in_X12_misses : Cond.initialized yX12_misses.cls ∈ TB := icl_12
theorem cd_X12_misses : Cond.code yX12_misses cX12_misses 3 (some .int) ∈ TB := tw_1457
theorem dn_X12_misses : (parseMethodDescriptor yX12_misses.desc).map (fun d => d.parameters.length) = some 2 := by decide +kernel
theorem ds_X12_misses : yX12_misses.cls ≠ "java/lang/invoke/MethodHandle" ∧ yX12_misses.cls ≠ "java/lang/invoke/VarHandle" ∧ (parseMethodDescriptor yX12_misses.desc).map (fun d => d.parameters.length) = some 2 := ⟨by decide +kernel, by decide +kernel, dn_X12_misses⟩
theorem iy_X12_misses : Cond.instanceMethod yX12_misses ∈ TB := tw_1455
theorem sy_X12_misses : Cond.selects yX12_misses.cls yX12_misses yX12_misses ∈ TB := tw_1456
theorem in_X12_model : Cond.initialized yX12_model.cls ∈ TB := icl_12
theorem cd_X12_model : Cond.code yX12_model cX12_model 3 (some .int) ∈ TB := tw_1312
theorem dn_X12_model : (parseMethodDescriptor yX12_model.desc).map (fun d => d.parameters.length) = some 1 := by decide +kernel
theorem ds_X12_model : yX12_model.cls ≠ "java/lang/invoke/MethodHandle" ∧ yX12_model.cls ≠ "java/lang/invoke/VarHandle" ∧ (parseMethodDescriptor yX12_model.desc).map (fun d => d.parameters.length) = some 1 := ⟨by decide +kernel, by decide +kernel, dn_X12_model⟩
theorem iy_X12_model : Cond.instanceMethod yX12_model ∈ TB := tw_1310
theorem sy_X12_model : Cond.selects yX12_model.cls yX12_model yX12_model ∈ TB := tw_1311
theorem in_X12_wouldOf : Cond.initialized yX12_wouldOf.cls ∈ TB := icl_12
theorem cd_X12_wouldOf : Cond.code yX12_wouldOf cX12_wouldOf 5 (some .int) ∈ TB := tw_1513
theorem dn_X12_wouldOf : (parseMethodDescriptor yX12_wouldOf.desc).map (fun d => d.parameters.length) = some 2 := by decide +kernel
theorem ds_X12_wouldOf : yX12_wouldOf.cls ≠ "java/lang/invoke/MethodHandle" ∧ yX12_wouldOf.cls ≠ "java/lang/invoke/VarHandle" ∧ (parseMethodDescriptor yX12_wouldOf.desc).map (fun d => d.parameters.length) = some 2 := ⟨by decide +kernel, by decide +kernel, dn_X12_wouldOf⟩
theorem iy_X12_wouldOf : Cond.instanceMethod yX12_wouldOf ∈ TB := tw_1512
theorem sy_X12_wouldOf : Cond.selects yX12_wouldOf.cls yX12_wouldOf yX12_wouldOf ∈ TB := TB_sel 82 (q := (yX12_wouldOf, 54)) (by decide +kernel) rfl
theorem in_X12_must : Cond.initialized yX12_must.cls ∈ TB := icl_12
theorem cd_X12_must : Cond.code yX12_must cX12_must 7 (some .int) ∈ TB := tw_1517
theorem dn_X12_must : (parseMethodDescriptor yX12_must.desc).map (fun d => d.parameters.length) = some 3 := by decide +kernel
theorem ds_X12_must : yX12_must.cls ≠ "java/lang/invoke/MethodHandle" ∧ yX12_must.cls ≠ "java/lang/invoke/VarHandle" ∧ (parseMethodDescriptor yX12_must.desc).map (fun d => d.parameters.length) = some 3 := ⟨by decide +kernel, by decide +kernel, dn_X12_must⟩
theorem iy_X12_must : Cond.instanceMethod yX12_must ∈ TB := tw_1515
theorem sy_X12_must : Cond.selects yX12_must.cls yX12_must yX12_must ∈ TB := tw_1516
theorem in_X12_next : Cond.initialized yX12_next.cls ∈ TB := icl_12
theorem cd_X12_next : Cond.code yX12_next cX12_next 8 (some .int) ∈ TB := tw_1525
theorem dn_X12_next : (parseMethodDescriptor yX12_next.desc).map (fun d => d.parameters.length) = some 1 := by decide +kernel
theorem ds_X12_next : yX12_next.cls ≠ "java/lang/invoke/MethodHandle" ∧ yX12_next.cls ≠ "java/lang/invoke/VarHandle" ∧ (parseMethodDescriptor yX12_next.desc).map (fun d => d.parameters.length) = some 1 := ⟨by decide +kernel, by decide +kernel, dn_X12_next⟩
theorem iy_X12_next : Cond.instanceMethod yX12_next ∈ TB := tw_1523
theorem sy_X12_next : Cond.selects yX12_next.cls yX12_next yX12_next ∈ TB := tw_1524
theorem in_X12_odds : Cond.initialized yX12_odds.cls ∈ TB := icl_12
theorem cd_X12_odds : Cond.code yX12_odds cX12_odds 8 (some .long) ∈ TB := tw_1403
theorem dn_X12_odds : (parseMethodDescriptor yX12_odds.desc).map (fun d => d.parameters.length) = some 5 := by decide +kernel
theorem ds_X12_odds : yX12_odds.cls ≠ "java/lang/invoke/MethodHandle" ∧ yX12_odds.cls ≠ "java/lang/invoke/VarHandle" ∧ (parseMethodDescriptor yX12_odds.desc).map (fun d => d.parameters.length) = some 5 := ⟨by decide +kernel, by decide +kernel, dn_X12_odds⟩
theorem iy_X12_odds : Cond.instanceMethod yX12_odds ∈ TB := tw_1401
theorem sy_X12_odds : Cond.selects yX12_odds.cls yX12_odds yX12_odds ∈ TB := tw_1402
theorem in_X12_of : Cond.initialized yX12_of.cls ∈ TB := icl_12
theorem cd_X12_of : Cond.code yX12_of cX12_of 3 (some .int) ∈ TB := tw_1304
theorem dn_X12_of : (parseMethodDescriptor yX12_of.desc).map (fun d => d.parameters.length) = some 2 := by decide +kernel
theorem ds_X12_of : yX12_of.cls ≠ "java/lang/invoke/MethodHandle" ∧ yX12_of.cls ≠ "java/lang/invoke/VarHandle" ∧ (parseMethodDescriptor yX12_of.desc).map (fun d => d.parameters.length) = some 2 := ⟨by decide +kernel, by decide +kernel, dn_X12_of⟩
theorem iy_X12_of : Cond.instanceMethod yX12_of ∈ TB := tw_1302
theorem sy_X12_of : Cond.selects yX12_of.cls yX12_of yX12_of ∈ TB := tw_1303
theorem in_X12_price : Cond.initialized yX12_price.cls ∈ TB := icl_12
theorem cd_X12_price : Cond.code yX12_price cX12_price 4 (some .int) ∈ TB := tw_1268
theorem dn_X12_price : (parseMethodDescriptor yX12_price.desc).map (fun d => d.parameters.length) = some 2 := by decide +kernel
theorem ds_X12_price : yX12_price.cls ≠ "java/lang/invoke/MethodHandle" ∧ yX12_price.cls ≠ "java/lang/invoke/VarHandle" ∧ (parseMethodDescriptor yX12_price.desc).map (fun d => d.parameters.length) = some 2 := ⟨by decide +kernel, by decide +kernel, dn_X12_price⟩
theorem iy_X12_price : Cond.instanceMethod yX12_price ∈ TB := tw_1266
theorem sy_X12_price : Cond.selects yX12_price.cls yX12_price yX12_price ∈ TB := tw_1267
theorem in_X12_put : Cond.initialized yX12_put.cls ∈ TB := icl_12
theorem cd_X12_put : Cond.code yX12_put cX12_put 4 (some .int) ∈ TB := tw_1296
theorem dn_X12_put : (parseMethodDescriptor yX12_put.desc).map (fun d => d.parameters.length) = some 2 := by decide +kernel
theorem ds_X12_put : yX12_put.cls ≠ "java/lang/invoke/MethodHandle" ∧ yX12_put.cls ≠ "java/lang/invoke/VarHandle" ∧ (parseMethodDescriptor yX12_put.desc).map (fun d => d.parameters.length) = some 2 := ⟨by decide +kernel, by decide +kernel, dn_X12_put⟩
theorem iy_X12_put : Cond.instanceMethod yX12_put ∈ TB := tw_1294
theorem sy_X12_put : Cond.selects yX12_put.cls yX12_put yX12_put ∈ TB := tw_1295
theorem in_X12_read : Cond.initialized yX12_read.cls ∈ TB := icl_12
theorem cd_X12_read : Cond.code yX12_read cX12_read 3 (some .long) ∈ TB := tw_1637
theorem dn_X12_read : (parseMethodDescriptor yX12_read.desc).map (fun d => d.parameters.length) = some 2 := by decide +kernel
theorem ds_X12_read : yX12_read.cls ≠ "java/lang/invoke/MethodHandle" ∧ yX12_read.cls ≠ "java/lang/invoke/VarHandle" ∧ (parseMethodDescriptor yX12_read.desc).map (fun d => d.parameters.length) = some 2 := ⟨by decide +kernel, by decide +kernel, dn_X12_read⟩
theorem iy_X12_read : Cond.instanceMethod yX12_read ∈ TB := tw_1635
theorem sy_X12_read : Cond.selects yX12_read.cls yX12_read yX12_read ∈ TB := tw_1636
theorem in_X12_score : Cond.initialized yX12_score.cls ∈ TB := icl_12
theorem cd_X12_score : Cond.code yX12_score cX12_score 3 (some .int) ∈ TB := tw_1448
theorem dn_X12_score : (parseMethodDescriptor yX12_score.desc).map (fun d => d.parameters.length) = some 2 := by decide +kernel
theorem ds_X12_score : yX12_score.cls ≠ "java/lang/invoke/MethodHandle" ∧ yX12_score.cls ≠ "java/lang/invoke/VarHandle" ∧ (parseMethodDescriptor yX12_score.desc).map (fun d => d.parameters.length) = some 2 := ⟨by decide +kernel, by decide +kernel, dn_X12_score⟩
theorem iy_X12_score : Cond.instanceMethod yX12_score ∈ TB := tw_1446
theorem sy_X12_score : Cond.selects yX12_score.cls yX12_score yX12_score ∈ TB := tw_1447
theorem in_X12_sheet : Cond.initialized yX12_sheet.cls ∈ TB := icl_12
theorem cd_X12_sheet : Cond.code yX12_sheet cX12_sheet 9 (some .int) ∈ TB := tw_1614
theorem dn_X12_sheet : (parseMethodDescriptor yX12_sheet.desc).map (fun d => d.parameters.length) = some 4 := by decide +kernel
theorem ds_X12_sheet : yX12_sheet.cls ≠ "java/lang/invoke/MethodHandle" ∧ yX12_sheet.cls ≠ "java/lang/invoke/VarHandle" ∧ (parseMethodDescriptor yX12_sheet.desc).map (fun d => d.parameters.length) = some 4 := ⟨by decide +kernel, by decide +kernel, dn_X12_sheet⟩
theorem iy_X12_sheet : Cond.instanceMethod yX12_sheet ∈ TB := tw_1612
theorem sy_X12_sheet : Cond.selects yX12_sheet.cls yX12_sheet yX12_sheet ∈ TB := tw_1613
theorem in_X12_shift : Cond.initialized yX12_shift.cls ∈ TB := icl_12
theorem cd_X12_shift : Cond.code yX12_shift cX12_shift 7 (some .int) ∈ TB := tw_1641
theorem dn_X12_shift : (parseMethodDescriptor yX12_shift.desc).map (fun d => d.parameters.length) = some 5 := by decide +kernel
theorem ds_X12_shift : yX12_shift.cls ≠ "java/lang/invoke/MethodHandle" ∧ yX12_shift.cls ≠ "java/lang/invoke/VarHandle" ∧ (parseMethodDescriptor yX12_shift.desc).map (fun d => d.parameters.length) = some 5 := ⟨by decide +kernel, by decide +kernel, dn_X12_shift⟩
theorem iy_X12_shift : Cond.instanceMethod yX12_shift ∈ TB := tw_1639
theorem sy_X12_shift : Cond.selects yX12_shift.cls yX12_shift yX12_shift ∈ TB := tw_1640
theorem in_X12_silly : Cond.initialized yX12_silly.cls ∈ TB := icl_12
theorem cd_X12_silly : Cond.code yX12_silly cX12_silly 5 (some .int) ∈ TB := tw_1529
theorem dn_X12_silly : (parseMethodDescriptor yX12_silly.desc).map (fun d => d.parameters.length) = some 1 := by decide +kernel
theorem ds_X12_silly : yX12_silly.cls ≠ "java/lang/invoke/MethodHandle" ∧ yX12_silly.cls ≠ "java/lang/invoke/VarHandle" ∧ (parseMethodDescriptor yX12_silly.desc).map (fun d => d.parameters.length) = some 1 := ⟨by decide +kernel, by decide +kernel, dn_X12_silly⟩
theorem iy_X12_silly : Cond.instanceMethod yX12_silly ∈ TB := tw_1527
theorem sy_X12_silly : Cond.selects yX12_silly.cls yX12_silly yX12_silly ∈ TB := tw_1528
theorem in_X12_taken : Cond.initialized yX12_taken.cls ∈ TB := icl_12
theorem cd_X12_taken : Cond.code yX12_taken cX12_taken 3 (some .int) ∈ TB := tw_1606
theorem dn_X12_taken : (parseMethodDescriptor yX12_taken.desc).map (fun d => d.parameters.length) = some 2 := by decide +kernel
theorem ds_X12_taken : yX12_taken.cls ≠ "java/lang/invoke/MethodHandle" ∧ yX12_taken.cls ≠ "java/lang/invoke/VarHandle" ∧ (parseMethodDescriptor yX12_taken.desc).map (fun d => d.parameters.length) = some 2 := ⟨by decide +kernel, by decide +kernel, dn_X12_taken⟩
theorem iy_X12_taken : Cond.instanceMethod yX12_taken ∈ TB := tw_1604
theorem sy_X12_taken : Cond.selects yX12_taken.cls yX12_taken yX12_taken ∈ TB := tw_1605
theorem in_X12_taker : Cond.initialized yX12_taker.cls ∈ TB := icl_12
theorem cd_X12_taker : Cond.code yX12_taker cX12_taker 2 (some .int) ∈ TB := tw_1276
theorem dn_X12_taker : (parseMethodDescriptor yX12_taker.desc).map (fun d => d.parameters.length) = some 1 := by decide +kernel
theorem ds_X12_taker : yX12_taker.cls ≠ "java/lang/invoke/MethodHandle" ∧ yX12_taker.cls ≠ "java/lang/invoke/VarHandle" ∧ (parseMethodDescriptor yX12_taker.desc).map (fun d => d.parameters.length) = some 1 := ⟨by decide +kernel, by decide +kernel, dn_X12_taker⟩
theorem iy_X12_taker : Cond.instanceMethod yX12_taker ∈ TB := tw_1274
theorem sy_X12_taker : Cond.selects yX12_taker.cls yX12_taker yX12_taker ∈ TB := tw_1275
theorem in_X12_tape : Cond.initialized yX12_tape.cls ∈ TB := icl_12
theorem cd_X12_tape : Cond.code yX12_tape cX12_tape 5 (some .int) ∈ TB := tw_1625
theorem dn_X12_tape : (parseMethodDescriptor yX12_tape.desc).map (fun d => d.parameters.length) = some 3 := by decide +kernel
theorem ds_X12_tape : yX12_tape.cls ≠ "java/lang/invoke/MethodHandle" ∧ yX12_tape.cls ≠ "java/lang/invoke/VarHandle" ∧ (parseMethodDescriptor yX12_tape.desc).map (fun d => d.parameters.length) = some 3 := ⟨by decide +kernel, by decide +kernel, dn_X12_tape⟩
theorem iy_X12_tape : Cond.instanceMethod yX12_tape ∈ TB := tw_1623
theorem sy_X12_tape : Cond.selects yX12_tape.cls yX12_tape yX12_tape ∈ TB := tw_1624
theorem in_X12_thing : Cond.initialized yX12_thing.cls ∈ TB := icl_12
theorem cd_X12_thing : Cond.code yX12_thing cX12_thing 4 (some .int) ∈ TB := tw_1260
theorem dn_X12_thing : (parseMethodDescriptor yX12_thing.desc).map (fun d => d.parameters.length) = some 3 := by decide +kernel
theorem ds_X12_thing : yX12_thing.cls ≠ "java/lang/invoke/MethodHandle" ∧ yX12_thing.cls ≠ "java/lang/invoke/VarHandle" ∧ (parseMethodDescriptor yX12_thing.desc).map (fun d => d.parameters.length) = some 3 := ⟨by decide +kernel, by decide +kernel, dn_X12_thing⟩
theorem iy_X12_thing : Cond.instanceMethod yX12_thing ∈ TB := tw_1258
theorem sy_X12_thing : Cond.selects yX12_thing.cls yX12_thing yX12_thing ∈ TB := tw_1259
theorem in_X12_trace : Cond.initialized yX12_trace.cls ∈ TB := icl_12
theorem cd_X12_trace : Cond.code yX12_trace cX12_trace 2 (some .int) ∈ TB := tw_1602
theorem dn_X12_trace : (parseMethodDescriptor yX12_trace.desc).map (fun d => d.parameters.length) = some 1 := by decide +kernel
theorem ds_X12_trace : yX12_trace.cls ≠ "java/lang/invoke/MethodHandle" ∧ yX12_trace.cls ≠ "java/lang/invoke/VarHandle" ∧ (parseMethodDescriptor yX12_trace.desc).map (fun d => d.parameters.length) = some 1 := ⟨by decide +kernel, by decide +kernel, dn_X12_trace⟩
theorem iy_X12_trace : Cond.instanceMethod yX12_trace ∈ TB := tw_1600
theorem sy_X12_trace : Cond.selects yX12_trace.cls yX12_trace yX12_trace ∈ TB := tw_1601
theorem in_X12_weight : Cond.initialized yX12_weight.cls ∈ TB := icl_12
theorem cd_X12_weight : Cond.code yX12_weight cX12_weight 4 (some .int) ∈ TB := tw_1387
theorem dn_X12_weight : (parseMethodDescriptor yX12_weight.desc).map (fun d => d.parameters.length) = some 3 := by decide +kernel
theorem ds_X12_weight : yX12_weight.cls ≠ "java/lang/invoke/MethodHandle" ∧ yX12_weight.cls ≠ "java/lang/invoke/VarHandle" ∧ (parseMethodDescriptor yX12_weight.desc).map (fun d => d.parameters.length) = some 3 := ⟨by decide +kernel, by decide +kernel, dn_X12_weight⟩
theorem iy_X12_weight : Cond.instanceMethod yX12_weight ∈ TB := tw_1385
theorem sy_X12_weight : Cond.selects yX12_weight.cls yX12_weight yX12_weight ∈ TB := tw_1386
theorem in_X12_which : Cond.initialized yX12_which.cls ∈ TB := icl_12
theorem cd_X12_which : Cond.code yX12_which cX12_which 9 (some .int) ∈ TB := tw_1469
theorem dn_X12_which : (parseMethodDescriptor yX12_which.desc).map (fun d => d.parameters.length) = some 2 := by decide +kernel
theorem ds_X12_which : yX12_which.cls ≠ "java/lang/invoke/MethodHandle" ∧ yX12_which.cls ≠ "java/lang/invoke/VarHandle" ∧ (parseMethodDescriptor yX12_which.desc).map (fun d => d.parameters.length) = some 2 := ⟨by decide +kernel, by decide +kernel, dn_X12_which⟩
theorem iy_X12_which : Cond.instanceMethod yX12_which ∈ TB := tw_1467
theorem sy_X12_which : Cond.selects yX12_which.cls yX12_which yX12_which ∈ TB := tw_1468
theorem in_X12_worse : Cond.initialized yX12_worse.cls ∈ TB := icl_12
theorem cd_X12_worse : Cond.code yX12_worse cX12_worse 6 (some .int) ∈ TB := tw_1558
theorem dn_X12_worse : (parseMethodDescriptor yX12_worse.desc).map (fun d => d.parameters.length) = some 3 := by decide +kernel
theorem ds_X12_worse : yX12_worse.cls ≠ "java/lang/invoke/MethodHandle" ∧ yX12_worse.cls ≠ "java/lang/invoke/VarHandle" ∧ (parseMethodDescriptor yX12_worse.desc).map (fun d => d.parameters.length) = some 3 := ⟨by decide +kernel, by decide +kernel, dn_X12_worse⟩
theorem iy_X12_worse : Cond.instanceMethod yX12_worse ∈ TB := tw_1556
theorem sy_X12_worse : Cond.selects yX12_worse.cls yX12_worse yX12_worse ∈ TB := tw_1557
theorem in_X12_would : Cond.initialized yX12_would.cls ∈ TB := icl_12
theorem cd_X12_would : Cond.code yX12_would cX12_would 3 (some .int) ∈ TB := tw_1509
theorem dn_X12_would : (parseMethodDescriptor yX12_would.desc).map (fun d => d.parameters.length) = some 2 := by decide +kernel
theorem ds_X12_would : yX12_would.cls ≠ "java/lang/invoke/MethodHandle" ∧ yX12_would.cls ≠ "java/lang/invoke/VarHandle" ∧ (parseMethodDescriptor yX12_would.desc).map (fun d => d.parameters.length) = some 2 := ⟨by decide +kernel, by decide +kernel, dn_X12_would⟩
theorem iy_X12_would : Cond.instanceMethod yX12_would ∈ TB := tw_1507
theorem sy_X12_would : Cond.selects yX12_would.cls yX12_would yX12_would ∈ TB := tw_1508
abbrev xX2_43 : MethodName := ⟨RX7, "weighsBody", "(ILWhyChosen$Trace;)I"⟩
abbrev xX2_49 : MethodName := ⟨RX7, "tellsBody", "(ILWhyChosen$Trace;)I"⟩
abbrev xX5_61 : MethodName := ⟨RX7, "weighsBody", "(ILWhyChosen$Trace;)I"⟩
abbrev xX5_65 : MethodName := ⟨RX7, "tellsBody", "(ILWhyChosen$Trace;)I"⟩
theorem kc_X12_227 : Cond.constant RX12 227 (24627848 : Int32) ∈ TB := tw_1329
theorem kc_X12_231 : Cond.constant RX12 231 (427595 : Int32) ∈ TB := tw_1354
theorem kc_X12_232 : Cond.constant RX12 232 (370116 : Int32) ∈ TB := tw_1359
theorem kc_X12_233 : Cond.constant RX12 233 (533611 : Int32) ∈ TB := tw_1364
theorem kc_X12_237 : Cond.constant RX12 237 (17376357 : Int32) ∈ TB := tw_1381
theorem kc_X12_250 : Cond.constant RX12 250 (409067 : Int32) ∈ TB := tw_1382
theorem kc_X12_251 : Cond.constant RX12 251 (474565 : Int32) ∈ TB := tw_1383
theorem kl_X11_141 : Cond.constantLong RX11 141 (-9223372036854775808 : Int64) ∈ TB := tw_605
theorem kl_X11_303 : Cond.constantLong RX11 303 (100 : Int64) ∈ TB := tw_1050
theorem kl_X11_305 : Cond.constantLong RX11 305 (64 : Int64) ∈ TB := tw_1051
theorem kl_X12_296 : Cond.constantLong RX12 296 (-9223372036854775808 : Int64) ∈ TB := tw_1404
theorem kl_X12_306 : Cond.constantLong RX12 306 (1000 : Int64) ∈ TB := tw_1453
theorem kl_X12_339 : Cond.constantLong RX12 339 (-1 : Int64) ∈ TB := tw_1554
theorem kl_X12_371 : Cond.constantLong RX12 371 (6400 : Int64) ∈ TB := tw_1619
theorem kl_X12_373 : Cond.constantLong RX12 373 (100 : Int64) ∈ TB := tw_1620
theorem kl_X4_81 : Cond.constantLong RX4 81 (1000 : Int64) ∈ TB := tw_761
theorem lk_X0_28 : (RX0, 28, yX11_isIn, "WhyChosen") ∈ nestT := List.mem_of_getElem? (i := 0) rfl
theorem lk_X10_17 : Cond.methodLink RX10 17 Lib.Math.min.name ∈ TB := tw_1034
theorem lk_X11_130 : Cond.methodLink RX11 130 yX11_modelAt ∈ TB := tw_578
theorem lk_X11_134 : Cond.methodLink RX11 134 yX11_isOption ∈ TB := tw_582
theorem lk_X11_143 : Cond.methodLink RX11 143 yX1_hasSome ∈ TB := tw_216
theorem lk_X11_161 : Cond.methodLink RX11 161 yX11_greatestCommon ∈ TB := tw_737
theorem lk_X11_165 : Cond.methodLink RX11 165 yX11_isScored ∈ TB := tw_744
theorem lk_X11_168 : Cond.methodLink RX11 168 yX11_scoreOf ∈ TB := tw_747
theorem lk_X11_172 : Cond.methodLink RX11 172 yX11_missesOf ∈ TB := tw_766
theorem lk_X11_181 : Cond.methodLink RX11 181 yX11_gatherOne ∈ TB := tw_792
theorem lk_X11_185 : Cond.methodLink RX11 185 yX6_countAgreeing ∈ TB := tw_813
theorem lk_X11_189 : Cond.methodLink RX11 189 yX6_fewestBroken ∈ TB := tw_829
theorem lk_X11_192 : Cond.methodLink RX11 192 yX11_gatherMore ∈ TB := tw_800
theorem lk_X11_195 : Cond.methodLink RX11 195 yX11_couldTake ∈ TB := tw_846
theorem lk_X11_199 : Cond.methodLink RX11 199 yX11_isIn ∈ TB := tw_224
theorem lk_X11_202 : Cond.methodLink RX11 202 yX6_countTakes ∈ TB := tw_850
theorem lk_X11_205 : Cond.methodLink RX11 205 yX6_mostTakes ∈ TB := tw_870
theorem lk_X11_208 : Cond.methodLink RX11 208 yX1_hasAll ∈ TB := tw_879
theorem lk_X11_211 : Cond.methodLink RX11 211 yX1_isSilly ∈ TB := tw_880
theorem lk_X11_214 : Cond.methodLink RX11 214 yX0_countWith ∈ TB := tw_896
theorem lk_X11_218 : Cond.methodLink RX11 218 yX11_compareAway ∈ TB := tw_901
theorem lk_X11_221 : Cond.methodLink RX11 221 yX11_coinOf ∈ TB := tw_909
theorem lk_X11_225 : Cond.methodLink RX11 225 yJ6_bitCount_0f7a4 ∈ TB := tw_921
theorem lk_X11_234 : Cond.methodLink RX11 234 yX10_clear ∈ TB := tw_944
theorem lk_X11_247 : Cond.methodLink RX11 247 yX10_kept ∈ TB := tw_1030
theorem lk_X11_253 : Cond.methodLink RX11 253 yX11_isOfKind ∈ TB := tw_1039
theorem lk_X11_260 : Cond.methodLink RX11 260 yX11_tellLine ∈ TB := tw_1046
theorem lk_X11_264 : Cond.methodLink RX11 264 yX11_ordersThereAre ∈ TB := tw_1056
theorem lk_X11_270 : Cond.methodLink RX11 270 yX11_asItem ∈ TB := tw_1068
theorem lk_X11_274 : Cond.methodLink RX11 274 yX11_fits ∈ TB := tw_1079
theorem lk_X11_278 : Cond.methodLink RX11 278 arraycopyName ∈ TB := tw_1082
theorem lk_X11_302 : Cond.methodLink RX11 302 yX0_add ∈ TB := tw_227
theorem lk_X11_313 : Cond.methodLink RX11 313 yX6_clear ∈ TB := tw_796
theorem lk_X11_315 : Cond.methodLink RX11 315 yX6_require ∈ TB := tw_804
theorem lk_X11_319 : Cond.methodLink RX11 319 yX6_takenBits ∈ TB := tw_854
theorem lk_X11_322 : Cond.methodLink RX11 322 yX11_coinOfShares ∈ TB := tw_913
theorem lk_X11_69 : Cond.methodLink RX11 69 yX11_within ∈ TB := tw_188
theorem lk_X11_80 : Cond.methodLink RX11 80 yX1_add ∈ TB := tw_191
theorem lk_X11_84 : Cond.methodLink RX11 84 yX1_has ∈ TB := tw_199
theorem lk_X11_94 : Cond.methodLink RX11 94 yX11_tellChoice ∈ TB := tw_212
theorem lk_X12_178 : Cond.methodLink RX12 178 yX12_in ∈ TB := tw_1261
theorem lk_X12_182 : Cond.methodLink RX12 182 yX12_isThing ∈ TB := tw_1269
theorem lk_X12_186 : Cond.methodLink RX12 186 yX12_isTaker ∈ TB := tw_1281
theorem lk_X12_189 : Cond.methodLink RX12 189 yX12_isSet ∈ TB := tw_1285
theorem lk_X12_192 : Cond.methodLink RX12 192 yX12_has ∈ TB := tw_1289
theorem lk_X12_196 : Cond.methodLink RX12 196 yX12_isChoice ∈ TB := tw_1297
theorem lk_X12_199 : Cond.methodLink RX12 199 yX12_nextByte ∈ TB := tw_1321
theorem lk_X12_203 : Cond.methodLink RX12 203 yX12_takes ∈ TB := tw_1334
theorem lk_X12_206 : Cond.methodLink RX12 206 yX12_isDigit ∈ TB := tw_1346
theorem lk_X12_210 : Cond.methodLink RX12 210 yX12_takesNumber ∈ TB := tw_1342
theorem lk_X12_213 : Cond.methodLink RX12 213 yX12_push ∈ TB := tw_1373
theorem lk_X12_217 : Cond.methodLink RX12 217 yX12_takesFigure ∈ TB := tw_1338
theorem lk_X12_220 : Cond.methodLink RX12 220 yX12_takesTest ∈ TB := tw_1369
theorem lk_X12_223 : Cond.methodLink RX12 223 yX12_settle ∈ TB := tw_1377
theorem lk_X12_228 : Cond.methodLink RX12 228 yX12_takesWord ∈ TB := tw_1330
theorem lk_X12_234 : Cond.methodLink RX12 234 yX12_takesE ∈ TB := tw_1365
theorem lk_X12_238 : Cond.methodLink RX12 238 yX12_takesWorth ∈ TB := tw_1325
theorem lk_X12_241 : Cond.methodLink RX12 241 yX12_takesMark ∈ TB := tw_1350
theorem lk_X12_244 : Cond.methodLink RX12 244 yX12_takesKind ∈ TB := tw_1355
theorem lk_X12_247 : Cond.methodLink RX12 247 yX12_takesP ∈ TB := tw_1360
theorem lk_X12_252 : Cond.methodLink RX12 252 yX12_takesClause ∈ TB := tw_1317
theorem lk_X12_255 : Cond.methodLink RX12 255 yX12_goes ∈ TB := tw_1313
theorem lk_X12_258 : Cond.methodLink RX12 258 yX12_isModel ∈ TB := tw_1388
theorem lk_X12_261 : Cond.methodLink RX12 261 yX12_listen ∈ TB := tw_1392
theorem lk_X12_264 : Cond.methodLink RX12 264 yX12_weightOf ∈ TB := tw_1396
theorem lk_X12_268 : Cond.methodLink RX12 268 yX12_putOdds ∈ TB := tw_1409
theorem lk_X12_272 : Cond.methodLink RX12 272 yX12_greatestOf ∈ TB := tw_1421
theorem lk_X12_276 : Cond.methodLink RX12 276 yX12_plain ∈ TB := tw_1413
theorem lk_X12_280 : Cond.methodLink RX12 280 yX12_ones ∈ TB := tw_1433
theorem lk_X12_284 : Cond.methodLink RX12 284 yX12_nested ∈ TB := tw_1417
theorem lk_X12_287 : Cond.methodLink RX12 287 yX12_mixed ∈ TB := tw_1425
theorem lk_X12_290 : Cond.methodLink RX12 290 yX12_seenOf ∈ TB := tw_1429
theorem lk_X12_293 : Cond.methodLink RX12 293 yX12_pickedOf ∈ TB := tw_1437
theorem lk_X12_298 : Cond.methodLink RX12 298 yX12_findOdds ∈ TB := tw_1405
theorem lk_X12_302 : Cond.methodLink RX12 302 yX12_divisor ∈ TB := tw_1441
theorem lk_X12_308 : Cond.methodLink RX12 308 yX12_scoreOf ∈ TB := tw_1449
theorem lk_X12_311 : Cond.methodLink RX12 311 yX12_missesOf ∈ TB := tw_1458
theorem lk_X12_314 : Cond.methodLink RX12 314 yX12_orders ∈ TB := tw_1482
theorem lk_X12_317 : Cond.methodLink RX12 317 yX12_unrank ∈ TB := tw_1486
theorem lk_X12_320 : Cond.methodLink RX12 320 yX12_takenFrom ∈ TB := tw_1494
theorem lk_X12_323 : Cond.methodLink RX12 323 yX12_findPlaces ∈ TB := tw_1478
theorem lk_X12_326 : Cond.methodLink RX12 326 yX12_against ∈ TB := tw_1490
theorem lk_X12_329 : Cond.methodLink RX12 329 yX12_findAgreeing ∈ TB := tw_1474
theorem lk_X12_332 : Cond.methodLink RX12 332 yX12_wouldOf ∈ TB := tw_1510
theorem lk_X12_335 : Cond.methodLink RX12 335 yX12_coinOf ∈ TB := tw_1542
theorem lk_X12_341 : Cond.methodLink RX12 341 yX12_greatestIn ∈ TB := tw_1559
theorem lk_X12_344 : Cond.methodLink RX12 344 yX12_body ∈ TB := tw_1571
theorem lk_X12_347 : Cond.methodLink RX12 347 yX12_plainWeighs ∈ TB := tw_1575
theorem lk_X12_350 : Cond.methodLink RX12 350 yX12_weighs ∈ TB := tw_1567
theorem lk_X12_353 : Cond.methodLink RX12 353 yX12_modelOdds ∈ TB := tw_1587
theorem lk_X12_356 : Cond.methodLink RX12 356 yX12_plainOdds ∈ TB := tw_1583
theorem lk_X12_359 : Cond.methodLink RX12 359 yX12_oddsBy ∈ TB := tw_1579
theorem lk_X12_362 : Cond.methodLink RX12 362 yX12_plainTells ∈ TB := tw_1595
theorem lk_X12_365 : Cond.methodLink RX12 365 yX12_tells ∈ TB := tw_1591
theorem lk_X12_368 : Cond.methodLink RX12 368 yX12_isTape ∈ TB := tw_1615
theorem lk_X12_375 : Cond.methodLink RX12 375 yX12_choice ∈ TB := tw_1621
theorem lk_X12_378 : Cond.methodLink RX12 378 yX12_narrow ∈ TB := tw_1630
theorem lk_X1_25 : (RX1, 25, yX11_within, "WhyChosen") ∈ nestT := List.mem_of_getElem? (i := 1) rfl
theorem lk_X1_29 : Cond.methodLink RX1 29 yX1_hasAll ∈ TB := tw_220
theorem lk_X1_33 : Cond.methodLink RX1 33 yJ6_bitCount_0f7a4 ∈ TB := tw_652
theorem lk_X1_39 : (RX1, 39, yX11_isIn, "WhyChosen") ∈ nestT := List.mem_of_getElem? (i := 2) rfl
theorem lk_X1_42 : Cond.methodLink RX1 42 yX1_outdoesAll ∈ TB := tw_884
theorem lk_X1_45 : Cond.methodLink RX1 45 yX1_passes ∈ TB := tw_630
theorem lk_X2_13 : Cond.methodLink RX2 13 yX7_share ∈ TB := tw_658
theorem lk_X2_27 : Cond.methodLink RX2 27 yX1_mostMarkedOf ∈ TB := tw_648
theorem lk_X2_33 : Cond.methodLink RX2 33 yX10_note ∈ TB := tw_979
theorem lk_X2_39 : Cond.methodLink RX2 39 yX7_oddsBody ∈ TB := tw_980
theorem lk_X2_43 : Cond.methodLink RX2 43 xX2_43 ∈ TB := tw_985
theorem lk_X2_49 : Cond.methodLink RX2 49 xX2_49 ∈ TB := tw_1003
theorem lk_X2_7 : Cond.methodLink RX2 7 yX2_seenOf ∈ TB := tw_644
theorem lk_X3_21 : Cond.methodLink RX3 21 yX7_share ∈ TB := tw_693
theorem lk_X3_37 : (RX3, 37, yX11_isIn, "WhyChosen") ∈ nestT := List.mem_of_getElem? (i := 3) rfl
theorem lk_X3_48 : Cond.methodLink RX3 48 yX10_note ∈ TB := tw_989
theorem lk_X3_54 : Cond.methodLink RX3 54 yX7_oddsBody ∈ TB := tw_990
theorem lk_X4_38 : Cond.methodLink RX4 38 Lib.Math.min.name ∈ TB := tw_596
theorem lk_X4_52 : (RX4, 52, yX11_isIn, "WhyChosen") ∈ nestT := List.mem_of_getElem? (i := 4) rfl
theorem lk_X4_65 : Cond.methodLink RX4 65 Lib.Math.max.name ∈ TB := tw_600
theorem lk_X4_86 : Cond.methodLink RX4 86 yJ6_bitCount_0f7a4 ∈ TB := tw_736
theorem lk_X4_92 : Cond.methodLink RX4 92 yX10_note ∈ TB := tw_971
theorem lk_X5_22 : Cond.methodLink RX5 22 yX5_gatherNests ∈ TB := tw_710
theorem lk_X5_36 : (RX5, 36, yX11_isIn, "WhyChosen") ∈ nestT := List.mem_of_getElem? (i := 5) rfl
theorem lk_X5_50 : Cond.methodLink RX5 50 Lib.Math.max.name ∈ TB := tw_718
theorem lk_X5_55 : Cond.methodLink RX5 55 yX10_note ∈ TB := tw_957
theorem lk_X5_61 : Cond.methodLink RX5 61 xX5_61 ∈ TB := tw_961
theorem lk_X5_65 : Cond.methodLink RX5 65 xX5_65 ∈ TB := tw_1010
theorem lk_X6_37 : Cond.methodLink RX6 37 yX6_withNothing ∈ TB := tw_808
theorem lk_X6_41 : (RX6, 41, yX11_isIn, "WhyChosen") ∈ nestT := List.mem_of_getElem? (i := 6) rfl
theorem lk_X6_45 : Cond.methodLink RX6 45 yX6_mayFollow ∈ TB := tw_817
theorem lk_X6_48 : Cond.methodLink RX6 48 yX6_countRests ∈ TB := tw_821
theorem lk_X6_52 : Cond.methodLink RX6 52 Lib.Math.max.name ∈ TB := tw_874
theorem lk_X6_58 : Cond.methodLink RX6 58 yX6_countBroken ∈ TB := tw_833
theorem lk_X6_62 : Cond.methodLink RX6 62 Lib.Math.min.name ∈ TB := tw_837
theorem lk_X7_29 : (RX7, 29, yX11_isIn, "WhyChosen") ∈ nestT := List.mem_of_getElem? (i := 7) rfl
theorem lk_X7_40 : Cond.methodLink RX7 40 yX10_note ∈ TB := tw_983
theorem lk_X7_46 : Cond.methodLink RX7 46 yX4_oddsBody ∈ TB := tw_984
theorem lk_X8_17 : Cond.methodLink RX8 17 yX9_runPicks ∈ TB := tw_618
theorem lk_X8_30 : Cond.methodLink RX8 30 yX9_pickFrom ∈ TB := tw_726
theorem lk_X8_34 : Cond.methodLink RX8 34 yX10_note ∈ TB := tw_968
theorem lk_X8_40 : Cond.methodLink RX8 40 yX4_weighsBody ∈ TB := tw_969
theorem lk_X8_51 : Cond.methodLink RX8 51 yX4_tellsBody ∈ TB := tw_1023
theorem lk_X8_7 : Cond.methodLink RX8 7 yX4_prepare ∈ TB := tw_617
theorem lk_X9_102 : Cond.methodLink RX9 102 yX9_wordAt ∈ TB := tw_328
theorem lk_X9_106 : Cond.methodLink RX9 106 yX9_countAlike ∈ TB := tw_338
theorem lk_X9_110 : Cond.methodLink RX9 110 Lib.Math.max.name ∈ TB := tw_390
theorem lk_X9_115 : Cond.methodLink RX9 115 yJ0_length_8abf5 ∈ TB := tw_342
theorem lk_X9_119 : Cond.methodLink RX9 119 yJ0_charAt_5068e ∈ TB := tw_352
theorem lk_X9_129 : Cond.methodLink RX9 129 yX9_readAll ∈ TB := tw_425
theorem lk_X9_132 : Cond.methodLink RX9 132 yX9_emit ∈ TB := tw_433
theorem lk_X9_136 : Cond.methodLink RX9 136 yX9_readOne ∈ TB := tw_429
theorem lk_X9_139 : Cond.methodLink RX9 139 yX9_readPriceTest ∈ TB := tw_437
theorem lk_X9_142 : Cond.methodLink RX9 142 yX9_readFigureTest ∈ TB := tw_441
theorem lk_X9_145 : Cond.methodLink RX9 145 yX9_readFigure ∈ TB := tw_405
theorem lk_X9_148 : Cond.methodLink RX9 148 yX9_readNumber ∈ TB := tw_413
theorem lk_X9_151 : Cond.methodLink RX9 151 yX9_holdingFor ∈ TB := tw_622
theorem lk_X9_155 : Cond.methodLink RX9 155 yX1_cheapestOf ∈ TB := tw_730
theorem lk_X9_161 : Cond.methodLink RX9 161 yX1_passing ∈ TB := tw_626
theorem lk_X9_46 : Cond.methodLink RX9 46 yX9_readClause ∈ TB := tw_320
theorem lk_X9_56 : Cond.methodLink RX9 56 yX9_take ∈ TB := tw_401
theorem lk_X9_60 : Cond.methodLink RX9 60 yX9_readWord ∈ TB := tw_324
theorem lk_X9_64 : Cond.methodLink RX9 64 yX9_readWorth ∈ TB := tw_393
theorem lk_X9_68 : Cond.methodLink RX9 68 yX9_readPart ∈ TB := tw_409
theorem lk_X9_77 : Cond.methodLink RX9 77 yX9_readFigurePart ∈ TB := tw_397
theorem lk_X9_81 : Cond.methodLink RX9 81 yX9_readKind ∈ TB := tw_417
theorem lk_X9_84 : Cond.methodLink RX9 84 yX9_readAny ∈ TB := tw_421
theorem lk_X9_88 : Cond.methodLink RX9 88 yX9_endPick ∈ TB := tw_445
theorem sms_X4_oddsBody : Cond.sameMethod yX4_oddsBody.cls yX4_oddsBody.cls yX4_oddsBody.name yX4_oddsBody.desc ∈ TB := tw_975
theorem sms_X4_prepare : Cond.sameMethod yX4_prepare.cls yX4_prepare.cls yX4_prepare.name yX4_prepare.desc ∈ TB := tw_609
theorem sms_X4_tellsBody : Cond.sameMethod yX4_tellsBody.cls yX4_tellsBody.cls yX4_tellsBody.name yX4_tellsBody.desc ∈ TB := tw_999
theorem sms_X4_weighsBody : Cond.sameMethod yX4_weighsBody.cls yX4_weighsBody.cls yX4_weighsBody.name yX4_weighsBody.desc ∈ TB := tw_951
theorem sms_X7_oddsBody : Cond.sameMethod yX7_oddsBody.cls yX7_oddsBody.cls yX7_oddsBody.name yX7_oddsBody.desc ∈ TB := tw_1658
theorem sms_X7_share : Cond.sameMethod yX7_share.cls yX7_share.cls yX7_share.name yX7_share.desc ∈ TB := tw_1643
theorem smx_X2_43 : Cond.sameMethod xX2_43.cls yX4_weighsBody.cls xX2_43.name xX2_43.desc ∈ TB := tw_962
theorem smx_X2_49 : Cond.sameMethod xX2_49.cls yX4_tellsBody.cls xX2_49.name xX2_49.desc ∈ TB := tw_1004
theorem smx_X5_61 : Cond.sameMethod xX5_61.cls yX4_weighsBody.cls xX5_61.name xX5_61.desc ∈ TB := tw_962
theorem smx_X5_65 : Cond.sameMethod xX5_65.cls yX4_tellsBody.cls xX5_65.name xX5_65.desc ∈ TB := tw_1004
theorem sup_X2_X7_oddsBody : Cond.superclass RX2 yX7_oddsBody.cls ∈ TB := tw_551
theorem sup_X2_X7_share : Cond.superclass RX2 yX7_share.cls ∈ TB := tw_551
theorem sup_X3_X7_oddsBody : Cond.superclass RX3 yX7_oddsBody.cls ∈ TB := tw_538
theorem sup_X3_X7_share : Cond.superclass RX3 yX7_share.cls ∈ TB := tw_538
theorem sup_X7_X4_oddsBody : Cond.superclass RX7 yX4_oddsBody.cls ∈ TB := tw_505
theorem sup_X8_X4_prepare : Cond.superclass RX8 yX4_prepare.cls ∈ TB := tw_564
theorem sup_X8_X4_tellsBody : Cond.superclass RX8 yX4_tellsBody.cls ∈ TB := tw_564
theorem sup_X8_X4_weighsBody : Cond.superclass RX8 yX4_weighsBody.cls ∈ TB := tw_564
theorem sux_X2_43 : Cond.superclass RX2 xX2_43.cls ∈ TB := tw_551
theorem sux_X2_49 : Cond.superclass RX2 xX2_49.cls ∈ TB := tw_551
theorem sux_X5_61 : Cond.superclass RX5 xX5_61.cls ∈ TB := tw_525
theorem sux_X5_65 : Cond.superclass RX5 xX5_65.cls ∈ TB := tw_525
theorem suy_X2_43 : Cond.superclass xX2_43.cls yX4_weighsBody.cls ∈ TB := tw_505
theorem suy_X2_49 : Cond.superclass xX2_49.cls yX4_tellsBody.cls ∈ TB := tw_505
theorem suy_X5_61 : Cond.superclass xX5_61.cls yX4_weighsBody.cls ∈ TB := tw_505
theorem suy_X5_65 : Cond.superclass xX5_65.cls yX4_tellsBody.cls ∈ TB := tw_505
theorem sm_max : Cond.static Lib.Math.max.name ∈ TB := tw_391
theorem cm_max : Cond.code Lib.Math.max.name Lib.Math.max.code 2 (some .int) ∈ TB := tw_392
theorem sm_min : Cond.static Lib.Math.min.name ∈ TB := tw_597
theorem cm_min : Cond.code Lib.Math.min.name Lib.Math.min.code 2 (some .int) ∈ TB := tw_598
theorem im_Math : Cond.initialized "java/lang/Math" ∈ TB := tw_12
theorem im_System : Cond.initialized "java/lang/System" ∈ TB := tw_20
theorem nt_copy : Cond.native arraycopyName ∈ TB := tw_1084
theorem st_copy : Cond.static arraycopyName ∈ TB := tw_1083
