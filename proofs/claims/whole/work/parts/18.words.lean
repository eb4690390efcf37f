/-! words for the constructors (laid by program) -/
def bl_1 : List Cond := [Cond.instanceMethod yX11_init, Cond.code yX11_init cX11_init 2 none, Cond.methodLink "WhyChosen" 3 objectInit, Cond.instanceMethod objectInit, Cond.code objectInit ⟨#[0xb1]⟩ 1 none, Cond.classLink "WhyChosen" 9 "WhyChosen$Goods", Cond.methodLink "WhyChosen" 11 yX1_init, Cond.instanceMethod yX1_init, Cond.code yX1_init cX1_init 1 none, Cond.methodLink "WhyChosen$Goods" 3 objectInit, Cond.arrayClass .int, Cond.classLink "WhyChosen" 25 "WhyChosen$Choices", Cond.methodLink "WhyChosen" 27 yX0_init, Cond.instanceMethod yX0_init, Cond.code yX0_init cX0_init 1 none, Cond.methodLink "WhyChosen$Choices" 3 objectInit, Cond.classLink "WhyChosen" 35 "WhyChosen$Model", Cond.classLink "WhyChosen" 41 "WhyChosen$Orders", Cond.methodLink "WhyChosen" 43 yX6_init, Cond.instanceMethod yX6_init, Cond.code yX6_init cX6_init 1 none, Cond.methodLink "WhyChosen$Orders" 3 objectInit, Cond.classLink "WhyChosen" 51 "WhyChosen$Trace", Cond.methodLink "WhyChosen" 53 yX10_init]
set_option maxRecDepth 100000 in
theorem blk_1 : ∀ w ∈ bl_1, w ∈ TB := TB_all tIn1 [24, 0, 0, 0, 0, 0, 1, 0, 0, 0, 21, 0, 1, 0, 0, 0, 21, 1, 1, 0, 0, 0, 25, 1] rfl rfl
theorem tw_24 : Cond.instanceMethod yX11_init ∈ TB := blk_1 _ (List.mem_of_getElem? (i := 0) rfl)
theorem tw_25 : Cond.code yX11_init cX11_init 2 none ∈ TB := blk_1 _ (List.mem_of_getElem? (i := 1) rfl)
theorem tw_26 : Cond.methodLink "WhyChosen" 3 objectInit ∈ TB := blk_1 _ (List.mem_of_getElem? (i := 2) rfl)
theorem tw_27 : Cond.instanceMethod objectInit ∈ TB := blk_1 _ (List.mem_of_getElem? (i := 3) rfl)
theorem tw_28 : Cond.code objectInit ⟨#[0xb1]⟩ 1 none ∈ TB := blk_1 _ (List.mem_of_getElem? (i := 4) rfl)
theorem tw_29 : Cond.classLink "WhyChosen" 9 "WhyChosen$Goods" ∈ TB := blk_1 _ (List.mem_of_getElem? (i := 5) rfl)
theorem tw_31 : Cond.methodLink "WhyChosen" 11 yX1_init ∈ TB := blk_1 _ (List.mem_of_getElem? (i := 6) rfl)
theorem tw_32 : Cond.instanceMethod yX1_init ∈ TB := blk_1 _ (List.mem_of_getElem? (i := 7) rfl)
theorem tw_33 : Cond.code yX1_init cX1_init 1 none ∈ TB := blk_1 _ (List.mem_of_getElem? (i := 8) rfl)
theorem tw_34 : Cond.methodLink "WhyChosen$Goods" 3 objectInit ∈ TB := blk_1 _ (List.mem_of_getElem? (i := 9) rfl)
theorem tw_56 : Cond.arrayClass .int ∈ TB := blk_1 _ (List.mem_of_getElem? (i := 10) rfl)
theorem tw_57 : Cond.classLink "WhyChosen" 25 "WhyChosen$Choices" ∈ TB := blk_1 _ (List.mem_of_getElem? (i := 11) rfl)
theorem tw_59 : Cond.methodLink "WhyChosen" 27 yX0_init ∈ TB := blk_1 _ (List.mem_of_getElem? (i := 12) rfl)
theorem tw_60 : Cond.instanceMethod yX0_init ∈ TB := blk_1 _ (List.mem_of_getElem? (i := 13) rfl)
theorem tw_61 : Cond.code yX0_init cX0_init 1 none ∈ TB := blk_1 _ (List.mem_of_getElem? (i := 14) rfl)
theorem tw_62 : Cond.methodLink "WhyChosen$Choices" 3 objectInit ∈ TB := blk_1 _ (List.mem_of_getElem? (i := 15) rfl)
theorem tw_84 : Cond.classLink "WhyChosen" 35 "WhyChosen$Model" ∈ TB := blk_1 _ (List.mem_of_getElem? (i := 16) rfl)
theorem tw_86 : Cond.classLink "WhyChosen" 41 "WhyChosen$Orders" ∈ TB := blk_1 _ (List.mem_of_getElem? (i := 17) rfl)
theorem tw_88 : Cond.methodLink "WhyChosen" 43 yX6_init ∈ TB := blk_1 _ (List.mem_of_getElem? (i := 18) rfl)
theorem tw_89 : Cond.instanceMethod yX6_init ∈ TB := blk_1 _ (List.mem_of_getElem? (i := 19) rfl)
theorem tw_90 : Cond.code yX6_init cX6_init 1 none ∈ TB := blk_1 _ (List.mem_of_getElem? (i := 20) rfl)
theorem tw_91 : Cond.methodLink "WhyChosen$Orders" 3 objectInit ∈ TB := blk_1 _ (List.mem_of_getElem? (i := 21) rfl)
theorem tw_117 : Cond.classLink "WhyChosen" 51 "WhyChosen$Trace" ∈ TB := blk_1 _ (List.mem_of_getElem? (i := 22) rfl)
theorem tw_119 : Cond.methodLink "WhyChosen" 53 yX10_init ∈ TB := blk_1 _ (List.mem_of_getElem? (i := 23) rfl)
def bl_2 : List Cond := [Cond.instanceMethod yX10_init, Cond.code yX10_init cX10_init 1 none, Cond.methodLink "WhyChosen$Trace" 1 objectInit, Cond.classLink "WhyChosen" 64 "[[J", Cond.arrayClass .long]
set_option maxRecDepth 100000 in
theorem blk_2 : ∀ w ∈ bl_2, w ∈ TB := TB_all tIn1 [120, 0, 0, 9, 50] rfl rfl
theorem tw_120 : Cond.instanceMethod yX10_init ∈ TB := blk_2 _ (List.mem_of_getElem? (i := 0) rfl)
theorem tw_121 : Cond.code yX10_init cX10_init 1 none ∈ TB := blk_2 _ (List.mem_of_getElem? (i := 1) rfl)
theorem tw_122 : Cond.methodLink "WhyChosen$Trace" 1 objectInit ∈ TB := blk_2 _ (List.mem_of_getElem? (i := 2) rfl)
theorem tw_132 : Cond.classLink "WhyChosen" 64 "[[J" ∈ TB := blk_2 _ (List.mem_of_getElem? (i := 3) rfl)
theorem tw_183 : Cond.arrayClass .long ∈ TB := blk_2 _ (List.mem_of_getElem? (i := 4) rfl)
def bl_3 : List Cond := [Cond.instanceMethod yX11_model, Cond.selects "WhyChosen" yX11_model yX11_model, Cond.code yX11_model cX11_model 3 (some .int), Cond.instanceMethod yX9_init, Cond.code yX9_init cX9_init 4 none, Cond.methodLink "WhyChosen$Text" 3 objectInit, Cond.static yX11_newModel, Cond.code yX11_newModel cX11_newModel 3 (some (.object "WhyChosen$Model")), Cond.instanceMethod yX7_init, Cond.code yX7_init cX7_init 4 none, Cond.methodLink "WhyChosen$Plain" 3 yX4_init, Cond.instanceMethod yX4_init, Cond.code yX4_init cX4_init 4 none, Cond.methodLink "WhyChosen$Model" 3 objectInit, Cond.fieldLink "WhyChosen$Model" 22 "WhyChosen$Model" "kind" "I"]
set_option maxRecDepth 100000 in
theorem blk_3 : ∀ w ∈ bl_3, w ∈ TB := TB_all tIn2 [4, 0, 0, 3, 0, 0, 197, 0, 3, 0, 0, 0, 0, 0, 0] rfl rfl
theorem tw_244 : Cond.instanceMethod yX11_model ∈ TB := blk_3 _ (List.mem_of_getElem? (i := 0) rfl)
theorem tw_245 : Cond.selects "WhyChosen" yX11_model yX11_model ∈ TB := blk_3 _ (List.mem_of_getElem? (i := 1) rfl)
theorem tw_246 : Cond.code yX11_model cX11_model 3 (some .int) ∈ TB := blk_3 _ (List.mem_of_getElem? (i := 2) rfl)
theorem tw_250 : Cond.instanceMethod yX9_init ∈ TB := blk_3 _ (List.mem_of_getElem? (i := 3) rfl)
theorem tw_251 : Cond.code yX9_init cX9_init 4 none ∈ TB := blk_3 _ (List.mem_of_getElem? (i := 4) rfl)
theorem tw_252 : Cond.methodLink "WhyChosen$Text" 3 objectInit ∈ TB := blk_3 _ (List.mem_of_getElem? (i := 5) rfl)
theorem tw_450 : Cond.static yX11_newModel ∈ TB := blk_3 _ (List.mem_of_getElem? (i := 6) rfl)
theorem tw_451 : Cond.code yX11_newModel cX11_newModel 3 (some (.object "WhyChosen$Model")) ∈ TB := blk_3 _ (List.mem_of_getElem? (i := 7) rfl)
theorem tw_455 : Cond.instanceMethod yX7_init ∈ TB := blk_3 _ (List.mem_of_getElem? (i := 8) rfl)
theorem tw_456 : Cond.code yX7_init cX7_init 4 none ∈ TB := blk_3 _ (List.mem_of_getElem? (i := 9) rfl)
theorem tw_457 : Cond.methodLink "WhyChosen$Plain" 3 yX4_init ∈ TB := blk_3 _ (List.mem_of_getElem? (i := 10) rfl)
theorem tw_458 : Cond.instanceMethod yX4_init ∈ TB := blk_3 _ (List.mem_of_getElem? (i := 11) rfl)
theorem tw_459 : Cond.code yX4_init cX4_init 4 none ∈ TB := blk_3 _ (List.mem_of_getElem? (i := 12) rfl)
theorem tw_460 : Cond.methodLink "WhyChosen$Model" 3 objectInit ∈ TB := blk_3 _ (List.mem_of_getElem? (i := 13) rfl)
theorem tw_461 : Cond.fieldLink "WhyChosen$Model" 22 "WhyChosen$Model" "kind" "I" ∈ TB := blk_3 _ (List.mem_of_getElem? (i := 14) rfl)
def bl_4 : List Cond := [Cond.instanceMethod yX5_init, Cond.code yX5_init cX5_init 4 none, Cond.methodLink "WhyChosen$Nested" 3 yX7_init, Cond.instanceMethod yX3_init, Cond.code yX3_init cX3_init 4 none, Cond.methodLink "WhyChosen$Mixed" 3 yX7_init, Cond.instanceMethod yX2_init, Cond.code yX2_init cX2_init 4 none, Cond.methodLink "WhyChosen$Looked" 1 yX7_init, Cond.instanceMethod yX8_init, Cond.code yX8_init cX8_init 4 none, Cond.methodLink "WhyChosen$Rule" 1 yX4_init]
set_option maxRecDepth 100000 in
theorem blk_4 : ∀ w ∈ bl_4, w ∈ TB := TB_all tIn3 [30, 0, 0, 16, 0, 0, 10, 0, 0, 10, 0, 0] rfl rfl
theorem tw_510 : Cond.instanceMethod yX5_init ∈ TB := blk_4 _ (List.mem_of_getElem? (i := 0) rfl)
theorem tw_511 : Cond.code yX5_init cX5_init 4 none ∈ TB := blk_4 _ (List.mem_of_getElem? (i := 1) rfl)
theorem tw_512 : Cond.methodLink "WhyChosen$Nested" 3 yX7_init ∈ TB := blk_4 _ (List.mem_of_getElem? (i := 2) rfl)
theorem tw_529 : Cond.instanceMethod yX3_init ∈ TB := blk_4 _ (List.mem_of_getElem? (i := 3) rfl)
theorem tw_530 : Cond.code yX3_init cX3_init 4 none ∈ TB := blk_4 _ (List.mem_of_getElem? (i := 4) rfl)
theorem tw_531 : Cond.methodLink "WhyChosen$Mixed" 3 yX7_init ∈ TB := blk_4 _ (List.mem_of_getElem? (i := 5) rfl)
theorem tw_542 : Cond.instanceMethod yX2_init ∈ TB := blk_4 _ (List.mem_of_getElem? (i := 6) rfl)
theorem tw_543 : Cond.code yX2_init cX2_init 4 none ∈ TB := blk_4 _ (List.mem_of_getElem? (i := 7) rfl)
theorem tw_544 : Cond.methodLink "WhyChosen$Looked" 1 yX7_init ∈ TB := blk_4 _ (List.mem_of_getElem? (i := 8) rfl)
theorem tw_555 : Cond.instanceMethod yX8_init ∈ TB := blk_4 _ (List.mem_of_getElem? (i := 9) rfl)
theorem tw_556 : Cond.code yX8_init cX8_init 4 none ∈ TB := blk_4 _ (List.mem_of_getElem? (i := 10) rfl)
theorem tw_557 : Cond.methodLink "WhyChosen$Rule" 1 yX4_init ∈ TB := blk_4 _ (List.mem_of_getElem? (i := 11) rfl)
def bl_5 : List Cond := [Cond.instanceMethod yX12_init, Cond.code yX12_init cX12_init 1 none, Cond.methodLink "WhyChosenModel" 1 objectInit, Cond.constant "WhyChosenModel" 142 40320, Cond.constant "WhyChosenModel" 146 80640]
set_option maxRecDepth 100000 in
theorem blk_5 : ∀ w ∈ bl_5, w ∈ TB := TB_all tIn5 [128, 0, 0, 0, 0] rfl rfl
theorem tw_1088 : Cond.instanceMethod yX12_init ∈ TB := blk_5 _ (List.mem_of_getElem? (i := 0) rfl)
theorem tw_1089 : Cond.code yX12_init cX12_init 1 none ∈ TB := blk_5 _ (List.mem_of_getElem? (i := 1) rfl)
theorem tw_1090 : Cond.methodLink "WhyChosenModel" 1 objectInit ∈ TB := blk_5 _ (List.mem_of_getElem? (i := 2) rfl)
theorem tw_1091 : Cond.constant "WhyChosenModel" 142 40320 ∈ TB := blk_5 _ (List.mem_of_getElem? (i := 3) rfl)
theorem tw_1092 : Cond.constant "WhyChosenModel" 146 80640 ∈ TB := blk_5 _ (List.mem_of_getElem? (i := 4) rfl)
def bl_6 : List Cond := [Cond.arrayClass .boolean]
set_option maxRecDepth 100000 in
theorem blk_6 : ∀ w ∈ bl_6, w ∈ TB := TB_all tIn6 [56] rfl rfl
theorem tw_1256 : Cond.arrayClass .boolean ∈ TB := blk_6 _ (List.mem_of_getElem? (i := 0) rfl)
theorem in_X0_init : Cond.initialized yX0_init.cls ∈ TB := icl_0
theorem cd_X0_init : Cond.code yX0_init cX0_init 1 none ∈ TB := tw_61
theorem dn_X0_init : (parseMethodDescriptor yX0_init.desc).map (fun d => d.parameters.length) = some 0 := by decide +kernel
theorem ds_X0_init : yX0_init.cls ≠ "java/lang/invoke/MethodHandle" ∧ yX0_init.cls ≠ "java/lang/invoke/VarHandle" ∧ (parseMethodDescriptor yX0_init.desc).map (fun d => d.parameters.length) = some 0 := ⟨by decide +kernel, by decide +kernel, dn_X0_init⟩
theorem iy_X0_init : Cond.instanceMethod yX0_init ∈ TB := tw_60
theorem in_X1_init : Cond.initialized yX1_init.cls ∈ TB := icl_1
theorem cd_X1_init : Cond.code yX1_init cX1_init 1 none ∈ TB := tw_33
theorem dn_X1_init : (parseMethodDescriptor yX1_init.desc).map (fun d => d.parameters.length) = some 0 := by decide +kernel
theorem ds_X1_init : yX1_init.cls ≠ "java/lang/invoke/MethodHandle" ∧ yX1_init.cls ≠ "java/lang/invoke/VarHandle" ∧ (parseMethodDescriptor yX1_init.desc).map (fun d => d.parameters.length) = some 0 := ⟨by decide +kernel, by decide +kernel, dn_X1_init⟩
theorem iy_X1_init : Cond.instanceMethod yX1_init ∈ TB := tw_32
theorem in_X2_init : Cond.initialized yX2_init.cls ∈ TB := icl_2
theorem cd_X2_init : Cond.code yX2_init cX2_init 4 none ∈ TB := tw_543
theorem dn_X2_init : (parseMethodDescriptor yX2_init.desc).map (fun d => d.parameters.length) = some 3 := by decide +kernel
theorem ds_X2_init : yX2_init.cls ≠ "java/lang/invoke/MethodHandle" ∧ yX2_init.cls ≠ "java/lang/invoke/VarHandle" ∧ (parseMethodDescriptor yX2_init.desc).map (fun d => d.parameters.length) = some 3 := ⟨by decide +kernel, by decide +kernel, dn_X2_init⟩
theorem iy_X2_init : Cond.instanceMethod yX2_init ∈ TB := tw_542
theorem in_X3_init : Cond.initialized yX3_init.cls ∈ TB := icl_3
theorem cd_X3_init : Cond.code yX3_init cX3_init 4 none ∈ TB := tw_530
theorem dn_X3_init : (parseMethodDescriptor yX3_init.desc).map (fun d => d.parameters.length) = some 3 := by decide +kernel
theorem ds_X3_init : yX3_init.cls ≠ "java/lang/invoke/MethodHandle" ∧ yX3_init.cls ≠ "java/lang/invoke/VarHandle" ∧ (parseMethodDescriptor yX3_init.desc).map (fun d => d.parameters.length) = some 3 := ⟨by decide +kernel, by decide +kernel, dn_X3_init⟩
theorem iy_X3_init : Cond.instanceMethod yX3_init ∈ TB := tw_529
theorem in_X4_init : Cond.initialized yX4_init.cls ∈ TB := icl_4
theorem cd_X4_init : Cond.code yX4_init cX4_init 4 none ∈ TB := tw_459
theorem dn_X4_init : (parseMethodDescriptor yX4_init.desc).map (fun d => d.parameters.length) = some 3 := by decide +kernel
theorem ds_X4_init : yX4_init.cls ≠ "java/lang/invoke/MethodHandle" ∧ yX4_init.cls ≠ "java/lang/invoke/VarHandle" ∧ (parseMethodDescriptor yX4_init.desc).map (fun d => d.parameters.length) = some 3 := ⟨by decide +kernel, by decide +kernel, dn_X4_init⟩
theorem iy_X4_init : Cond.instanceMethod yX4_init ∈ TB := tw_458
theorem in_X5_init : Cond.initialized yX5_init.cls ∈ TB := icl_5
theorem cd_X5_init : Cond.code yX5_init cX5_init 4 none ∈ TB := tw_511
theorem dn_X5_init : (parseMethodDescriptor yX5_init.desc).map (fun d => d.parameters.length) = some 3 := by decide +kernel
theorem ds_X5_init : yX5_init.cls ≠ "java/lang/invoke/MethodHandle" ∧ yX5_init.cls ≠ "java/lang/invoke/VarHandle" ∧ (parseMethodDescriptor yX5_init.desc).map (fun d => d.parameters.length) = some 3 := ⟨by decide +kernel, by decide +kernel, dn_X5_init⟩
theorem iy_X5_init : Cond.instanceMethod yX5_init ∈ TB := tw_510
theorem in_X6_init : Cond.initialized yX6_init.cls ∈ TB := icl_6
theorem cd_X6_init : Cond.code yX6_init cX6_init 1 none ∈ TB := tw_90
theorem dn_X6_init : (parseMethodDescriptor yX6_init.desc).map (fun d => d.parameters.length) = some 0 := by decide +kernel
theorem ds_X6_init : yX6_init.cls ≠ "java/lang/invoke/MethodHandle" ∧ yX6_init.cls ≠ "java/lang/invoke/VarHandle" ∧ (parseMethodDescriptor yX6_init.desc).map (fun d => d.parameters.length) = some 0 := ⟨by decide +kernel, by decide +kernel, dn_X6_init⟩
theorem iy_X6_init : Cond.instanceMethod yX6_init ∈ TB := tw_89
theorem in_X7_init : Cond.initialized yX7_init.cls ∈ TB := icl_7
theorem cd_X7_init : Cond.code yX7_init cX7_init 4 none ∈ TB := tw_456
theorem dn_X7_init : (parseMethodDescriptor yX7_init.desc).map (fun d => d.parameters.length) = some 3 := by decide +kernel
theorem ds_X7_init : yX7_init.cls ≠ "java/lang/invoke/MethodHandle" ∧ yX7_init.cls ≠ "java/lang/invoke/VarHandle" ∧ (parseMethodDescriptor yX7_init.desc).map (fun d => d.parameters.length) = some 3 := ⟨by decide +kernel, by decide +kernel, dn_X7_init⟩
theorem iy_X7_init : Cond.instanceMethod yX7_init ∈ TB := tw_455
theorem in_X8_init : Cond.initialized yX8_init.cls ∈ TB := icl_8
theorem cd_X8_init : Cond.code yX8_init cX8_init 4 none ∈ TB := tw_556
theorem dn_X8_init : (parseMethodDescriptor yX8_init.desc).map (fun d => d.parameters.length) = some 3 := by decide +kernel
theorem ds_X8_init : yX8_init.cls ≠ "java/lang/invoke/MethodHandle" ∧ yX8_init.cls ≠ "java/lang/invoke/VarHandle" ∧ (parseMethodDescriptor yX8_init.desc).map (fun d => d.parameters.length) = some 3 := ⟨by decide +kernel, by decide +kernel, dn_X8_init⟩
theorem iy_X8_init : Cond.instanceMethod yX8_init ∈ TB := tw_555
theorem in_X9_init : Cond.initialized yX9_init.cls ∈ TB := icl_9
theorem cd_X9_init : Cond.code yX9_init cX9_init 4 none ∈ TB := tw_251
theorem dn_X9_init : (parseMethodDescriptor yX9_init.desc).map (fun d => d.parameters.length) = some 2 := by decide +kernel
theorem ds_X9_init : yX9_init.cls ≠ "java/lang/invoke/MethodHandle" ∧ yX9_init.cls ≠ "java/lang/invoke/VarHandle" ∧ (parseMethodDescriptor yX9_init.desc).map (fun d => d.parameters.length) = some 2 := ⟨by decide +kernel, by decide +kernel, dn_X9_init⟩
theorem iy_X9_init : Cond.instanceMethod yX9_init ∈ TB := tw_250
theorem in_X10_init : Cond.initialized yX10_init.cls ∈ TB := icl_10
theorem cd_X10_init : Cond.code yX10_init cX10_init 1 none ∈ TB := tw_121
theorem dn_X10_init : (parseMethodDescriptor yX10_init.desc).map (fun d => d.parameters.length) = some 0 := by decide +kernel
theorem ds_X10_init : yX10_init.cls ≠ "java/lang/invoke/MethodHandle" ∧ yX10_init.cls ≠ "java/lang/invoke/VarHandle" ∧ (parseMethodDescriptor yX10_init.desc).map (fun d => d.parameters.length) = some 0 := ⟨by decide +kernel, by decide +kernel, dn_X10_init⟩
theorem iy_X10_init : Cond.instanceMethod yX10_init ∈ TB := tw_120
theorem in_X11_init : Cond.initialized yX11_init.cls ∈ TB := icl_11
theorem cd_X11_init : Cond.code yX11_init cX11_init 2 none ∈ TB := tw_25
theorem dn_X11_init : (parseMethodDescriptor yX11_init.desc).map (fun d => d.parameters.length) = some 0 := by decide +kernel
theorem ds_X11_init : yX11_init.cls ≠ "java/lang/invoke/MethodHandle" ∧ yX11_init.cls ≠ "java/lang/invoke/VarHandle" ∧ (parseMethodDescriptor yX11_init.desc).map (fun d => d.parameters.length) = some 0 := ⟨by decide +kernel, by decide +kernel, dn_X11_init⟩
theorem iy_X11_init : Cond.instanceMethod yX11_init ∈ TB := tw_24
theorem in_X11_model : Cond.initialized yX11_model.cls ∈ TB := icl_11
theorem cd_X11_model : Cond.code yX11_model cX11_model 3 (some .int) ∈ TB := tw_246
theorem dn_X11_model : (parseMethodDescriptor yX11_model.desc).map (fun d => d.parameters.length) = some 1 := by decide +kernel
theorem ds_X11_model : yX11_model.cls ≠ "java/lang/invoke/MethodHandle" ∧ yX11_model.cls ≠ "java/lang/invoke/VarHandle" ∧ (parseMethodDescriptor yX11_model.desc).map (fun d => d.parameters.length) = some 1 := ⟨by decide +kernel, by decide +kernel, dn_X11_model⟩
theorem iy_X11_model : Cond.instanceMethod yX11_model ∈ TB := tw_244
theorem sy_X11_model : Cond.selects yX11_model.cls yX11_model yX11_model ∈ TB := tw_245
theorem in_X11_newModel : Cond.initialized yX11_newModel.cls ∈ TB := icl_11
theorem cd_X11_newModel : Cond.code yX11_newModel cX11_newModel 3 (some (.object "WhyChosen$Model")) ∈ TB := tw_451
theorem dn_X11_newModel : (parseMethodDescriptor yX11_newModel.desc).map (fun d => d.parameters.length) = some 3 := by decide +kernel
theorem ds_X11_newModel : yX11_newModel.cls ≠ "java/lang/invoke/MethodHandle" ∧ yX11_newModel.cls ≠ "java/lang/invoke/VarHandle" ∧ (parseMethodDescriptor yX11_newModel.desc).map (fun d => d.parameters.length) = some 3 := ⟨by decide +kernel, by decide +kernel, dn_X11_newModel⟩
theorem st_X11_newModel : Cond.static yX11_newModel ∈ TB := tw_450
theorem in_X12_init : Cond.initialized yX12_init.cls ∈ TB := icl_12
theorem cd_X12_init : Cond.code yX12_init cX12_init 1 none ∈ TB := tw_1089
theorem dn_X12_init : (parseMethodDescriptor yX12_init.desc).map (fun d => d.parameters.length) = some 0 := by decide +kernel
theorem ds_X12_init : yX12_init.cls ≠ "java/lang/invoke/MethodHandle" ∧ yX12_init.cls ≠ "java/lang/invoke/VarHandle" ∧ (parseMethodDescriptor yX12_init.desc).map (fun d => d.parameters.length) = some 0 := ⟨by decide +kernel, by decide +kernel, dn_X12_init⟩
theorem iy_X12_init : Cond.instanceMethod yX12_init ∈ TB := tw_1088
theorem io_Object : Cond.instanceMethod objectInit ∈ TB := tw_27
theorem co_Object : Cond.code objectInit ⟨#[0xb1]⟩ 1 none ∈ TB := tw_28
theorem ac_boolean : Cond.arrayClass .boolean ∈ TB := tw_1256
theorem ac_int : Cond.arrayClass .int ∈ TB := tw_56
theorem ac_long : Cond.arrayClass .long ∈ TB := tw_183
theorem cl_X11_25 : Cond.classLink RX11 25 RX0 ∈ TB := tw_57
theorem cl_X11_35 : Cond.classLink RX11 35 "WhyChosen$Model" ∈ TB := tw_84
theorem cl_X11_41 : Cond.classLink RX11 41 RX6 ∈ TB := tw_86
theorem cl_X11_51 : Cond.classLink RX11 51 RX10 ∈ TB := tw_117
theorem cl_X11_64 : Cond.classLink RX11 64 "[[J" ∈ TB := tw_132
theorem cl_X11_9 : Cond.classLink RX11 9 RX1 ∈ TB := tw_29
theorem kc_X12_142 : Cond.constant RX12 142 (40320 : Int32) ∈ TB := tw_1091
theorem kc_X12_146 : Cond.constant RX12 146 (80640 : Int32) ∈ TB := tw_1092
theorem lk_X11_11 : Cond.methodLink RX11 11 yX1_init ∈ TB := tw_31
theorem lk_X11_27 : Cond.methodLink RX11 27 yX0_init ∈ TB := tw_59
theorem lk_X11_43 : Cond.methodLink RX11 43 yX6_init ∈ TB := tw_88
theorem lk_X11_53 : Cond.methodLink RX11 53 yX10_init ∈ TB := tw_119
theorem lk_X2_1 : Cond.methodLink RX2 1 yX7_init ∈ TB := tw_544
theorem lk_X3_3 : Cond.methodLink RX3 3 yX7_init ∈ TB := tw_531
theorem lk_X5_3 : Cond.methodLink RX5 3 yX7_init ∈ TB := tw_512
theorem lk_X7_3 : Cond.methodLink RX7 3 yX4_init ∈ TB := tw_457
theorem lk_X8_1 : Cond.methodLink RX8 1 yX4_init ∈ TB := tw_557
theorem lko_X0_3 : Cond.methodLink RX0 3 objectInit ∈ TB := tw_62
theorem lko_X10_1 : Cond.methodLink RX10 1 objectInit ∈ TB := tw_122
theorem lko_X11_3 : Cond.methodLink RX11 3 objectInit ∈ TB := tw_26
theorem lko_X12_1 : Cond.methodLink RX12 1 objectInit ∈ TB := tw_1090
theorem lko_X1_3 : Cond.methodLink RX1 3 objectInit ∈ TB := tw_34
theorem lko_X4_3 : Cond.methodLink RX4 3 objectInit ∈ TB := tw_460
theorem lko_X6_3 : Cond.methodLink RX6 3 objectInit ∈ TB := tw_91
theorem lko_X9_3 : Cond.methodLink RX9 3 objectInit ∈ TB := tw_252
theorem lf_X5_15_5 : LF RX5 15 5 7 true := ⟨_, _, "WhyChosen$Nested", cf_5, by decide, by decide, tw_514, Or.inl rfl, rfl, fun _ => Or.inr trivial⟩
theorem lf_X5_9_5 : LF RX5 9 5 6 true := ⟨_, _, "WhyChosen$Nested", cf_5, by decide, by decide, tw_513, Or.inl rfl, rfl, fun _ => Or.inr trivial⟩
theorem lfp_X4_9 {kd : Nat} (h : kd < 6) : LF RX4 9 (mcls kd) 3 true := by
  have hl : Cond.fieldLink RX4 9 "WhyChosen$Model" (TX4 3).2.1 (TX4 3).2.2.1 ∈ TB := tw_474
  have hk := h
  obtain rfl | rfl | rfl | rfl | rfl | rfl : kd = 0 ∨ kd = 1 ∨ kd = 2 ∨ kd = 3 ∨ kd = 4 ∨ kd = 5 := by omega
  · exact ⟨_, _, "WhyChosen$Model", cf_4, by decide, by decide, hl, Or.inl rfl, rfl, fun _ => Or.inr trivial⟩
  · exact ⟨_, _, "WhyChosen$Model", cf_7, by decide, by decide, hl, Or.inl rfl, rfl, fun _ => Or.inr trivial⟩
  · exact ⟨_, _, "WhyChosen$Model", cf_5, by decide, by decide, hl, Or.inl rfl, rfl, fun _ => Or.inr trivial⟩
  · exact ⟨_, _, "WhyChosen$Model", cf_3, by decide, by decide, hl, Or.inl rfl, rfl, fun _ => Or.inr trivial⟩
  · exact ⟨_, _, "WhyChosen$Model", cf_2, by decide, by decide, hl, Or.inl rfl, rfl, fun _ => Or.inr trivial⟩
  · exact ⟨_, _, "WhyChosen$Model", cf_8, by decide, by decide, hl, Or.inl rfl, rfl, fun _ => Or.inr trivial⟩
theorem lfo_X4_9 {kd : Nat} (h : kd < 6) : ∀ C T, CF (mcls kd) C T → (T 3).1 = RX4 := by
  have hk := h
  obtain rfl | rfl | rfl | rfl | rfl | rfl : kd = 0 ∨ kd = 1 ∨ kd = 2 ∨ kd = 3 ∨ kd = 4 ∨ kd = 5 := by omega
  · exact cft cf_4 rfl
  · exact cft cf_7 rfl
  · exact cft cf_5 rfl
  · exact cft cf_3 rfl
  · exact cft cf_2 rfl
  · exact cft cf_8 rfl
theorem mcls_r3 {kd : Nat} (h : kd < 6) : isRf (fty (mcls kd) 3) = true := by
  have hk := h
  obtain rfl | rfl | rfl | rfl | rfl | rfl : kd = 0 ∨ kd = 1 ∨ kd = 2 ∨ kd = 3 ∨ kd = 4 ∨ kd = 5 := by omega
  all_goals rfl
theorem lfp_X4_15 {kd : Nat} (h : kd < 6) : LF RX4 15 (mcls kd) 4 true := by
  have hl : Cond.fieldLink RX4 15 "WhyChosen$Model" (TX4 4).2.1 (TX4 4).2.2.1 ∈ TB := tw_475
  have hk := h
  obtain rfl | rfl | rfl | rfl | rfl | rfl : kd = 0 ∨ kd = 1 ∨ kd = 2 ∨ kd = 3 ∨ kd = 4 ∨ kd = 5 := by omega
  · exact ⟨_, _, "WhyChosen$Model", cf_4, by decide, by decide, hl, Or.inl rfl, rfl, fun _ => Or.inr trivial⟩
  · exact ⟨_, _, "WhyChosen$Model", cf_7, by decide, by decide, hl, Or.inl rfl, rfl, fun _ => Or.inr trivial⟩
  · exact ⟨_, _, "WhyChosen$Model", cf_5, by decide, by decide, hl, Or.inl rfl, rfl, fun _ => Or.inr trivial⟩
  · exact ⟨_, _, "WhyChosen$Model", cf_3, by decide, by decide, hl, Or.inl rfl, rfl, fun _ => Or.inr trivial⟩
  · exact ⟨_, _, "WhyChosen$Model", cf_2, by decide, by decide, hl, Or.inl rfl, rfl, fun _ => Or.inr trivial⟩
  · exact ⟨_, _, "WhyChosen$Model", cf_8, by decide, by decide, hl, Or.inl rfl, rfl, fun _ => Or.inr trivial⟩
theorem lfo_X4_15 {kd : Nat} (h : kd < 6) : ∀ C T, CF (mcls kd) C T → (T 4).1 = RX4 := by
  have hk := h
  obtain rfl | rfl | rfl | rfl | rfl | rfl : kd = 0 ∨ kd = 1 ∨ kd = 2 ∨ kd = 3 ∨ kd = 4 ∨ kd = 5 := by omega
  · exact cft cf_4 rfl
  · exact cft cf_7 rfl
  · exact cft cf_5 rfl
  · exact cft cf_3 rfl
  · exact cft cf_2 rfl
  · exact cft cf_8 rfl
theorem mcls_r4 {kd : Nat} (h : kd < 6) : isRf (fty (mcls kd) 4) = true := by
  have hk := h
  obtain rfl | rfl | rfl | rfl | rfl | rfl : kd = 0 ∨ kd = 1 ∨ kd = 2 ∨ kd = 3 ∨ kd = 4 ∨ kd = 5 := by omega
  all_goals rfl
theorem lfp_X4_19 {kd : Nat} (h : kd < 6) : LF RX4 19 (mcls kd) 5 true := by
  have hl : Cond.fieldLink RX4 19 "WhyChosen$Model" (TX4 5).2.1 (TX4 5).2.2.1 ∈ TB := tw_485
  have hk := h
  obtain rfl | rfl | rfl | rfl | rfl | rfl : kd = 0 ∨ kd = 1 ∨ kd = 2 ∨ kd = 3 ∨ kd = 4 ∨ kd = 5 := by omega
  · exact ⟨_, _, "WhyChosen$Model", cf_4, by decide, by decide, hl, Or.inl rfl, rfl, fun _ => Or.inr trivial⟩
  · exact ⟨_, _, "WhyChosen$Model", cf_7, by decide, by decide, hl, Or.inl rfl, rfl, fun _ => Or.inr trivial⟩
  · exact ⟨_, _, "WhyChosen$Model", cf_5, by decide, by decide, hl, Or.inl rfl, rfl, fun _ => Or.inr trivial⟩
  · exact ⟨_, _, "WhyChosen$Model", cf_3, by decide, by decide, hl, Or.inl rfl, rfl, fun _ => Or.inr trivial⟩
  · exact ⟨_, _, "WhyChosen$Model", cf_2, by decide, by decide, hl, Or.inl rfl, rfl, fun _ => Or.inr trivial⟩
  · exact ⟨_, _, "WhyChosen$Model", cf_8, by decide, by decide, hl, Or.inl rfl, rfl, fun _ => Or.inr trivial⟩
theorem lfo_X4_19 {kd : Nat} (h : kd < 6) : ∀ C T, CF (mcls kd) C T → (T 5).1 = RX4 := by
  have hk := h
  obtain rfl | rfl | rfl | rfl | rfl | rfl : kd = 0 ∨ kd = 1 ∨ kd = 2 ∨ kd = 3 ∨ kd = 4 ∨ kd = 5 := by omega
  · exact cft cf_4 rfl
  · exact cft cf_7 rfl
  · exact cft cf_5 rfl
  · exact cft cf_3 rfl
  · exact cft cf_2 rfl
  · exact cft cf_8 rfl
theorem mcls_r5 {kd : Nat} (h : kd < 6) : isRf (fty (mcls kd) 5) = true := by
  have hk := h
  obtain rfl | rfl | rfl | rfl | rfl | rfl : kd = 0 ∨ kd = 1 ∨ kd = 2 ∨ kd = 3 ∨ kd = 4 ∨ kd = 5 := by omega
  all_goals rfl
theorem lfp_X4_22 {kd : Nat} (h : kd < 6) : LF RX4 22 (mcls kd) 0 true := by
  have hl : Cond.fieldLink RX4 22 "WhyChosen$Model" (TX4 0).2.1 (TX4 0).2.2.1 ∈ TB := tw_461
  have hk := h
  obtain rfl | rfl | rfl | rfl | rfl | rfl : kd = 0 ∨ kd = 1 ∨ kd = 2 ∨ kd = 3 ∨ kd = 4 ∨ kd = 5 := by omega
  · exact ⟨_, _, "WhyChosen$Model", cf_4, by decide, by decide, hl, Or.inl rfl, rfl, fun _ => Or.inr trivial⟩
  · exact ⟨_, _, "WhyChosen$Model", cf_7, by decide, by decide, hl, Or.inl rfl, rfl, fun _ => Or.inr trivial⟩
  · exact ⟨_, _, "WhyChosen$Model", cf_5, by decide, by decide, hl, Or.inl rfl, rfl, fun _ => Or.inr trivial⟩
  · exact ⟨_, _, "WhyChosen$Model", cf_3, by decide, by decide, hl, Or.inl rfl, rfl, fun _ => Or.inr trivial⟩
  · exact ⟨_, _, "WhyChosen$Model", cf_2, by decide, by decide, hl, Or.inl rfl, rfl, fun _ => Or.inr trivial⟩
  · exact ⟨_, _, "WhyChosen$Model", cf_8, by decide, by decide, hl, Or.inl rfl, rfl, fun _ => Or.inr trivial⟩
theorem lfo_X4_22 {kd : Nat} (h : kd < 6) : ∀ C T, CF (mcls kd) C T → (T 0).1 = RX4 := by
  have hk := h
  obtain rfl | rfl | rfl | rfl | rfl | rfl : kd = 0 ∨ kd = 1 ∨ kd = 2 ∨ kd = 3 ∨ kd = 4 ∨ kd = 5 := by omega
  · exact cft cf_4 rfl
  · exact cft cf_7 rfl
  · exact cft cf_5 rfl
  · exact cft cf_3 rfl
  · exact cft cf_2 rfl
  · exact cft cf_8 rfl
theorem mcls_i0 {kd : Nat} (h : kd < 6) : fty (mcls kd) 0 = .int := by
  have hk := h
  obtain rfl | rfl | rfl | rfl | rfl | rfl : kd = 0 ∨ kd = 1 ∨ kd = 2 ∨ kd = 3 ∨ kd = 4 ∨ kd = 5 := by omega
  all_goals rfl
theorem lfp_X4_26 {kd : Nat} (h : kd < 6) : LF RX4 26 (mcls kd) 1 true := by
  have hl : Cond.fieldLink RX4 26 "WhyChosen$Model" (TX4 1).2.1 (TX4 1).2.2.1 ∈ TB := tw_463
  have hk := h
  obtain rfl | rfl | rfl | rfl | rfl | rfl : kd = 0 ∨ kd = 1 ∨ kd = 2 ∨ kd = 3 ∨ kd = 4 ∨ kd = 5 := by omega
  · exact ⟨_, _, "WhyChosen$Model", cf_4, by decide, by decide, hl, Or.inl rfl, rfl, fun _ => Or.inr trivial⟩
  · exact ⟨_, _, "WhyChosen$Model", cf_7, by decide, by decide, hl, Or.inl rfl, rfl, fun _ => Or.inr trivial⟩
  · exact ⟨_, _, "WhyChosen$Model", cf_5, by decide, by decide, hl, Or.inl rfl, rfl, fun _ => Or.inr trivial⟩
  · exact ⟨_, _, "WhyChosen$Model", cf_3, by decide, by decide, hl, Or.inl rfl, rfl, fun _ => Or.inr trivial⟩
  · exact ⟨_, _, "WhyChosen$Model", cf_2, by decide, by decide, hl, Or.inl rfl, rfl, fun _ => Or.inr trivial⟩
  · exact ⟨_, _, "WhyChosen$Model", cf_8, by decide, by decide, hl, Or.inl rfl, rfl, fun _ => Or.inr trivial⟩
theorem lfo_X4_26 {kd : Nat} (h : kd < 6) : ∀ C T, CF (mcls kd) C T → (T 1).1 = RX4 := by
  have hk := h
  obtain rfl | rfl | rfl | rfl | rfl | rfl : kd = 0 ∨ kd = 1 ∨ kd = 2 ∨ kd = 3 ∨ kd = 4 ∨ kd = 5 := by omega
  · exact cft cf_4 rfl
  · exact cft cf_7 rfl
  · exact cft cf_5 rfl
  · exact cft cf_3 rfl
  · exact cft cf_2 rfl
  · exact cft cf_8 rfl
theorem mcls_i1 {kd : Nat} (h : kd < 6) : fty (mcls kd) 1 = .int := by
  have hk := h
  obtain rfl | rfl | rfl | rfl | rfl | rfl : kd = 0 ∨ kd = 1 ∨ kd = 2 ∨ kd = 3 ∨ kd = 4 ∨ kd = 5 := by omega
  all_goals rfl
theorem lfp_X4_29 {kd : Nat} (h : kd < 6) : LF RX4 29 (mcls kd) 2 true := by
  have hl : Cond.fieldLink RX4 29 "WhyChosen$Model" (TX4 2).2.1 (TX4 2).2.2.1 ∈ TB := tw_466
  have hk := h
  obtain rfl | rfl | rfl | rfl | rfl | rfl : kd = 0 ∨ kd = 1 ∨ kd = 2 ∨ kd = 3 ∨ kd = 4 ∨ kd = 5 := by omega
  · exact ⟨_, _, "WhyChosen$Model", cf_4, by decide, by decide, hl, Or.inl rfl, rfl, fun _ => Or.inr trivial⟩
  · exact ⟨_, _, "WhyChosen$Model", cf_7, by decide, by decide, hl, Or.inl rfl, rfl, fun _ => Or.inr trivial⟩
  · exact ⟨_, _, "WhyChosen$Model", cf_5, by decide, by decide, hl, Or.inl rfl, rfl, fun _ => Or.inr trivial⟩
  · exact ⟨_, _, "WhyChosen$Model", cf_3, by decide, by decide, hl, Or.inl rfl, rfl, fun _ => Or.inr trivial⟩
  · exact ⟨_, _, "WhyChosen$Model", cf_2, by decide, by decide, hl, Or.inl rfl, rfl, fun _ => Or.inr trivial⟩
  · exact ⟨_, _, "WhyChosen$Model", cf_8, by decide, by decide, hl, Or.inl rfl, rfl, fun _ => Or.inr trivial⟩
theorem lfo_X4_29 {kd : Nat} (h : kd < 6) : ∀ C T, CF (mcls kd) C T → (T 2).1 = RX4 := by
  have hk := h
  obtain rfl | rfl | rfl | rfl | rfl | rfl : kd = 0 ∨ kd = 1 ∨ kd = 2 ∨ kd = 3 ∨ kd = 4 ∨ kd = 5 := by omega
  · exact cft cf_4 rfl
  · exact cft cf_7 rfl
  · exact cft cf_5 rfl
  · exact cft cf_3 rfl
  · exact cft cf_2 rfl
  · exact cft cf_8 rfl
theorem mcls_r2 {kd : Nat} (h : kd < 6) : isRf (fty (mcls kd) 2) = true := by
  have hk := h
  obtain rfl | rfl | rfl | rfl | rfl | rfl : kd = 0 ∨ kd = 1 ∨ kd = 2 ∨ kd = 3 ∨ kd = 4 ∨ kd = 5 := by omega
  all_goals rfl
