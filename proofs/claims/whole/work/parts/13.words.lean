/-! words of the tables, by their places; fields (laid by program) -/
theorem icl_0 : Cond.initialized RX0 ∈ TB := TB_of 3 (by decide +kernel) rfl
def fp_0 : List Nat := [73, 75, 77, 79, 81]
set_option maxRecDepth 100000 in
theorem fw_0 : (List.range 5).all (fun k => decide (tables_1[fp_0.getD k 0]? = some (u_lay RX0 TX0 k)) && goodWord (u_lay RX0 TX0 k)) = true := by decide +kernel
theorem cf_0 : CF 0 RX0 TX0 := by
  refine ⟨rfl, fun w hw => ?_, ?_, nmX0, TB_of 58 (by decide +kernel) rfl, icl_0⟩
  · obtain ⟨k, hk, rfl⟩ := List.mem_map.mp hw
    have h := List.all_eq_true.mp fw_0 k hk
    simp only [Bool.and_eq_true, decide_eq_true_eq] at h
    exact TB_of _ h.1 h.2
  · exact tyX0_ok
theorem pl_0 : plainName RX0 = true := by decide
theorem icl_1 : Cond.initialized RX1 ∈ TB := TB_of 2 (by decide +kernel) rfl
def fp_1 : List Nat := [47, 49, 51, 53]
set_option maxRecDepth 100000 in
theorem fw_1 : (List.range 4).all (fun k => decide (tables_1[fp_1.getD k 0]? = some (u_lay RX1 TX1 k)) && goodWord (u_lay RX1 TX1 k)) = true := by decide +kernel
theorem cf_1 : CF 1 RX1 TX1 := by
  refine ⟨rfl, fun w hw => ?_, ?_, nmX1, TB_of 30 (by decide +kernel) rfl, icl_1⟩
  · obtain ⟨k, hk, rfl⟩ := List.mem_map.mp hw
    have h := List.all_eq_true.mp fw_1 k hk
    simp only [Bool.and_eq_true, decide_eq_true_eq] at h
    exact TB_of _ h.1 h.2
  · exact tyX1_ok
theorem pl_1 : plainName RX1 = true := by decide
theorem icl_2 : Cond.initialized RX2 ∈ TB := TB_of 17 (by decide +kernel) rfl
def fp_2 : List Nat := [545, 546, 547, 548, 549, 550]
set_option maxRecDepth 100000 in
theorem fw_2 : (List.range 6).all (fun k => decide (tables_1[fp_2.getD k 0]? = some (u_lay RX2 TX2 k)) && goodWord (u_lay RX2 TX2 k)) = true := by decide +kernel
theorem cf_2 : CF 2 RX2 TX2 := by
  refine ⟨rfl, fun w hw => ?_, ?_, nmX2, TB_of 540 (by decide +kernel) rfl, icl_2⟩
  · obtain ⟨k, hk, rfl⟩ := List.mem_map.mp hw
    have h := List.all_eq_true.mp fw_2 k hk
    simp only [Bool.and_eq_true, decide_eq_true_eq] at h
    exact TB_of _ h.1 h.2
  · exact tyX2_ok
theorem pl_2 : plainName RX2 = true := by decide
theorem icl_3 : Cond.initialized RX3 ∈ TB := TB_of 16 (by decide +kernel) rfl
def fp_3 : List Nat := [532, 533, 534, 535, 536, 537]
set_option maxRecDepth 100000 in
theorem fw_3 : (List.range 6).all (fun k => decide (tables_1[fp_3.getD k 0]? = some (u_lay RX3 TX3 k)) && goodWord (u_lay RX3 TX3 k)) = true := by decide +kernel
theorem cf_3 : CF 3 RX3 TX3 := by
  refine ⟨rfl, fun w hw => ?_, ?_, nmX3, TB_of 527 (by decide +kernel) rfl, icl_3⟩
  · obtain ⟨k, hk, rfl⟩ := List.mem_map.mp hw
    have h := List.all_eq_true.mp fw_3 k hk
    simp only [Bool.and_eq_true, decide_eq_true_eq] at h
    exact TB_of _ h.1 h.2
  · exact tyX3_ok
theorem pl_3 : plainName RX3 = true := by decide
theorem icl_4 : Cond.initialized RX4 ∈ TB := TB_of 13 (by decide +kernel) rfl
def fp_4 : List Nat := [567, 568, 569, 570, 571, 572]
set_option maxRecDepth 100000 in
theorem fw_4 : (List.range 6).all (fun k => decide (tables_1[fp_4.getD k 0]? = some (u_lay RX4 TX4 k)) && goodWord (u_lay RX4 TX4 k)) = true := by decide +kernel
theorem cf_4 : CF 4 RX4 TX4 := by
  refine ⟨rfl, fun w hw => ?_, ?_, nmX4, TB_of 565 (by decide +kernel) rfl, icl_4⟩
  · obtain ⟨k, hk, rfl⟩ := List.mem_map.mp hw
    have h := List.all_eq_true.mp fw_4 k hk
    simp only [Bool.and_eq_true, decide_eq_true_eq] at h
    exact TB_of _ h.1 h.2
  · exact tyX4_ok
theorem pl_4 : plainName RX4 = true := by decide
theorem icl_5 : Cond.initialized RX5 ∈ TB := TB_of 15 (by decide +kernel) rfl
def fp_5 : List Nat := [519, 520, 521, 522, 523, 524, 515, 517]
set_option maxRecDepth 100000 in
theorem fw_5 : (List.range 8).all (fun k => decide (tables_1[fp_5.getD k 0]? = some (u_lay RX5 TX5 k)) && goodWord (u_lay RX5 TX5 k)) = true := by decide +kernel
theorem cf_5 : CF 5 RX5 TX5 := by
  refine ⟨rfl, fun w hw => ?_, ?_, nmX5, TB_of 508 (by decide +kernel) rfl, icl_5⟩
  · obtain ⟨k, hk, rfl⟩ := List.mem_map.mp hw
    have h := List.all_eq_true.mp fw_5 k hk
    simp only [Bool.and_eq_true, decide_eq_true_eq] at h
    exact TB_of _ h.1 h.2
  · exact tyX5_ok
theorem pl_5 : plainName RX5 = true := by decide
theorem icl_6 : Cond.initialized RX6 ∈ TB := TB_of 4 (by decide +kernel) rfl
def fp_6 : List Nat := [100, 102, 104, 106, 108, 110, 112, 114]
set_option maxRecDepth 100000 in
theorem fw_6 : (List.range 8).all (fun k => decide (tables_1[fp_6.getD k 0]? = some (u_lay RX6 TX6 k)) && goodWord (u_lay RX6 TX6 k)) = true := by decide +kernel
theorem cf_6 : CF 6 RX6 TX6 := by
  refine ⟨rfl, fun w hw => ?_, ?_, nmX6, TB_of 87 (by decide +kernel) rfl, icl_6⟩
  · obtain ⟨k, hk, rfl⟩ := List.mem_map.mp hw
    have h := List.all_eq_true.mp fw_6 k hk
    simp only [Bool.and_eq_true, decide_eq_true_eq] at h
    exact TB_of _ h.1 h.2
  · exact tyX6_ok
theorem pl_6 : plainName RX6 = true := by decide
theorem icl_7 : Cond.initialized RX7 ∈ TB := TB_of 14 (by decide +kernel) rfl
def fp_7 : List Nat := [493, 495, 497, 499, 501, 503]
set_option maxRecDepth 100000 in
theorem fw_7 : (List.range 6).all (fun k => decide (tables_1[fp_7.getD k 0]? = some (u_lay RX7 TX7 k)) && goodWord (u_lay RX7 TX7 k)) = true := by decide +kernel
theorem cf_7 : CF 7 RX7 TX7 := by
  refine ⟨rfl, fun w hw => ?_, ?_, nmX7, TB_of 453 (by decide +kernel) rfl, icl_7⟩
  · obtain ⟨k, hk, rfl⟩ := List.mem_map.mp hw
    have h := List.all_eq_true.mp fw_7 k hk
    simp only [Bool.and_eq_true, decide_eq_true_eq] at h
    exact TB_of _ h.1 h.2
  · exact tyX7_ok
theorem pl_7 : plainName RX7 = true := by decide
theorem icl_8 : Cond.initialized RX8 ∈ TB := TB_of 18 (by decide +kernel) rfl
def fp_8 : List Nat := [558, 559, 560, 561, 562, 563]
set_option maxRecDepth 100000 in
theorem fw_8 : (List.range 6).all (fun k => decide (tables_1[fp_8.getD k 0]? = some (u_lay RX8 TX8 k)) && goodWord (u_lay RX8 TX8 k)) = true := by decide +kernel
theorem cf_8 : CF 8 RX8 TX8 := by
  refine ⟨rfl, fun w hw => ?_, ?_, nmX8, TB_of 553 (by decide +kernel) rfl, icl_8⟩
  · obtain ⟨k, hk, rfl⟩ := List.mem_map.mp hw
    have h := List.all_eq_true.mp fw_8 k hk
    simp only [Bool.and_eq_true, decide_eq_true_eq] at h
    exact TB_of _ h.1 h.2
  · exact tyX8_ok
theorem pl_8 : plainName RX8 = true := by decide
theorem icl_9 : Cond.initialized RX9 ∈ TB := TB_of 7 (by decide +kernel) rfl
def fp_9 : List Nat := [281, 283, 285, 287, 289, 291, 293, 295, 297, 299, 301, 303, 305, 307, 309, 311, 313]
set_option maxRecDepth 100000 in
theorem fw_9 : (List.range 17).all (fun k => decide (tables_1[fp_9.getD k 0]? = some (u_lay RX9 TX9 k)) && goodWord (u_lay RX9 TX9 k)) = true := by decide +kernel
theorem cf_9 : CF 9 RX9 TX9 := by
  refine ⟨rfl, fun w hw => ?_, ?_, nmX9, TB_of 248 (by decide +kernel) rfl, icl_9⟩
  · obtain ⟨k, hk, rfl⟩ := List.mem_map.mp hw
    have h := List.all_eq_true.mp fw_9 k hk
    simp only [Bool.and_eq_true, decide_eq_true_eq] at h
    exact TB_of _ h.1 h.2
  · exact tyX9_ok
theorem pl_9 : plainName RX9 = true := by decide
theorem icl_10 : Cond.initialized RX10 ∈ TB := TB_of 5 (by decide +kernel) rfl
def fp_10 : List Nat := [127, 129]
set_option maxRecDepth 100000 in
theorem fw_10 : (List.range 2).all (fun k => decide (tables_1[fp_10.getD k 0]? = some (u_lay RX10 TX10 k)) && goodWord (u_lay RX10 TX10 k)) = true := by decide +kernel
theorem cf_10 : CF 10 RX10 TX10 := by
  refine ⟨rfl, fun w hw => ?_, ?_, nmX10, TB_of 118 (by decide +kernel) rfl, icl_10⟩
  · obtain ⟨k, hk, rfl⟩ := List.mem_map.mp hw
    have h := List.all_eq_true.mp fw_10 k hk
    simp only [Bool.and_eq_true, decide_eq_true_eq] at h
    exact TB_of _ h.1 h.2
  · exact tyX10_ok
theorem pl_10 : plainName RX10 = true := by decide
theorem icl_11 : Cond.initialized RX11 ∈ TB := TB_of 1 (by decide +kernel) rfl
def fp_11 : List Nat := [150, 152, 154, 156, 158, 160, 162, 164, 166, 168, 170, 172, 174, 176, 178, 180]
set_option maxRecDepth 100000 in
theorem fw_11 : (List.range 16).all (fun k => decide (tables_1[fp_11.getD k 0]? = some (u_lay RX11 TX11 k)) && goodWord (u_lay RX11 TX11 k)) = true := by decide +kernel
theorem cf_11 : CF 11 RX11 TX11 := by
  refine ⟨rfl, fun w hw => ?_, ?_, nmX11, TB_of 22 (by decide +kernel) rfl, icl_11⟩
  · obtain ⟨k, hk, rfl⟩ := List.mem_map.mp hw
    have h := List.all_eq_true.mp fw_11 k hk
    simp only [Bool.and_eq_true, decide_eq_true_eq] at h
    exact TB_of _ h.1 h.2
  · exact tyX11_ok
theorem pl_11 : plainName RX11 = true := by decide
theorem icl_12 : Cond.initialized RX12 ∈ TB := TB_of 6 (by decide +kernel) rfl
def fp_12 : List Nat := [1147, 1149, 1151, 1153, 1155, 1157, 1159, 1161, 1163, 1165, 1167, 1169, 1171, 1173, 1175, 1177, 1179, 1181, 1183, 1185, 1187, 1189, 1191, 1193, 1195, 1197, 1199, 1201, 1203, 1205, 1207, 1209, 1211, 1213, 1215, 1217, 1219, 1221, 1223, 1225, 1227, 1229, 1231, 1233, 1235, 1237, 1239, 1241, 1243, 1245, 1247, 1249, 1251, 1253]
set_option maxRecDepth 100000 in
theorem fw_12 : (List.range 54).all (fun k => decide (tables_1[fp_12.getD k 0]? = some (u_lay RX12 TX12 k)) && goodWord (u_lay RX12 TX12 k)) = true := by decide +kernel
theorem cf_12 : CF 12 RX12 TX12 := by
  refine ⟨rfl, fun w hw => ?_, ?_, nmX12, TB_of 1086 (by decide +kernel) rfl, icl_12⟩
  · obtain ⟨k, hk, rfl⟩ := List.mem_map.mp hw
    have h := List.all_eq_true.mp fw_12 k hk
    simp only [Bool.and_eq_true, decide_eq_true_eq] at h
    exact TB_of _ h.1 h.2
  · exact tyX12_ok
theorem pl_12 : plainName RX12 = true := by decide
theorem cfm {kd : Nat} (h : kd < 6) : ∃ C T, CF (mcls kd) C T ∧ mcls kd < 13 := by
  obtain rfl | rfl | rfl | rfl | rfl | rfl : kd = 0 ∨ kd = 1 ∨ kd = 2 ∨ kd = 3 ∨ kd = 4 ∨ kd = 5 := by omega
  · exact ⟨_, _, cf_4, by decide⟩
  · exact ⟨_, _, cf_7, by decide⟩
  · exact ⟨_, _, cf_5, by decide⟩
  · exact ⟨_, _, cf_3, by decide⟩
  · exact ⟨_, _, cf_2, by decide⟩
  · exact ⟨_, _, cf_8, by decide⟩
theorem lf_X0_15_0 : LF RX0 15 0 1 true := ⟨_, _, "WhyChosen$Choices", cf_0, by decide, by decide, TB_of 65 (by decide +kernel) rfl, Or.inl rfl, rfl, fun _ => Or.inr trivial⟩
theorem lf_X0_18_0 : LF RX0 18 0 2 true := ⟨_, _, "WhyChosen$Choices", cf_0, by decide, by decide, TB_of 67 (by decide +kernel) rfl, Or.inl rfl, rfl, fun _ => Or.inr trivial⟩
theorem lf_X0_21_0 : LF RX0 21 0 3 true := ⟨_, _, "WhyChosen$Choices", cf_0, by decide, by decide, TB_of 69 (by decide +kernel) rfl, Or.inl rfl, rfl, fun _ => Or.inr trivial⟩
theorem lf_X0_24_0 : LF RX0 24 0 4 false := ⟨_, _, "WhyChosen$Choices", cf_0, by decide, by decide, TB_of 71 (by decide +kernel) rfl, Or.inl rfl, rfl, fun _ => Or.inr trivial⟩
theorem lf_X0_9_0 : LF RX0 9 0 0 true := ⟨_, _, "WhyChosen$Choices", cf_0, by decide, by decide, TB_of 63 (by decide +kernel) rfl, Or.inl rfl, rfl, fun _ => Or.inr trivial⟩
theorem lf_X10_13_10 : LF RX10 13 10 1 false := ⟨_, _, "WhyChosen$Trace", cf_10, by decide, by decide, TB_of 125 (by decide +kernel) rfl, Or.inl rfl, rfl, fun _ => Or.inr trivial⟩
theorem lf_X10_9_10 : LF RX10 9 10 0 true := ⟨_, _, "WhyChosen$Trace", cf_10, by decide, by decide, TB_of 123 (by decide +kernel) rfl, Or.inl rfl, rfl, fun _ => Or.inr trivial⟩
theorem lf_X11_100_0 : LF RX11 100 0 0 true := ⟨_, _, "WhyChosen$Choices", cf_0, by decide, by decide, TB_of 64 (by decide +kernel) rfl, Or.inl rfl, rfl, fun _ => Or.inr trivial⟩
theorem lf_X11_102_0 : LF RX11 102 0 1 true := ⟨_, _, "WhyChosen$Choices", cf_0, by decide, by decide, TB_of 66 (by decide +kernel) rfl, Or.inl rfl, rfl, fun _ => Or.inr trivial⟩
theorem lf_X11_105_0 : LF RX11 105 0 2 true := ⟨_, _, "WhyChosen$Choices", cf_0, by decide, by decide, TB_of 68 (by decide +kernel) rfl, Or.inl rfl, rfl, fun _ => Or.inr trivial⟩
theorem lf_X11_108_11 : LF RX11 108 11 6 false := ⟨_, _, "WhyChosen", cf_11, by decide, by decide, TB_of 140 (by decide +kernel) rfl, Or.inl rfl, rfl, fun _ => Or.inr trivial⟩
theorem lf_X11_111_11 : LF RX11 111 11 8 false := ⟨_, _, "WhyChosen", cf_11, by decide, by decide, TB_of 142 (by decide +kernel) rfl, Or.inl rfl, rfl, fun _ => Or.inr trivial⟩
theorem lf_X11_12_11 : LF RX11 12 11 0 true := ⟨_, _, "WhyChosen", cf_11, by decide, by decide, TB_of 134 (by decide +kernel) rfl, Or.inl rfl, rfl, fun _ => Or.inr trivial⟩
theorem lf_X11_178_9 : LF RX11 178 9 4 true := ⟨_, _, "WhyChosen$Text", cf_9, by decide, by decide, TB_of 262 (by decide +kernel) rfl, Or.inl rfl, rfl, fun _ => Or.inr trivial⟩
theorem lf_X11_18_11 : LF RX11 18 11 1 true := ⟨_, _, "WhyChosen", cf_11, by decide, by decide, TB_of 135 (by decide +kernel) rfl, Or.inl rfl, rfl, fun _ => Or.inr trivial⟩
theorem lf_X11_224_1 : LF RX11 224 1 3 false := ⟨_, _, "WhyChosen$Goods", cf_1, by decide, by decide, TB_of 46 (by decide +kernel) rfl, Or.inl rfl, rfl, fun _ => Or.inr trivial⟩
theorem lf_X11_22_11 : LF RX11 22 11 2 true := ⟨_, _, "WhyChosen", cf_11, by decide, by decide, TB_of 136 (by decide +kernel) rfl, Or.inl rfl, rfl, fun _ => Or.inr trivial⟩
theorem lf_X11_250_10 : LF RX11 250 10 0 true := ⟨_, _, "WhyChosen$Trace", cf_10, by decide, by decide, TB_of 124 (by decide +kernel) rfl, Or.inl rfl, rfl, fun _ => Or.inr trivial⟩
theorem lf_X11_267_10 : LF RX11 267 10 1 false := ⟨_, _, "WhyChosen$Trace", cf_10, by decide, by decide, TB_of 126 (by decide +kernel) rfl, Or.inl rfl, rfl, fun _ => Or.inr trivial⟩
theorem lf_X11_28_11 : LF RX11 28 11 4 true := ⟨_, _, "WhyChosen", cf_11, by decide, by decide, TB_of 138 (by decide +kernel) rfl, Or.inl rfl, rfl, fun _ => Or.inr trivial⟩
theorem lf_X11_32_11 : LF RX11 32 11 5 true := ⟨_, _, "WhyChosen", cf_11, by decide, by decide, TB_of 139 (by decide +kernel) rfl, Or.inl rfl, rfl, fun _ => Or.inr trivial⟩
theorem lf_X11_37_11 : LF RX11 37 11 7 true := ⟨_, _, "WhyChosen", cf_11, by decide, by decide, TB_of 141 (by decide +kernel) rfl, Or.inl rfl, rfl, fun _ => Or.inr trivial⟩
theorem lf_X11_44_11 : LF RX11 44 11 9 true := ⟨_, _, "WhyChosen", cf_11, by decide, by decide, TB_of 143 (by decide +kernel) rfl, Or.inl rfl, rfl, fun _ => Or.inr trivial⟩
theorem lf_X11_48_11 : LF RX11 48 11 10 true := ⟨_, _, "WhyChosen", cf_11, by decide, by decide, TB_of 144 (by decide +kernel) rfl, Or.inl rfl, rfl, fun _ => Or.inr trivial⟩
theorem lf_X11_54_11 : LF RX11 54 11 12 true := ⟨_, _, "WhyChosen", cf_11, by decide, by decide, TB_of 146 (by decide +kernel) rfl, Or.inl rfl, rfl, fun _ => Or.inr trivial⟩
theorem lf_X11_58_11 : LF RX11 58 11 13 true := ⟨_, _, "WhyChosen", cf_11, by decide, by decide, TB_of 147 (by decide +kernel) rfl, Or.inl rfl, rfl, fun _ => Or.inr trivial⟩
theorem lf_X11_61_11 : LF RX11 61 11 14 true := ⟨_, _, "WhyChosen", cf_11, by decide, by decide, TB_of 148 (by decide +kernel) rfl, Or.inl rfl, rfl, fun _ => Or.inr trivial⟩
theorem lf_X11_66_11 : LF RX11 66 11 15 true := ⟨_, _, "WhyChosen", cf_11, by decide, by decide, TB_of 149 (by decide +kernel) rfl, Or.inl rfl, rfl, fun _ => Or.inr trivial⟩
theorem lf_X11_73_0 : LF RX11 73 0 4 false := ⟨_, _, "WhyChosen$Choices", cf_0, by decide, by decide, TB_of 72 (by decide +kernel) rfl, Or.inl rfl, rfl, fun _ => Or.inr trivial⟩
theorem lf_X11_77_11 : LF RX11 77 11 11 false := ⟨_, _, "WhyChosen", cf_11, by decide, by decide, TB_of 145 (by decide +kernel) rfl, Or.inl rfl, rfl, fun _ => Or.inr trivial⟩
theorem lf_X11_88_1 : LF RX11 88 1 1 true := ⟨_, _, "WhyChosen$Goods", cf_1, by decide, by decide, TB_of 39 (by decide +kernel) rfl, Or.inl rfl, rfl, fun _ => Or.inr trivial⟩
theorem lf_X11_91_11 : LF RX11 91 11 3 false := ⟨_, _, "WhyChosen", cf_11, by decide, by decide, TB_of 137 (by decide +kernel) rfl, Or.inl rfl, rfl, fun _ => Or.inr trivial⟩
theorem lf_X11_97_0 : LF RX11 97 0 3 true := ⟨_, _, "WhyChosen$Choices", cf_0, by decide, by decide, TB_of 70 (by decide +kernel) rfl, Or.inl rfl, rfl, fun _ => Or.inr trivial⟩
theorem lf_X12_101_12 : LF RX12 101 12 30 false := ⟨_, _, "WhyChosenModel", cf_12, by decide, by decide, TB_of 1123 (by decide +kernel) rfl, Or.inl rfl, rfl, fun _ => Or.inr trivial⟩
theorem lf_X12_104_12 : LF RX12 104 12 31 false := ⟨_, _, "WhyChosenModel", cf_12, by decide, by decide, TB_of 1124 (by decide +kernel) rfl, Or.inl rfl, rfl, fun _ => Or.inr trivial⟩
theorem lf_X12_107_12 : LF RX12 107 12 32 true := ⟨_, _, "WhyChosenModel", cf_12, by decide, by decide, TB_of 1125 (by decide +kernel) rfl, Or.inl rfl, rfl, fun _ => Or.inr trivial⟩
theorem lf_X12_111_12 : LF RX12 111 12 33 false := ⟨_, _, "WhyChosenModel", cf_12, by decide, by decide, TB_of 1126 (by decide +kernel) rfl, Or.inl rfl, rfl, fun _ => Or.inr trivial⟩
theorem lf_X12_114_12 : LF RX12 114 12 34 true := ⟨_, _, "WhyChosenModel", cf_12, by decide, by decide, TB_of 1127 (by decide +kernel) rfl, Or.inl rfl, rfl, fun _ => Or.inr trivial⟩
theorem lf_X12_117_12 : LF RX12 117 12 35 true := ⟨_, _, "WhyChosenModel", cf_12, by decide, by decide, TB_of 1128 (by decide +kernel) rfl, Or.inl rfl, rfl, fun _ => Or.inr trivial⟩
theorem lf_X12_120_12 : LF RX12 120 12 36 false := ⟨_, _, "WhyChosenModel", cf_12, by decide, by decide, TB_of 1129 (by decide +kernel) rfl, Or.inl rfl, rfl, fun _ => Or.inr trivial⟩
theorem lf_X12_123_12 : LF RX12 123 12 37 false := ⟨_, _, "WhyChosenModel", cf_12, by decide, by decide, TB_of 1130 (by decide +kernel) rfl, Or.inl rfl, rfl, fun _ => Or.inr trivial⟩
theorem lf_X12_126_12 : LF RX12 126 12 38 false := ⟨_, _, "WhyChosenModel", cf_12, by decide, by decide, TB_of 1131 (by decide +kernel) rfl, Or.inl rfl, rfl, fun _ => Or.inr trivial⟩
theorem lf_X12_129_12 : LF RX12 129 12 39 false := ⟨_, _, "WhyChosenModel", cf_12, by decide, by decide, TB_of 1132 (by decide +kernel) rfl, Or.inl rfl, rfl, fun _ => Or.inr trivial⟩
theorem lf_X12_133_12 : LF RX12 133 12 40 false := ⟨_, _, "WhyChosenModel", cf_12, by decide, by decide, TB_of 1133 (by decide +kernel) rfl, Or.inl rfl, rfl, fun _ => Or.inr trivial⟩
theorem lf_X12_136_12 : LF RX12 136 12 41 true := ⟨_, _, "WhyChosenModel", cf_12, by decide, by decide, TB_of 1134 (by decide +kernel) rfl, Or.inl rfl, rfl, fun _ => Or.inr trivial⟩
theorem lf_X12_139_12 : LF RX12 139 12 42 true := ⟨_, _, "WhyChosenModel", cf_12, by decide, by decide, TB_of 1135 (by decide +kernel) rfl, Or.inl rfl, rfl, fun _ => Or.inr trivial⟩
theorem lf_X12_13_12 : LF RX12 13 12 1 false := ⟨_, _, "WhyChosenModel", cf_12, by decide, by decide, TB_of 1094 (by decide +kernel) rfl, Or.inl rfl, rfl, fun _ => Or.inr trivial⟩
theorem lf_X12_143_12 : LF RX12 143 12 43 true := ⟨_, _, "WhyChosenModel", cf_12, by decide, by decide, TB_of 1136 (by decide +kernel) rfl, Or.inl rfl, rfl, fun _ => Or.inr trivial⟩
theorem lf_X12_147_12 : LF RX12 147 12 44 true := ⟨_, _, "WhyChosenModel", cf_12, by decide, by decide, TB_of 1137 (by decide +kernel) rfl, Or.inl rfl, rfl, fun _ => Or.inr trivial⟩
theorem lf_X12_150_12 : LF RX12 150 12 45 true := ⟨_, _, "WhyChosenModel", cf_12, by decide, by decide, TB_of 1138 (by decide +kernel) rfl, Or.inl rfl, rfl, fun _ => Or.inr trivial⟩
theorem lf_X12_153_12 : LF RX12 153 12 46 false := ⟨_, _, "WhyChosenModel", cf_12, by decide, by decide, TB_of 1139 (by decide +kernel) rfl, Or.inl rfl, rfl, fun _ => Or.inr trivial⟩
theorem lf_X12_156_12 : LF RX12 156 12 47 true := ⟨_, _, "WhyChosenModel", cf_12, by decide, by decide, TB_of 1140 (by decide +kernel) rfl, Or.inl rfl, rfl, fun _ => Or.inr trivial⟩
theorem lf_X12_159_12 : LF RX12 159 12 48 false := ⟨_, _, "WhyChosenModel", cf_12, by decide, by decide, TB_of 1141 (by decide +kernel) rfl, Or.inl rfl, rfl, fun _ => Or.inr trivial⟩
theorem lf_X12_162_12 : LF RX12 162 12 49 true := ⟨_, _, "WhyChosenModel", cf_12, by decide, by decide, TB_of 1142 (by decide +kernel) rfl, Or.inl rfl, rfl, fun _ => Or.inr trivial⟩
theorem lf_X12_165_12 : LF RX12 165 12 50 true := ⟨_, _, "WhyChosenModel", cf_12, by decide, by decide, TB_of 1143 (by decide +kernel) rfl, Or.inl rfl, rfl, fun _ => Or.inr trivial⟩
theorem lf_X12_168_12 : LF RX12 168 12 51 true := ⟨_, _, "WhyChosenModel", cf_12, by decide, by decide, TB_of 1144 (by decide +kernel) rfl, Or.inl rfl, rfl, fun _ => Or.inr trivial⟩
theorem lf_X12_16_12 : LF RX12 16 12 2 false := ⟨_, _, "WhyChosenModel", cf_12, by decide, by decide, TB_of 1095 (by decide +kernel) rfl, Or.inl rfl, rfl, fun _ => Or.inr trivial⟩
theorem lf_X12_171_12 : LF RX12 171 12 52 true := ⟨_, _, "WhyChosenModel", cf_12, by decide, by decide, TB_of 1145 (by decide +kernel) rfl, Or.inl rfl, rfl, fun _ => Or.inr trivial⟩
theorem lf_X12_175_12 : LF RX12 175 12 53 true := ⟨_, _, "WhyChosenModel", cf_12, by decide, by decide, TB_of 1146 (by decide +kernel) rfl, Or.inl rfl, rfl, fun _ => Or.inr trivial⟩
theorem lf_X12_19_12 : LF RX12 19 12 3 false := ⟨_, _, "WhyChosenModel", cf_12, by decide, by decide, TB_of 1096 (by decide +kernel) rfl, Or.inl rfl, rfl, fun _ => Or.inr trivial⟩
theorem lf_X12_22_12 : LF RX12 22 12 4 true := ⟨_, _, "WhyChosenModel", cf_12, by decide, by decide, TB_of 1097 (by decide +kernel) rfl, Or.inl rfl, rfl, fun _ => Or.inr trivial⟩
theorem lf_X12_26_12 : LF RX12 26 12 5 true := ⟨_, _, "WhyChosenModel", cf_12, by decide, by decide, TB_of 1098 (by decide +kernel) rfl, Or.inl rfl, rfl, fun _ => Or.inr trivial⟩
theorem lf_X12_29_12 : LF RX12 29 12 6 true := ⟨_, _, "WhyChosenModel", cf_12, by decide, by decide, TB_of 1099 (by decide +kernel) rfl, Or.inl rfl, rfl, fun _ => Or.inr trivial⟩
theorem lf_X12_32_12 : LF RX12 32 12 7 true := ⟨_, _, "WhyChosenModel", cf_12, by decide, by decide, TB_of 1100 (by decide +kernel) rfl, Or.inl rfl, rfl, fun _ => Or.inr trivial⟩
theorem lf_X12_35_12 : LF RX12 35 12 8 true := ⟨_, _, "WhyChosenModel", cf_12, by decide, by decide, TB_of 1101 (by decide +kernel) rfl, Or.inl rfl, rfl, fun _ => Or.inr trivial⟩
theorem lf_X12_38_12 : LF RX12 38 12 9 true := ⟨_, _, "WhyChosenModel", cf_12, by decide, by decide, TB_of 1102 (by decide +kernel) rfl, Or.inl rfl, rfl, fun _ => Or.inr trivial⟩
theorem lf_X12_41_12 : LF RX12 41 12 10 true := ⟨_, _, "WhyChosenModel", cf_12, by decide, by decide, TB_of 1103 (by decide +kernel) rfl, Or.inl rfl, rfl, fun _ => Or.inr trivial⟩
theorem lf_X12_44_12 : LF RX12 44 12 11 true := ⟨_, _, "WhyChosenModel", cf_12, by decide, by decide, TB_of 1104 (by decide +kernel) rfl, Or.inl rfl, rfl, fun _ => Or.inr trivial⟩
theorem lf_X12_47_12 : LF RX12 47 12 12 true := ⟨_, _, "WhyChosenModel", cf_12, by decide, by decide, TB_of 1105 (by decide +kernel) rfl, Or.inl rfl, rfl, fun _ => Or.inr trivial⟩
theorem lf_X12_50_12 : LF RX12 50 12 13 false := ⟨_, _, "WhyChosenModel", cf_12, by decide, by decide, TB_of 1106 (by decide +kernel) rfl, Or.inl rfl, rfl, fun _ => Or.inr trivial⟩
theorem lf_X12_53_12 : LF RX12 53 12 14 false := ⟨_, _, "WhyChosenModel", cf_12, by decide, by decide, TB_of 1107 (by decide +kernel) rfl, Or.inl rfl, rfl, fun _ => Or.inr trivial⟩
theorem lf_X12_56_12 : LF RX12 56 12 15 true := ⟨_, _, "WhyChosenModel", cf_12, by decide, by decide, TB_of 1108 (by decide +kernel) rfl, Or.inl rfl, rfl, fun _ => Or.inr trivial⟩
theorem lf_X12_59_12 : LF RX12 59 12 16 true := ⟨_, _, "WhyChosenModel", cf_12, by decide, by decide, TB_of 1109 (by decide +kernel) rfl, Or.inl rfl, rfl, fun _ => Or.inr trivial⟩
theorem lf_X12_62_12 : LF RX12 62 12 17 true := ⟨_, _, "WhyChosenModel", cf_12, by decide, by decide, TB_of 1110 (by decide +kernel) rfl, Or.inl rfl, rfl, fun _ => Or.inr trivial⟩
theorem lf_X12_65_12 : LF RX12 65 12 18 true := ⟨_, _, "WhyChosenModel", cf_12, by decide, by decide, TB_of 1111 (by decide +kernel) rfl, Or.inl rfl, rfl, fun _ => Or.inr trivial⟩
theorem lf_X12_68_12 : LF RX12 68 12 19 false := ⟨_, _, "WhyChosenModel", cf_12, by decide, by decide, TB_of 1112 (by decide +kernel) rfl, Or.inl rfl, rfl, fun _ => Or.inr trivial⟩
theorem lf_X12_71_12 : LF RX12 71 12 20 false := ⟨_, _, "WhyChosenModel", cf_12, by decide, by decide, TB_of 1113 (by decide +kernel) rfl, Or.inl rfl, rfl, fun _ => Or.inr trivial⟩
theorem lf_X12_74_12 : LF RX12 74 12 21 false := ⟨_, _, "WhyChosenModel", cf_12, by decide, by decide, TB_of 1114 (by decide +kernel) rfl, Or.inl rfl, rfl, fun _ => Or.inr trivial⟩
theorem lf_X12_77_12 : LF RX12 77 12 22 false := ⟨_, _, "WhyChosenModel", cf_12, by decide, by decide, TB_of 1115 (by decide +kernel) rfl, Or.inl rfl, rfl, fun _ => Or.inr trivial⟩
theorem lf_X12_7_12 : LF RX12 7 12 0 false := ⟨_, _, "WhyChosenModel", cf_12, by decide, by decide, TB_of 1093 (by decide +kernel) rfl, Or.inl rfl, rfl, fun _ => Or.inr trivial⟩
theorem lf_X12_80_12 : LF RX12 80 12 23 false := ⟨_, _, "WhyChosenModel", cf_12, by decide, by decide, TB_of 1116 (by decide +kernel) rfl, Or.inl rfl, rfl, fun _ => Or.inr trivial⟩
theorem lf_X12_83_12 : LF RX12 83 12 24 true := ⟨_, _, "WhyChosenModel", cf_12, by decide, by decide, TB_of 1117 (by decide +kernel) rfl, Or.inl rfl, rfl, fun _ => Or.inr trivial⟩
theorem lf_X12_86_12 : LF RX12 86 12 25 true := ⟨_, _, "WhyChosenModel", cf_12, by decide, by decide, TB_of 1118 (by decide +kernel) rfl, Or.inl rfl, rfl, fun _ => Or.inr trivial⟩
theorem lf_X12_89_12 : LF RX12 89 12 26 true := ⟨_, _, "WhyChosenModel", cf_12, by decide, by decide, TB_of 1119 (by decide +kernel) rfl, Or.inl rfl, rfl, fun _ => Or.inr trivial⟩
theorem lf_X12_92_12 : LF RX12 92 12 27 true := ⟨_, _, "WhyChosenModel", cf_12, by decide, by decide, TB_of 1120 (by decide +kernel) rfl, Or.inl rfl, rfl, fun _ => Or.inr trivial⟩
theorem lf_X12_95_12 : LF RX12 95 12 28 false := ⟨_, _, "WhyChosenModel", cf_12, by decide, by decide, TB_of 1121 (by decide +kernel) rfl, Or.inl rfl, rfl, fun _ => Or.inr trivial⟩
theorem lf_X12_98_12 : LF RX12 98 12 29 false := ⟨_, _, "WhyChosenModel", cf_12, by decide, by decide, TB_of 1122 (by decide +kernel) rfl, Or.inl rfl, rfl, fun _ => Or.inr trivial⟩
theorem lf_X1_15_1 : LF RX1 15 1 1 true := ⟨_, _, "WhyChosen$Goods", cf_1, by decide, by decide, TB_of 37 (by decide +kernel) rfl, Or.inl rfl, rfl, fun _ => Or.inr trivial⟩
theorem lf_X1_18_1 : LF RX1 18 1 2 true := ⟨_, _, "WhyChosen$Goods", cf_1, by decide, by decide, TB_of 40 (by decide +kernel) rfl, Or.inl rfl, rfl, fun _ => Or.inr trivial⟩
theorem lf_X1_21_1 : LF RX1 21 1 3 false := ⟨_, _, "WhyChosen$Goods", cf_1, by decide, by decide, TB_of 42 (by decide +kernel) rfl, Or.inl rfl, rfl, fun _ => Or.inr trivial⟩
theorem lf_X1_9_1 : LF RX1 9 1 0 true := ⟨_, _, "WhyChosen$Goods", cf_1, by decide, by decide, TB_of 35 (by decide +kernel) rfl, Or.inl rfl, rfl, fun _ => Or.inr trivial⟩
theorem lf_X2_21_9 : LF RX2 21 9 8 false := ⟨_, _, "WhyChosen$Text", cf_9, by decide, by decide, TB_of 270 (by decide +kernel) rfl, Or.inl rfl, rfl, fun _ => Or.inr trivial⟩
theorem lf_X2_46_9 : LF RX2 46 9 3 false := ⟨_, _, "WhyChosen$Text", cf_9, by decide, by decide, TB_of 258 (by decide +kernel) rfl, Or.inl rfl, rfl, fun _ => Or.inr trivial⟩
theorem lf_X3_15_9 : LF RX3 15 9 9 true := ⟨_, _, "WhyChosen$Text", cf_9, by decide, by decide, TB_of 272 (by decide +kernel) rfl, Or.inl rfl, rfl, fun _ => Or.inr trivial⟩
theorem lf_X4_33_9 : LF RX4 33 9 7 false := ⟨_, _, "WhyChosen$Text", cf_9, by decide, by decide, TB_of 267 (by decide +kernel) rfl, Or.inl rfl, rfl, fun _ => Or.inr trivial⟩
theorem lf_X4_44_9 : LF RX4 44 9 4 true := ⟨_, _, "WhyChosen$Text", cf_9, by decide, by decide, TB_of 261 (by decide +kernel) rfl, Or.inl rfl, rfl, fun _ => Or.inr trivial⟩
theorem lf_X4_47_1 : LF RX4 47 1 0 true := ⟨_, _, "WhyChosen$Goods", cf_1, by decide, by decide, TB_of 36 (by decide +kernel) rfl, Or.inl rfl, rfl, fun _ => Or.inr trivial⟩
theorem lf_X4_56_9 : LF RX4 56 9 5 true := ⟨_, _, "WhyChosen$Text", cf_9, by decide, by decide, TB_of 264 (by decide +kernel) rfl, Or.inl rfl, rfl, fun _ => Or.inr trivial⟩
theorem lf_X4_59_9 : LF RX4 59 9 6 false := ⟨_, _, "WhyChosen$Text", cf_9, by decide, by decide, TB_of 265 (by decide +kernel) rfl, Or.inl rfl, rfl, fun _ => Or.inr trivial⟩
theorem lf_X4_62_1 : LF RX4 62 1 1 true := ⟨_, _, "WhyChosen$Goods", cf_1, by decide, by decide, TB_of 38 (by decide +kernel) rfl, Or.inl rfl, rfl, fun _ => Or.inr trivial⟩
theorem lf_X4_68_9 : LF RX4 68 9 10 true := ⟨_, _, "WhyChosen$Text", cf_9, by decide, by decide, TB_of 274 (by decide +kernel) rfl, Or.inl rfl, rfl, fun _ => Or.inr trivial⟩
theorem lf_X4_71_1 : LF RX4 71 1 3 false := ⟨_, _, "WhyChosen$Goods", cf_1, by decide, by decide, TB_of 45 (by decide +kernel) rfl, Or.inl rfl, rfl, fun _ => Or.inr trivial⟩
theorem lf_X4_98_9 : LF RX4 98 9 3 false := ⟨_, _, "WhyChosen$Text", cf_9, by decide, by decide, TB_of 259 (by decide +kernel) rfl, Or.inl rfl, rfl, fun _ => Or.inr trivial⟩
theorem lf_X5_30_1 : LF RX5 30 1 3 false := ⟨_, _, "WhyChosen$Goods", cf_1, by decide, by decide, TB_of 44 (by decide +kernel) rfl, Or.inl rfl, rfl, fun _ => Or.inr trivial⟩
theorem lf_X5_40_1 : LF RX5 40 1 2 true := ⟨_, _, "WhyChosen$Goods", cf_1, by decide, by decide, TB_of 41 (by decide +kernel) rfl, Or.inl rfl, rfl, fun _ => Or.inr trivial⟩
theorem lf_X6_15_6 : LF RX6 15 6 1 true := ⟨_, _, "WhyChosen$Orders", cf_6, by decide, by decide, TB_of 93 (by decide +kernel) rfl, Or.inl rfl, rfl, fun _ => Or.inr trivial⟩
theorem lf_X6_19_6 : LF RX6 19 6 2 true := ⟨_, _, "WhyChosen$Orders", cf_6, by decide, by decide, TB_of 94 (by decide +kernel) rfl, Or.inl rfl, rfl, fun _ => Or.inr trivial⟩
theorem lf_X6_22_6 : LF RX6 22 6 3 true := ⟨_, _, "WhyChosen$Orders", cf_6, by decide, by decide, TB_of 95 (by decide +kernel) rfl, Or.inl rfl, rfl, fun _ => Or.inr trivial⟩
theorem lf_X6_25_6 : LF RX6 25 6 5 true := ⟨_, _, "WhyChosen$Orders", cf_6, by decide, by decide, TB_of 97 (by decide +kernel) rfl, Or.inl rfl, rfl, fun _ => Or.inr trivial⟩
theorem lf_X6_28_6 : LF RX6 28 6 6 true := ⟨_, _, "WhyChosen$Orders", cf_6, by decide, by decide, TB_of 98 (by decide +kernel) rfl, Or.inl rfl, rfl, fun _ => Or.inr trivial⟩
theorem lf_X6_31_6 : LF RX6 31 6 7 true := ⟨_, _, "WhyChosen$Orders", cf_6, by decide, by decide, TB_of 99 (by decide +kernel) rfl, Or.inl rfl, rfl, fun _ => Or.inr trivial⟩
theorem lf_X6_34_6 : LF RX6 34 6 4 false := ⟨_, _, "WhyChosen$Orders", cf_6, by decide, by decide, TB_of 96 (by decide +kernel) rfl, Or.inl rfl, rfl, fun _ => Or.inr trivial⟩
theorem lf_X6_9_6 : LF RX6 9 6 0 false := ⟨_, _, "WhyChosen$Orders", cf_6, by decide, by decide, TB_of 92 (by decide +kernel) rfl, Or.inl rfl, rfl, fun _ => Or.inr trivial⟩
theorem lf_X7_23_1 : LF RX7 23 1 3 false := ⟨_, _, "WhyChosen$Goods", cf_1, by decide, by decide, TB_of 43 (by decide +kernel) rfl, Or.inl rfl, rfl, fun _ => Or.inr trivial⟩
theorem lf_X9_123_9 : LF RX9 123 9 15 false := ⟨_, _, "WhyChosen$Text", cf_9, by decide, by decide, TB_of 279 (by decide +kernel) rfl, Or.inl rfl, rfl, fun _ => Or.inr trivial⟩
theorem lf_X9_126_9 : LF RX9 126 9 12 false := ⟨_, _, "WhyChosen$Text", cf_9, by decide, by decide, TB_of 276 (by decide +kernel) rfl, Or.inl rfl, rfl, fun _ => Or.inr trivial⟩
theorem lf_X9_15_9 : LF RX9 15 9 5 true := ⟨_, _, "WhyChosen$Text", cf_9, by decide, by decide, TB_of 263 (by decide +kernel) rfl, Or.inl rfl, rfl, fun _ => Or.inr trivial⟩
theorem lf_X9_18_9 : LF RX9 18 9 8 false := ⟨_, _, "WhyChosen$Text", cf_9, by decide, by decide, TB_of 269 (by decide +kernel) rfl, Or.inl rfl, rfl, fun _ => Or.inr trivial⟩
theorem lf_X9_22_9 : LF RX9 22 9 9 true := ⟨_, _, "WhyChosen$Text", cf_9, by decide, by decide, TB_of 271 (by decide +kernel) rfl, Or.inl rfl, rfl, fun _ => Or.inr trivial⟩
theorem lf_X9_25_9 : LF RX9 25 9 10 true := ⟨_, _, "WhyChosen$Text", cf_9, by decide, by decide, TB_of 273 (by decide +kernel) rfl, Or.inl rfl, rfl, fun _ => Or.inr trivial⟩
theorem lf_X9_28_9 : LF RX9 28 9 13 true := ⟨_, _, "WhyChosen$Text", cf_9, by decide, by decide, TB_of 277 (by decide +kernel) rfl, Or.inl rfl, rfl, fun _ => Or.inr trivial⟩
theorem lf_X9_31_9 : LF RX9 31 9 14 true := ⟨_, _, "WhyChosen$Text", cf_9, by decide, by decide, TB_of 278 (by decide +kernel) rfl, Or.inl rfl, rfl, fun _ => Or.inr trivial⟩
theorem lf_X9_34_9 : LF RX9 34 9 16 true := ⟨_, _, "WhyChosen$Text", cf_9, by decide, by decide, TB_of 280 (by decide +kernel) rfl, Or.inl rfl, rfl, fun _ => Or.inr trivial⟩
theorem lf_X9_37_9 : LF RX9 37 9 0 true := ⟨_, _, "WhyChosen$Text", cf_9, by decide, by decide, TB_of 253 (by decide +kernel) rfl, Or.inl rfl, rfl, fun _ => Or.inr trivial⟩
theorem lf_X9_40_9 : LF RX9 40 9 1 true := ⟨_, _, "WhyChosen$Text", cf_9, by decide, by decide, TB_of 254 (by decide +kernel) rfl, Or.inl rfl, rfl, fun _ => Or.inr trivial⟩
theorem lf_X9_43_9 : LF RX9 43 9 11 true := ⟨_, _, "WhyChosen$Text", cf_9, by decide, by decide, TB_of 275 (by decide +kernel) rfl, Or.inl rfl, rfl, fun _ => Or.inr trivial⟩
theorem lf_X9_50_9 : LF RX9 50 9 3 false := ⟨_, _, "WhyChosen$Text", cf_9, by decide, by decide, TB_of 257 (by decide +kernel) rfl, Or.inl rfl, rfl, fun _ => Or.inr trivial⟩
theorem lf_X9_53_9 : LF RX9 53 9 2 false := ⟨_, _, "WhyChosen$Text", cf_9, by decide, by decide, TB_of 255 (by decide +kernel) rfl, Or.inl rfl, rfl, fun _ => Or.inr trivial⟩
theorem lf_X9_71_9 : LF RX9 71 9 6 false := ⟨_, _, "WhyChosen$Text", cf_9, by decide, by decide, TB_of 266 (by decide +kernel) rfl, Or.inl rfl, rfl, fun _ => Or.inr trivial⟩
theorem lf_X9_74_9 : LF RX9 74 9 7 false := ⟨_, _, "WhyChosen$Text", cf_9, by decide, by decide, TB_of 268 (by decide +kernel) rfl, Or.inl rfl, rfl, fun _ => Or.inr trivial⟩
theorem lf_X9_9_9 : LF RX9 9 9 4 true := ⟨_, _, "WhyChosen$Text", cf_9, by decide, by decide, TB_of 260 (by decide +kernel) rfl, Or.inl rfl, rfl, fun _ => Or.inr trivial⟩
theorem lfm_X11_154 {kd : Nat} (h : kd < 6) : LF RX11 154 (mcls kd) 4 true := by
  have hl : Cond.fieldLink RX11 154 "WhyChosen$Model" (TX4 4).2.1 (TX4 4).2.2.1 ∈ TB := TB_of 484 (by decide +kernel) rfl
  obtain rfl | rfl | rfl | rfl | rfl | rfl : kd = 0 ∨ kd = 1 ∨ kd = 2 ∨ kd = 3 ∨ kd = 4 ∨ kd = 5 := by omega
  · exact ⟨_, _, "WhyChosen$Model", cf_4, by decide, by decide, hl, Or.inl rfl, rfl, fun _ => Or.inr trivial⟩
  · exact ⟨_, _, "WhyChosen$Model", cf_7, by decide, by decide, hl, Or.inl rfl, rfl, fun _ => Or.inr trivial⟩
  · exact ⟨_, _, "WhyChosen$Model", cf_5, by decide, by decide, hl, Or.inl rfl, rfl, fun _ => Or.inr trivial⟩
  · exact ⟨_, _, "WhyChosen$Model", cf_3, by decide, by decide, hl, Or.inl rfl, rfl, fun _ => Or.inr trivial⟩
  · exact ⟨_, _, "WhyChosen$Model", cf_2, by decide, by decide, hl, Or.inl rfl, rfl, fun _ => Or.inr trivial⟩
  · exact ⟨_, _, "WhyChosen$Model", cf_8, by decide, by decide, hl, Or.inl rfl, rfl, fun _ => Or.inr trivial⟩
theorem lfm_X11_158 {kd : Nat} (h : kd < 6) : LF RX11 158 (mcls kd) 5 true := by
  have hl : Cond.fieldLink RX11 158 "WhyChosen$Model" (TX4 5).2.1 (TX4 5).2.2.1 ∈ TB := TB_of 492 (by decide +kernel) rfl
  obtain rfl | rfl | rfl | rfl | rfl | rfl : kd = 0 ∨ kd = 1 ∨ kd = 2 ∨ kd = 3 ∨ kd = 4 ∨ kd = 5 := by omega
  · exact ⟨_, _, "WhyChosen$Model", cf_4, by decide, by decide, hl, Or.inl rfl, rfl, fun _ => Or.inr trivial⟩
  · exact ⟨_, _, "WhyChosen$Model", cf_7, by decide, by decide, hl, Or.inl rfl, rfl, fun _ => Or.inr trivial⟩
  · exact ⟨_, _, "WhyChosen$Model", cf_5, by decide, by decide, hl, Or.inl rfl, rfl, fun _ => Or.inr trivial⟩
  · exact ⟨_, _, "WhyChosen$Model", cf_3, by decide, by decide, hl, Or.inl rfl, rfl, fun _ => Or.inr trivial⟩
  · exact ⟨_, _, "WhyChosen$Model", cf_2, by decide, by decide, hl, Or.inl rfl, rfl, fun _ => Or.inr trivial⟩
  · exact ⟨_, _, "WhyChosen$Model", cf_8, by decide, by decide, hl, Or.inl rfl, rfl, fun _ => Or.inr trivial⟩
theorem lfm_X11_175 {kd : Nat} (h : kd < 6) : LF RX11 175 (mcls kd) 2 true := by
  have hl : Cond.fieldLink RX11 175 "WhyChosen$Model" (TX4 2).2.1 (TX4 2).2.2.1 ∈ TB := TB_of 473 (by decide +kernel) rfl
  obtain rfl | rfl | rfl | rfl | rfl | rfl : kd = 0 ∨ kd = 1 ∨ kd = 2 ∨ kd = 3 ∨ kd = 4 ∨ kd = 5 := by omega
  · exact ⟨_, _, "WhyChosen$Model", cf_4, by decide, by decide, hl, Or.inl rfl, rfl, fun _ => Or.inr trivial⟩
  · exact ⟨_, _, "WhyChosen$Model", cf_7, by decide, by decide, hl, Or.inl rfl, rfl, fun _ => Or.inr trivial⟩
  · exact ⟨_, _, "WhyChosen$Model", cf_5, by decide, by decide, hl, Or.inl rfl, rfl, fun _ => Or.inr trivial⟩
  · exact ⟨_, _, "WhyChosen$Model", cf_3, by decide, by decide, hl, Or.inl rfl, rfl, fun _ => Or.inr trivial⟩
  · exact ⟨_, _, "WhyChosen$Model", cf_2, by decide, by decide, hl, Or.inl rfl, rfl, fun _ => Or.inr trivial⟩
  · exact ⟨_, _, "WhyChosen$Model", cf_8, by decide, by decide, hl, Or.inl rfl, rfl, fun _ => Or.inr trivial⟩
theorem lfm_X11_257 {kd : Nat} (h : kd < 6) : LF RX11 257 (mcls kd) 0 true := by
  have hl : Cond.fieldLink RX11 257 "WhyChosen$Model" (TX4 0).2.1 (TX4 0).2.2.1 ∈ TB := TB_of 462 (by decide +kernel) rfl
  obtain rfl | rfl | rfl | rfl | rfl | rfl : kd = 0 ∨ kd = 1 ∨ kd = 2 ∨ kd = 3 ∨ kd = 4 ∨ kd = 5 := by omega
  · exact ⟨_, _, "WhyChosen$Model", cf_4, by decide, by decide, hl, Or.inl rfl, rfl, fun _ => Or.inr trivial⟩
  · exact ⟨_, _, "WhyChosen$Model", cf_7, by decide, by decide, hl, Or.inl rfl, rfl, fun _ => Or.inr trivial⟩
  · exact ⟨_, _, "WhyChosen$Model", cf_5, by decide, by decide, hl, Or.inl rfl, rfl, fun _ => Or.inr trivial⟩
  · exact ⟨_, _, "WhyChosen$Model", cf_3, by decide, by decide, hl, Or.inl rfl, rfl, fun _ => Or.inr trivial⟩
  · exact ⟨_, _, "WhyChosen$Model", cf_2, by decide, by decide, hl, Or.inl rfl, rfl, fun _ => Or.inr trivial⟩
  · exact ⟨_, _, "WhyChosen$Model", cf_8, by decide, by decide, hl, Or.inl rfl, rfl, fun _ => Or.inr trivial⟩
theorem lfm_X2_17 {kd : Nat} (h : kd < 6) : LF RX2 17 (mcls kd) 2 true := by
  have hl : Cond.fieldLink RX2 17 "WhyChosen$Looked" (TX4 2).2.1 (TX4 2).2.2.1 ∈ TB := TB_of 471 (by decide +kernel) rfl
  obtain rfl | rfl | rfl | rfl | rfl | rfl : kd = 0 ∨ kd = 1 ∨ kd = 2 ∨ kd = 3 ∨ kd = 4 ∨ kd = 5 := by omega
  · exact ⟨_, _, "WhyChosen$Looked", cf_4, by decide, by decide, hl, Or.inr (TB_of 472 (by decide +kernel) rfl), rfl, fun _ => Or.inr trivial⟩
  · exact ⟨_, _, "WhyChosen$Looked", cf_7, by decide, by decide, hl, Or.inr (TB_of 472 (by decide +kernel) rfl), rfl, fun _ => Or.inr trivial⟩
  · exact ⟨_, _, "WhyChosen$Looked", cf_5, by decide, by decide, hl, Or.inr (TB_of 472 (by decide +kernel) rfl), rfl, fun _ => Or.inr trivial⟩
  · exact ⟨_, _, "WhyChosen$Looked", cf_3, by decide, by decide, hl, Or.inr (TB_of 472 (by decide +kernel) rfl), rfl, fun _ => Or.inr trivial⟩
  · exact ⟨_, _, "WhyChosen$Looked", cf_2, by decide, by decide, hl, Or.inr (TB_of 472 (by decide +kernel) rfl), rfl, fun _ => Or.inr trivial⟩
  · exact ⟨_, _, "WhyChosen$Looked", cf_8, by decide, by decide, hl, Or.inr (TB_of 472 (by decide +kernel) rfl), rfl, fun _ => Or.inr trivial⟩
theorem lfm_X3_9 {kd : Nat} (h : kd < 6) : LF RX3 9 (mcls kd) 2 true := by
  have hl : Cond.fieldLink RX3 9 "WhyChosen$Mixed" (TX4 2).2.1 (TX4 2).2.2.1 ∈ TB := TB_of 467 (by decide +kernel) rfl
  obtain rfl | rfl | rfl | rfl | rfl | rfl : kd = 0 ∨ kd = 1 ∨ kd = 2 ∨ kd = 3 ∨ kd = 4 ∨ kd = 5 := by omega
  · exact ⟨_, _, "WhyChosen$Mixed", cf_4, by decide, by decide, hl, Or.inr (TB_of 468 (by decide +kernel) rfl), rfl, fun _ => Or.inr trivial⟩
  · exact ⟨_, _, "WhyChosen$Mixed", cf_7, by decide, by decide, hl, Or.inr (TB_of 468 (by decide +kernel) rfl), rfl, fun _ => Or.inr trivial⟩
  · exact ⟨_, _, "WhyChosen$Mixed", cf_5, by decide, by decide, hl, Or.inr (TB_of 468 (by decide +kernel) rfl), rfl, fun _ => Or.inr trivial⟩
  · exact ⟨_, _, "WhyChosen$Mixed", cf_3, by decide, by decide, hl, Or.inr (TB_of 468 (by decide +kernel) rfl), rfl, fun _ => Or.inr trivial⟩
  · exact ⟨_, _, "WhyChosen$Mixed", cf_2, by decide, by decide, hl, Or.inr (TB_of 468 (by decide +kernel) rfl), rfl, fun _ => Or.inr trivial⟩
  · exact ⟨_, _, "WhyChosen$Mixed", cf_8, by decide, by decide, hl, Or.inr (TB_of 468 (by decide +kernel) rfl), rfl, fun _ => Or.inr trivial⟩
theorem lfm_X3_41 {kd : Nat} (h : kd < 6) : LF RX3 41 (mcls kd) 4 true := by
  have hl : Cond.fieldLink RX3 41 "WhyChosen$Mixed" (TX4 4).2.1 (TX4 4).2.2.1 ∈ TB := TB_of 480 (by decide +kernel) rfl
  obtain rfl | rfl | rfl | rfl | rfl | rfl : kd = 0 ∨ kd = 1 ∨ kd = 2 ∨ kd = 3 ∨ kd = 4 ∨ kd = 5 := by omega
  · exact ⟨_, _, "WhyChosen$Mixed", cf_4, by decide, by decide, hl, Or.inr (TB_of 481 (by decide +kernel) rfl), rfl, fun _ => Or.inr trivial⟩
  · exact ⟨_, _, "WhyChosen$Mixed", cf_7, by decide, by decide, hl, Or.inr (TB_of 481 (by decide +kernel) rfl), rfl, fun _ => Or.inr trivial⟩
  · exact ⟨_, _, "WhyChosen$Mixed", cf_5, by decide, by decide, hl, Or.inr (TB_of 481 (by decide +kernel) rfl), rfl, fun _ => Or.inr trivial⟩
  · exact ⟨_, _, "WhyChosen$Mixed", cf_3, by decide, by decide, hl, Or.inr (TB_of 481 (by decide +kernel) rfl), rfl, fun _ => Or.inr trivial⟩
  · exact ⟨_, _, "WhyChosen$Mixed", cf_2, by decide, by decide, hl, Or.inr (TB_of 481 (by decide +kernel) rfl), rfl, fun _ => Or.inr trivial⟩
  · exact ⟨_, _, "WhyChosen$Mixed", cf_8, by decide, by decide, hl, Or.inr (TB_of 481 (by decide +kernel) rfl), rfl, fun _ => Or.inr trivial⟩
theorem lfm_X3_45 {kd : Nat} (h : kd < 6) : LF RX3 45 (mcls kd) 5 true := by
  have hl : Cond.fieldLink RX3 45 "WhyChosen$Mixed" (TX4 5).2.1 (TX4 5).2.2.1 ∈ TB := TB_of 490 (by decide +kernel) rfl
  obtain rfl | rfl | rfl | rfl | rfl | rfl : kd = 0 ∨ kd = 1 ∨ kd = 2 ∨ kd = 3 ∨ kd = 4 ∨ kd = 5 := by omega
  · exact ⟨_, _, "WhyChosen$Mixed", cf_4, by decide, by decide, hl, Or.inr (TB_of 491 (by decide +kernel) rfl), rfl, fun _ => Or.inr trivial⟩
  · exact ⟨_, _, "WhyChosen$Mixed", cf_7, by decide, by decide, hl, Or.inr (TB_of 491 (by decide +kernel) rfl), rfl, fun _ => Or.inr trivial⟩
  · exact ⟨_, _, "WhyChosen$Mixed", cf_5, by decide, by decide, hl, Or.inr (TB_of 491 (by decide +kernel) rfl), rfl, fun _ => Or.inr trivial⟩
  · exact ⟨_, _, "WhyChosen$Mixed", cf_3, by decide, by decide, hl, Or.inr (TB_of 491 (by decide +kernel) rfl), rfl, fun _ => Or.inr trivial⟩
  · exact ⟨_, _, "WhyChosen$Mixed", cf_2, by decide, by decide, hl, Or.inr (TB_of 491 (by decide +kernel) rfl), rfl, fun _ => Or.inr trivial⟩
  · exact ⟨_, _, "WhyChosen$Mixed", cf_8, by decide, by decide, hl, Or.inr (TB_of 491 (by decide +kernel) rfl), rfl, fun _ => Or.inr trivial⟩
theorem lfm_X4_9 {kd : Nat} (h : kd < 6) : LF RX4 9 (mcls kd) 3 true := by
  have hl : Cond.fieldLink RX4 9 "WhyChosen$Model" (TX4 3).2.1 (TX4 3).2.2.1 ∈ TB := TB_of 474 (by decide +kernel) rfl
  obtain rfl | rfl | rfl | rfl | rfl | rfl : kd = 0 ∨ kd = 1 ∨ kd = 2 ∨ kd = 3 ∨ kd = 4 ∨ kd = 5 := by omega
  · exact ⟨_, _, "WhyChosen$Model", cf_4, by decide, by decide, hl, Or.inl rfl, rfl, fun _ => Or.inr trivial⟩
  · exact ⟨_, _, "WhyChosen$Model", cf_7, by decide, by decide, hl, Or.inl rfl, rfl, fun _ => Or.inr trivial⟩
  · exact ⟨_, _, "WhyChosen$Model", cf_5, by decide, by decide, hl, Or.inl rfl, rfl, fun _ => Or.inr trivial⟩
  · exact ⟨_, _, "WhyChosen$Model", cf_3, by decide, by decide, hl, Or.inl rfl, rfl, fun _ => Or.inr trivial⟩
  · exact ⟨_, _, "WhyChosen$Model", cf_2, by decide, by decide, hl, Or.inl rfl, rfl, fun _ => Or.inr trivial⟩
  · exact ⟨_, _, "WhyChosen$Model", cf_8, by decide, by decide, hl, Or.inl rfl, rfl, fun _ => Or.inr trivial⟩
theorem lfm_X4_15 {kd : Nat} (h : kd < 6) : LF RX4 15 (mcls kd) 4 true := by
  have hl : Cond.fieldLink RX4 15 "WhyChosen$Model" (TX4 4).2.1 (TX4 4).2.2.1 ∈ TB := TB_of 475 (by decide +kernel) rfl
  obtain rfl | rfl | rfl | rfl | rfl | rfl : kd = 0 ∨ kd = 1 ∨ kd = 2 ∨ kd = 3 ∨ kd = 4 ∨ kd = 5 := by omega
  · exact ⟨_, _, "WhyChosen$Model", cf_4, by decide, by decide, hl, Or.inl rfl, rfl, fun _ => Or.inr trivial⟩
  · exact ⟨_, _, "WhyChosen$Model", cf_7, by decide, by decide, hl, Or.inl rfl, rfl, fun _ => Or.inr trivial⟩
  · exact ⟨_, _, "WhyChosen$Model", cf_5, by decide, by decide, hl, Or.inl rfl, rfl, fun _ => Or.inr trivial⟩
  · exact ⟨_, _, "WhyChosen$Model", cf_3, by decide, by decide, hl, Or.inl rfl, rfl, fun _ => Or.inr trivial⟩
  · exact ⟨_, _, "WhyChosen$Model", cf_2, by decide, by decide, hl, Or.inl rfl, rfl, fun _ => Or.inr trivial⟩
  · exact ⟨_, _, "WhyChosen$Model", cf_8, by decide, by decide, hl, Or.inl rfl, rfl, fun _ => Or.inr trivial⟩
theorem lfm_X4_19 {kd : Nat} (h : kd < 6) : LF RX4 19 (mcls kd) 5 true := by
  have hl : Cond.fieldLink RX4 19 "WhyChosen$Model" (TX4 5).2.1 (TX4 5).2.2.1 ∈ TB := TB_of 485 (by decide +kernel) rfl
  obtain rfl | rfl | rfl | rfl | rfl | rfl : kd = 0 ∨ kd = 1 ∨ kd = 2 ∨ kd = 3 ∨ kd = 4 ∨ kd = 5 := by omega
  · exact ⟨_, _, "WhyChosen$Model", cf_4, by decide, by decide, hl, Or.inl rfl, rfl, fun _ => Or.inr trivial⟩
  · exact ⟨_, _, "WhyChosen$Model", cf_7, by decide, by decide, hl, Or.inl rfl, rfl, fun _ => Or.inr trivial⟩
  · exact ⟨_, _, "WhyChosen$Model", cf_5, by decide, by decide, hl, Or.inl rfl, rfl, fun _ => Or.inr trivial⟩
  · exact ⟨_, _, "WhyChosen$Model", cf_3, by decide, by decide, hl, Or.inl rfl, rfl, fun _ => Or.inr trivial⟩
  · exact ⟨_, _, "WhyChosen$Model", cf_2, by decide, by decide, hl, Or.inl rfl, rfl, fun _ => Or.inr trivial⟩
  · exact ⟨_, _, "WhyChosen$Model", cf_8, by decide, by decide, hl, Or.inl rfl, rfl, fun _ => Or.inr trivial⟩
theorem lfm_X4_26 {kd : Nat} (h : kd < 6) : LF RX4 26 (mcls kd) 1 true := by
  have hl : Cond.fieldLink RX4 26 "WhyChosen$Model" (TX4 1).2.1 (TX4 1).2.2.1 ∈ TB := TB_of 463 (by decide +kernel) rfl
  obtain rfl | rfl | rfl | rfl | rfl | rfl : kd = 0 ∨ kd = 1 ∨ kd = 2 ∨ kd = 3 ∨ kd = 4 ∨ kd = 5 := by omega
  · exact ⟨_, _, "WhyChosen$Model", cf_4, by decide, by decide, hl, Or.inl rfl, rfl, fun _ => Or.inr trivial⟩
  · exact ⟨_, _, "WhyChosen$Model", cf_7, by decide, by decide, hl, Or.inl rfl, rfl, fun _ => Or.inr trivial⟩
  · exact ⟨_, _, "WhyChosen$Model", cf_5, by decide, by decide, hl, Or.inl rfl, rfl, fun _ => Or.inr trivial⟩
  · exact ⟨_, _, "WhyChosen$Model", cf_3, by decide, by decide, hl, Or.inl rfl, rfl, fun _ => Or.inr trivial⟩
  · exact ⟨_, _, "WhyChosen$Model", cf_2, by decide, by decide, hl, Or.inl rfl, rfl, fun _ => Or.inr trivial⟩
  · exact ⟨_, _, "WhyChosen$Model", cf_8, by decide, by decide, hl, Or.inl rfl, rfl, fun _ => Or.inr trivial⟩
theorem lfm_X4_29 {kd : Nat} (h : kd < 6) : LF RX4 29 (mcls kd) 2 true := by
  have hl : Cond.fieldLink RX4 29 "WhyChosen$Model" (TX4 2).2.1 (TX4 2).2.2.1 ∈ TB := TB_of 466 (by decide +kernel) rfl
  obtain rfl | rfl | rfl | rfl | rfl | rfl : kd = 0 ∨ kd = 1 ∨ kd = 2 ∨ kd = 3 ∨ kd = 4 ∨ kd = 5 := by omega
  · exact ⟨_, _, "WhyChosen$Model", cf_4, by decide, by decide, hl, Or.inl rfl, rfl, fun _ => Or.inr trivial⟩
  · exact ⟨_, _, "WhyChosen$Model", cf_7, by decide, by decide, hl, Or.inl rfl, rfl, fun _ => Or.inr trivial⟩
  · exact ⟨_, _, "WhyChosen$Model", cf_5, by decide, by decide, hl, Or.inl rfl, rfl, fun _ => Or.inr trivial⟩
  · exact ⟨_, _, "WhyChosen$Model", cf_3, by decide, by decide, hl, Or.inl rfl, rfl, fun _ => Or.inr trivial⟩
  · exact ⟨_, _, "WhyChosen$Model", cf_2, by decide, by decide, hl, Or.inl rfl, rfl, fun _ => Or.inr trivial⟩
  · exact ⟨_, _, "WhyChosen$Model", cf_8, by decide, by decide, hl, Or.inl rfl, rfl, fun _ => Or.inr trivial⟩
theorem lfm_X5_9 (_ : 2 < 6) : LF RX5 9 (mcls 2) 6 true := ⟨_, _, "WhyChosen$Nested", cf_5, by decide, by decide, TB_of 513 (by decide +kernel) rfl, Or.inl rfl, rfl, fun _ => Or.inr trivial⟩
theorem lfm_X5_15 (_ : 2 < 6) : LF RX5 15 (mcls 2) 7 true := ⟨_, _, "WhyChosen$Nested", cf_5, by decide, by decide, TB_of 514 (by decide +kernel) rfl, Or.inl rfl, rfl, fun _ => Or.inr trivial⟩
theorem lfm_X5_43 {kd : Nat} (h : kd < 6) : LF RX5 43 (mcls kd) 4 true := by
  have hl : Cond.fieldLink RX5 43 "WhyChosen$Nested" (TX4 4).2.1 (TX4 4).2.2.1 ∈ TB := TB_of 478 (by decide +kernel) rfl
  obtain rfl | rfl | rfl | rfl | rfl | rfl : kd = 0 ∨ kd = 1 ∨ kd = 2 ∨ kd = 3 ∨ kd = 4 ∨ kd = 5 := by omega
  · exact ⟨_, _, "WhyChosen$Nested", cf_4, by decide, by decide, hl, Or.inr (TB_of 479 (by decide +kernel) rfl), rfl, fun _ => Or.inr trivial⟩
  · exact ⟨_, _, "WhyChosen$Nested", cf_7, by decide, by decide, hl, Or.inr (TB_of 479 (by decide +kernel) rfl), rfl, fun _ => Or.inr trivial⟩
  · exact ⟨_, _, "WhyChosen$Nested", cf_5, by decide, by decide, hl, Or.inr (TB_of 479 (by decide +kernel) rfl), rfl, fun _ => Or.inr trivial⟩
  · exact ⟨_, _, "WhyChosen$Nested", cf_3, by decide, by decide, hl, Or.inr (TB_of 479 (by decide +kernel) rfl), rfl, fun _ => Or.inr trivial⟩
  · exact ⟨_, _, "WhyChosen$Nested", cf_2, by decide, by decide, hl, Or.inr (TB_of 479 (by decide +kernel) rfl), rfl, fun _ => Or.inr trivial⟩
  · exact ⟨_, _, "WhyChosen$Nested", cf_8, by decide, by decide, hl, Or.inr (TB_of 479 (by decide +kernel) rfl), rfl, fun _ => Or.inr trivial⟩
theorem lfm_X5_47 {kd : Nat} (h : kd < 6) : LF RX5 47 (mcls kd) 5 true := by
  have hl : Cond.fieldLink RX5 47 "WhyChosen$Nested" (TX4 5).2.1 (TX4 5).2.2.1 ∈ TB := TB_of 488 (by decide +kernel) rfl
  obtain rfl | rfl | rfl | rfl | rfl | rfl : kd = 0 ∨ kd = 1 ∨ kd = 2 ∨ kd = 3 ∨ kd = 4 ∨ kd = 5 := by omega
  · exact ⟨_, _, "WhyChosen$Nested", cf_4, by decide, by decide, hl, Or.inr (TB_of 489 (by decide +kernel) rfl), rfl, fun _ => Or.inr trivial⟩
  · exact ⟨_, _, "WhyChosen$Nested", cf_7, by decide, by decide, hl, Or.inr (TB_of 489 (by decide +kernel) rfl), rfl, fun _ => Or.inr trivial⟩
  · exact ⟨_, _, "WhyChosen$Nested", cf_5, by decide, by decide, hl, Or.inr (TB_of 489 (by decide +kernel) rfl), rfl, fun _ => Or.inr trivial⟩
  · exact ⟨_, _, "WhyChosen$Nested", cf_3, by decide, by decide, hl, Or.inr (TB_of 489 (by decide +kernel) rfl), rfl, fun _ => Or.inr trivial⟩
  · exact ⟨_, _, "WhyChosen$Nested", cf_2, by decide, by decide, hl, Or.inr (TB_of 489 (by decide +kernel) rfl), rfl, fun _ => Or.inr trivial⟩
  · exact ⟨_, _, "WhyChosen$Nested", cf_8, by decide, by decide, hl, Or.inr (TB_of 489 (by decide +kernel) rfl), rfl, fun _ => Or.inr trivial⟩
theorem lfm_X7_33 {kd : Nat} (h : kd < 6) : LF RX7 33 (mcls kd) 4 true := by
  have hl : Cond.fieldLink RX7 33 "WhyChosen$Plain" (TX4 4).2.1 (TX4 4).2.2.1 ∈ TB := TB_of 476 (by decide +kernel) rfl
  obtain rfl | rfl | rfl | rfl | rfl | rfl : kd = 0 ∨ kd = 1 ∨ kd = 2 ∨ kd = 3 ∨ kd = 4 ∨ kd = 5 := by omega
  · exact ⟨_, _, "WhyChosen$Plain", cf_4, by decide, by decide, hl, Or.inr (TB_of 477 (by decide +kernel) rfl), rfl, fun _ => Or.inr trivial⟩
  · exact ⟨_, _, "WhyChosen$Plain", cf_7, by decide, by decide, hl, Or.inr (TB_of 477 (by decide +kernel) rfl), rfl, fun _ => Or.inr trivial⟩
  · exact ⟨_, _, "WhyChosen$Plain", cf_5, by decide, by decide, hl, Or.inr (TB_of 477 (by decide +kernel) rfl), rfl, fun _ => Or.inr trivial⟩
  · exact ⟨_, _, "WhyChosen$Plain", cf_3, by decide, by decide, hl, Or.inr (TB_of 477 (by decide +kernel) rfl), rfl, fun _ => Or.inr trivial⟩
  · exact ⟨_, _, "WhyChosen$Plain", cf_2, by decide, by decide, hl, Or.inr (TB_of 477 (by decide +kernel) rfl), rfl, fun _ => Or.inr trivial⟩
  · exact ⟨_, _, "WhyChosen$Plain", cf_8, by decide, by decide, hl, Or.inr (TB_of 477 (by decide +kernel) rfl), rfl, fun _ => Or.inr trivial⟩
theorem lfm_X7_37 {kd : Nat} (h : kd < 6) : LF RX7 37 (mcls kd) 5 true := by
  have hl : Cond.fieldLink RX7 37 "WhyChosen$Plain" (TX4 5).2.1 (TX4 5).2.2.1 ∈ TB := TB_of 486 (by decide +kernel) rfl
  obtain rfl | rfl | rfl | rfl | rfl | rfl : kd = 0 ∨ kd = 1 ∨ kd = 2 ∨ kd = 3 ∨ kd = 4 ∨ kd = 5 := by omega
  · exact ⟨_, _, "WhyChosen$Plain", cf_4, by decide, by decide, hl, Or.inr (TB_of 487 (by decide +kernel) rfl), rfl, fun _ => Or.inr trivial⟩
  · exact ⟨_, _, "WhyChosen$Plain", cf_7, by decide, by decide, hl, Or.inr (TB_of 487 (by decide +kernel) rfl), rfl, fun _ => Or.inr trivial⟩
  · exact ⟨_, _, "WhyChosen$Plain", cf_5, by decide, by decide, hl, Or.inr (TB_of 487 (by decide +kernel) rfl), rfl, fun _ => Or.inr trivial⟩
  · exact ⟨_, _, "WhyChosen$Plain", cf_3, by decide, by decide, hl, Or.inr (TB_of 487 (by decide +kernel) rfl), rfl, fun _ => Or.inr trivial⟩
  · exact ⟨_, _, "WhyChosen$Plain", cf_2, by decide, by decide, hl, Or.inr (TB_of 487 (by decide +kernel) rfl), rfl, fun _ => Or.inr trivial⟩
  · exact ⟨_, _, "WhyChosen$Plain", cf_8, by decide, by decide, hl, Or.inr (TB_of 487 (by decide +kernel) rfl), rfl, fun _ => Or.inr trivial⟩
theorem lfm_X8_11 {kd : Nat} (h : kd < 6) : LF RX8 11 (mcls kd) 2 true := by
  have hl : Cond.fieldLink RX8 11 "WhyChosen$Rule" (TX4 2).2.1 (TX4 2).2.2.1 ∈ TB := TB_of 469 (by decide +kernel) rfl
  obtain rfl | rfl | rfl | rfl | rfl | rfl : kd = 0 ∨ kd = 1 ∨ kd = 2 ∨ kd = 3 ∨ kd = 4 ∨ kd = 5 := by omega
  · exact ⟨_, _, "WhyChosen$Rule", cf_4, by decide, by decide, hl, Or.inr (TB_of 470 (by decide +kernel) rfl), rfl, fun _ => Or.inr trivial⟩
  · exact ⟨_, _, "WhyChosen$Rule", cf_7, by decide, by decide, hl, Or.inr (TB_of 470 (by decide +kernel) rfl), rfl, fun _ => Or.inr trivial⟩
  · exact ⟨_, _, "WhyChosen$Rule", cf_5, by decide, by decide, hl, Or.inr (TB_of 470 (by decide +kernel) rfl), rfl, fun _ => Or.inr trivial⟩
  · exact ⟨_, _, "WhyChosen$Rule", cf_3, by decide, by decide, hl, Or.inr (TB_of 470 (by decide +kernel) rfl), rfl, fun _ => Or.inr trivial⟩
  · exact ⟨_, _, "WhyChosen$Rule", cf_2, by decide, by decide, hl, Or.inr (TB_of 470 (by decide +kernel) rfl), rfl, fun _ => Or.inr trivial⟩
  · exact ⟨_, _, "WhyChosen$Rule", cf_8, by decide, by decide, hl, Or.inr (TB_of 470 (by decide +kernel) rfl), rfl, fun _ => Or.inr trivial⟩
theorem lfm_X8_26 {kd : Nat} (h : kd < 6) : LF RX8 26 (mcls kd) 4 true := by
  have hl : Cond.fieldLink RX8 26 "WhyChosen$Rule" (TX4 4).2.1 (TX4 4).2.2.1 ∈ TB := TB_of 482 (by decide +kernel) rfl
  obtain rfl | rfl | rfl | rfl | rfl | rfl : kd = 0 ∨ kd = 1 ∨ kd = 2 ∨ kd = 3 ∨ kd = 4 ∨ kd = 5 := by omega
  · exact ⟨_, _, "WhyChosen$Rule", cf_4, by decide, by decide, hl, Or.inr (TB_of 483 (by decide +kernel) rfl), rfl, fun _ => Or.inr trivial⟩
  · exact ⟨_, _, "WhyChosen$Rule", cf_7, by decide, by decide, hl, Or.inr (TB_of 483 (by decide +kernel) rfl), rfl, fun _ => Or.inr trivial⟩
  · exact ⟨_, _, "WhyChosen$Rule", cf_5, by decide, by decide, hl, Or.inr (TB_of 483 (by decide +kernel) rfl), rfl, fun _ => Or.inr trivial⟩
  · exact ⟨_, _, "WhyChosen$Rule", cf_3, by decide, by decide, hl, Or.inr (TB_of 483 (by decide +kernel) rfl), rfl, fun _ => Or.inr trivial⟩
  · exact ⟨_, _, "WhyChosen$Rule", cf_2, by decide, by decide, hl, Or.inr (TB_of 483 (by decide +kernel) rfl), rfl, fun _ => Or.inr trivial⟩
  · exact ⟨_, _, "WhyChosen$Rule", cf_8, by decide, by decide, hl, Or.inr (TB_of 483 (by decide +kernel) rfl), rfl, fun _ => Or.inr trivial⟩
theorem lfm_X8_44 {kd : Nat} (h : kd < 6) : LF RX8 44 (mcls kd) 1 true := by
  have hl : Cond.fieldLink RX8 44 "WhyChosen$Rule" (TX4 1).2.1 (TX4 1).2.2.1 ∈ TB := TB_of 464 (by decide +kernel) rfl
  obtain rfl | rfl | rfl | rfl | rfl | rfl : kd = 0 ∨ kd = 1 ∨ kd = 2 ∨ kd = 3 ∨ kd = 4 ∨ kd = 5 := by omega
  · exact ⟨_, _, "WhyChosen$Rule", cf_4, by decide, by decide, hl, Or.inr (TB_of 465 (by decide +kernel) rfl), rfl, fun _ => Or.inr trivial⟩
  · exact ⟨_, _, "WhyChosen$Rule", cf_7, by decide, by decide, hl, Or.inr (TB_of 465 (by decide +kernel) rfl), rfl, fun _ => Or.inr trivial⟩
  · exact ⟨_, _, "WhyChosen$Rule", cf_5, by decide, by decide, hl, Or.inr (TB_of 465 (by decide +kernel) rfl), rfl, fun _ => Or.inr trivial⟩
  · exact ⟨_, _, "WhyChosen$Rule", cf_3, by decide, by decide, hl, Or.inr (TB_of 465 (by decide +kernel) rfl), rfl, fun _ => Or.inr trivial⟩
  · exact ⟨_, _, "WhyChosen$Rule", cf_2, by decide, by decide, hl, Or.inr (TB_of 465 (by decide +kernel) rfl), rfl, fun _ => Or.inr trivial⟩
  · exact ⟨_, _, "WhyChosen$Rule", cf_8, by decide, by decide, hl, Or.inr (TB_of 465 (by decide +kernel) rfl), rfl, fun _ => Or.inr trivial⟩
theorem fVm_0 {G : Gl} {S : Sh} {D : Dy} {t kd : Nat} (h : FMo S t kd) : fV G.1 S D (mcls kd) (t + 9) 0 = .int (D.1 (t + 9) 0) := by
  have hk := h.kd
  obtain rfl | rfl | rfl | rfl | rfl | rfl : kd = 0 ∨ kd = 1 ∨ kd = 2 ∨ kd = 3 ∨ kd = 4 ∨ kd = 5 := by omega
  all_goals exact fV_int rfl
theorem fVm_1 {G : Gl} {S : Sh} {D : Dy} {t kd : Nat} (h : FMo S t kd) : fV G.1 S D (mcls kd) (t + 9) 1 = .int (D.1 (t + 9) 1) := by
  have hk := h.kd
  obtain rfl | rfl | rfl | rfl | rfl | rfl : kd = 0 ∨ kd = 1 ∨ kd = 2 ∨ kd = 3 ∨ kd = 4 ∨ kd = 5 := by omega
  all_goals exact fV_int rfl
theorem fVm_2 {G : Gl} {S : Sh} {D : Dy} {t kd : Nat} (h : FMo S t kd) : fV G.1 S D (mcls kd) (t + 9) 2 = .ref (G.1 + t) := by
  have hk := h.kd
  obtain rfl | rfl | rfl | rfl | rfl | rfl : kd = 0 ∨ kd = 1 ∨ kd = 2 ∨ kd = 3 ∨ kd = 4 ∨ kd = 5 := by omega
  all_goals exact fV_ref rfl h.2.2.2.2.2.2.1
theorem fVm_3 {G : Gl} {S : Sh} {D : Dy} {t kd : Nat} (h : FMo S t kd) : fV G.1 S D (mcls kd) (t + 9) 3 = .ref (G.1 + (t + 10)) := by
  have hk := h.kd
  obtain rfl | rfl | rfl | rfl | rfl | rfl : kd = 0 ∨ kd = 1 ∨ kd = 2 ∨ kd = 3 ∨ kd = 4 ∨ kd = 5 := by omega
  all_goals exact fV_ref rfl h.2.2.2.2.2.2.2.1
theorem fVm_4 {G : Gl} {S : Sh} {D : Dy} {t kd : Nat} (h : FMo S t kd) : fV G.1 S D (mcls kd) (t + 9) 4 = .ref (G.1 + (t + 11)) := by
  have hk := h.kd
  obtain rfl | rfl | rfl | rfl | rfl | rfl : kd = 0 ∨ kd = 1 ∨ kd = 2 ∨ kd = 3 ∨ kd = 4 ∨ kd = 5 := by omega
  all_goals exact fV_ref rfl h.2.2.2.2.2.2.2.2.1
theorem fVm_5 {G : Gl} {S : Sh} {D : Dy} {t kd : Nat} (h : FMo S t kd) : fV G.1 S D (mcls kd) (t + 9) 5 = .ref (G.1 + (t + 12)) := by
  have hk := h.kd
  obtain rfl | rfl | rfl | rfl | rfl | rfl : kd = 0 ∨ kd = 1 ∨ kd = 2 ∨ kd = 3 ∨ kd = 4 ∨ kd = 5 := by omega
  all_goals exact fV_ref rfl h.2.2.2.2.2.2.2.2.2.1
theorem fVm_6 {G : Gl} {S : Sh} {D : Dy} {t : Nat} (h : FMo S t 2) : fV G.1 S D (mcls 2) (t + 9) 6 = .ref (G.1 + (t + 13)) := fV_ref rfl (h.2.2.2.2.2.2.2.2.2.2 rfl).2.2.1
theorem fVm_7 {G : Gl} {S : Sh} {D : Dy} {t : Nat} (h : FMo S t 2) : fV G.1 S D (mcls 2) (t + 9) 7 = .ref (G.1 + (t + 14)) := fV_ref rfl (h.2.2.2.2.2.2.2.2.2.2 rfl).2.2.2
