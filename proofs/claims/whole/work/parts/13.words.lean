/-! words of the tables, by their places; fields (laid by program) -/
theorem icl_0 : Cond.initialized RX0 ∈ TB := tw_3
theorem fw_0_0 : u_lay RX0 TX0 0 ∈ TB := tw_73
theorem fw_0_1 : u_lay RX0 TX0 1 ∈ TB := tw_75
theorem fw_0_2 : u_lay RX0 TX0 2 ∈ TB := tw_77
theorem fw_0_3 : u_lay RX0 TX0 3 ∈ TB := tw_79
theorem fw_0_4 : u_lay RX0 TX0 4 ∈ TB := tw_81
theorem fw_0 : ∀ k, k < 5 → u_lay RX0 TX0 k ∈ TB := fun k hk => by
  match k, hk with
  | 0, _ => exact fw_0_0
  | 1, _ => exact fw_0_1
  | 2, _ => exact fw_0_2
  | 3, _ => exact fw_0_3
  | 4, _ => exact fw_0_4
  | k + 5, hk => omega
theorem cf_0 : CF 0 RX0 TX0 := by
  refine ⟨rfl, fun w hw => ?_, ?_, nmX0, tw_58, icl_0⟩
  · obtain ⟨k, hk, rfl⟩ := List.mem_map.mp hw
    exact fw_0 k (List.mem_range.mp hk)
  · exact tyX0_ok
theorem pl_0 : plainName RX0 = true := by decide
theorem icl_1 : Cond.initialized RX1 ∈ TB := tw_2
theorem fw_1_0 : u_lay RX1 TX1 0 ∈ TB := tw_47
theorem fw_1_1 : u_lay RX1 TX1 1 ∈ TB := tw_49
theorem fw_1_2 : u_lay RX1 TX1 2 ∈ TB := tw_51
theorem fw_1_3 : u_lay RX1 TX1 3 ∈ TB := tw_53
theorem fw_1 : ∀ k, k < 4 → u_lay RX1 TX1 k ∈ TB := fun k hk => by
  match k, hk with
  | 0, _ => exact fw_1_0
  | 1, _ => exact fw_1_1
  | 2, _ => exact fw_1_2
  | 3, _ => exact fw_1_3
  | k + 4, hk => omega
theorem cf_1 : CF 1 RX1 TX1 := by
  refine ⟨rfl, fun w hw => ?_, ?_, nmX1, tw_30, icl_1⟩
  · obtain ⟨k, hk, rfl⟩ := List.mem_map.mp hw
    exact fw_1 k (List.mem_range.mp hk)
  · exact tyX1_ok
theorem pl_1 : plainName RX1 = true := by decide
theorem icl_2 : Cond.initialized RX2 ∈ TB := tw_17
theorem fw_2_0 : u_lay RX2 TX2 0 ∈ TB := tw_545
theorem fw_2_1 : u_lay RX2 TX2 1 ∈ TB := tw_546
theorem fw_2_2 : u_lay RX2 TX2 2 ∈ TB := tw_547
theorem fw_2_3 : u_lay RX2 TX2 3 ∈ TB := tw_548
theorem fw_2_4 : u_lay RX2 TX2 4 ∈ TB := tw_549
theorem fw_2_5 : u_lay RX2 TX2 5 ∈ TB := tw_550
theorem fw_2 : ∀ k, k < 6 → u_lay RX2 TX2 k ∈ TB := fun k hk => by
  match k, hk with
  | 0, _ => exact fw_2_0
  | 1, _ => exact fw_2_1
  | 2, _ => exact fw_2_2
  | 3, _ => exact fw_2_3
  | 4, _ => exact fw_2_4
  | 5, _ => exact fw_2_5
  | k + 6, hk => omega
theorem cf_2 : CF 2 RX2 TX2 := by
  refine ⟨rfl, fun w hw => ?_, ?_, nmX2, tw_540, icl_2⟩
  · obtain ⟨k, hk, rfl⟩ := List.mem_map.mp hw
    exact fw_2 k (List.mem_range.mp hk)
  · exact tyX2_ok
theorem pl_2 : plainName RX2 = true := by decide
theorem icl_3 : Cond.initialized RX3 ∈ TB := tw_16
theorem fw_3_0 : u_lay RX3 TX3 0 ∈ TB := tw_532
theorem fw_3_1 : u_lay RX3 TX3 1 ∈ TB := tw_533
theorem fw_3_2 : u_lay RX3 TX3 2 ∈ TB := tw_534
theorem fw_3_3 : u_lay RX3 TX3 3 ∈ TB := tw_535
theorem fw_3_4 : u_lay RX3 TX3 4 ∈ TB := tw_536
theorem fw_3_5 : u_lay RX3 TX3 5 ∈ TB := tw_537
theorem fw_3 : ∀ k, k < 6 → u_lay RX3 TX3 k ∈ TB := fun k hk => by
  match k, hk with
  | 0, _ => exact fw_3_0
  | 1, _ => exact fw_3_1
  | 2, _ => exact fw_3_2
  | 3, _ => exact fw_3_3
  | 4, _ => exact fw_3_4
  | 5, _ => exact fw_3_5
  | k + 6, hk => omega
theorem cf_3 : CF 3 RX3 TX3 := by
  refine ⟨rfl, fun w hw => ?_, ?_, nmX3, tw_527, icl_3⟩
  · obtain ⟨k, hk, rfl⟩ := List.mem_map.mp hw
    exact fw_3 k (List.mem_range.mp hk)
  · exact tyX3_ok
theorem pl_3 : plainName RX3 = true := by decide
theorem icl_4 : Cond.initialized RX4 ∈ TB := tw_13
theorem fw_4_0 : u_lay RX4 TX4 0 ∈ TB := tw_567
theorem fw_4_1 : u_lay RX4 TX4 1 ∈ TB := tw_568
theorem fw_4_2 : u_lay RX4 TX4 2 ∈ TB := tw_569
theorem fw_4_3 : u_lay RX4 TX4 3 ∈ TB := tw_570
theorem fw_4_4 : u_lay RX4 TX4 4 ∈ TB := tw_571
theorem fw_4_5 : u_lay RX4 TX4 5 ∈ TB := tw_572
theorem fw_4 : ∀ k, k < 6 → u_lay RX4 TX4 k ∈ TB := fun k hk => by
  match k, hk with
  | 0, _ => exact fw_4_0
  | 1, _ => exact fw_4_1
  | 2, _ => exact fw_4_2
  | 3, _ => exact fw_4_3
  | 4, _ => exact fw_4_4
  | 5, _ => exact fw_4_5
  | k + 6, hk => omega
theorem cf_4 : CF 4 RX4 TX4 := by
  refine ⟨rfl, fun w hw => ?_, ?_, nmX4, tw_565, icl_4⟩
  · obtain ⟨k, hk, rfl⟩ := List.mem_map.mp hw
    exact fw_4 k (List.mem_range.mp hk)
  · exact tyX4_ok
theorem pl_4 : plainName RX4 = true := by decide
theorem icl_5 : Cond.initialized RX5 ∈ TB := tw_15
theorem fw_5_0 : u_lay RX5 TX5 0 ∈ TB := tw_519
theorem fw_5_1 : u_lay RX5 TX5 1 ∈ TB := tw_520
theorem fw_5_2 : u_lay RX5 TX5 2 ∈ TB := tw_521
theorem fw_5_3 : u_lay RX5 TX5 3 ∈ TB := tw_522
theorem fw_5_4 : u_lay RX5 TX5 4 ∈ TB := tw_523
theorem fw_5_5 : u_lay RX5 TX5 5 ∈ TB := tw_524
theorem fw_5_6 : u_lay RX5 TX5 6 ∈ TB := tw_515
theorem fw_5_7 : u_lay RX5 TX5 7 ∈ TB := tw_517
theorem fw_5 : ∀ k, k < 8 → u_lay RX5 TX5 k ∈ TB := fun k hk => by
  match k, hk with
  | 0, _ => exact fw_5_0
  | 1, _ => exact fw_5_1
  | 2, _ => exact fw_5_2
  | 3, _ => exact fw_5_3
  | 4, _ => exact fw_5_4
  | 5, _ => exact fw_5_5
  | 6, _ => exact fw_5_6
  | 7, _ => exact fw_5_7
  | k + 8, hk => omega
theorem cf_5 : CF 5 RX5 TX5 := by
  refine ⟨rfl, fun w hw => ?_, ?_, nmX5, tw_508, icl_5⟩
  · obtain ⟨k, hk, rfl⟩ := List.mem_map.mp hw
    exact fw_5 k (List.mem_range.mp hk)
  · exact tyX5_ok
theorem pl_5 : plainName RX5 = true := by decide
theorem icl_6 : Cond.initialized RX6 ∈ TB := tw_4
theorem fw_6_0 : u_lay RX6 TX6 0 ∈ TB := tw_100
theorem fw_6_1 : u_lay RX6 TX6 1 ∈ TB := tw_102
theorem fw_6_2 : u_lay RX6 TX6 2 ∈ TB := tw_104
theorem fw_6_3 : u_lay RX6 TX6 3 ∈ TB := tw_106
theorem fw_6_4 : u_lay RX6 TX6 4 ∈ TB := tw_108
theorem fw_6_5 : u_lay RX6 TX6 5 ∈ TB := tw_110
theorem fw_6_6 : u_lay RX6 TX6 6 ∈ TB := tw_112
theorem fw_6_7 : u_lay RX6 TX6 7 ∈ TB := tw_114
theorem fw_6 : ∀ k, k < 8 → u_lay RX6 TX6 k ∈ TB := fun k hk => by
  match k, hk with
  | 0, _ => exact fw_6_0
  | 1, _ => exact fw_6_1
  | 2, _ => exact fw_6_2
  | 3, _ => exact fw_6_3
  | 4, _ => exact fw_6_4
  | 5, _ => exact fw_6_5
  | 6, _ => exact fw_6_6
  | 7, _ => exact fw_6_7
  | k + 8, hk => omega
theorem cf_6 : CF 6 RX6 TX6 := by
  refine ⟨rfl, fun w hw => ?_, ?_, nmX6, tw_87, icl_6⟩
  · obtain ⟨k, hk, rfl⟩ := List.mem_map.mp hw
    exact fw_6 k (List.mem_range.mp hk)
  · exact tyX6_ok
theorem pl_6 : plainName RX6 = true := by decide
theorem icl_7 : Cond.initialized RX7 ∈ TB := tw_14
theorem fw_7_0 : u_lay RX7 TX7 0 ∈ TB := tw_493
theorem fw_7_1 : u_lay RX7 TX7 1 ∈ TB := tw_495
theorem fw_7_2 : u_lay RX7 TX7 2 ∈ TB := tw_497
theorem fw_7_3 : u_lay RX7 TX7 3 ∈ TB := tw_499
theorem fw_7_4 : u_lay RX7 TX7 4 ∈ TB := tw_501
theorem fw_7_5 : u_lay RX7 TX7 5 ∈ TB := tw_503
theorem fw_7 : ∀ k, k < 6 → u_lay RX7 TX7 k ∈ TB := fun k hk => by
  match k, hk with
  | 0, _ => exact fw_7_0
  | 1, _ => exact fw_7_1
  | 2, _ => exact fw_7_2
  | 3, _ => exact fw_7_3
  | 4, _ => exact fw_7_4
  | 5, _ => exact fw_7_5
  | k + 6, hk => omega
theorem cf_7 : CF 7 RX7 TX7 := by
  refine ⟨rfl, fun w hw => ?_, ?_, nmX7, tw_453, icl_7⟩
  · obtain ⟨k, hk, rfl⟩ := List.mem_map.mp hw
    exact fw_7 k (List.mem_range.mp hk)
  · exact tyX7_ok
theorem pl_7 : plainName RX7 = true := by decide
theorem icl_8 : Cond.initialized RX8 ∈ TB := tw_18
theorem fw_8_0 : u_lay RX8 TX8 0 ∈ TB := tw_558
theorem fw_8_1 : u_lay RX8 TX8 1 ∈ TB := tw_559
theorem fw_8_2 : u_lay RX8 TX8 2 ∈ TB := tw_560
theorem fw_8_3 : u_lay RX8 TX8 3 ∈ TB := tw_561
theorem fw_8_4 : u_lay RX8 TX8 4 ∈ TB := tw_562
theorem fw_8_5 : u_lay RX8 TX8 5 ∈ TB := tw_563
theorem fw_8 : ∀ k, k < 6 → u_lay RX8 TX8 k ∈ TB := fun k hk => by
  match k, hk with
  | 0, _ => exact fw_8_0
  | 1, _ => exact fw_8_1
  | 2, _ => exact fw_8_2
  | 3, _ => exact fw_8_3
  | 4, _ => exact fw_8_4
  | 5, _ => exact fw_8_5
  | k + 6, hk => omega
theorem cf_8 : CF 8 RX8 TX8 := by
  refine ⟨rfl, fun w hw => ?_, ?_, nmX8, tw_553, icl_8⟩
  · obtain ⟨k, hk, rfl⟩ := List.mem_map.mp hw
    exact fw_8 k (List.mem_range.mp hk)
  · exact tyX8_ok
theorem pl_8 : plainName RX8 = true := by decide
theorem icl_9 : Cond.initialized RX9 ∈ TB := tw_7
theorem fw_9_0 : u_lay RX9 TX9 0 ∈ TB := tw_281
theorem fw_9_1 : u_lay RX9 TX9 1 ∈ TB := tw_283
theorem fw_9_2 : u_lay RX9 TX9 2 ∈ TB := tw_285
theorem fw_9_3 : u_lay RX9 TX9 3 ∈ TB := tw_287
theorem fw_9_4 : u_lay RX9 TX9 4 ∈ TB := tw_289
theorem fw_9_5 : u_lay RX9 TX9 5 ∈ TB := tw_291
theorem fw_9_6 : u_lay RX9 TX9 6 ∈ TB := tw_293
theorem fw_9_7 : u_lay RX9 TX9 7 ∈ TB := tw_295
theorem fw_9_8 : u_lay RX9 TX9 8 ∈ TB := tw_297
theorem fw_9_9 : u_lay RX9 TX9 9 ∈ TB := tw_299
theorem fw_9_10 : u_lay RX9 TX9 10 ∈ TB := tw_301
theorem fw_9_11 : u_lay RX9 TX9 11 ∈ TB := tw_303
theorem fw_9_12 : u_lay RX9 TX9 12 ∈ TB := tw_305
theorem fw_9_13 : u_lay RX9 TX9 13 ∈ TB := tw_307
theorem fw_9_14 : u_lay RX9 TX9 14 ∈ TB := tw_309
theorem fw_9_15 : u_lay RX9 TX9 15 ∈ TB := tw_311
theorem fw_9_16 : u_lay RX9 TX9 16 ∈ TB := tw_313
theorem fw_9 : ∀ k, k < 17 → u_lay RX9 TX9 k ∈ TB := fun k hk => by
  match k, hk with
  | 0, _ => exact fw_9_0
  | 1, _ => exact fw_9_1
  | 2, _ => exact fw_9_2
  | 3, _ => exact fw_9_3
  | 4, _ => exact fw_9_4
  | 5, _ => exact fw_9_5
  | 6, _ => exact fw_9_6
  | 7, _ => exact fw_9_7
  | 8, _ => exact fw_9_8
  | 9, _ => exact fw_9_9
  | 10, _ => exact fw_9_10
  | 11, _ => exact fw_9_11
  | 12, _ => exact fw_9_12
  | 13, _ => exact fw_9_13
  | 14, _ => exact fw_9_14
  | 15, _ => exact fw_9_15
  | 16, _ => exact fw_9_16
  | k + 17, hk => omega
theorem cf_9 : CF 9 RX9 TX9 := by
  refine ⟨rfl, fun w hw => ?_, ?_, nmX9, tw_248, icl_9⟩
  · obtain ⟨k, hk, rfl⟩ := List.mem_map.mp hw
    exact fw_9 k (List.mem_range.mp hk)
  · exact tyX9_ok
theorem pl_9 : plainName RX9 = true := by decide
theorem icl_10 : Cond.initialized RX10 ∈ TB := tw_5
theorem fw_10_0 : u_lay RX10 TX10 0 ∈ TB := tw_127
theorem fw_10_1 : u_lay RX10 TX10 1 ∈ TB := tw_129
theorem fw_10 : ∀ k, k < 2 → u_lay RX10 TX10 k ∈ TB := fun k hk => by
  match k, hk with
  | 0, _ => exact fw_10_0
  | 1, _ => exact fw_10_1
  | k + 2, hk => omega
theorem cf_10 : CF 10 RX10 TX10 := by
  refine ⟨rfl, fun w hw => ?_, ?_, nmX10, tw_118, icl_10⟩
  · obtain ⟨k, hk, rfl⟩ := List.mem_map.mp hw
    exact fw_10 k (List.mem_range.mp hk)
  · exact tyX10_ok
theorem pl_10 : plainName RX10 = true := by decide
theorem icl_11 : Cond.initialized RX11 ∈ TB := tw_1
theorem fw_11_0 : u_lay RX11 TX11 0 ∈ TB := tw_150
theorem fw_11_1 : u_lay RX11 TX11 1 ∈ TB := tw_152
theorem fw_11_2 : u_lay RX11 TX11 2 ∈ TB := tw_154
theorem fw_11_3 : u_lay RX11 TX11 3 ∈ TB := tw_156
theorem fw_11_4 : u_lay RX11 TX11 4 ∈ TB := tw_158
theorem fw_11_5 : u_lay RX11 TX11 5 ∈ TB := tw_160
theorem fw_11_6 : u_lay RX11 TX11 6 ∈ TB := tw_162
theorem fw_11_7 : u_lay RX11 TX11 7 ∈ TB := tw_164
theorem fw_11_8 : u_lay RX11 TX11 8 ∈ TB := tw_166
theorem fw_11_9 : u_lay RX11 TX11 9 ∈ TB := tw_168
theorem fw_11_10 : u_lay RX11 TX11 10 ∈ TB := tw_170
theorem fw_11_11 : u_lay RX11 TX11 11 ∈ TB := tw_172
theorem fw_11_12 : u_lay RX11 TX11 12 ∈ TB := tw_174
theorem fw_11_13 : u_lay RX11 TX11 13 ∈ TB := tw_176
theorem fw_11_14 : u_lay RX11 TX11 14 ∈ TB := tw_178
theorem fw_11_15 : u_lay RX11 TX11 15 ∈ TB := tw_180
theorem fw_11 : ∀ k, k < 16 → u_lay RX11 TX11 k ∈ TB := fun k hk => by
  match k, hk with
  | 0, _ => exact fw_11_0
  | 1, _ => exact fw_11_1
  | 2, _ => exact fw_11_2
  | 3, _ => exact fw_11_3
  | 4, _ => exact fw_11_4
  | 5, _ => exact fw_11_5
  | 6, _ => exact fw_11_6
  | 7, _ => exact fw_11_7
  | 8, _ => exact fw_11_8
  | 9, _ => exact fw_11_9
  | 10, _ => exact fw_11_10
  | 11, _ => exact fw_11_11
  | 12, _ => exact fw_11_12
  | 13, _ => exact fw_11_13
  | 14, _ => exact fw_11_14
  | 15, _ => exact fw_11_15
  | k + 16, hk => omega
theorem cf_11 : CF 11 RX11 TX11 := by
  refine ⟨rfl, fun w hw => ?_, ?_, nmX11, tw_22, icl_11⟩
  · obtain ⟨k, hk, rfl⟩ := List.mem_map.mp hw
    exact fw_11 k (List.mem_range.mp hk)
  · exact tyX11_ok
theorem pl_11 : plainName RX11 = true := by decide
theorem icl_12 : Cond.initialized RX12 ∈ TB := tw_6
theorem fw_12_0 : u_lay RX12 TX12 0 ∈ TB := tw_1147
theorem fw_12_1 : u_lay RX12 TX12 1 ∈ TB := tw_1149
theorem fw_12_2 : u_lay RX12 TX12 2 ∈ TB := tw_1151
theorem fw_12_3 : u_lay RX12 TX12 3 ∈ TB := tw_1153
theorem fw_12_4 : u_lay RX12 TX12 4 ∈ TB := tw_1155
theorem fw_12_5 : u_lay RX12 TX12 5 ∈ TB := tw_1157
theorem fw_12_6 : u_lay RX12 TX12 6 ∈ TB := tw_1159
theorem fw_12_7 : u_lay RX12 TX12 7 ∈ TB := tw_1161
theorem fw_12_8 : u_lay RX12 TX12 8 ∈ TB := tw_1163
theorem fw_12_9 : u_lay RX12 TX12 9 ∈ TB := tw_1165
theorem fw_12_10 : u_lay RX12 TX12 10 ∈ TB := tw_1167
theorem fw_12_11 : u_lay RX12 TX12 11 ∈ TB := tw_1169
theorem fw_12_12 : u_lay RX12 TX12 12 ∈ TB := tw_1171
theorem fw_12_13 : u_lay RX12 TX12 13 ∈ TB := tw_1173
theorem fw_12_14 : u_lay RX12 TX12 14 ∈ TB := tw_1175
theorem fw_12_15 : u_lay RX12 TX12 15 ∈ TB := tw_1177
theorem fw_12_16 : u_lay RX12 TX12 16 ∈ TB := tw_1179
theorem fw_12_17 : u_lay RX12 TX12 17 ∈ TB := tw_1181
theorem fw_12_18 : u_lay RX12 TX12 18 ∈ TB := tw_1183
theorem fw_12_19 : u_lay RX12 TX12 19 ∈ TB := tw_1185
theorem fw_12_20 : u_lay RX12 TX12 20 ∈ TB := tw_1187
theorem fw_12_21 : u_lay RX12 TX12 21 ∈ TB := tw_1189
theorem fw_12_22 : u_lay RX12 TX12 22 ∈ TB := tw_1191
theorem fw_12_23 : u_lay RX12 TX12 23 ∈ TB := tw_1193
theorem fw_12_24 : u_lay RX12 TX12 24 ∈ TB := tw_1195
theorem fw_12_25 : u_lay RX12 TX12 25 ∈ TB := tw_1197
theorem fw_12_26 : u_lay RX12 TX12 26 ∈ TB := tw_1199
theorem fw_12_27 : u_lay RX12 TX12 27 ∈ TB := tw_1201
theorem fw_12_28 : u_lay RX12 TX12 28 ∈ TB := tw_1203
theorem fw_12_29 : u_lay RX12 TX12 29 ∈ TB := tw_1205
theorem fw_12_30 : u_lay RX12 TX12 30 ∈ TB := tw_1207
theorem fw_12_31 : u_lay RX12 TX12 31 ∈ TB := tw_1209
theorem fw_12_32 : u_lay RX12 TX12 32 ∈ TB := tw_1211
theorem fw_12_33 : u_lay RX12 TX12 33 ∈ TB := tw_1213
theorem fw_12_34 : u_lay RX12 TX12 34 ∈ TB := tw_1215
theorem fw_12_35 : u_lay RX12 TX12 35 ∈ TB := tw_1217
theorem fw_12_36 : u_lay RX12 TX12 36 ∈ TB := tw_1219
theorem fw_12_37 : u_lay RX12 TX12 37 ∈ TB := tw_1221
theorem fw_12_38 : u_lay RX12 TX12 38 ∈ TB := tw_1223
theorem fw_12_39 : u_lay RX12 TX12 39 ∈ TB := tw_1225
theorem fw_12_40 : u_lay RX12 TX12 40 ∈ TB := tw_1227
theorem fw_12_41 : u_lay RX12 TX12 41 ∈ TB := tw_1229
theorem fw_12_42 : u_lay RX12 TX12 42 ∈ TB := tw_1231
theorem fw_12_43 : u_lay RX12 TX12 43 ∈ TB := tw_1233
theorem fw_12_44 : u_lay RX12 TX12 44 ∈ TB := tw_1235
theorem fw_12_45 : u_lay RX12 TX12 45 ∈ TB := tw_1237
theorem fw_12_46 : u_lay RX12 TX12 46 ∈ TB := tw_1239
theorem fw_12_47 : u_lay RX12 TX12 47 ∈ TB := tw_1241
theorem fw_12_48 : u_lay RX12 TX12 48 ∈ TB := tw_1243
theorem fw_12_49 : u_lay RX12 TX12 49 ∈ TB := tw_1245
theorem fw_12_50 : u_lay RX12 TX12 50 ∈ TB := tw_1247
theorem fw_12_51 : u_lay RX12 TX12 51 ∈ TB := tw_1249
theorem fw_12_52 : u_lay RX12 TX12 52 ∈ TB := tw_1251
theorem fw_12_53 : u_lay RX12 TX12 53 ∈ TB := tw_1253
theorem fw_12 : ∀ k, k < 54 → u_lay RX12 TX12 k ∈ TB := fun k hk => by
  match k, hk with
  | 0, _ => exact fw_12_0
  | 1, _ => exact fw_12_1
  | 2, _ => exact fw_12_2
  | 3, _ => exact fw_12_3
  | 4, _ => exact fw_12_4
  | 5, _ => exact fw_12_5
  | 6, _ => exact fw_12_6
  | 7, _ => exact fw_12_7
  | 8, _ => exact fw_12_8
  | 9, _ => exact fw_12_9
  | 10, _ => exact fw_12_10
  | 11, _ => exact fw_12_11
  | 12, _ => exact fw_12_12
  | 13, _ => exact fw_12_13
  | 14, _ => exact fw_12_14
  | 15, _ => exact fw_12_15
  | 16, _ => exact fw_12_16
  | 17, _ => exact fw_12_17
  | 18, _ => exact fw_12_18
  | 19, _ => exact fw_12_19
  | 20, _ => exact fw_12_20
  | 21, _ => exact fw_12_21
  | 22, _ => exact fw_12_22
  | 23, _ => exact fw_12_23
  | 24, _ => exact fw_12_24
  | 25, _ => exact fw_12_25
  | 26, _ => exact fw_12_26
  | 27, _ => exact fw_12_27
  | 28, _ => exact fw_12_28
  | 29, _ => exact fw_12_29
  | 30, _ => exact fw_12_30
  | 31, _ => exact fw_12_31
  | 32, _ => exact fw_12_32
  | 33, _ => exact fw_12_33
  | 34, _ => exact fw_12_34
  | 35, _ => exact fw_12_35
  | 36, _ => exact fw_12_36
  | 37, _ => exact fw_12_37
  | 38, _ => exact fw_12_38
  | 39, _ => exact fw_12_39
  | 40, _ => exact fw_12_40
  | 41, _ => exact fw_12_41
  | 42, _ => exact fw_12_42
  | 43, _ => exact fw_12_43
  | 44, _ => exact fw_12_44
  | 45, _ => exact fw_12_45
  | 46, _ => exact fw_12_46
  | 47, _ => exact fw_12_47
  | 48, _ => exact fw_12_48
  | 49, _ => exact fw_12_49
  | 50, _ => exact fw_12_50
  | 51, _ => exact fw_12_51
  | 52, _ => exact fw_12_52
  | 53, _ => exact fw_12_53
  | k + 54, hk => omega
theorem cf_12 : CF 12 RX12 TX12 := by
  refine ⟨rfl, fun w hw => ?_, ?_, nmX12, tw_1086, icl_12⟩
  · obtain ⟨k, hk, rfl⟩ := List.mem_map.mp hw
    exact fw_12 k (List.mem_range.mp hk)
  · exact tyX12_ok
theorem pl_12 : plainName RX12 = true := by decide
theorem cfm {kd : Nat} (h : kd < 6) : ∃ C T, CF (mcls kd) C T ∧ mcls kd < 13 := by
  obtain rfl | rfl | rfl | rfl | rfl | rfl : kd = 0 ∨ kd = 1 ∨ kd = 2 ∨ kd = 3 ∨ kd = 4 ∨ kd = 5 := by omega
  · exact ⟨_, _, cf_4, by decide⟩
  · exact ⟨_, _, cf_7, by decide⟩
  · exact ⟨_, _, cf_5, by decide⟩
  · exact ⟨_, _, cf_3, by decide⟩
  · exact ⟨_, _, cf_2, by decide⟩
  · exact ⟨_, _, cf_8, by decide⟩
theorem lf_X0_15_0 : LF RX0 15 0 1 true := ⟨_, _, "WhyChosen$Choices", cf_0, by decide, by decide, tw_65, Or.inl rfl, rfl, fun _ => Or.inr trivial⟩
theorem lf_X0_18_0 : LF RX0 18 0 2 true := ⟨_, _, "WhyChosen$Choices", cf_0, by decide, by decide, tw_67, Or.inl rfl, rfl, fun _ => Or.inr trivial⟩
theorem lf_X0_21_0 : LF RX0 21 0 3 true := ⟨_, _, "WhyChosen$Choices", cf_0, by decide, by decide, tw_69, Or.inl rfl, rfl, fun _ => Or.inr trivial⟩
theorem lf_X0_24_0 : LF RX0 24 0 4 false := ⟨_, _, "WhyChosen$Choices", cf_0, by decide, by decide, tw_71, Or.inl rfl, rfl, fun _ => Or.inr trivial⟩
theorem lf_X0_9_0 : LF RX0 9 0 0 true := ⟨_, _, "WhyChosen$Choices", cf_0, by decide, by decide, tw_63, Or.inl rfl, rfl, fun _ => Or.inr trivial⟩
theorem lf_X10_13_10 : LF RX10 13 10 1 false := ⟨_, _, "WhyChosen$Trace", cf_10, by decide, by decide, tw_125, Or.inl rfl, rfl, fun _ => Or.inr trivial⟩
theorem lf_X10_9_10 : LF RX10 9 10 0 true := ⟨_, _, "WhyChosen$Trace", cf_10, by decide, by decide, tw_123, Or.inl rfl, rfl, fun _ => Or.inr trivial⟩
theorem lf_X11_100_0 : LF RX11 100 0 0 true := ⟨_, _, "WhyChosen$Choices", cf_0, by decide, by decide, tw_64, Or.inl rfl, rfl, fun _ => Or.inr trivial⟩
theorem lf_X11_102_0 : LF RX11 102 0 1 true := ⟨_, _, "WhyChosen$Choices", cf_0, by decide, by decide, tw_66, Or.inl rfl, rfl, fun _ => Or.inr trivial⟩
theorem lf_X11_105_0 : LF RX11 105 0 2 true := ⟨_, _, "WhyChosen$Choices", cf_0, by decide, by decide, tw_68, Or.inl rfl, rfl, fun _ => Or.inr trivial⟩
theorem lf_X11_108_11 : LF RX11 108 11 6 false := ⟨_, _, "WhyChosen", cf_11, by decide, by decide, tw_140, Or.inl rfl, rfl, fun _ => Or.inr trivial⟩
theorem lf_X11_111_11 : LF RX11 111 11 8 false := ⟨_, _, "WhyChosen", cf_11, by decide, by decide, tw_142, Or.inl rfl, rfl, fun _ => Or.inr trivial⟩
theorem lf_X11_12_11 : LF RX11 12 11 0 true := ⟨_, _, "WhyChosen", cf_11, by decide, by decide, tw_134, Or.inl rfl, rfl, fun _ => Or.inr trivial⟩
theorem lf_X11_178_9 : LF RX11 178 9 4 true := ⟨_, _, "WhyChosen$Text", cf_9, by decide, by decide, tw_262, Or.inl rfl, rfl, fun _ => Or.inr trivial⟩
theorem lf_X11_18_11 : LF RX11 18 11 1 true := ⟨_, _, "WhyChosen", cf_11, by decide, by decide, tw_135, Or.inl rfl, rfl, fun _ => Or.inr trivial⟩
theorem lf_X11_224_1 : LF RX11 224 1 3 false := ⟨_, _, "WhyChosen$Goods", cf_1, by decide, by decide, tw_46, Or.inl rfl, rfl, fun _ => Or.inr trivial⟩
theorem lf_X11_22_11 : LF RX11 22 11 2 true := ⟨_, _, "WhyChosen", cf_11, by decide, by decide, tw_136, Or.inl rfl, rfl, fun _ => Or.inr trivial⟩
theorem lf_X11_250_10 : LF RX11 250 10 0 true := ⟨_, _, "WhyChosen$Trace", cf_10, by decide, by decide, tw_124, Or.inl rfl, rfl, fun _ => Or.inr trivial⟩
theorem lf_X11_267_10 : LF RX11 267 10 1 false := ⟨_, _, "WhyChosen$Trace", cf_10, by decide, by decide, tw_126, Or.inl rfl, rfl, fun _ => Or.inr trivial⟩
theorem lf_X11_28_11 : LF RX11 28 11 4 true := ⟨_, _, "WhyChosen", cf_11, by decide, by decide, tw_138, Or.inl rfl, rfl, fun _ => Or.inr trivial⟩
theorem lf_X11_32_11 : LF RX11 32 11 5 true := ⟨_, _, "WhyChosen", cf_11, by decide, by decide, tw_139, Or.inl rfl, rfl, fun _ => Or.inr trivial⟩
theorem lf_X11_37_11 : LF RX11 37 11 7 true := ⟨_, _, "WhyChosen", cf_11, by decide, by decide, tw_141, Or.inl rfl, rfl, fun _ => Or.inr trivial⟩
theorem lf_X11_44_11 : LF RX11 44 11 9 true := ⟨_, _, "WhyChosen", cf_11, by decide, by decide, tw_143, Or.inl rfl, rfl, fun _ => Or.inr trivial⟩
theorem lf_X11_48_11 : LF RX11 48 11 10 true := ⟨_, _, "WhyChosen", cf_11, by decide, by decide, tw_144, Or.inl rfl, rfl, fun _ => Or.inr trivial⟩
theorem lf_X11_54_11 : LF RX11 54 11 12 true := ⟨_, _, "WhyChosen", cf_11, by decide, by decide, tw_146, Or.inl rfl, rfl, fun _ => Or.inr trivial⟩
theorem lf_X11_58_11 : LF RX11 58 11 13 true := ⟨_, _, "WhyChosen", cf_11, by decide, by decide, tw_147, Or.inl rfl, rfl, fun _ => Or.inr trivial⟩
theorem lf_X11_61_11 : LF RX11 61 11 14 true := ⟨_, _, "WhyChosen", cf_11, by decide, by decide, tw_148, Or.inl rfl, rfl, fun _ => Or.inr trivial⟩
theorem lf_X11_66_11 : LF RX11 66 11 15 true := ⟨_, _, "WhyChosen", cf_11, by decide, by decide, tw_149, Or.inl rfl, rfl, fun _ => Or.inr trivial⟩
theorem lf_X11_73_0 : LF RX11 73 0 4 false := ⟨_, _, "WhyChosen$Choices", cf_0, by decide, by decide, tw_72, Or.inl rfl, rfl, fun _ => Or.inr trivial⟩
theorem lf_X11_77_11 : LF RX11 77 11 11 false := ⟨_, _, "WhyChosen", cf_11, by decide, by decide, tw_145, Or.inl rfl, rfl, fun _ => Or.inr trivial⟩
theorem lf_X11_88_1 : LF RX11 88 1 1 true := ⟨_, _, "WhyChosen$Goods", cf_1, by decide, by decide, tw_39, Or.inl rfl, rfl, fun _ => Or.inr trivial⟩
theorem lf_X11_91_11 : LF RX11 91 11 3 false := ⟨_, _, "WhyChosen", cf_11, by decide, by decide, tw_137, Or.inl rfl, rfl, fun _ => Or.inr trivial⟩
theorem lf_X11_97_0 : LF RX11 97 0 3 true := ⟨_, _, "WhyChosen$Choices", cf_0, by decide, by decide, tw_70, Or.inl rfl, rfl, fun _ => Or.inr trivial⟩
theorem lf_X12_101_12 : LF RX12 101 12 30 false := ⟨_, _, "WhyChosenModel", cf_12, by decide, by decide, tw_1123, Or.inl rfl, rfl, fun _ => Or.inr trivial⟩
theorem lf_X12_104_12 : LF RX12 104 12 31 false := ⟨_, _, "WhyChosenModel", cf_12, by decide, by decide, tw_1124, Or.inl rfl, rfl, fun _ => Or.inr trivial⟩
theorem lf_X12_107_12 : LF RX12 107 12 32 true := ⟨_, _, "WhyChosenModel", cf_12, by decide, by decide, tw_1125, Or.inl rfl, rfl, fun _ => Or.inr trivial⟩
theorem lf_X12_111_12 : LF RX12 111 12 33 false := ⟨_, _, "WhyChosenModel", cf_12, by decide, by decide, tw_1126, Or.inl rfl, rfl, fun _ => Or.inr trivial⟩
theorem lf_X12_114_12 : LF RX12 114 12 34 true := ⟨_, _, "WhyChosenModel", cf_12, by decide, by decide, tw_1127, Or.inl rfl, rfl, fun _ => Or.inr trivial⟩
theorem lf_X12_117_12 : LF RX12 117 12 35 true := ⟨_, _, "WhyChosenModel", cf_12, by decide, by decide, tw_1128, Or.inl rfl, rfl, fun _ => Or.inr trivial⟩
theorem lf_X12_120_12 : LF RX12 120 12 36 false := ⟨_, _, "WhyChosenModel", cf_12, by decide, by decide, tw_1129, Or.inl rfl, rfl, fun _ => Or.inr trivial⟩
theorem lf_X12_123_12 : LF RX12 123 12 37 false := ⟨_, _, "WhyChosenModel", cf_12, by decide, by decide, tw_1130, Or.inl rfl, rfl, fun _ => Or.inr trivial⟩
theorem lf_X12_126_12 : LF RX12 126 12 38 false := ⟨_, _, "WhyChosenModel", cf_12, by decide, by decide, tw_1131, Or.inl rfl, rfl, fun _ => Or.inr trivial⟩
theorem lf_X12_129_12 : LF RX12 129 12 39 false := ⟨_, _, "WhyChosenModel", cf_12, by decide, by decide, tw_1132, Or.inl rfl, rfl, fun _ => Or.inr trivial⟩
theorem lf_X12_133_12 : LF RX12 133 12 40 false := ⟨_, _, "WhyChosenModel", cf_12, by decide, by decide, tw_1133, Or.inl rfl, rfl, fun _ => Or.inr trivial⟩
theorem lf_X12_136_12 : LF RX12 136 12 41 true := ⟨_, _, "WhyChosenModel", cf_12, by decide, by decide, tw_1134, Or.inl rfl, rfl, fun _ => Or.inr trivial⟩
theorem lf_X12_139_12 : LF RX12 139 12 42 true := ⟨_, _, "WhyChosenModel", cf_12, by decide, by decide, tw_1135, Or.inl rfl, rfl, fun _ => Or.inr trivial⟩
theorem lf_X12_13_12 : LF RX12 13 12 1 false := ⟨_, _, "WhyChosenModel", cf_12, by decide, by decide, tw_1094, Or.inl rfl, rfl, fun _ => Or.inr trivial⟩
theorem lf_X12_143_12 : LF RX12 143 12 43 true := ⟨_, _, "WhyChosenModel", cf_12, by decide, by decide, tw_1136, Or.inl rfl, rfl, fun _ => Or.inr trivial⟩
theorem lf_X12_147_12 : LF RX12 147 12 44 true := ⟨_, _, "WhyChosenModel", cf_12, by decide, by decide, tw_1137, Or.inl rfl, rfl, fun _ => Or.inr trivial⟩
theorem lf_X12_150_12 : LF RX12 150 12 45 true := ⟨_, _, "WhyChosenModel", cf_12, by decide, by decide, tw_1138, Or.inl rfl, rfl, fun _ => Or.inr trivial⟩
theorem lf_X12_153_12 : LF RX12 153 12 46 false := ⟨_, _, "WhyChosenModel", cf_12, by decide, by decide, tw_1139, Or.inl rfl, rfl, fun _ => Or.inr trivial⟩
theorem lf_X12_156_12 : LF RX12 156 12 47 true := ⟨_, _, "WhyChosenModel", cf_12, by decide, by decide, tw_1140, Or.inl rfl, rfl, fun _ => Or.inr trivial⟩
theorem lf_X12_159_12 : LF RX12 159 12 48 false := ⟨_, _, "WhyChosenModel", cf_12, by decide, by decide, tw_1141, Or.inl rfl, rfl, fun _ => Or.inr trivial⟩
theorem lf_X12_162_12 : LF RX12 162 12 49 true := ⟨_, _, "WhyChosenModel", cf_12, by decide, by decide, tw_1142, Or.inl rfl, rfl, fun _ => Or.inr trivial⟩
theorem lf_X12_165_12 : LF RX12 165 12 50 true := ⟨_, _, "WhyChosenModel", cf_12, by decide, by decide, tw_1143, Or.inl rfl, rfl, fun _ => Or.inr trivial⟩
theorem lf_X12_168_12 : LF RX12 168 12 51 true := ⟨_, _, "WhyChosenModel", cf_12, by decide, by decide, tw_1144, Or.inl rfl, rfl, fun _ => Or.inr trivial⟩
theorem lf_X12_16_12 : LF RX12 16 12 2 false := ⟨_, _, "WhyChosenModel", cf_12, by decide, by decide, tw_1095, Or.inl rfl, rfl, fun _ => Or.inr trivial⟩
theorem lf_X12_171_12 : LF RX12 171 12 52 true := ⟨_, _, "WhyChosenModel", cf_12, by decide, by decide, tw_1145, Or.inl rfl, rfl, fun _ => Or.inr trivial⟩
theorem lf_X12_175_12 : LF RX12 175 12 53 true := ⟨_, _, "WhyChosenModel", cf_12, by decide, by decide, tw_1146, Or.inl rfl, rfl, fun _ => Or.inr trivial⟩
theorem lf_X12_19_12 : LF RX12 19 12 3 false := ⟨_, _, "WhyChosenModel", cf_12, by decide, by decide, tw_1096, Or.inl rfl, rfl, fun _ => Or.inr trivial⟩
theorem lf_X12_22_12 : LF RX12 22 12 4 true := ⟨_, _, "WhyChosenModel", cf_12, by decide, by decide, tw_1097, Or.inl rfl, rfl, fun _ => Or.inr trivial⟩
theorem lf_X12_26_12 : LF RX12 26 12 5 true := ⟨_, _, "WhyChosenModel", cf_12, by decide, by decide, tw_1098, Or.inl rfl, rfl, fun _ => Or.inr trivial⟩
theorem lf_X12_29_12 : LF RX12 29 12 6 true := ⟨_, _, "WhyChosenModel", cf_12, by decide, by decide, tw_1099, Or.inl rfl, rfl, fun _ => Or.inr trivial⟩
theorem lf_X12_32_12 : LF RX12 32 12 7 true := ⟨_, _, "WhyChosenModel", cf_12, by decide, by decide, tw_1100, Or.inl rfl, rfl, fun _ => Or.inr trivial⟩
theorem lf_X12_35_12 : LF RX12 35 12 8 true := ⟨_, _, "WhyChosenModel", cf_12, by decide, by decide, tw_1101, Or.inl rfl, rfl, fun _ => Or.inr trivial⟩
theorem lf_X12_38_12 : LF RX12 38 12 9 true := ⟨_, _, "WhyChosenModel", cf_12, by decide, by decide, tw_1102, Or.inl rfl, rfl, fun _ => Or.inr trivial⟩
theorem lf_X12_41_12 : LF RX12 41 12 10 true := ⟨_, _, "WhyChosenModel", cf_12, by decide, by decide, tw_1103, Or.inl rfl, rfl, fun _ => Or.inr trivial⟩
theorem lf_X12_44_12 : LF RX12 44 12 11 true := ⟨_, _, "WhyChosenModel", cf_12, by decide, by decide, tw_1104, Or.inl rfl, rfl, fun _ => Or.inr trivial⟩
theorem lf_X12_47_12 : LF RX12 47 12 12 true := ⟨_, _, "WhyChosenModel", cf_12, by decide, by decide, tw_1105, Or.inl rfl, rfl, fun _ => Or.inr trivial⟩
theorem lf_X12_50_12 : LF RX12 50 12 13 false := ⟨_, _, "WhyChosenModel", cf_12, by decide, by decide, tw_1106, Or.inl rfl, rfl, fun _ => Or.inr trivial⟩
theorem lf_X12_53_12 : LF RX12 53 12 14 false := ⟨_, _, "WhyChosenModel", cf_12, by decide, by decide, tw_1107, Or.inl rfl, rfl, fun _ => Or.inr trivial⟩
theorem lf_X12_56_12 : LF RX12 56 12 15 true := ⟨_, _, "WhyChosenModel", cf_12, by decide, by decide, tw_1108, Or.inl rfl, rfl, fun _ => Or.inr trivial⟩
theorem lf_X12_59_12 : LF RX12 59 12 16 true := ⟨_, _, "WhyChosenModel", cf_12, by decide, by decide, tw_1109, Or.inl rfl, rfl, fun _ => Or.inr trivial⟩
theorem lf_X12_62_12 : LF RX12 62 12 17 true := ⟨_, _, "WhyChosenModel", cf_12, by decide, by decide, tw_1110, Or.inl rfl, rfl, fun _ => Or.inr trivial⟩
theorem lf_X12_65_12 : LF RX12 65 12 18 true := ⟨_, _, "WhyChosenModel", cf_12, by decide, by decide, tw_1111, Or.inl rfl, rfl, fun _ => Or.inr trivial⟩
theorem lf_X12_68_12 : LF RX12 68 12 19 false := ⟨_, _, "WhyChosenModel", cf_12, by decide, by decide, tw_1112, Or.inl rfl, rfl, fun _ => Or.inr trivial⟩
theorem lf_X12_71_12 : LF RX12 71 12 20 false := ⟨_, _, "WhyChosenModel", cf_12, by decide, by decide, tw_1113, Or.inl rfl, rfl, fun _ => Or.inr trivial⟩
theorem lf_X12_74_12 : LF RX12 74 12 21 false := ⟨_, _, "WhyChosenModel", cf_12, by decide, by decide, tw_1114, Or.inl rfl, rfl, fun _ => Or.inr trivial⟩
theorem lf_X12_77_12 : LF RX12 77 12 22 false := ⟨_, _, "WhyChosenModel", cf_12, by decide, by decide, tw_1115, Or.inl rfl, rfl, fun _ => Or.inr trivial⟩
theorem lf_X12_7_12 : LF RX12 7 12 0 false := ⟨_, _, "WhyChosenModel", cf_12, by decide, by decide, tw_1093, Or.inl rfl, rfl, fun _ => Or.inr trivial⟩
theorem lf_X12_80_12 : LF RX12 80 12 23 false := ⟨_, _, "WhyChosenModel", cf_12, by decide, by decide, tw_1116, Or.inl rfl, rfl, fun _ => Or.inr trivial⟩
theorem lf_X12_83_12 : LF RX12 83 12 24 true := ⟨_, _, "WhyChosenModel", cf_12, by decide, by decide, tw_1117, Or.inl rfl, rfl, fun _ => Or.inr trivial⟩
theorem lf_X12_86_12 : LF RX12 86 12 25 true := ⟨_, _, "WhyChosenModel", cf_12, by decide, by decide, tw_1118, Or.inl rfl, rfl, fun _ => Or.inr trivial⟩
theorem lf_X12_89_12 : LF RX12 89 12 26 true := ⟨_, _, "WhyChosenModel", cf_12, by decide, by decide, tw_1119, Or.inl rfl, rfl, fun _ => Or.inr trivial⟩
theorem lf_X12_92_12 : LF RX12 92 12 27 true := ⟨_, _, "WhyChosenModel", cf_12, by decide, by decide, tw_1120, Or.inl rfl, rfl, fun _ => Or.inr trivial⟩
theorem lf_X12_95_12 : LF RX12 95 12 28 false := ⟨_, _, "WhyChosenModel", cf_12, by decide, by decide, tw_1121, Or.inl rfl, rfl, fun _ => Or.inr trivial⟩
theorem lf_X12_98_12 : LF RX12 98 12 29 false := ⟨_, _, "WhyChosenModel", cf_12, by decide, by decide, tw_1122, Or.inl rfl, rfl, fun _ => Or.inr trivial⟩
theorem lf_X1_15_1 : LF RX1 15 1 1 true := ⟨_, _, "WhyChosen$Goods", cf_1, by decide, by decide, tw_37, Or.inl rfl, rfl, fun _ => Or.inr trivial⟩
theorem lf_X1_18_1 : LF RX1 18 1 2 true := ⟨_, _, "WhyChosen$Goods", cf_1, by decide, by decide, tw_40, Or.inl rfl, rfl, fun _ => Or.inr trivial⟩
theorem lf_X1_21_1 : LF RX1 21 1 3 false := ⟨_, _, "WhyChosen$Goods", cf_1, by decide, by decide, tw_42, Or.inl rfl, rfl, fun _ => Or.inr trivial⟩
theorem lf_X1_9_1 : LF RX1 9 1 0 true := ⟨_, _, "WhyChosen$Goods", cf_1, by decide, by decide, tw_35, Or.inl rfl, rfl, fun _ => Or.inr trivial⟩
theorem lf_X2_21_9 : LF RX2 21 9 8 false := ⟨_, _, "WhyChosen$Text", cf_9, by decide, by decide, tw_270, Or.inl rfl, rfl, fun _ => Or.inr trivial⟩
theorem lf_X2_46_9 : LF RX2 46 9 3 false := ⟨_, _, "WhyChosen$Text", cf_9, by decide, by decide, tw_258, Or.inl rfl, rfl, fun _ => Or.inr trivial⟩
theorem lf_X3_15_9 : LF RX3 15 9 9 true := ⟨_, _, "WhyChosen$Text", cf_9, by decide, by decide, tw_272, Or.inl rfl, rfl, fun _ => Or.inr trivial⟩
theorem lf_X4_33_9 : LF RX4 33 9 7 false := ⟨_, _, "WhyChosen$Text", cf_9, by decide, by decide, tw_267, Or.inl rfl, rfl, fun _ => Or.inr trivial⟩
theorem lf_X4_44_9 : LF RX4 44 9 4 true := ⟨_, _, "WhyChosen$Text", cf_9, by decide, by decide, tw_261, Or.inl rfl, rfl, fun _ => Or.inr trivial⟩
theorem lf_X4_47_1 : LF RX4 47 1 0 true := ⟨_, _, "WhyChosen$Goods", cf_1, by decide, by decide, tw_36, Or.inl rfl, rfl, fun _ => Or.inr trivial⟩
theorem lf_X4_56_9 : LF RX4 56 9 5 true := ⟨_, _, "WhyChosen$Text", cf_9, by decide, by decide, tw_264, Or.inl rfl, rfl, fun _ => Or.inr trivial⟩
theorem lf_X4_59_9 : LF RX4 59 9 6 false := ⟨_, _, "WhyChosen$Text", cf_9, by decide, by decide, tw_265, Or.inl rfl, rfl, fun _ => Or.inr trivial⟩
theorem lf_X4_62_1 : LF RX4 62 1 1 true := ⟨_, _, "WhyChosen$Goods", cf_1, by decide, by decide, tw_38, Or.inl rfl, rfl, fun _ => Or.inr trivial⟩
theorem lf_X4_68_9 : LF RX4 68 9 10 true := ⟨_, _, "WhyChosen$Text", cf_9, by decide, by decide, tw_274, Or.inl rfl, rfl, fun _ => Or.inr trivial⟩
theorem lf_X4_71_1 : LF RX4 71 1 3 false := ⟨_, _, "WhyChosen$Goods", cf_1, by decide, by decide, tw_45, Or.inl rfl, rfl, fun _ => Or.inr trivial⟩
theorem lf_X4_98_9 : LF RX4 98 9 3 false := ⟨_, _, "WhyChosen$Text", cf_9, by decide, by decide, tw_259, Or.inl rfl, rfl, fun _ => Or.inr trivial⟩
theorem lf_X5_30_1 : LF RX5 30 1 3 false := ⟨_, _, "WhyChosen$Goods", cf_1, by decide, by decide, tw_44, Or.inl rfl, rfl, fun _ => Or.inr trivial⟩
theorem lf_X5_40_1 : LF RX5 40 1 2 true := ⟨_, _, "WhyChosen$Goods", cf_1, by decide, by decide, tw_41, Or.inl rfl, rfl, fun _ => Or.inr trivial⟩
theorem lf_X6_15_6 : LF RX6 15 6 1 true := ⟨_, _, "WhyChosen$Orders", cf_6, by decide, by decide, tw_93, Or.inl rfl, rfl, fun _ => Or.inr trivial⟩
theorem lf_X6_19_6 : LF RX6 19 6 2 true := ⟨_, _, "WhyChosen$Orders", cf_6, by decide, by decide, tw_94, Or.inl rfl, rfl, fun _ => Or.inr trivial⟩
theorem lf_X6_22_6 : LF RX6 22 6 3 true := ⟨_, _, "WhyChosen$Orders", cf_6, by decide, by decide, tw_95, Or.inl rfl, rfl, fun _ => Or.inr trivial⟩
theorem lf_X6_25_6 : LF RX6 25 6 5 true := ⟨_, _, "WhyChosen$Orders", cf_6, by decide, by decide, tw_97, Or.inl rfl, rfl, fun _ => Or.inr trivial⟩
theorem lf_X6_28_6 : LF RX6 28 6 6 true := ⟨_, _, "WhyChosen$Orders", cf_6, by decide, by decide, tw_98, Or.inl rfl, rfl, fun _ => Or.inr trivial⟩
theorem lf_X6_31_6 : LF RX6 31 6 7 true := ⟨_, _, "WhyChosen$Orders", cf_6, by decide, by decide, tw_99, Or.inl rfl, rfl, fun _ => Or.inr trivial⟩
theorem lf_X6_34_6 : LF RX6 34 6 4 false := ⟨_, _, "WhyChosen$Orders", cf_6, by decide, by decide, tw_96, Or.inl rfl, rfl, fun _ => Or.inr trivial⟩
theorem lf_X6_9_6 : LF RX6 9 6 0 false := ⟨_, _, "WhyChosen$Orders", cf_6, by decide, by decide, tw_92, Or.inl rfl, rfl, fun _ => Or.inr trivial⟩
theorem lf_X7_23_1 : LF RX7 23 1 3 false := ⟨_, _, "WhyChosen$Goods", cf_1, by decide, by decide, tw_43, Or.inl rfl, rfl, fun _ => Or.inr trivial⟩
theorem lf_X9_123_9 : LF RX9 123 9 15 false := ⟨_, _, "WhyChosen$Text", cf_9, by decide, by decide, tw_279, Or.inl rfl, rfl, fun _ => Or.inr trivial⟩
theorem lf_X9_126_9 : LF RX9 126 9 12 false := ⟨_, _, "WhyChosen$Text", cf_9, by decide, by decide, tw_276, Or.inl rfl, rfl, fun _ => Or.inr trivial⟩
theorem lf_X9_15_9 : LF RX9 15 9 5 true := ⟨_, _, "WhyChosen$Text", cf_9, by decide, by decide, tw_263, Or.inl rfl, rfl, fun _ => Or.inr trivial⟩
theorem lf_X9_18_9 : LF RX9 18 9 8 false := ⟨_, _, "WhyChosen$Text", cf_9, by decide, by decide, tw_269, Or.inl rfl, rfl, fun _ => Or.inr trivial⟩
theorem lf_X9_22_9 : LF RX9 22 9 9 true := ⟨_, _, "WhyChosen$Text", cf_9, by decide, by decide, tw_271, Or.inl rfl, rfl, fun _ => Or.inr trivial⟩
theorem lf_X9_25_9 : LF RX9 25 9 10 true := ⟨_, _, "WhyChosen$Text", cf_9, by decide, by decide, tw_273, Or.inl rfl, rfl, fun _ => Or.inr trivial⟩
theorem lf_X9_28_9 : LF RX9 28 9 13 true := ⟨_, _, "WhyChosen$Text", cf_9, by decide, by decide, tw_277, Or.inl rfl, rfl, fun _ => Or.inr trivial⟩
theorem lf_X9_31_9 : LF RX9 31 9 14 true := ⟨_, _, "WhyChosen$Text", cf_9, by decide, by decide, tw_278, Or.inl rfl, rfl, fun _ => Or.inr trivial⟩
theorem lf_X9_34_9 : LF RX9 34 9 16 true := ⟨_, _, "WhyChosen$Text", cf_9, by decide, by decide, tw_280, Or.inl rfl, rfl, fun _ => Or.inr trivial⟩
theorem lf_X9_37_9 : LF RX9 37 9 0 true := ⟨_, _, "WhyChosen$Text", cf_9, by decide, by decide, tw_253, Or.inl rfl, rfl, fun _ => Or.inr trivial⟩
theorem lf_X9_40_9 : LF RX9 40 9 1 true := ⟨_, _, "WhyChosen$Text", cf_9, by decide, by decide, tw_254, Or.inl rfl, rfl, fun _ => Or.inr trivial⟩
theorem lf_X9_43_9 : LF RX9 43 9 11 true := ⟨_, _, "WhyChosen$Text", cf_9, by decide, by decide, tw_275, Or.inl rfl, rfl, fun _ => Or.inr trivial⟩
theorem lf_X9_50_9 : LF RX9 50 9 3 false := ⟨_, _, "WhyChosen$Text", cf_9, by decide, by decide, tw_257, Or.inl rfl, rfl, fun _ => Or.inr trivial⟩
theorem lf_X9_53_9 : LF RX9 53 9 2 false := ⟨_, _, "WhyChosen$Text", cf_9, by decide, by decide, tw_255, Or.inl rfl, rfl, fun _ => Or.inr trivial⟩
theorem lf_X9_71_9 : LF RX9 71 9 6 false := ⟨_, _, "WhyChosen$Text", cf_9, by decide, by decide, tw_266, Or.inl rfl, rfl, fun _ => Or.inr trivial⟩
theorem lf_X9_74_9 : LF RX9 74 9 7 false := ⟨_, _, "WhyChosen$Text", cf_9, by decide, by decide, tw_268, Or.inl rfl, rfl, fun _ => Or.inr trivial⟩
theorem lf_X9_9_9 : LF RX9 9 9 4 true := ⟨_, _, "WhyChosen$Text", cf_9, by decide, by decide, tw_260, Or.inl rfl, rfl, fun _ => Or.inr trivial⟩
theorem lfm_X11_154 {kd : Nat} (h : kd < 6) : LF RX11 154 (mcls kd) 4 true := by
  have hl : Cond.fieldLink RX11 154 "WhyChosen$Model" (TX4 4).2.1 (TX4 4).2.2.1 ∈ TB := tw_484
  obtain rfl | rfl | rfl | rfl | rfl | rfl : kd = 0 ∨ kd = 1 ∨ kd = 2 ∨ kd = 3 ∨ kd = 4 ∨ kd = 5 := by omega
  · exact ⟨_, _, "WhyChosen$Model", cf_4, by decide, by decide, hl, Or.inl rfl, rfl, fun _ => Or.inr trivial⟩
  · exact ⟨_, _, "WhyChosen$Model", cf_7, by decide, by decide, hl, Or.inl rfl, rfl, fun _ => Or.inr trivial⟩
  · exact ⟨_, _, "WhyChosen$Model", cf_5, by decide, by decide, hl, Or.inl rfl, rfl, fun _ => Or.inr trivial⟩
  · exact ⟨_, _, "WhyChosen$Model", cf_3, by decide, by decide, hl, Or.inl rfl, rfl, fun _ => Or.inr trivial⟩
  · exact ⟨_, _, "WhyChosen$Model", cf_2, by decide, by decide, hl, Or.inl rfl, rfl, fun _ => Or.inr trivial⟩
  · exact ⟨_, _, "WhyChosen$Model", cf_8, by decide, by decide, hl, Or.inl rfl, rfl, fun _ => Or.inr trivial⟩
theorem lfm_X11_158 {kd : Nat} (h : kd < 6) : LF RX11 158 (mcls kd) 5 true := by
  have hl : Cond.fieldLink RX11 158 "WhyChosen$Model" (TX4 5).2.1 (TX4 5).2.2.1 ∈ TB := tw_492
  obtain rfl | rfl | rfl | rfl | rfl | rfl : kd = 0 ∨ kd = 1 ∨ kd = 2 ∨ kd = 3 ∨ kd = 4 ∨ kd = 5 := by omega
  · exact ⟨_, _, "WhyChosen$Model", cf_4, by decide, by decide, hl, Or.inl rfl, rfl, fun _ => Or.inr trivial⟩
  · exact ⟨_, _, "WhyChosen$Model", cf_7, by decide, by decide, hl, Or.inl rfl, rfl, fun _ => Or.inr trivial⟩
  · exact ⟨_, _, "WhyChosen$Model", cf_5, by decide, by decide, hl, Or.inl rfl, rfl, fun _ => Or.inr trivial⟩
  · exact ⟨_, _, "WhyChosen$Model", cf_3, by decide, by decide, hl, Or.inl rfl, rfl, fun _ => Or.inr trivial⟩
  · exact ⟨_, _, "WhyChosen$Model", cf_2, by decide, by decide, hl, Or.inl rfl, rfl, fun _ => Or.inr trivial⟩
  · exact ⟨_, _, "WhyChosen$Model", cf_8, by decide, by decide, hl, Or.inl rfl, rfl, fun _ => Or.inr trivial⟩
theorem lfm_X11_175 {kd : Nat} (h : kd < 6) : LF RX11 175 (mcls kd) 2 true := by
  have hl : Cond.fieldLink RX11 175 "WhyChosen$Model" (TX4 2).2.1 (TX4 2).2.2.1 ∈ TB := tw_473
  obtain rfl | rfl | rfl | rfl | rfl | rfl : kd = 0 ∨ kd = 1 ∨ kd = 2 ∨ kd = 3 ∨ kd = 4 ∨ kd = 5 := by omega
  · exact ⟨_, _, "WhyChosen$Model", cf_4, by decide, by decide, hl, Or.inl rfl, rfl, fun _ => Or.inr trivial⟩
  · exact ⟨_, _, "WhyChosen$Model", cf_7, by decide, by decide, hl, Or.inl rfl, rfl, fun _ => Or.inr trivial⟩
  · exact ⟨_, _, "WhyChosen$Model", cf_5, by decide, by decide, hl, Or.inl rfl, rfl, fun _ => Or.inr trivial⟩
  · exact ⟨_, _, "WhyChosen$Model", cf_3, by decide, by decide, hl, Or.inl rfl, rfl, fun _ => Or.inr trivial⟩
  · exact ⟨_, _, "WhyChosen$Model", cf_2, by decide, by decide, hl, Or.inl rfl, rfl, fun _ => Or.inr trivial⟩
  · exact ⟨_, _, "WhyChosen$Model", cf_8, by decide, by decide, hl, Or.inl rfl, rfl, fun _ => Or.inr trivial⟩
theorem lfm_X11_257 {kd : Nat} (h : kd < 6) : LF RX11 257 (mcls kd) 0 true := by
  have hl : Cond.fieldLink RX11 257 "WhyChosen$Model" (TX4 0).2.1 (TX4 0).2.2.1 ∈ TB := tw_462
  obtain rfl | rfl | rfl | rfl | rfl | rfl : kd = 0 ∨ kd = 1 ∨ kd = 2 ∨ kd = 3 ∨ kd = 4 ∨ kd = 5 := by omega
  · exact ⟨_, _, "WhyChosen$Model", cf_4, by decide, by decide, hl, Or.inl rfl, rfl, fun _ => Or.inr trivial⟩
  · exact ⟨_, _, "WhyChosen$Model", cf_7, by decide, by decide, hl, Or.inl rfl, rfl, fun _ => Or.inr trivial⟩
  · exact ⟨_, _, "WhyChosen$Model", cf_5, by decide, by decide, hl, Or.inl rfl, rfl, fun _ => Or.inr trivial⟩
  · exact ⟨_, _, "WhyChosen$Model", cf_3, by decide, by decide, hl, Or.inl rfl, rfl, fun _ => Or.inr trivial⟩
  · exact ⟨_, _, "WhyChosen$Model", cf_2, by decide, by decide, hl, Or.inl rfl, rfl, fun _ => Or.inr trivial⟩
  · exact ⟨_, _, "WhyChosen$Model", cf_8, by decide, by decide, hl, Or.inl rfl, rfl, fun _ => Or.inr trivial⟩
theorem lfm_X2_17 {kd : Nat} (h : kd < 6) : LF RX2 17 (mcls kd) 2 true := by
  have hl : Cond.fieldLink RX2 17 "WhyChosen$Looked" (TX4 2).2.1 (TX4 2).2.2.1 ∈ TB := tw_471
  obtain rfl | rfl | rfl | rfl | rfl | rfl : kd = 0 ∨ kd = 1 ∨ kd = 2 ∨ kd = 3 ∨ kd = 4 ∨ kd = 5 := by omega
  · exact ⟨_, _, "WhyChosen$Looked", cf_4, by decide, by decide, hl, Or.inr (tw_472), rfl, fun _ => Or.inr trivial⟩
  · exact ⟨_, _, "WhyChosen$Looked", cf_7, by decide, by decide, hl, Or.inr (tw_472), rfl, fun _ => Or.inr trivial⟩
  · exact ⟨_, _, "WhyChosen$Looked", cf_5, by decide, by decide, hl, Or.inr (tw_472), rfl, fun _ => Or.inr trivial⟩
  · exact ⟨_, _, "WhyChosen$Looked", cf_3, by decide, by decide, hl, Or.inr (tw_472), rfl, fun _ => Or.inr trivial⟩
  · exact ⟨_, _, "WhyChosen$Looked", cf_2, by decide, by decide, hl, Or.inr (tw_472), rfl, fun _ => Or.inr trivial⟩
  · exact ⟨_, _, "WhyChosen$Looked", cf_8, by decide, by decide, hl, Or.inr (tw_472), rfl, fun _ => Or.inr trivial⟩
theorem lfm_X3_9 {kd : Nat} (h : kd < 6) : LF RX3 9 (mcls kd) 2 true := by
  have hl : Cond.fieldLink RX3 9 "WhyChosen$Mixed" (TX4 2).2.1 (TX4 2).2.2.1 ∈ TB := tw_467
  obtain rfl | rfl | rfl | rfl | rfl | rfl : kd = 0 ∨ kd = 1 ∨ kd = 2 ∨ kd = 3 ∨ kd = 4 ∨ kd = 5 := by omega
  · exact ⟨_, _, "WhyChosen$Mixed", cf_4, by decide, by decide, hl, Or.inr (tw_468), rfl, fun _ => Or.inr trivial⟩
  · exact ⟨_, _, "WhyChosen$Mixed", cf_7, by decide, by decide, hl, Or.inr (tw_468), rfl, fun _ => Or.inr trivial⟩
  · exact ⟨_, _, "WhyChosen$Mixed", cf_5, by decide, by decide, hl, Or.inr (tw_468), rfl, fun _ => Or.inr trivial⟩
  · exact ⟨_, _, "WhyChosen$Mixed", cf_3, by decide, by decide, hl, Or.inr (tw_468), rfl, fun _ => Or.inr trivial⟩
  · exact ⟨_, _, "WhyChosen$Mixed", cf_2, by decide, by decide, hl, Or.inr (tw_468), rfl, fun _ => Or.inr trivial⟩
  · exact ⟨_, _, "WhyChosen$Mixed", cf_8, by decide, by decide, hl, Or.inr (tw_468), rfl, fun _ => Or.inr trivial⟩
theorem lfm_X3_41 {kd : Nat} (h : kd < 6) : LF RX3 41 (mcls kd) 4 true := by
  have hl : Cond.fieldLink RX3 41 "WhyChosen$Mixed" (TX4 4).2.1 (TX4 4).2.2.1 ∈ TB := tw_480
  obtain rfl | rfl | rfl | rfl | rfl | rfl : kd = 0 ∨ kd = 1 ∨ kd = 2 ∨ kd = 3 ∨ kd = 4 ∨ kd = 5 := by omega
  · exact ⟨_, _, "WhyChosen$Mixed", cf_4, by decide, by decide, hl, Or.inr (tw_481), rfl, fun _ => Or.inr trivial⟩
  · exact ⟨_, _, "WhyChosen$Mixed", cf_7, by decide, by decide, hl, Or.inr (tw_481), rfl, fun _ => Or.inr trivial⟩
  · exact ⟨_, _, "WhyChosen$Mixed", cf_5, by decide, by decide, hl, Or.inr (tw_481), rfl, fun _ => Or.inr trivial⟩
  · exact ⟨_, _, "WhyChosen$Mixed", cf_3, by decide, by decide, hl, Or.inr (tw_481), rfl, fun _ => Or.inr trivial⟩
  · exact ⟨_, _, "WhyChosen$Mixed", cf_2, by decide, by decide, hl, Or.inr (tw_481), rfl, fun _ => Or.inr trivial⟩
  · exact ⟨_, _, "WhyChosen$Mixed", cf_8, by decide, by decide, hl, Or.inr (tw_481), rfl, fun _ => Or.inr trivial⟩
theorem lfm_X3_45 {kd : Nat} (h : kd < 6) : LF RX3 45 (mcls kd) 5 true := by
  have hl : Cond.fieldLink RX3 45 "WhyChosen$Mixed" (TX4 5).2.1 (TX4 5).2.2.1 ∈ TB := tw_490
  obtain rfl | rfl | rfl | rfl | rfl | rfl : kd = 0 ∨ kd = 1 ∨ kd = 2 ∨ kd = 3 ∨ kd = 4 ∨ kd = 5 := by omega
  · exact ⟨_, _, "WhyChosen$Mixed", cf_4, by decide, by decide, hl, Or.inr (tw_491), rfl, fun _ => Or.inr trivial⟩
  · exact ⟨_, _, "WhyChosen$Mixed", cf_7, by decide, by decide, hl, Or.inr (tw_491), rfl, fun _ => Or.inr trivial⟩
  · exact ⟨_, _, "WhyChosen$Mixed", cf_5, by decide, by decide, hl, Or.inr (tw_491), rfl, fun _ => Or.inr trivial⟩
  · exact ⟨_, _, "WhyChosen$Mixed", cf_3, by decide, by decide, hl, Or.inr (tw_491), rfl, fun _ => Or.inr trivial⟩
  · exact ⟨_, _, "WhyChosen$Mixed", cf_2, by decide, by decide, hl, Or.inr (tw_491), rfl, fun _ => Or.inr trivial⟩
  · exact ⟨_, _, "WhyChosen$Mixed", cf_8, by decide, by decide, hl, Or.inr (tw_491), rfl, fun _ => Or.inr trivial⟩
theorem lfm_X4_9 {kd : Nat} (h : kd < 6) : LF RX4 9 (mcls kd) 3 true := by
  have hl : Cond.fieldLink RX4 9 "WhyChosen$Model" (TX4 3).2.1 (TX4 3).2.2.1 ∈ TB := tw_474
  obtain rfl | rfl | rfl | rfl | rfl | rfl : kd = 0 ∨ kd = 1 ∨ kd = 2 ∨ kd = 3 ∨ kd = 4 ∨ kd = 5 := by omega
  · exact ⟨_, _, "WhyChosen$Model", cf_4, by decide, by decide, hl, Or.inl rfl, rfl, fun _ => Or.inr trivial⟩
  · exact ⟨_, _, "WhyChosen$Model", cf_7, by decide, by decide, hl, Or.inl rfl, rfl, fun _ => Or.inr trivial⟩
  · exact ⟨_, _, "WhyChosen$Model", cf_5, by decide, by decide, hl, Or.inl rfl, rfl, fun _ => Or.inr trivial⟩
  · exact ⟨_, _, "WhyChosen$Model", cf_3, by decide, by decide, hl, Or.inl rfl, rfl, fun _ => Or.inr trivial⟩
  · exact ⟨_, _, "WhyChosen$Model", cf_2, by decide, by decide, hl, Or.inl rfl, rfl, fun _ => Or.inr trivial⟩
  · exact ⟨_, _, "WhyChosen$Model", cf_8, by decide, by decide, hl, Or.inl rfl, rfl, fun _ => Or.inr trivial⟩
theorem lfm_X4_15 {kd : Nat} (h : kd < 6) : LF RX4 15 (mcls kd) 4 true := by
  have hl : Cond.fieldLink RX4 15 "WhyChosen$Model" (TX4 4).2.1 (TX4 4).2.2.1 ∈ TB := tw_475
  obtain rfl | rfl | rfl | rfl | rfl | rfl : kd = 0 ∨ kd = 1 ∨ kd = 2 ∨ kd = 3 ∨ kd = 4 ∨ kd = 5 := by omega
  · exact ⟨_, _, "WhyChosen$Model", cf_4, by decide, by decide, hl, Or.inl rfl, rfl, fun _ => Or.inr trivial⟩
  · exact ⟨_, _, "WhyChosen$Model", cf_7, by decide, by decide, hl, Or.inl rfl, rfl, fun _ => Or.inr trivial⟩
  · exact ⟨_, _, "WhyChosen$Model", cf_5, by decide, by decide, hl, Or.inl rfl, rfl, fun _ => Or.inr trivial⟩
  · exact ⟨_, _, "WhyChosen$Model", cf_3, by decide, by decide, hl, Or.inl rfl, rfl, fun _ => Or.inr trivial⟩
  · exact ⟨_, _, "WhyChosen$Model", cf_2, by decide, by decide, hl, Or.inl rfl, rfl, fun _ => Or.inr trivial⟩
  · exact ⟨_, _, "WhyChosen$Model", cf_8, by decide, by decide, hl, Or.inl rfl, rfl, fun _ => Or.inr trivial⟩
theorem lfm_X4_19 {kd : Nat} (h : kd < 6) : LF RX4 19 (mcls kd) 5 true := by
  have hl : Cond.fieldLink RX4 19 "WhyChosen$Model" (TX4 5).2.1 (TX4 5).2.2.1 ∈ TB := tw_485
  obtain rfl | rfl | rfl | rfl | rfl | rfl : kd = 0 ∨ kd = 1 ∨ kd = 2 ∨ kd = 3 ∨ kd = 4 ∨ kd = 5 := by omega
  · exact ⟨_, _, "WhyChosen$Model", cf_4, by decide, by decide, hl, Or.inl rfl, rfl, fun _ => Or.inr trivial⟩
  · exact ⟨_, _, "WhyChosen$Model", cf_7, by decide, by decide, hl, Or.inl rfl, rfl, fun _ => Or.inr trivial⟩
  · exact ⟨_, _, "WhyChosen$Model", cf_5, by decide, by decide, hl, Or.inl rfl, rfl, fun _ => Or.inr trivial⟩
  · exact ⟨_, _, "WhyChosen$Model", cf_3, by decide, by decide, hl, Or.inl rfl, rfl, fun _ => Or.inr trivial⟩
  · exact ⟨_, _, "WhyChosen$Model", cf_2, by decide, by decide, hl, Or.inl rfl, rfl, fun _ => Or.inr trivial⟩
  · exact ⟨_, _, "WhyChosen$Model", cf_8, by decide, by decide, hl, Or.inl rfl, rfl, fun _ => Or.inr trivial⟩
theorem lfm_X4_26 {kd : Nat} (h : kd < 6) : LF RX4 26 (mcls kd) 1 true := by
  have hl : Cond.fieldLink RX4 26 "WhyChosen$Model" (TX4 1).2.1 (TX4 1).2.2.1 ∈ TB := tw_463
  obtain rfl | rfl | rfl | rfl | rfl | rfl : kd = 0 ∨ kd = 1 ∨ kd = 2 ∨ kd = 3 ∨ kd = 4 ∨ kd = 5 := by omega
  · exact ⟨_, _, "WhyChosen$Model", cf_4, by decide, by decide, hl, Or.inl rfl, rfl, fun _ => Or.inr trivial⟩
  · exact ⟨_, _, "WhyChosen$Model", cf_7, by decide, by decide, hl, Or.inl rfl, rfl, fun _ => Or.inr trivial⟩
  · exact ⟨_, _, "WhyChosen$Model", cf_5, by decide, by decide, hl, Or.inl rfl, rfl, fun _ => Or.inr trivial⟩
  · exact ⟨_, _, "WhyChosen$Model", cf_3, by decide, by decide, hl, Or.inl rfl, rfl, fun _ => Or.inr trivial⟩
  · exact ⟨_, _, "WhyChosen$Model", cf_2, by decide, by decide, hl, Or.inl rfl, rfl, fun _ => Or.inr trivial⟩
  · exact ⟨_, _, "WhyChosen$Model", cf_8, by decide, by decide, hl, Or.inl rfl, rfl, fun _ => Or.inr trivial⟩
theorem lfm_X4_29 {kd : Nat} (h : kd < 6) : LF RX4 29 (mcls kd) 2 true := by
  have hl : Cond.fieldLink RX4 29 "WhyChosen$Model" (TX4 2).2.1 (TX4 2).2.2.1 ∈ TB := tw_466
  obtain rfl | rfl | rfl | rfl | rfl | rfl : kd = 0 ∨ kd = 1 ∨ kd = 2 ∨ kd = 3 ∨ kd = 4 ∨ kd = 5 := by omega
  · exact ⟨_, _, "WhyChosen$Model", cf_4, by decide, by decide, hl, Or.inl rfl, rfl, fun _ => Or.inr trivial⟩
  · exact ⟨_, _, "WhyChosen$Model", cf_7, by decide, by decide, hl, Or.inl rfl, rfl, fun _ => Or.inr trivial⟩
  · exact ⟨_, _, "WhyChosen$Model", cf_5, by decide, by decide, hl, Or.inl rfl, rfl, fun _ => Or.inr trivial⟩
  · exact ⟨_, _, "WhyChosen$Model", cf_3, by decide, by decide, hl, Or.inl rfl, rfl, fun _ => Or.inr trivial⟩
  · exact ⟨_, _, "WhyChosen$Model", cf_2, by decide, by decide, hl, Or.inl rfl, rfl, fun _ => Or.inr trivial⟩
  · exact ⟨_, _, "WhyChosen$Model", cf_8, by decide, by decide, hl, Or.inl rfl, rfl, fun _ => Or.inr trivial⟩
theorem lfm_X5_9 (_ : 2 < 6) : LF RX5 9 (mcls 2) 6 true := ⟨_, _, "WhyChosen$Nested", cf_5, by decide, by decide, tw_513, Or.inl rfl, rfl, fun _ => Or.inr trivial⟩
theorem lfm_X5_15 (_ : 2 < 6) : LF RX5 15 (mcls 2) 7 true := ⟨_, _, "WhyChosen$Nested", cf_5, by decide, by decide, tw_514, Or.inl rfl, rfl, fun _ => Or.inr trivial⟩
theorem lfm_X5_43 {kd : Nat} (h : kd < 6) : LF RX5 43 (mcls kd) 4 true := by
  have hl : Cond.fieldLink RX5 43 "WhyChosen$Nested" (TX4 4).2.1 (TX4 4).2.2.1 ∈ TB := tw_478
  obtain rfl | rfl | rfl | rfl | rfl | rfl : kd = 0 ∨ kd = 1 ∨ kd = 2 ∨ kd = 3 ∨ kd = 4 ∨ kd = 5 := by omega
  · exact ⟨_, _, "WhyChosen$Nested", cf_4, by decide, by decide, hl, Or.inr (tw_479), rfl, fun _ => Or.inr trivial⟩
  · exact ⟨_, _, "WhyChosen$Nested", cf_7, by decide, by decide, hl, Or.inr (tw_479), rfl, fun _ => Or.inr trivial⟩
  · exact ⟨_, _, "WhyChosen$Nested", cf_5, by decide, by decide, hl, Or.inr (tw_479), rfl, fun _ => Or.inr trivial⟩
  · exact ⟨_, _, "WhyChosen$Nested", cf_3, by decide, by decide, hl, Or.inr (tw_479), rfl, fun _ => Or.inr trivial⟩
  · exact ⟨_, _, "WhyChosen$Nested", cf_2, by decide, by decide, hl, Or.inr (tw_479), rfl, fun _ => Or.inr trivial⟩
  · exact ⟨_, _, "WhyChosen$Nested", cf_8, by decide, by decide, hl, Or.inr (tw_479), rfl, fun _ => Or.inr trivial⟩
theorem lfm_X5_47 {kd : Nat} (h : kd < 6) : LF RX5 47 (mcls kd) 5 true := by
  have hl : Cond.fieldLink RX5 47 "WhyChosen$Nested" (TX4 5).2.1 (TX4 5).2.2.1 ∈ TB := tw_488
  obtain rfl | rfl | rfl | rfl | rfl | rfl : kd = 0 ∨ kd = 1 ∨ kd = 2 ∨ kd = 3 ∨ kd = 4 ∨ kd = 5 := by omega
  · exact ⟨_, _, "WhyChosen$Nested", cf_4, by decide, by decide, hl, Or.inr (tw_489), rfl, fun _ => Or.inr trivial⟩
  · exact ⟨_, _, "WhyChosen$Nested", cf_7, by decide, by decide, hl, Or.inr (tw_489), rfl, fun _ => Or.inr trivial⟩
  · exact ⟨_, _, "WhyChosen$Nested", cf_5, by decide, by decide, hl, Or.inr (tw_489), rfl, fun _ => Or.inr trivial⟩
  · exact ⟨_, _, "WhyChosen$Nested", cf_3, by decide, by decide, hl, Or.inr (tw_489), rfl, fun _ => Or.inr trivial⟩
  · exact ⟨_, _, "WhyChosen$Nested", cf_2, by decide, by decide, hl, Or.inr (tw_489), rfl, fun _ => Or.inr trivial⟩
  · exact ⟨_, _, "WhyChosen$Nested", cf_8, by decide, by decide, hl, Or.inr (tw_489), rfl, fun _ => Or.inr trivial⟩
theorem lfm_X7_33 {kd : Nat} (h : kd < 6) : LF RX7 33 (mcls kd) 4 true := by
  have hl : Cond.fieldLink RX7 33 "WhyChosen$Plain" (TX4 4).2.1 (TX4 4).2.2.1 ∈ TB := tw_476
  obtain rfl | rfl | rfl | rfl | rfl | rfl : kd = 0 ∨ kd = 1 ∨ kd = 2 ∨ kd = 3 ∨ kd = 4 ∨ kd = 5 := by omega
  · exact ⟨_, _, "WhyChosen$Plain", cf_4, by decide, by decide, hl, Or.inr (tw_477), rfl, fun _ => Or.inr trivial⟩
  · exact ⟨_, _, "WhyChosen$Plain", cf_7, by decide, by decide, hl, Or.inr (tw_477), rfl, fun _ => Or.inr trivial⟩
  · exact ⟨_, _, "WhyChosen$Plain", cf_5, by decide, by decide, hl, Or.inr (tw_477), rfl, fun _ => Or.inr trivial⟩
  · exact ⟨_, _, "WhyChosen$Plain", cf_3, by decide, by decide, hl, Or.inr (tw_477), rfl, fun _ => Or.inr trivial⟩
  · exact ⟨_, _, "WhyChosen$Plain", cf_2, by decide, by decide, hl, Or.inr (tw_477), rfl, fun _ => Or.inr trivial⟩
  · exact ⟨_, _, "WhyChosen$Plain", cf_8, by decide, by decide, hl, Or.inr (tw_477), rfl, fun _ => Or.inr trivial⟩
theorem lfm_X7_37 {kd : Nat} (h : kd < 6) : LF RX7 37 (mcls kd) 5 true := by
  have hl : Cond.fieldLink RX7 37 "WhyChosen$Plain" (TX4 5).2.1 (TX4 5).2.2.1 ∈ TB := tw_486
  obtain rfl | rfl | rfl | rfl | rfl | rfl : kd = 0 ∨ kd = 1 ∨ kd = 2 ∨ kd = 3 ∨ kd = 4 ∨ kd = 5 := by omega
  · exact ⟨_, _, "WhyChosen$Plain", cf_4, by decide, by decide, hl, Or.inr (tw_487), rfl, fun _ => Or.inr trivial⟩
  · exact ⟨_, _, "WhyChosen$Plain", cf_7, by decide, by decide, hl, Or.inr (tw_487), rfl, fun _ => Or.inr trivial⟩
  · exact ⟨_, _, "WhyChosen$Plain", cf_5, by decide, by decide, hl, Or.inr (tw_487), rfl, fun _ => Or.inr trivial⟩
  · exact ⟨_, _, "WhyChosen$Plain", cf_3, by decide, by decide, hl, Or.inr (tw_487), rfl, fun _ => Or.inr trivial⟩
  · exact ⟨_, _, "WhyChosen$Plain", cf_2, by decide, by decide, hl, Or.inr (tw_487), rfl, fun _ => Or.inr trivial⟩
  · exact ⟨_, _, "WhyChosen$Plain", cf_8, by decide, by decide, hl, Or.inr (tw_487), rfl, fun _ => Or.inr trivial⟩
theorem lfm_X8_11 {kd : Nat} (h : kd < 6) : LF RX8 11 (mcls kd) 2 true := by
  have hl : Cond.fieldLink RX8 11 "WhyChosen$Rule" (TX4 2).2.1 (TX4 2).2.2.1 ∈ TB := tw_469
  obtain rfl | rfl | rfl | rfl | rfl | rfl : kd = 0 ∨ kd = 1 ∨ kd = 2 ∨ kd = 3 ∨ kd = 4 ∨ kd = 5 := by omega
  · exact ⟨_, _, "WhyChosen$Rule", cf_4, by decide, by decide, hl, Or.inr (tw_470), rfl, fun _ => Or.inr trivial⟩
  · exact ⟨_, _, "WhyChosen$Rule", cf_7, by decide, by decide, hl, Or.inr (tw_470), rfl, fun _ => Or.inr trivial⟩
  · exact ⟨_, _, "WhyChosen$Rule", cf_5, by decide, by decide, hl, Or.inr (tw_470), rfl, fun _ => Or.inr trivial⟩
  · exact ⟨_, _, "WhyChosen$Rule", cf_3, by decide, by decide, hl, Or.inr (tw_470), rfl, fun _ => Or.inr trivial⟩
  · exact ⟨_, _, "WhyChosen$Rule", cf_2, by decide, by decide, hl, Or.inr (tw_470), rfl, fun _ => Or.inr trivial⟩
  · exact ⟨_, _, "WhyChosen$Rule", cf_8, by decide, by decide, hl, Or.inr (tw_470), rfl, fun _ => Or.inr trivial⟩
theorem lfm_X8_26 {kd : Nat} (h : kd < 6) : LF RX8 26 (mcls kd) 4 true := by
  have hl : Cond.fieldLink RX8 26 "WhyChosen$Rule" (TX4 4).2.1 (TX4 4).2.2.1 ∈ TB := tw_482
  obtain rfl | rfl | rfl | rfl | rfl | rfl : kd = 0 ∨ kd = 1 ∨ kd = 2 ∨ kd = 3 ∨ kd = 4 ∨ kd = 5 := by omega
  · exact ⟨_, _, "WhyChosen$Rule", cf_4, by decide, by decide, hl, Or.inr (tw_483), rfl, fun _ => Or.inr trivial⟩
  · exact ⟨_, _, "WhyChosen$Rule", cf_7, by decide, by decide, hl, Or.inr (tw_483), rfl, fun _ => Or.inr trivial⟩
  · exact ⟨_, _, "WhyChosen$Rule", cf_5, by decide, by decide, hl, Or.inr (tw_483), rfl, fun _ => Or.inr trivial⟩
  · exact ⟨_, _, "WhyChosen$Rule", cf_3, by decide, by decide, hl, Or.inr (tw_483), rfl, fun _ => Or.inr trivial⟩
  · exact ⟨_, _, "WhyChosen$Rule", cf_2, by decide, by decide, hl, Or.inr (tw_483), rfl, fun _ => Or.inr trivial⟩
  · exact ⟨_, _, "WhyChosen$Rule", cf_8, by decide, by decide, hl, Or.inr (tw_483), rfl, fun _ => Or.inr trivial⟩
theorem lfm_X8_44 {kd : Nat} (h : kd < 6) : LF RX8 44 (mcls kd) 1 true := by
  have hl : Cond.fieldLink RX8 44 "WhyChosen$Rule" (TX4 1).2.1 (TX4 1).2.2.1 ∈ TB := tw_464
  obtain rfl | rfl | rfl | rfl | rfl | rfl : kd = 0 ∨ kd = 1 ∨ kd = 2 ∨ kd = 3 ∨ kd = 4 ∨ kd = 5 := by omega
  · exact ⟨_, _, "WhyChosen$Rule", cf_4, by decide, by decide, hl, Or.inr (tw_465), rfl, fun _ => Or.inr trivial⟩
  · exact ⟨_, _, "WhyChosen$Rule", cf_7, by decide, by decide, hl, Or.inr (tw_465), rfl, fun _ => Or.inr trivial⟩
  · exact ⟨_, _, "WhyChosen$Rule", cf_5, by decide, by decide, hl, Or.inr (tw_465), rfl, fun _ => Or.inr trivial⟩
  · exact ⟨_, _, "WhyChosen$Rule", cf_3, by decide, by decide, hl, Or.inr (tw_465), rfl, fun _ => Or.inr trivial⟩
  · exact ⟨_, _, "WhyChosen$Rule", cf_2, by decide, by decide, hl, Or.inr (tw_465), rfl, fun _ => Or.inr trivial⟩
  · exact ⟨_, _, "WhyChosen$Rule", cf_8, by decide, by decide, hl, Or.inr (tw_465), rfl, fun _ => Or.inr trivial⟩
theorem fVm_0 {G : Gl} {S : Sh} {D : Dy} {t kd : Nat} (h : FMo S t kd) : fV G.1 S D (mcls kd) (t + 9) 0 = .int (D.1 (t + 9) 0) := by
  have hk := h.kd
  obtain rfl | rfl | rfl | rfl | rfl | rfl : kd = 0 ∨ kd = 1 ∨ kd = 2 ∨ kd = 3 ∨ kd = 4 ∨ kd = 5 := by omega
  all_goals exact fV_int rfl
theorem fVm_1 {G : Gl} {S : Sh} {D : Dy} {t kd : Nat} (h : FMo S t kd) : fV G.1 S D (mcls kd) (t + 9) 1 = .int (D.1 (t + 9) 1) := by
  have hk := h.kd
  obtain rfl | rfl | rfl | rfl | rfl | rfl : kd = 0 ∨ kd = 1 ∨ kd = 2 ∨ kd = 3 ∨ kd = 4 ∨ kd = 5 := by omega
  all_goals exact fV_int rfl
theorem fVm_2 {G : Gl} {S : Sh} {D : Dy} {t kd : Nat} (h : FMo S t kd) : fV G.1 S D (mcls kd) (t + 9) 2 = .ref (G.1 + t) := by
  have hk := h.kd
  obtain rfl | rfl | rfl | rfl | rfl | rfl : kd = 0 ∨ kd = 1 ∨ kd = 2 ∨ kd = 3 ∨ kd = 4 ∨ kd = 5 := by omega
  all_goals exact fV_ref rfl h.2.2.2.2.2.2.1
theorem fVm_3 {G : Gl} {S : Sh} {D : Dy} {t kd : Nat} (h : FMo S t kd) : fV G.1 S D (mcls kd) (t + 9) 3 = .ref (G.1 + (t + 10)) := by
  have hk := h.kd
  obtain rfl | rfl | rfl | rfl | rfl | rfl : kd = 0 ∨ kd = 1 ∨ kd = 2 ∨ kd = 3 ∨ kd = 4 ∨ kd = 5 := by omega
  all_goals exact fV_ref rfl h.2.2.2.2.2.2.2.1
theorem fVm_4 {G : Gl} {S : Sh} {D : Dy} {t kd : Nat} (h : FMo S t kd) : fV G.1 S D (mcls kd) (t + 9) 4 = .ref (G.1 + (t + 11)) := by
  have hk := h.kd
  obtain rfl | rfl | rfl | rfl | rfl | rfl : kd = 0 ∨ kd = 1 ∨ kd = 2 ∨ kd = 3 ∨ kd = 4 ∨ kd = 5 := by omega
  all_goals exact fV_ref rfl h.2.2.2.2.2.2.2.2.1
theorem fVm_5 {G : Gl} {S : Sh} {D : Dy} {t kd : Nat} (h : FMo S t kd) : fV G.1 S D (mcls kd) (t + 9) 5 = .ref (G.1 + (t + 12)) := by
  have hk := h.kd
  obtain rfl | rfl | rfl | rfl | rfl | rfl : kd = 0 ∨ kd = 1 ∨ kd = 2 ∨ kd = 3 ∨ kd = 4 ∨ kd = 5 := by omega
  all_goals exact fV_ref rfl h.2.2.2.2.2.2.2.2.2.1
theorem fVm_6 {G : Gl} {S : Sh} {D : Dy} {t : Nat} (h : FMo S t 2) : fV G.1 S D (mcls 2) (t + 9) 6 = .ref (G.1 + (t + 13)) := fV_ref rfl (h.2.2.2.2.2.2.2.2.2.2 rfl).2.2.1
theorem fVm_7 {G : Gl} {S : Sh} {D : Dy} {t : Nat} (h : FMo S t 2) : fV G.1 S D (mcls 2) (t + 9) 7 = .ref (G.1 + (t + 14)) := fV_ref rfl (h.2.2.2.2.2.2.2.2.2.2 rfl).2.2.2
