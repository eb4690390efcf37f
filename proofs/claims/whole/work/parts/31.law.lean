set_option maxRecDepth 100000 in
theorem klL_155 : Cond.constantLong "WhyChosenLaw" 155 (4294967295 : Int64) ∈ TB := TB_of 1642 rfl rfl
set_option maxRecDepth 100000 in
theorem lkL_100 : Cond.methodLink "WhyChosenLaw" 100 yX12_next ∈ TB := TB_of 1522 rfl rfl
set_option maxRecDepth 100000 in
theorem lkL_101 : Cond.methodLink "WhyChosenLaw" 101 yX11_silly ∈ TB := TB_of 875 rfl rfl
set_option maxRecDepth 100000 in
theorem lkL_104 : Cond.methodLink "WhyChosenLaw" 104 yX12_silly ∈ TB := TB_of 1526 rfl rfl
set_option maxRecDepth 100000 in
theorem lkL_105 : Cond.methodLink "WhyChosenLaw" 105 yX11_could ∈ TB := TB_of 888 rfl rfl
set_option maxRecDepth 100000 in
theorem lkL_108 : Cond.methodLink "WhyChosenLaw" 108 yX12_could ∈ TB := TB_of 1530 rfl rfl
set_option maxRecDepth 100000 in
theorem lkL_109 : Cond.methodLink "WhyChosenLaw" 109 yX11_away ∈ TB := TB_of 892 rfl rfl
set_option maxRecDepth 100000 in
theorem lkL_112 : Cond.methodLink "WhyChosenLaw" 112 yX12_away ∈ TB := TB_of 1534 rfl rfl
set_option maxRecDepth 100000 in
theorem lkL_113 : Cond.methodLink "WhyChosenLaw" 113 yX11_coin ∈ TB := TB_of 905 rfl rfl
set_option maxRecDepth 100000 in
theorem lkL_117 : Cond.methodLink "WhyChosenLaw" 117 yX12_coin ∈ TB := TB_of 1538 rfl rfl
set_option maxRecDepth 100000 in
theorem lkL_118 : Cond.methodLink "WhyChosenLaw" 118 yX11_lay ∈ TB := TB_of 917 rfl rfl
set_option maxRecDepth 100000 in
theorem lkL_121 : Cond.methodLink "WhyChosenLaw" 121 yX12_lay ∈ TB := TB_of 1546 rfl rfl
set_option maxRecDepth 100000 in
theorem lkL_122 : Cond.methodLink "WhyChosenLaw" 122 yX11_best ∈ TB := TB_of 922 rfl rfl
set_option maxRecDepth 100000 in
theorem lkL_125 : Cond.methodLink "WhyChosenLaw" 125 yX12_best ∈ TB := TB_of 1550 rfl rfl
set_option maxRecDepth 100000 in
theorem lkL_126 : Cond.methodLink "WhyChosenLaw" 126 yX11_worse ∈ TB := TB_of 926 rfl rfl
set_option maxRecDepth 100000 in
theorem lkL_129 : Cond.methodLink "WhyChosenLaw" 129 yX12_worse ∈ TB := TB_of 1555 rfl rfl
set_option maxRecDepth 100000 in
theorem lkL_13 : Cond.methodLink "WhyChosenLaw" 13 yX11_thing ∈ TB := TB_of 184 rfl rfl
set_option maxRecDepth 100000 in
theorem lkL_130 : Cond.methodLink "WhyChosenLaw" 130 yX11_act ∈ TB := TB_of 940 rfl rfl
set_option maxRecDepth 100000 in
theorem lkL_133 : Cond.methodLink "WhyChosenLaw" 133 yX12_act ∈ TB := TB_of 1563 rfl rfl
set_option maxRecDepth 100000 in
theorem lkL_134 : Cond.methodLink "WhyChosenLaw" 134 yX11_trace ∈ TB := TB_of 1026 rfl rfl
set_option maxRecDepth 100000 in
theorem lkL_137 : Cond.methodLink "WhyChosenLaw" 137 yX12_trace ∈ TB := TB_of 1599 rfl rfl
set_option maxRecDepth 100000 in
theorem lkL_138 : Cond.methodLink "WhyChosenLaw" 138 yX11_taken ∈ TB := TB_of 1035 rfl rfl
set_option maxRecDepth 100000 in
theorem lkL_141 : Cond.methodLink "WhyChosenLaw" 141 yX12_taken ∈ TB := TB_of 1603 rfl rfl
set_option maxRecDepth 100000 in
theorem lkL_142 : Cond.methodLink "WhyChosenLaw" 142 yX11_sheet ∈ TB := TB_of 1042 rfl rfl
set_option maxRecDepth 100000 in
theorem lkL_146 : Cond.methodLink "WhyChosenLaw" 146 yX12_sheet ∈ TB := TB_of 1611 rfl rfl
set_option maxRecDepth 100000 in
theorem lkL_147 : Cond.methodLink "WhyChosenLaw" 147 yX11_count ∈ TB := TB_of 1052 rfl rfl
set_option maxRecDepth 100000 in
theorem lkL_150 : Cond.methodLink "WhyChosenLaw" 150 yX12_count ∈ TB := TB_of 1607 rfl rfl
set_option maxRecDepth 100000 in
theorem lkL_151 : Cond.methodLink "WhyChosenLaw" 151 yX11_tape ∈ TB := TB_of 1060 rfl rfl
set_option maxRecDepth 100000 in
theorem lkL_154 : Cond.methodLink "WhyChosenLaw" 154 yX12_tape ∈ TB := TB_of 1622 rfl rfl
set_option maxRecDepth 100000 in
theorem lkL_157 : Cond.methodLink "WhyChosenLaw" 157 yX11_item ∈ TB := TB_of 1064 rfl rfl
set_option maxRecDepth 100000 in
theorem lkL_161 : Cond.methodLink "WhyChosenLaw" 161 yX12_item ∈ TB := TB_of 1626 rfl rfl
set_option maxRecDepth 100000 in
theorem lkL_162 : Cond.methodLink "WhyChosenLaw" 162 yX11_read ∈ TB := TB_of 1071 rfl rfl
set_option maxRecDepth 100000 in
theorem lkL_165 : Cond.methodLink "WhyChosenLaw" 165 yX12_read ∈ TB := TB_of 1634 rfl rfl
set_option maxRecDepth 100000 in
theorem lkL_166 : Cond.methodLink "WhyChosenLaw" 166 yX11_shift ∈ TB := TB_of 1075 rfl rfl
set_option maxRecDepth 100000 in
theorem lkL_17 : Cond.methodLink "WhyChosenLaw" 17 yX12_thing ∈ TB := TB_of 1257 rfl rfl
set_option maxRecDepth 100000 in
theorem lkL_170 : Cond.methodLink "WhyChosenLaw" 170 yX12_shift ∈ TB := TB_of 1638 rfl rfl
set_option maxRecDepth 100000 in
theorem lkL_18 : Cond.methodLink "WhyChosenLaw" 18 yX11_price ∈ TB := TB_of 195 rfl rfl
set_option maxRecDepth 100000 in
theorem lkL_22 : Cond.methodLink "WhyChosenLaw" 22 yX12_price ∈ TB := TB_of 1265 rfl rfl
set_option maxRecDepth 100000 in
theorem lkL_23 : Cond.methodLink "WhyChosenLaw" 23 yX11_taker ∈ TB := TB_of 204 rfl rfl
set_option maxRecDepth 100000 in
theorem lkL_27 : Cond.methodLink "WhyChosenLaw" 27 yX12_taker ∈ TB := TB_of 1273 rfl rfl
set_option maxRecDepth 100000 in
theorem lkL_28 : Cond.methodLink "WhyChosenLaw" 28 yX11_choice ∈ TB := TB_of 208 rfl rfl
set_option maxRecDepth 100000 in
theorem lkL_31 : Cond.methodLink "WhyChosenLaw" 31 yX12_choice ∈ TB := TB_of 1277 rfl rfl
set_option maxRecDepth 100000 in
theorem lkL_32 : Cond.methodLink "WhyChosenLaw" 32 yX11_put ∈ TB := TB_of 231 rfl rfl
set_option maxRecDepth 100000 in
theorem lkL_35 : Cond.methodLink "WhyChosenLaw" 35 yX12_put ∈ TB := TB_of 1293 rfl rfl
set_option maxRecDepth 100000 in
theorem lkL_36 : Cond.methodLink "WhyChosenLaw" 36 yX11_of ∈ TB := TB_of 235 rfl rfl
set_option maxRecDepth 100000 in
theorem lkL_39 : Cond.methodLink "WhyChosenLaw" 39 yX12_of ∈ TB := TB_of 1301 rfl rfl
set_option maxRecDepth 100000 in
theorem lkL_40 : Cond.methodLink "WhyChosenLaw" 40 yX11_feed ∈ TB := TB_of 239 rfl rfl
set_option maxRecDepth 100000 in
theorem lkL_43 : Cond.methodLink "WhyChosenLaw" 43 yX12_feed ∈ TB := TB_of 1305 rfl rfl
set_option maxRecDepth 100000 in
theorem lkL_44 : Cond.methodLink "WhyChosenLaw" 44 yX11_model ∈ TB := TB_of 243 rfl rfl
set_option maxRecDepth 100000 in
theorem lkL_47 : Cond.methodLink "WhyChosenLaw" 47 yX12_model ∈ TB := TB_of 1309 rfl rfl
set_option maxRecDepth 100000 in
theorem lkL_48 : Cond.methodLink "WhyChosenLaw" 48 yX11_weight ∈ TB := TB_of 574 rfl rfl
set_option maxRecDepth 100000 in
theorem lkL_51 : Cond.methodLink "WhyChosenLaw" 51 yX12_weight ∈ TB := TB_of 1384 rfl rfl
set_option maxRecDepth 100000 in
theorem lkL_52 : Cond.methodLink "WhyChosenLaw" 52 yX11_odds ∈ TB := TB_of 601 rfl rfl
set_option maxRecDepth 100000 in
theorem lkL_56 : Cond.methodLink "WhyChosenLaw" 56 yX12_odds ∈ TB := TB_of 1400 rfl rfl
set_option maxRecDepth 100000 in
theorem lkL_57 : Cond.methodLink "WhyChosenLaw" 57 yX11_score ∈ TB := TB_of 740 rfl rfl
set_option maxRecDepth 100000 in
theorem lkL_60 : Cond.methodLink "WhyChosenLaw" 60 yX12_score ∈ TB := TB_of 1445 rfl rfl
set_option maxRecDepth 100000 in
theorem lkL_61 : Cond.methodLink "WhyChosenLaw" 61 yX11_misses ∈ TB := TB_of 762 rfl rfl
set_option maxRecDepth 100000 in
theorem lkL_64 : Cond.methodLink "WhyChosenLaw" 64 yX12_misses ∈ TB := TB_of 1454 rfl rfl
set_option maxRecDepth 100000 in
theorem lkL_65 : Cond.methodLink "WhyChosenLaw" 65 yX11_grid ∈ TB := TB_of 780 rfl rfl
set_option maxRecDepth 100000 in
theorem lkL_68 : Cond.methodLink "WhyChosenLaw" 68 yX12_grid ∈ TB := TB_of 1462 rfl rfl
set_option maxRecDepth 100000 in
theorem lkL_69 : Cond.methodLink "WhyChosenLaw" 69 yX11_which ∈ TB := TB_of 784 rfl rfl
set_option maxRecDepth 100000 in
theorem lkL_72 : Cond.methodLink "WhyChosenLaw" 72 yX12_which ∈ TB := TB_of 1466 rfl rfl
set_option maxRecDepth 100000 in
theorem lkL_73 : Cond.methodLink "WhyChosenLaw" 73 yX11_agree ∈ TB := TB_of 788 rfl rfl
set_option maxRecDepth 100000 in
theorem lkL_76 : Cond.methodLink "WhyChosenLaw" 76 yX12_agree ∈ TB := TB_of 1470 rfl rfl
set_option maxRecDepth 100000 in
theorem lkL_77 : Cond.methodLink "WhyChosenLaw" 77 yX11_letgo ∈ TB := TB_of 825 rfl rfl
set_option maxRecDepth 100000 in
theorem lkL_80 : Cond.methodLink "WhyChosenLaw" 80 yX12_letgo ∈ TB := TB_of 1498 rfl rfl
set_option maxRecDepth 100000 in
theorem lkL_81 : Cond.methodLink "WhyChosenLaw" 81 yX11_like ∈ TB := TB_of 838 rfl rfl
set_option maxRecDepth 100000 in
theorem lkL_84 : Cond.methodLink "WhyChosenLaw" 84 yX12_like ∈ TB := TB_of 1502 rfl rfl
set_option maxRecDepth 100000 in
theorem lkL_85 : Cond.methodLink "WhyChosenLaw" 85 yX11_would ∈ TB := TB_of 842 rfl rfl
set_option maxRecDepth 100000 in
theorem lkL_88 : Cond.methodLink "WhyChosenLaw" 88 yX12_would ∈ TB := TB_of 1506 rfl rfl
set_option maxRecDepth 100000 in
theorem lkL_89 : Cond.methodLink "WhyChosenLaw" 89 yX11_must ∈ TB := TB_of 858 rfl rfl
set_option maxRecDepth 100000 in
theorem lkL_92 : Cond.methodLink "WhyChosenLaw" 92 yX12_must ∈ TB := TB_of 1514 rfl rfl
set_option maxRecDepth 100000 in
theorem lkL_93 : Cond.methodLink "WhyChosenLaw" 93 yX11_ask ∈ TB := TB_of 862 rfl rfl
set_option maxRecDepth 100000 in
theorem lkL_96 : Cond.methodLink "WhyChosenLaw" 96 yX12_ask ∈ TB := TB_of 1518 rfl rfl
set_option maxRecDepth 100000 in
theorem lkL_97 : Cond.methodLink "WhyChosenLaw" 97 yX11_next ∈ TB := TB_of 866 rfl rfl
/-! THE LAW'S WALK -/
section ZLW
variable {p : Program} {l : Launch} {e : Env} {R : Room} {s : State} {m : MethodId} {args : Array Value} {below : List Frame} {meth : Method} {c : Code} {nL : Nat} {k n : Nat} {Q : State → Prop} {pc : Nat} {lv : List (Nat × Value)} {st : List Value}
variable {G : Gl} {cc : ByteArray} {own : String} {ret : Option FieldType} {A : Nat → Prop} {S S' S0 : Sh} {D D' : Dy} {a N : Nat} {Wp : Heap → List Loc → Prop}
variable {b Ls : Nat} {xs : Nat → Int32} {mdl : Nat → Option (Nat × Nat)}
theorem z_sld (hC : CX G cc own nL ret p s m args meth c) (hX : va_X b Ls xs s s.heap) (hbl : b < s.heap.size) (hG0 : G.1 = s.heap.size) {i : Int32} (hin : vp_in i Ls) (hd : decode cc pc = .ok (.iaload, 1)) (kz : Z p l e R s m args below meth c nL (WM G s (fun q => G.1 ≤ q) S D) k n Q (pc + 1) lv (.int (xs i.toNatClampNeg) :: st)) : Z p l e R s m args below meth c nL (WM G s (fun q => G.1 ≤ q) S D) k n Q pc lv (.int i :: .ref b :: st) := by
  intro H locs hW ls hl
  exact va_sld (A := fun q => G.1 ≤ q) hC.1 hC.2.1 hX hbl (by show ¬ G.1 ≤ b; omega) hW.2.2.2 hin hd (kz H locs hW ls hl)
theorem z_sln (hC : CX G cc own nL ret p s m args meth c) (hX : va_X b Ls xs s s.heap) (hbl : b < s.heap.size) (hG0 : G.1 = s.heap.size) (hd : decode cc pc = .ok (.arraylength, 1)) (kz : Z p l e R s m args below meth c nL (WM G s (fun q => G.1 ≤ q) S D) k n Q (pc + 1) lv (.int (Int32.ofNat Ls) :: st)) : Z p l e R s m args below meth c nL (WM G s (fun q => G.1 ≤ q) S D) k n Q pc lv (.ref b :: st) := by
  intro H locs hW ls hl
  exact va_slen (A := fun q => G.1 ≤ q) hC.1 hC.2.1 hX hbl (by show ¬ G.1 ≤ b; omega) hW.2.2.2 hd (kz H locs hW ls hl)
theorem FM_33 {S1 : Sh} (h : FM S) (hb : Sb S) (hx : sLow33 S S1) : FM S1 := by
  have hk : ∀ a, 33 ≤ a → a < 65 → a < S.1 := fun a h1 h2 => hb a (by rw [(h.1 a h1 h2).1]; exact (by decide : ∀ a, a < 65 → 33 ≤ a → kTab.getD a 0 ≠ 0) a h2 h1)
  refine ⟨fun a h1 h2 => ?_, fun q hq => ?_⟩
  · have := hx a (hk a h1 h2) (by omega)
    exact ⟨this.1.trans (h.1 a h1 h2).1, this.2.1.trans (h.1 a h1 h2).2⟩
  · have h33 : ∀ q ∈ rTabM, 33 ≤ q.1 ∧ q.1 < 65 := by decide
    have hq' := h33 q hq
    rw [(hx q.1 (hk _ hq'.1 hq'.2) (by omega)).2.2]; exact h.2 q hq
theorem lg_cmp_self {x : Int64} : lg_cmp x x = 0 := by simp [lg_cmp]
set_option maxHeartbeats 4000000 in
set_option maxRecDepth 100000 in
theorem law_0 (hC : CX G code "WhyChosenLaw" 4 ret p s m args meth c) (hX : va_X b Ls xs s s.heap) (hbl : b < s.heap.size) (hG0 : G.1 = s.heap.size) (hF : FX S mdl) (hM : FM S) (h : Rel mdl S.1 D) {i : Int32} (hi1 : vp_in (i + (1 : Int32)) Ls) (hi2 : vp_in (i + (2 : Int32)) Ls) (hi3 : vp_in (i + (3 : Int32)) Ls) (hkn : k + 15 ≤ room_1.cells ∧ n + 249 ≤ room_1.slots) (kz : ∀ D', Rel mdl S.1 D' → Z p l e room_1 s m args below meth c 4 (WM G s (fun q => G.1 ≤ q) S D') k n Q 1530 [(3, .int i), (2, .ref (G.1 + 33)), (1, .ref (G.1 + 0)), (0, .ref b)] []) : Z p l e room_1 s m args below meth c 4 (WM G s (fun q => G.1 ≤ q) S D) k n Q 196 [(3, .int i), (2, .ref (G.1 + 33)), (1, .ref (G.1 + 0)), (0, .ref b)] [] := by
  obtain ⟨PP, hP, E⟩ := op_thing (a1 := (xs ((i + (1 : Int32))).toNatClampNeg)) (a2 := (xs ((i + (2 : Int32))).toNatClampNeg)) (a3 := (xs ((i + (3 : Int32))).toNatClampNeg)) h
  refine z_aload_n hC dL_law_196 rfl 2 rfl ?_
  refine z_aload_n hC dL_law_197 rfl 3 rfl ?_
  refine z_iload_n hC dL_law_198 rfl 0 rfl ?_
  refine z_iconst (v := 1) hC dL_law_199 rfl ?_
  refine z_iadd hC dL_law_200 ?_
  refine z_sld hC hX hbl hG0 hi1 dL_law_201 ?_
  refine z_aload_n hC dL_law_202 rfl 3 rfl ?_
  refine z_iload_n hC dL_law_203 rfl 0 rfl ?_
  refine z_iconst (v := 2) hC dL_law_204 rfl ?_
  refine z_iadd hC dL_law_205 ?_
  refine z_sld hC hX hbl hG0 hi2 dL_law_206 ?_
  refine z_aload_n hC dL_law_207 rfl 3 rfl ?_
  refine z_iload_n hC dL_law_208 rfl 0 rfl ?_
  refine z_iconst (v := 3) hC dL_law_209 rfl ?_
  refine z_iadd hC dL_law_210 ?_
  refine z_sld hC hX hbl hG0 hi3 dL_law_211 ?_
  refine z_callV (mc := 0) (ms := 0) (ci := 11) (rest := []) (av := [.int (xs ((i + (1 : Int32))).toNatClampNeg), .int (xs ((i + (2 : Int32))).toNatClampNeg), .int (xs ((i + (3 : Int32))).toNatClampNeg)]) hC (ck_mk lkL_13 in_X11_thing cd_X11_thing ds_X11_thing (Nat.le_of_ble_eq_true rfl) (Nat.le_of_ble_eq_true rfl)) iy_X11_thing sy_X11_thing cf_11 (by decide) (kX_0 hF) (ct_X11_thing hF E) rfl rfl (Nat.le_of_ble_eq_true rfl) ⟨by have := hkn.1; omega, by have := hkn.2; omega⟩ dL_law_212 ?_
  rintro _ _ D1 ⟨v, rfl, rfl, E⟩
  refine z_aload_n hC dL_law_215 rfl 1 rfl ?_
  refine z_aload_n hC dL_law_216 rfl 3 rfl ?_
  refine z_iload_n hC dL_law_217 rfl 0 rfl ?_
  refine z_iconst (v := 1) hC dL_law_218 rfl ?_
  refine z_iadd hC dL_law_219 ?_
  refine z_sld hC hX hbl hG0 hi1 dL_law_220 ?_
  refine z_aload_n hC dL_law_221 rfl 3 rfl ?_
  refine z_iload_n hC dL_law_222 rfl 0 rfl ?_
  refine z_iconst (v := 2) hC dL_law_223 rfl ?_
  refine z_iadd hC dL_law_224 ?_
  refine z_sld hC hX hbl hG0 hi2 dL_law_225 ?_
  refine z_aload_n hC dL_law_226 rfl 3 rfl ?_
  refine z_iload_n hC dL_law_227 rfl 0 rfl ?_
  refine z_iconst (v := 3) hC dL_law_228 rfl ?_
  refine z_iadd hC dL_law_229 ?_
  refine z_sld hC hX hbl hG0 hi3 dL_law_230 ?_
  refine z_callV (mc := 0) (ms := 0) (ci := 12) (rest := [.int v]) (av := [.int (xs ((i + (1 : Int32))).toNatClampNeg), .int (xs ((i + (2 : Int32))).toNatClampNeg), .int (xs ((i + (3 : Int32))).toNatClampNeg)]) hC (ck_mk lkL_17 in_X12_thing cd_X12_thing ds_X12_thing (Nat.le_of_ble_eq_true rfl) (Nat.le_of_ble_eq_true rfl)) iy_X12_thing sy_X12_thing cf_12 (by decide) (kM_33 hM) (ct_X12_thing hM E) rfl rfl (Nat.le_of_ble_eq_true rfl) ⟨by have := hkn.1; omega, by have := hkn.2; omega⟩ dL_law_231 ?_
  rintro _ _ D2 ⟨v', rfl, rfl, E⟩
  refine z_icmp_eq (tgt := 1530) hC dL_law_234 (by decide) (fun _ => ?_) (fun c1 => absurd (hP _ _ _ E).1 c1)
  exact kz _ (hP _ _ _ E).2
set_option maxHeartbeats 4000000 in
set_option maxRecDepth 100000 in
theorem law_1 (hC : CX G code "WhyChosenLaw" 4 ret p s m args meth c) (hX : va_X b Ls xs s s.heap) (hbl : b < s.heap.size) (hG0 : G.1 = s.heap.size) (hF : FX S mdl) (hM : FM S) (h : Rel mdl S.1 D) {i : Int32} (hi1 : vp_in (i + (1 : Int32)) Ls) (hi2 : vp_in (i + (2 : Int32)) Ls) (hkn : k + 15 ≤ room_1.cells ∧ n + 249 ≤ room_1.slots) (kz : ∀ D', Rel mdl S.1 D' → Z p l e room_1 s m args below meth c 4 (WM G s (fun q => G.1 ≤ q) S D') k n Q 1530 [(3, .int i), (2, .ref (G.1 + 33)), (1, .ref (G.1 + 0)), (0, .ref b)] []) : Z p l e room_1 s m args below meth c 4 (WM G s (fun q => G.1 ≤ q) S D) k n Q 239 [(3, .int i), (2, .ref (G.1 + 33)), (1, .ref (G.1 + 0)), (0, .ref b)] [] := by
  obtain ⟨PP, hP, E⟩ := op_price (a1 := (xs ((i + (1 : Int32))).toNatClampNeg)) (a2 := (xs ((i + (2 : Int32))).toNatClampNeg)) h
  refine z_aload_n hC dL_law_239 rfl 2 rfl ?_
  refine z_aload_n hC dL_law_240 rfl 3 rfl ?_
  refine z_iload_n hC dL_law_241 rfl 0 rfl ?_
  refine z_iconst (v := 1) hC dL_law_242 rfl ?_
  refine z_iadd hC dL_law_243 ?_
  refine z_sld hC hX hbl hG0 hi1 dL_law_244 ?_
  refine z_aload_n hC dL_law_245 rfl 3 rfl ?_
  refine z_iload_n hC dL_law_246 rfl 0 rfl ?_
  refine z_iconst (v := 2) hC dL_law_247 rfl ?_
  refine z_iadd hC dL_law_248 ?_
  refine z_sld hC hX hbl hG0 hi2 dL_law_249 ?_
  refine z_callV (mc := 0) (ms := 0) (ci := 11) (rest := []) (av := [.int (xs ((i + (1 : Int32))).toNatClampNeg), .int (xs ((i + (2 : Int32))).toNatClampNeg)]) hC (ck_mk lkL_18 in_X11_price cd_X11_price ds_X11_price (Nat.le_of_ble_eq_true rfl) (Nat.le_of_ble_eq_true rfl)) iy_X11_price sy_X11_price cf_11 (by decide) (kX_0 hF) (ct_X11_price hF E) rfl rfl (Nat.le_of_ble_eq_true rfl) ⟨by have := hkn.1; omega, by have := hkn.2; omega⟩ dL_law_250 ?_
  rintro _ _ D1 ⟨v, rfl, rfl, E⟩
  refine z_aload_n hC dL_law_253 rfl 1 rfl ?_
  refine z_aload_n hC dL_law_254 rfl 3 rfl ?_
  refine z_iload_n hC dL_law_255 rfl 0 rfl ?_
  refine z_iconst (v := 1) hC dL_law_256 rfl ?_
  refine z_iadd hC dL_law_257 ?_
  refine z_sld hC hX hbl hG0 hi1 dL_law_258 ?_
  refine z_aload_n hC dL_law_259 rfl 3 rfl ?_
  refine z_iload_n hC dL_law_260 rfl 0 rfl ?_
  refine z_iconst (v := 2) hC dL_law_261 rfl ?_
  refine z_iadd hC dL_law_262 ?_
  refine z_sld hC hX hbl hG0 hi2 dL_law_263 ?_
  refine z_callV (mc := 0) (ms := 0) (ci := 12) (rest := [.int v]) (av := [.int (xs ((i + (1 : Int32))).toNatClampNeg), .int (xs ((i + (2 : Int32))).toNatClampNeg)]) hC (ck_mk lkL_22 in_X12_price cd_X12_price ds_X12_price (Nat.le_of_ble_eq_true rfl) (Nat.le_of_ble_eq_true rfl)) iy_X12_price sy_X12_price cf_12 (by decide) (kM_33 hM) (ct_X12_price hM E) rfl rfl (Nat.le_of_ble_eq_true rfl) ⟨by have := hkn.1; omega, by have := hkn.2; omega⟩ dL_law_264 ?_
  rintro _ _ D2 ⟨v', rfl, rfl, E⟩
  refine z_icmp_eq (tgt := 1530) hC dL_law_267 (by decide) (fun _ => ?_) (fun c1 => absurd (hP _ _ _ E).1 c1)
  exact kz _ (hP _ _ _ E).2
set_option maxHeartbeats 4000000 in
set_option maxRecDepth 100000 in
theorem law_2 (hC : CX G code "WhyChosenLaw" 4 ret p s m args meth c) (hX : va_X b Ls xs s s.heap) (hbl : b < s.heap.size) (hG0 : G.1 = s.heap.size) (hF : FX S mdl) (hM : FM S) (h : Rel mdl S.1 D) {i : Int32} (hi1 : vp_in (i + (1 : Int32)) Ls) (hkn : k + 15 ≤ room_1.cells ∧ n + 249 ≤ room_1.slots) (kz : ∀ D', Rel mdl S.1 D' → Z p l e room_1 s m args below meth c 4 (WM G s (fun q => G.1 ≤ q) S D') k n Q 1530 [(3, .int i), (2, .ref (G.1 + 33)), (1, .ref (G.1 + 0)), (0, .ref b)] []) : Z p l e room_1 s m args below meth c 4 (WM G s (fun q => G.1 ≤ q) S D) k n Q 272 [(3, .int i), (2, .ref (G.1 + 33)), (1, .ref (G.1 + 0)), (0, .ref b)] [] := by
  obtain ⟨PP, hP, E⟩ := op_taker (a1 := (xs ((i + (1 : Int32))).toNatClampNeg)) h
  refine z_aload_n hC dL_law_272 rfl 2 rfl ?_
  refine z_aload_n hC dL_law_273 rfl 3 rfl ?_
  refine z_iload_n hC dL_law_274 rfl 0 rfl ?_
  refine z_iconst (v := 1) hC dL_law_275 rfl ?_
  refine z_iadd hC dL_law_276 ?_
  refine z_sld hC hX hbl hG0 hi1 dL_law_277 ?_
  refine z_callV (mc := 0) (ms := 0) (ci := 11) (rest := []) (av := [.int (xs ((i + (1 : Int32))).toNatClampNeg)]) hC (ck_mk lkL_23 in_X11_taker cd_X11_taker ds_X11_taker (Nat.le_of_ble_eq_true rfl) (Nat.le_of_ble_eq_true rfl)) iy_X11_taker sy_X11_taker cf_11 (by decide) (kX_0 hF) (ct_X11_taker hF E) rfl rfl (Nat.le_of_ble_eq_true rfl) ⟨by have := hkn.1; omega, by have := hkn.2; omega⟩ dL_law_278 ?_
  rintro _ _ D1 ⟨v, rfl, rfl, E⟩
  refine z_aload_n hC dL_law_281 rfl 1 rfl ?_
  refine z_aload_n hC dL_law_282 rfl 3 rfl ?_
  refine z_iload_n hC dL_law_283 rfl 0 rfl ?_
  refine z_iconst (v := 1) hC dL_law_284 rfl ?_
  refine z_iadd hC dL_law_285 ?_
  refine z_sld hC hX hbl hG0 hi1 dL_law_286 ?_
  refine z_callV (mc := 0) (ms := 0) (ci := 12) (rest := [.int v]) (av := [.int (xs ((i + (1 : Int32))).toNatClampNeg)]) hC (ck_mk lkL_27 in_X12_taker cd_X12_taker ds_X12_taker (Nat.le_of_ble_eq_true rfl) (Nat.le_of_ble_eq_true rfl)) iy_X12_taker sy_X12_taker cf_12 (by decide) (kM_33 hM) (ct_X12_taker hM E) rfl rfl (Nat.le_of_ble_eq_true rfl) ⟨by have := hkn.1; omega, by have := hkn.2; omega⟩ dL_law_287 ?_
  rintro _ _ D2 ⟨v', rfl, rfl, E⟩
  refine z_icmp_eq (tgt := 1530) hC dL_law_290 (by decide) (fun _ => ?_) (fun c1 => absurd (hP _ _ _ E).1 c1)
  exact kz _ (hP _ _ _ E).2
set_option maxHeartbeats 4000000 in
set_option maxRecDepth 100000 in
theorem law_3 (hC : CX G code "WhyChosenLaw" 4 ret p s m args meth c) (hX : va_X b Ls xs s s.heap) (hbl : b < s.heap.size) (hG0 : G.1 = s.heap.size) (hF : FX S mdl) (hM : FM S) (h : Rel mdl S.1 D) {i : Int32} (hi1 : vp_in (i + (1 : Int32)) Ls) (hi2 : vp_in (i + (2 : Int32)) Ls) (hi3 : vp_in (i + (3 : Int32)) Ls) (hkn : k + 15 ≤ room_1.cells ∧ n + 249 ≤ room_1.slots) (kz : ∀ D', Rel mdl S.1 D' → Z p l e room_1 s m args below meth c 4 (WM G s (fun q => G.1 ≤ q) S D') k n Q 1530 [(3, .int i), (2, .ref (G.1 + 33)), (1, .ref (G.1 + 0)), (0, .ref b)] []) : Z p l e room_1 s m args below meth c 4 (WM G s (fun q => G.1 ≤ q) S D) k n Q 295 [(3, .int i), (2, .ref (G.1 + 33)), (1, .ref (G.1 + 0)), (0, .ref b)] [] := by
  obtain ⟨PP, hP, E⟩ := op_choice (a1 := (xs ((i + (1 : Int32))).toNatClampNeg)) (a2 := (xs ((i + (2 : Int32))).toNatClampNeg)) (a3 := (xs ((i + (3 : Int32))).toNatClampNeg)) h
  refine z_aload_n hC dL_law_295 rfl 2 rfl ?_
  refine z_aload_n hC dL_law_296 rfl 3 rfl ?_
  refine z_iload_n hC dL_law_297 rfl 0 rfl ?_
  refine z_iconst (v := 1) hC dL_law_298 rfl ?_
  refine z_iadd hC dL_law_299 ?_
  refine z_sld hC hX hbl hG0 hi1 dL_law_300 ?_
  refine z_aload_n hC dL_law_301 rfl 3 rfl ?_
  refine z_iload_n hC dL_law_302 rfl 0 rfl ?_
  refine z_iconst (v := 2) hC dL_law_303 rfl ?_
  refine z_iadd hC dL_law_304 ?_
  refine z_sld hC hX hbl hG0 hi2 dL_law_305 ?_
  refine z_aload_n hC dL_law_306 rfl 3 rfl ?_
  refine z_iload_n hC dL_law_307 rfl 0 rfl ?_
  refine z_iconst (v := 3) hC dL_law_308 rfl ?_
  refine z_iadd hC dL_law_309 ?_
  refine z_sld hC hX hbl hG0 hi3 dL_law_310 ?_
  refine z_callV (mc := 0) (ms := 0) (ci := 11) (rest := []) (av := [.int (xs ((i + (1 : Int32))).toNatClampNeg), .int (xs ((i + (2 : Int32))).toNatClampNeg), .int (xs ((i + (3 : Int32))).toNatClampNeg)]) hC (ck_mk lkL_28 in_X11_choice cd_X11_choice ds_X11_choice (Nat.le_of_ble_eq_true rfl) (Nat.le_of_ble_eq_true rfl)) iy_X11_choice sy_X11_choice cf_11 (by decide) (kX_0 hF) (ct_X11_choice hF E) rfl rfl (Nat.le_of_ble_eq_true rfl) ⟨by have := hkn.1; omega, by have := hkn.2; omega⟩ dL_law_311 ?_
  rintro _ _ D1 ⟨v, rfl, rfl, E⟩
  refine z_aload_n hC dL_law_314 rfl 1 rfl ?_
  refine z_aload_n hC dL_law_315 rfl 3 rfl ?_
  refine z_iload_n hC dL_law_316 rfl 0 rfl ?_
  refine z_iconst (v := 1) hC dL_law_317 rfl ?_
  refine z_iadd hC dL_law_318 ?_
  refine z_sld hC hX hbl hG0 hi1 dL_law_319 ?_
  refine z_aload_n hC dL_law_320 rfl 3 rfl ?_
  refine z_iload_n hC dL_law_321 rfl 0 rfl ?_
  refine z_iconst (v := 2) hC dL_law_322 rfl ?_
  refine z_iadd hC dL_law_323 ?_
  refine z_sld hC hX hbl hG0 hi2 dL_law_324 ?_
  refine z_aload_n hC dL_law_325 rfl 3 rfl ?_
  refine z_iload_n hC dL_law_326 rfl 0 rfl ?_
  refine z_iconst (v := 3) hC dL_law_327 rfl ?_
  refine z_iadd hC dL_law_328 ?_
  refine z_sld hC hX hbl hG0 hi3 dL_law_329 ?_
  refine z_callV (mc := 0) (ms := 0) (ci := 12) (rest := [.int v]) (av := [.int (xs ((i + (1 : Int32))).toNatClampNeg), .int (xs ((i + (2 : Int32))).toNatClampNeg), .int (xs ((i + (3 : Int32))).toNatClampNeg)]) hC (ck_mk lkL_31 in_X12_choice cd_X12_choice ds_X12_choice (Nat.le_of_ble_eq_true rfl) (Nat.le_of_ble_eq_true rfl)) iy_X12_choice sy_X12_choice cf_12 (by decide) (kM_33 hM) (ct_X12_choice hM E) rfl rfl (Nat.le_of_ble_eq_true rfl) ⟨by have := hkn.1; omega, by have := hkn.2; omega⟩ dL_law_330 ?_
  rintro _ _ D2 ⟨v', rfl, rfl, E⟩
  refine z_icmp_eq (tgt := 1530) hC dL_law_333 (by decide) (fun _ => ?_) (fun c1 => absurd (hP _ _ _ E).1 c1)
  exact kz _ (hP _ _ _ E).2
set_option maxHeartbeats 4000000 in
set_option maxRecDepth 100000 in
theorem law_4 (hC : CX G code "WhyChosenLaw" 4 ret p s m args meth c) (hX : va_X b Ls xs s s.heap) (hbl : b < s.heap.size) (hG0 : G.1 = s.heap.size) (hF : FX S mdl) (hM : FM S) (h : Rel mdl S.1 D) {i : Int32} (hi1 : vp_in (i + (1 : Int32)) Ls) (hi2 : vp_in (i + (2 : Int32)) Ls) (hkn : k + 15 ≤ room_1.cells ∧ n + 249 ≤ room_1.slots) (kz : ∀ D', Rel mdl S.1 D' → Z p l e room_1 s m args below meth c 4 (WM G s (fun q => G.1 ≤ q) S D') k n Q 1530 [(3, .int i), (2, .ref (G.1 + 33)), (1, .ref (G.1 + 0)), (0, .ref b)] []) : Z p l e room_1 s m args below meth c 4 (WM G s (fun q => G.1 ≤ q) S D) k n Q 338 [(3, .int i), (2, .ref (G.1 + 33)), (1, .ref (G.1 + 0)), (0, .ref b)] [] := by
  obtain ⟨PP, hP, E⟩ := op_put (a1 := (xs ((i + (1 : Int32))).toNatClampNeg)) (a2 := (xs ((i + (2 : Int32))).toNatClampNeg)) h
  refine z_aload_n hC dL_law_338 rfl 2 rfl ?_
  refine z_aload_n hC dL_law_339 rfl 3 rfl ?_
  refine z_iload_n hC dL_law_340 rfl 0 rfl ?_
  refine z_iconst (v := 1) hC dL_law_341 rfl ?_
  refine z_iadd hC dL_law_342 ?_
  refine z_sld hC hX hbl hG0 hi1 dL_law_343 ?_
  refine z_aload_n hC dL_law_344 rfl 3 rfl ?_
  refine z_iload_n hC dL_law_345 rfl 0 rfl ?_
  refine z_iconst (v := 2) hC dL_law_346 rfl ?_
  refine z_iadd hC dL_law_347 ?_
  refine z_sld hC hX hbl hG0 hi2 dL_law_348 ?_
  refine z_callV (mc := 0) (ms := 0) (ci := 11) (rest := []) (av := [.int (xs ((i + (1 : Int32))).toNatClampNeg), .int (xs ((i + (2 : Int32))).toNatClampNeg)]) hC (ck_mk lkL_32 in_X11_put cd_X11_put ds_X11_put (Nat.le_of_ble_eq_true rfl) (Nat.le_of_ble_eq_true rfl)) iy_X11_put sy_X11_put cf_11 (by decide) (kX_0 hF) (ct_X11_put hF E) rfl rfl (Nat.le_of_ble_eq_true rfl) ⟨by have := hkn.1; omega, by have := hkn.2; omega⟩ dL_law_349 ?_
  rintro _ _ D1 ⟨v, rfl, rfl, E⟩
  refine z_aload_n hC dL_law_352 rfl 1 rfl ?_
  refine z_aload_n hC dL_law_353 rfl 3 rfl ?_
  refine z_iload_n hC dL_law_354 rfl 0 rfl ?_
  refine z_iconst (v := 1) hC dL_law_355 rfl ?_
  refine z_iadd hC dL_law_356 ?_
  refine z_sld hC hX hbl hG0 hi1 dL_law_357 ?_
  refine z_aload_n hC dL_law_358 rfl 3 rfl ?_
  refine z_iload_n hC dL_law_359 rfl 0 rfl ?_
  refine z_iconst (v := 2) hC dL_law_360 rfl ?_
  refine z_iadd hC dL_law_361 ?_
  refine z_sld hC hX hbl hG0 hi2 dL_law_362 ?_
  refine z_callV (mc := 0) (ms := 0) (ci := 12) (rest := [.int v]) (av := [.int (xs ((i + (1 : Int32))).toNatClampNeg), .int (xs ((i + (2 : Int32))).toNatClampNeg)]) hC (ck_mk lkL_35 in_X12_put cd_X12_put ds_X12_put (Nat.le_of_ble_eq_true rfl) (Nat.le_of_ble_eq_true rfl)) iy_X12_put sy_X12_put cf_12 (by decide) (kM_33 hM) (ct_X12_put hM E) rfl rfl (Nat.le_of_ble_eq_true rfl) ⟨by have := hkn.1; omega, by have := hkn.2; omega⟩ dL_law_363 ?_
  rintro _ _ D2 ⟨v', rfl, rfl, E⟩
  refine z_icmp_eq (tgt := 1530) hC dL_law_366 (by decide) (fun _ => ?_) (fun c1 => absurd (hP _ _ _ E).1 c1)
  exact kz _ (hP _ _ _ E).2
set_option maxHeartbeats 4000000 in
set_option maxRecDepth 100000 in
theorem law_5 (hC : CX G code "WhyChosenLaw" 4 ret p s m args meth c) (hX : va_X b Ls xs s s.heap) (hbl : b < s.heap.size) (hG0 : G.1 = s.heap.size) (hF : FX S mdl) (hM : FM S) (h : Rel mdl S.1 D) {i : Int32} (hi1 : vp_in (i + (1 : Int32)) Ls) (hi2 : vp_in (i + (2 : Int32)) Ls) (hkn : k + 15 ≤ room_1.cells ∧ n + 249 ≤ room_1.slots) (kz : ∀ D', Rel mdl S.1 D' → Z p l e room_1 s m args below meth c 4 (WM G s (fun q => G.1 ≤ q) S D') k n Q 1530 [(3, .int i), (2, .ref (G.1 + 33)), (1, .ref (G.1 + 0)), (0, .ref b)] []) : Z p l e room_1 s m args below meth c 4 (WM G s (fun q => G.1 ≤ q) S D) k n Q 371 [(3, .int i), (2, .ref (G.1 + 33)), (1, .ref (G.1 + 0)), (0, .ref b)] [] := by
  obtain ⟨PP, hP, E⟩ := op_of (a1 := (xs ((i + (1 : Int32))).toNatClampNeg)) (a2 := (xs ((i + (2 : Int32))).toNatClampNeg)) h
  refine z_aload_n hC dL_law_371 rfl 2 rfl ?_
  refine z_aload_n hC dL_law_372 rfl 3 rfl ?_
  refine z_iload_n hC dL_law_373 rfl 0 rfl ?_
  refine z_iconst (v := 1) hC dL_law_374 rfl ?_
  refine z_iadd hC dL_law_375 ?_
  refine z_sld hC hX hbl hG0 hi1 dL_law_376 ?_
  refine z_aload_n hC dL_law_377 rfl 3 rfl ?_
  refine z_iload_n hC dL_law_378 rfl 0 rfl ?_
  refine z_iconst (v := 2) hC dL_law_379 rfl ?_
  refine z_iadd hC dL_law_380 ?_
  refine z_sld hC hX hbl hG0 hi2 dL_law_381 ?_
  refine z_callV (mc := 0) (ms := 0) (ci := 11) (rest := []) (av := [.int (xs ((i + (1 : Int32))).toNatClampNeg), .int (xs ((i + (2 : Int32))).toNatClampNeg)]) hC (ck_mk lkL_36 in_X11_of cd_X11_of ds_X11_of (Nat.le_of_ble_eq_true rfl) (Nat.le_of_ble_eq_true rfl)) iy_X11_of sy_X11_of cf_11 (by decide) (kX_0 hF) (ct_X11_of hF E) rfl rfl (Nat.le_of_ble_eq_true rfl) ⟨by have := hkn.1; omega, by have := hkn.2; omega⟩ dL_law_382 ?_
  rintro _ _ _ ⟨v, rfl, rfl, rfl, E⟩
  refine z_aload_n hC dL_law_385 rfl 1 rfl ?_
  refine z_aload_n hC dL_law_386 rfl 3 rfl ?_
  refine z_iload_n hC dL_law_387 rfl 0 rfl ?_
  refine z_iconst (v := 1) hC dL_law_388 rfl ?_
  refine z_iadd hC dL_law_389 ?_
  refine z_sld hC hX hbl hG0 hi1 dL_law_390 ?_
  refine z_aload_n hC dL_law_391 rfl 3 rfl ?_
  refine z_iload_n hC dL_law_392 rfl 0 rfl ?_
  refine z_iconst (v := 2) hC dL_law_393 rfl ?_
  refine z_iadd hC dL_law_394 ?_
  refine z_sld hC hX hbl hG0 hi2 dL_law_395 ?_
  refine z_callV (mc := 0) (ms := 0) (ci := 12) (rest := [.int v]) (av := [.int (xs ((i + (1 : Int32))).toNatClampNeg), .int (xs ((i + (2 : Int32))).toNatClampNeg)]) hC (ck_mk lkL_39 in_X12_of cd_X12_of ds_X12_of (Nat.le_of_ble_eq_true rfl) (Nat.le_of_ble_eq_true rfl)) iy_X12_of sy_X12_of cf_12 (by decide) (kM_33 hM) (ct_X12_of hM E) rfl rfl (Nat.le_of_ble_eq_true rfl) ⟨by have := hkn.1; omega, by have := hkn.2; omega⟩ dL_law_396 ?_
  rintro _ _ _ ⟨v', rfl, rfl, rfl, E⟩
  refine z_icmp_eq (tgt := 1530) hC dL_law_399 (by decide) (fun _ => ?_) (fun c1 => absurd (hP _ _ E).1 c1)
  exact kz _ (hP _ _ E).2
set_option maxHeartbeats 4000000 in
set_option maxRecDepth 100000 in
theorem law_6 (hC : CX G code "WhyChosenLaw" 4 ret p s m args meth c) (hX : va_X b Ls xs s s.heap) (hbl : b < s.heap.size) (hG0 : G.1 = s.heap.size) (hF : FX S mdl) (hM : FM S) (h : Rel mdl S.1 D) {i : Int32} (hi1 : vp_in (i + (1 : Int32)) Ls) (hi2 : vp_in (i + (2 : Int32)) Ls) (hkn : k + 15 ≤ room_1.cells ∧ n + 249 ≤ room_1.slots) (kz : ∀ D', Rel mdl S.1 D' → Z p l e room_1 s m args below meth c 4 (WM G s (fun q => G.1 ≤ q) S D') k n Q 1530 [(3, .int i), (2, .ref (G.1 + 33)), (1, .ref (G.1 + 0)), (0, .ref b)] []) : Z p l e room_1 s m args below meth c 4 (WM G s (fun q => G.1 ≤ q) S D) k n Q 404 [(3, .int i), (2, .ref (G.1 + 33)), (1, .ref (G.1 + 0)), (0, .ref b)] [] := by
  obtain ⟨PP, hP, E⟩ := op_feed (a1 := (xs ((i + (1 : Int32))).toNatClampNeg)) (a2 := (xs ((i + (2 : Int32))).toNatClampNeg)) h
  refine z_aload_n hC dL_law_404 rfl 2 rfl ?_
  refine z_aload_n hC dL_law_405 rfl 3 rfl ?_
  refine z_iload_n hC dL_law_406 rfl 0 rfl ?_
  refine z_iconst (v := 1) hC dL_law_407 rfl ?_
  refine z_iadd hC dL_law_408 ?_
  refine z_sld hC hX hbl hG0 hi1 dL_law_409 ?_
  refine z_aload_n hC dL_law_410 rfl 3 rfl ?_
  refine z_iload_n hC dL_law_411 rfl 0 rfl ?_
  refine z_iconst (v := 2) hC dL_law_412 rfl ?_
  refine z_iadd hC dL_law_413 ?_
  refine z_sld hC hX hbl hG0 hi2 dL_law_414 ?_
  refine z_callV (mc := 0) (ms := 0) (ci := 11) (rest := []) (av := [.int (xs ((i + (1 : Int32))).toNatClampNeg), .int (xs ((i + (2 : Int32))).toNatClampNeg)]) hC (ck_mk lkL_40 in_X11_feed cd_X11_feed ds_X11_feed (Nat.le_of_ble_eq_true rfl) (Nat.le_of_ble_eq_true rfl)) iy_X11_feed sy_X11_feed cf_11 (by decide) (kX_0 hF) (ct_X11_feed hF E) rfl rfl (Nat.le_of_ble_eq_true rfl) ⟨by have := hkn.1; omega, by have := hkn.2; omega⟩ dL_law_415 ?_
  rintro _ _ D1 ⟨v, rfl, rfl, E⟩
  refine z_aload_n hC dL_law_418 rfl 1 rfl ?_
  refine z_aload_n hC dL_law_419 rfl 3 rfl ?_
  refine z_iload_n hC dL_law_420 rfl 0 rfl ?_
  refine z_iconst (v := 1) hC dL_law_421 rfl ?_
  refine z_iadd hC dL_law_422 ?_
  refine z_sld hC hX hbl hG0 hi1 dL_law_423 ?_
  refine z_aload_n hC dL_law_424 rfl 3 rfl ?_
  refine z_iload_n hC dL_law_425 rfl 0 rfl ?_
  refine z_iconst (v := 2) hC dL_law_426 rfl ?_
  refine z_iadd hC dL_law_427 ?_
  refine z_sld hC hX hbl hG0 hi2 dL_law_428 ?_
  refine z_callV (mc := 0) (ms := 0) (ci := 12) (rest := [.int v]) (av := [.int (xs ((i + (1 : Int32))).toNatClampNeg), .int (xs ((i + (2 : Int32))).toNatClampNeg)]) hC (ck_mk lkL_43 in_X12_feed cd_X12_feed ds_X12_feed (Nat.le_of_ble_eq_true rfl) (Nat.le_of_ble_eq_true rfl)) iy_X12_feed sy_X12_feed cf_12 (by decide) (kM_33 hM) (ct_X12_feed hM E) rfl rfl (Nat.le_of_ble_eq_true rfl) ⟨by have := hkn.1; omega, by have := hkn.2; omega⟩ dL_law_429 ?_
  rintro _ _ D2 ⟨v', rfl, rfl, E⟩
  refine z_icmp_eq (tgt := 1530) hC dL_law_432 (by decide) (fun _ => ?_) (fun c1 => absurd (hP _ _ _ E).1 c1)
  exact kz _ (hP _ _ _ E).2
set_option maxHeartbeats 4000000 in
set_option maxRecDepth 100000 in
theorem law_7 (hC : CX G code "WhyChosenLaw" 4 ret p s m args meth c) (hX : va_X b Ls xs s s.heap) (hbl : b < s.heap.size) (hG0 : G.1 = s.heap.size) (hF : FX S mdl) (hM : FM S) (hSb : Sb S) (h33 : 33 ≤ S.1) (h : Rel mdl S.1 D) {i : Int32} (hi1 : vp_in (i + (1 : Int32)) Ls) (hkn : k + 15 ≤ room_1.cells ∧ n + 249 ≤ room_1.slots) (kz : ∀ mdl' S' D', FX S' mdl' → sLow33 S S' → Sb S' → S.1 ≤ S'.1 → S'.1 ≤ S.1 + 15 → Rel mdl' S'.1 D' → Z p l e room_1 s m args below meth c 4 (WM G s (fun q => G.1 ≤ q) S' D') (k + 15) (n + 249) Q 1530 [(3, .int i), (2, .ref (G.1 + 33)), (1, .ref (G.1 + 0)), (0, .ref b)] []) : Z p l e room_1 s m args below meth c 4 (WM G s (fun q => G.1 ≤ q) S D) k n Q 437 [(3, .int i), (2, .ref (G.1 + 33)), (1, .ref (G.1 + 0)), (0, .ref b)] [] := by
  obtain ⟨PP, hP, E⟩ := op_model (a1 := (xs ((i + (1 : Int32))).toNatClampNeg)) hF hSb h
  refine z_aload_n hC dL_law_437 rfl 2 rfl ?_
  refine z_aload_n hC dL_law_438 rfl 3 rfl ?_
  refine z_iload_n hC dL_law_439 rfl 0 rfl ?_
  refine z_iconst (v := 1) hC dL_law_440 rfl ?_
  refine z_iadd hC dL_law_441 ?_
  refine z_sld hC hX hbl hG0 hi1 dL_law_442 ?_
  refine z_callV (mc := 15) (ms := 249) (ci := 11) (rest := []) (av := [.int (xs ((i + (1 : Int32))).toNatClampNeg)]) hC (ck_mk lkL_44 in_X11_model cd_X11_model ds_X11_model (Nat.le_of_ble_eq_true rfl) (Nat.le_of_ble_eq_true rfl)) iy_X11_model sy_X11_model cf_11 (by decide) (kX_0 hF) (ct_X11_model hF hSb rfl h33 E) rfl rfl (Nat.le_of_ble_eq_true rfl) ⟨by have := hkn.1; omega, by have := hkn.2; omega⟩ dL_law_443 ?_
  rintro _ S1 D1 ⟨v, rfl, mdl', g1, g2, g3, g4, g5, E⟩
  replace hM := FM_33 hM hSb g2
  refine z_aload_n hC dL_law_446 rfl 1 rfl ?_
  refine z_aload_n hC dL_law_447 rfl 3 rfl ?_
  refine z_iload_n hC dL_law_448 rfl 0 rfl ?_
  refine z_iconst (v := 1) hC dL_law_449 rfl ?_
  refine z_iadd hC dL_law_450 ?_
  refine z_sld hC hX hbl hG0 hi1 dL_law_451 ?_
  refine z_callV (mc := 0) (ms := 0) (ci := 12) (rest := [.int v]) (av := [.int (xs ((i + (1 : Int32))).toNatClampNeg)]) hC (ck_mk lkL_47 in_X12_model cd_X12_model ds_X12_model (Nat.le_of_ble_eq_true rfl) (Nat.le_of_ble_eq_true rfl)) iy_X12_model sy_X12_model cf_12 (by decide) (kM_33 hM) (ct_X12_model hM E) rfl rfl (Nat.le_of_ble_eq_true rfl) ⟨by have := hkn.1; omega, by have := hkn.2; omega⟩ dL_law_452 ?_
  rintro _ _ D2 ⟨v', rfl, rfl, E⟩
  refine z_icmp_eq (tgt := 1530) hC dL_law_455 (by decide) (fun _ => ?_) (fun c1 => absurd E.1 c1)
  exact kz _ _ _ g1 g2 g3 g4 g5 (hP _ _ _ g4 E.2)
set_option maxHeartbeats 4000000 in
set_option maxRecDepth 100000 in
theorem law_8 (hC : CX G code "WhyChosenLaw" 4 ret p s m args meth c) (hX : va_X b Ls xs s s.heap) (hbl : b < s.heap.size) (hG0 : G.1 = s.heap.size) (hF : FX S mdl) (hM : FM S) (h : Rel mdl S.1 D) {i : Int32} (hi1 : vp_in (i + (1 : Int32)) Ls) (hi2 : vp_in (i + (2 : Int32)) Ls) (hi3 : vp_in (i + (3 : Int32)) Ls) (hkn : k + 15 ≤ room_1.cells ∧ n + 249 ≤ room_1.slots) (kz : ∀ D', Rel mdl S.1 D' → Z p l e room_1 s m args below meth c 4 (WM G s (fun q => G.1 ≤ q) S D') k n Q 1530 [(3, .int i), (2, .ref (G.1 + 33)), (1, .ref (G.1 + 0)), (0, .ref b)] []) : Z p l e room_1 s m args below meth c 4 (WM G s (fun q => G.1 ≤ q) S D) k n Q 460 [(3, .int i), (2, .ref (G.1 + 33)), (1, .ref (G.1 + 0)), (0, .ref b)] [] := by
  obtain ⟨PP, hP, E⟩ := op_weight (a1 := (xs ((i + (1 : Int32))).toNatClampNeg)) (a2 := (xs ((i + (2 : Int32))).toNatClampNeg)) (a3 := (xs ((i + (3 : Int32))).toNatClampNeg)) h
  refine z_aload_n hC dL_law_460 rfl 2 rfl ?_
  refine z_aload_n hC dL_law_461 rfl 3 rfl ?_
  refine z_iload_n hC dL_law_462 rfl 0 rfl ?_
  refine z_iconst (v := 1) hC dL_law_463 rfl ?_
  refine z_iadd hC dL_law_464 ?_
  refine z_sld hC hX hbl hG0 hi1 dL_law_465 ?_
  refine z_aload_n hC dL_law_466 rfl 3 rfl ?_
  refine z_iload_n hC dL_law_467 rfl 0 rfl ?_
  refine z_iconst (v := 2) hC dL_law_468 rfl ?_
  refine z_iadd hC dL_law_469 ?_
  refine z_sld hC hX hbl hG0 hi2 dL_law_470 ?_
  refine z_aload_n hC dL_law_471 rfl 3 rfl ?_
  refine z_iload_n hC dL_law_472 rfl 0 rfl ?_
  refine z_iconst (v := 3) hC dL_law_473 rfl ?_
  refine z_iadd hC dL_law_474 ?_
  refine z_sld hC hX hbl hG0 hi3 dL_law_475 ?_
  refine z_callV (mc := 0) (ms := 0) (ci := 11) (rest := []) (av := [.int (xs ((i + (1 : Int32))).toNatClampNeg), .int (xs ((i + (2 : Int32))).toNatClampNeg), .int (xs ((i + (3 : Int32))).toNatClampNeg)]) hC (ck_mk lkL_48 in_X11_weight cd_X11_weight ds_X11_weight (Nat.le_of_ble_eq_true rfl) (Nat.le_of_ble_eq_true rfl)) iy_X11_weight sy_X11_weight cf_11 (by decide) (kX_0 hF) (ct_X11_weight hF E) rfl rfl (Nat.le_of_ble_eq_true rfl) ⟨by have := hkn.1; omega, by have := hkn.2; omega⟩ dL_law_476 ?_
  rintro _ _ _ ⟨v, rfl, rfl, rfl, E⟩
  refine z_aload_n hC dL_law_479 rfl 1 rfl ?_
  refine z_aload_n hC dL_law_480 rfl 3 rfl ?_
  refine z_iload_n hC dL_law_481 rfl 0 rfl ?_
  refine z_iconst (v := 1) hC dL_law_482 rfl ?_
  refine z_iadd hC dL_law_483 ?_
  refine z_sld hC hX hbl hG0 hi1 dL_law_484 ?_
  refine z_aload_n hC dL_law_485 rfl 3 rfl ?_
  refine z_iload_n hC dL_law_486 rfl 0 rfl ?_
  refine z_iconst (v := 2) hC dL_law_487 rfl ?_
  refine z_iadd hC dL_law_488 ?_
  refine z_sld hC hX hbl hG0 hi2 dL_law_489 ?_
  refine z_aload_n hC dL_law_490 rfl 3 rfl ?_
  refine z_iload_n hC dL_law_491 rfl 0 rfl ?_
  refine z_iconst (v := 3) hC dL_law_492 rfl ?_
  refine z_iadd hC dL_law_493 ?_
  refine z_sld hC hX hbl hG0 hi3 dL_law_494 ?_
  refine z_callV (mc := 0) (ms := 0) (ci := 12) (rest := [.int v]) (av := [.int (xs ((i + (1 : Int32))).toNatClampNeg), .int (xs ((i + (2 : Int32))).toNatClampNeg), .int (xs ((i + (3 : Int32))).toNatClampNeg)]) hC (ck_mk lkL_51 in_X12_weight cd_X12_weight ds_X12_weight (Nat.le_of_ble_eq_true rfl) (Nat.le_of_ble_eq_true rfl)) iy_X12_weight sy_X12_weight cf_12 (by decide) (kM_33 hM) (ct_X12_weight hM E) rfl rfl (Nat.le_of_ble_eq_true rfl) ⟨by have := hkn.1; omega, by have := hkn.2; omega⟩ dL_law_495 ?_
  rintro _ _ D2 ⟨v', rfl, rfl, E⟩
  refine z_icmp_eq (tgt := 1530) hC dL_law_498 (by decide) (fun _ => ?_) (fun c1 => absurd (hP _ _ _ E).1 c1)
  exact kz _ (hP _ _ _ E).2
set_option maxHeartbeats 4000000 in
set_option maxRecDepth 100000 in
theorem law_9 (hC : CX G code "WhyChosenLaw" 4 ret p s m args meth c) (hX : va_X b Ls xs s s.heap) (hbl : b < s.heap.size) (hG0 : G.1 = s.heap.size) (hF : FX S mdl) (hM : FM S) (h : Rel mdl S.1 D) {i : Int32} (hi1 : vp_in (i + (1 : Int32)) Ls) (hi2 : vp_in (i + (2 : Int32)) Ls) (hi3 : vp_in (i + (3 : Int32)) Ls) (hi4 : vp_in (i + (4 : Int32)) Ls) (hi5 : vp_in (i + (5 : Int32)) Ls) (hkn : k + 15 ≤ room_1.cells ∧ n + 249 ≤ room_1.slots) (kz : ∀ D', Rel mdl S.1 D' → Z p l e room_1 s m args below meth c 4 (WM G s (fun q => G.1 ≤ q) S D') k n Q 1530 [(3, .int i), (2, .ref (G.1 + 33)), (1, .ref (G.1 + 0)), (0, .ref b)] []) : Z p l e room_1 s m args below meth c 4 (WM G s (fun q => G.1 ≤ q) S D) k n Q 503 [(3, .int i), (2, .ref (G.1 + 33)), (1, .ref (G.1 + 0)), (0, .ref b)] [] := by
  obtain ⟨PP, hP, E⟩ := op_odds (a1 := (xs ((i + (1 : Int32))).toNatClampNeg)) (a2 := (xs ((i + (2 : Int32))).toNatClampNeg)) (a3 := (xs ((i + (3 : Int32))).toNatClampNeg)) (a4 := (xs ((i + (4 : Int32))).toNatClampNeg)) (a5 := (xs ((i + (5 : Int32))).toNatClampNeg)) h
  refine z_aload_n hC dL_law_503 rfl 2 rfl ?_
  refine z_aload_n hC dL_law_504 rfl 3 rfl ?_
  refine z_iload_n hC dL_law_505 rfl 0 rfl ?_
  refine z_iconst (v := 1) hC dL_law_506 rfl ?_
  refine z_iadd hC dL_law_507 ?_
  refine z_sld hC hX hbl hG0 hi1 dL_law_508 ?_
  refine z_aload_n hC dL_law_509 rfl 3 rfl ?_
  refine z_iload_n hC dL_law_510 rfl 0 rfl ?_
  refine z_iconst (v := 2) hC dL_law_511 rfl ?_
  refine z_iadd hC dL_law_512 ?_
  refine z_sld hC hX hbl hG0 hi2 dL_law_513 ?_
  refine z_aload_n hC dL_law_514 rfl 3 rfl ?_
  refine z_iload_n hC dL_law_515 rfl 0 rfl ?_
  refine z_iconst (v := 3) hC dL_law_516 rfl ?_
  refine z_iadd hC dL_law_517 ?_
  refine z_sld hC hX hbl hG0 hi3 dL_law_518 ?_
  refine z_aload_n hC dL_law_519 rfl 3 rfl ?_
  refine z_iload_n hC dL_law_520 rfl 0 rfl ?_
  refine z_iconst (v := 4) hC dL_law_521 rfl ?_
  refine z_iadd hC dL_law_522 ?_
  refine z_sld hC hX hbl hG0 hi4 dL_law_523 ?_
  refine z_aload_n hC dL_law_524 rfl 3 rfl ?_
  refine z_iload_n hC dL_law_525 rfl 0 rfl ?_
  refine z_iconst (v := 5) hC dL_law_526 rfl ?_
  refine z_iadd hC dL_law_527 ?_
  refine z_sld hC hX hbl hG0 hi5 dL_law_528 ?_
  refine z_callV (mc := 0) (ms := 0) (ci := 11) (rest := []) (av := [.int (xs ((i + (1 : Int32))).toNatClampNeg), .int (xs ((i + (2 : Int32))).toNatClampNeg), .int (xs ((i + (3 : Int32))).toNatClampNeg), .int (xs ((i + (4 : Int32))).toNatClampNeg), .int (xs ((i + (5 : Int32))).toNatClampNeg)]) hC (ck_mk lkL_52 in_X11_odds cd_X11_odds ds_X11_odds (Nat.le_of_ble_eq_true rfl) (Nat.le_of_ble_eq_true rfl)) iy_X11_odds sy_X11_odds cf_11 (by decide) (kX_0 hF) (ct_X11_odds hF E) rfl rfl (Nat.le_of_ble_eq_true rfl) ⟨by have := hkn.1; omega, by have := hkn.2; omega⟩ dL_law_529 ?_
  rintro _ _ D1 ⟨v, rfl, rfl, E⟩
  refine z_aload_n hC dL_law_532 rfl 1 rfl ?_
  refine z_aload_n hC dL_law_533 rfl 3 rfl ?_
  refine z_iload_n hC dL_law_534 rfl 0 rfl ?_
  refine z_iconst (v := 1) hC dL_law_535 rfl ?_
  refine z_iadd hC dL_law_536 ?_
  refine z_sld hC hX hbl hG0 hi1 dL_law_537 ?_
  refine z_aload_n hC dL_law_538 rfl 3 rfl ?_
  refine z_iload_n hC dL_law_539 rfl 0 rfl ?_
  refine z_iconst (v := 2) hC dL_law_540 rfl ?_
  refine z_iadd hC dL_law_541 ?_
  refine z_sld hC hX hbl hG0 hi2 dL_law_542 ?_
  refine z_aload_n hC dL_law_543 rfl 3 rfl ?_
  refine z_iload_n hC dL_law_544 rfl 0 rfl ?_
  refine z_iconst (v := 3) hC dL_law_545 rfl ?_
  refine z_iadd hC dL_law_546 ?_
  refine z_sld hC hX hbl hG0 hi3 dL_law_547 ?_
  refine z_aload_n hC dL_law_548 rfl 3 rfl ?_
  refine z_iload_n hC dL_law_549 rfl 0 rfl ?_
  refine z_iconst (v := 4) hC dL_law_550 rfl ?_
  refine z_iadd hC dL_law_551 ?_
  refine z_sld hC hX hbl hG0 hi4 dL_law_552 ?_
  refine z_aload_n hC dL_law_553 rfl 3 rfl ?_
  refine z_iload_n hC dL_law_554 rfl 0 rfl ?_
  refine z_iconst (v := 5) hC dL_law_555 rfl ?_
  refine z_iadd hC dL_law_556 ?_
  refine z_sld hC hX hbl hG0 hi5 dL_law_557 ?_
  refine z_callV (mc := 0) (ms := 0) (ci := 12) (rest := [.long v]) (av := [.int (xs ((i + (1 : Int32))).toNatClampNeg), .int (xs ((i + (2 : Int32))).toNatClampNeg), .int (xs ((i + (3 : Int32))).toNatClampNeg), .int (xs ((i + (4 : Int32))).toNatClampNeg), .int (xs ((i + (5 : Int32))).toNatClampNeg)]) hC (ck_mk lkL_56 in_X12_odds cd_X12_odds ds_X12_odds (Nat.le_of_ble_eq_true rfl) (Nat.le_of_ble_eq_true rfl)) iy_X12_odds sy_X12_odds cf_12 (by decide) (kM_33 hM) (ct_X12_odds hM E) rfl rfl (Nat.le_of_ble_eq_true rfl) ⟨by have := hkn.1; omega, by have := hkn.2; omega⟩ dL_law_558 ?_
  rintro _ _ D2 ⟨v', rfl, rfl, E⟩
  refine z_lcmp hC dL_law_561 ?_
  refine z_if_eq (tgt := 1530) hC dL_law_562 (by decide) (fun _ => ?_) (fun c1 => absurd (by rw [(hP _ _ _ E).1]; exact lg_cmp_self) c1)
  exact kz _ (hP _ _ _ E).2
set_option maxHeartbeats 4000000 in
set_option maxRecDepth 100000 in
theorem law_10 (hC : CX G code "WhyChosenLaw" 4 ret p s m args meth c) (hX : va_X b Ls xs s s.heap) (hbl : b < s.heap.size) (hG0 : G.1 = s.heap.size) (hF : FX S mdl) (hM : FM S) (h : Rel mdl S.1 D) {i : Int32} (hi1 : vp_in (i + (1 : Int32)) Ls) (hi2 : vp_in (i + (2 : Int32)) Ls) (hkn : k + 15 ≤ room_1.cells ∧ n + 249 ≤ room_1.slots) (kz : ∀ D', Rel mdl S.1 D' → Z p l e room_1 s m args below meth c 4 (WM G s (fun q => G.1 ≤ q) S D') k n Q 1530 [(3, .int i), (2, .ref (G.1 + 33)), (1, .ref (G.1 + 0)), (0, .ref b)] []) : Z p l e room_1 s m args below meth c 4 (WM G s (fun q => G.1 ≤ q) S D) k n Q 567 [(3, .int i), (2, .ref (G.1 + 33)), (1, .ref (G.1 + 0)), (0, .ref b)] [] := by
  obtain ⟨PP, hP, E⟩ := op_score (a1 := (xs ((i + (1 : Int32))).toNatClampNeg)) (a2 := (xs ((i + (2 : Int32))).toNatClampNeg)) h
  refine z_aload_n hC dL_law_567 rfl 2 rfl ?_
  refine z_aload_n hC dL_law_568 rfl 3 rfl ?_
  refine z_iload_n hC dL_law_569 rfl 0 rfl ?_
  refine z_iconst (v := 1) hC dL_law_570 rfl ?_
  refine z_iadd hC dL_law_571 ?_
  refine z_sld hC hX hbl hG0 hi1 dL_law_572 ?_
  refine z_aload_n hC dL_law_573 rfl 3 rfl ?_
  refine z_iload_n hC dL_law_574 rfl 0 rfl ?_
  refine z_iconst (v := 2) hC dL_law_575 rfl ?_
  refine z_iadd hC dL_law_576 ?_
  refine z_sld hC hX hbl hG0 hi2 dL_law_577 ?_
  refine z_callV (mc := 0) (ms := 0) (ci := 11) (rest := []) (av := [.int (xs ((i + (1 : Int32))).toNatClampNeg), .int (xs ((i + (2 : Int32))).toNatClampNeg)]) hC (ck_mk lkL_57 in_X11_score cd_X11_score ds_X11_score (Nat.le_of_ble_eq_true rfl) (Nat.le_of_ble_eq_true rfl)) iy_X11_score sy_X11_score cf_11 (by decide) (kX_0 hF) (ct_X11_score hF E) rfl rfl (Nat.le_of_ble_eq_true rfl) ⟨by have := hkn.1; omega, by have := hkn.2; omega⟩ dL_law_578 ?_
  rintro _ _ D1 ⟨v, rfl, rfl, E⟩
  refine z_aload_n hC dL_law_581 rfl 1 rfl ?_
  refine z_aload_n hC dL_law_582 rfl 3 rfl ?_
  refine z_iload_n hC dL_law_583 rfl 0 rfl ?_
  refine z_iconst (v := 1) hC dL_law_584 rfl ?_
  refine z_iadd hC dL_law_585 ?_
  refine z_sld hC hX hbl hG0 hi1 dL_law_586 ?_
  refine z_aload_n hC dL_law_587 rfl 3 rfl ?_
  refine z_iload_n hC dL_law_588 rfl 0 rfl ?_
  refine z_iconst (v := 2) hC dL_law_589 rfl ?_
  refine z_iadd hC dL_law_590 ?_
  refine z_sld hC hX hbl hG0 hi2 dL_law_591 ?_
  refine z_callV (mc := 0) (ms := 0) (ci := 12) (rest := [.int v]) (av := [.int (xs ((i + (1 : Int32))).toNatClampNeg), .int (xs ((i + (2 : Int32))).toNatClampNeg)]) hC (ck_mk lkL_60 in_X12_score cd_X12_score ds_X12_score (Nat.le_of_ble_eq_true rfl) (Nat.le_of_ble_eq_true rfl)) iy_X12_score sy_X12_score cf_12 (by decide) (kM_33 hM) (ct_X12_score hM E) rfl rfl (Nat.le_of_ble_eq_true rfl) ⟨by have := hkn.1; omega, by have := hkn.2; omega⟩ dL_law_592 ?_
  rintro _ _ D2 ⟨v', rfl, rfl, E⟩
  refine z_icmp_eq (tgt := 1530) hC dL_law_595 (by decide) (fun _ => ?_) (fun c1 => absurd (hP _ _ _ E).1 c1)
  exact kz _ (hP _ _ _ E).2
set_option maxHeartbeats 4000000 in
set_option maxRecDepth 100000 in
theorem law_11 (hC : CX G code "WhyChosenLaw" 4 ret p s m args meth c) (hX : va_X b Ls xs s s.heap) (hbl : b < s.heap.size) (hG0 : G.1 = s.heap.size) (hF : FX S mdl) (hM : FM S) (h : Rel mdl S.1 D) {i : Int32} (hi1 : vp_in (i + (1 : Int32)) Ls) (hi2 : vp_in (i + (2 : Int32)) Ls) (hkn : k + 15 ≤ room_1.cells ∧ n + 249 ≤ room_1.slots) (kz : ∀ D', Rel mdl S.1 D' → Z p l e room_1 s m args below meth c 4 (WM G s (fun q => G.1 ≤ q) S D') k n Q 1530 [(3, .int i), (2, .ref (G.1 + 33)), (1, .ref (G.1 + 0)), (0, .ref b)] []) : Z p l e room_1 s m args below meth c 4 (WM G s (fun q => G.1 ≤ q) S D) k n Q 600 [(3, .int i), (2, .ref (G.1 + 33)), (1, .ref (G.1 + 0)), (0, .ref b)] [] := by
  obtain ⟨PP, hP, E⟩ := op_misses (a1 := (xs ((i + (1 : Int32))).toNatClampNeg)) (a2 := (xs ((i + (2 : Int32))).toNatClampNeg)) h
  refine z_aload_n hC dL_law_600 rfl 2 rfl ?_
  refine z_aload_n hC dL_law_601 rfl 3 rfl ?_
  refine z_iload_n hC dL_law_602 rfl 0 rfl ?_
  refine z_iconst (v := 1) hC dL_law_603 rfl ?_
  refine z_iadd hC dL_law_604 ?_
  refine z_sld hC hX hbl hG0 hi1 dL_law_605 ?_
  refine z_aload_n hC dL_law_606 rfl 3 rfl ?_
  refine z_iload_n hC dL_law_607 rfl 0 rfl ?_
  refine z_iconst (v := 2) hC dL_law_608 rfl ?_
  refine z_iadd hC dL_law_609 ?_
  refine z_sld hC hX hbl hG0 hi2 dL_law_610 ?_
  refine z_callV (mc := 0) (ms := 0) (ci := 11) (rest := []) (av := [.int (xs ((i + (1 : Int32))).toNatClampNeg), .int (xs ((i + (2 : Int32))).toNatClampNeg)]) hC (ck_mk lkL_61 in_X11_misses cd_X11_misses ds_X11_misses (Nat.le_of_ble_eq_true rfl) (Nat.le_of_ble_eq_true rfl)) iy_X11_misses sy_X11_misses cf_11 (by decide) (kX_0 hF) (ct_X11_misses hF E) rfl rfl (Nat.le_of_ble_eq_true rfl) ⟨by have := hkn.1; omega, by have := hkn.2; omega⟩ dL_law_611 ?_
  rintro _ _ D1 ⟨v, rfl, rfl, E⟩
  refine z_aload_n hC dL_law_614 rfl 1 rfl ?_
  refine z_aload_n hC dL_law_615 rfl 3 rfl ?_
  refine z_iload_n hC dL_law_616 rfl 0 rfl ?_
  refine z_iconst (v := 1) hC dL_law_617 rfl ?_
  refine z_iadd hC dL_law_618 ?_
  refine z_sld hC hX hbl hG0 hi1 dL_law_619 ?_
  refine z_aload_n hC dL_law_620 rfl 3 rfl ?_
  refine z_iload_n hC dL_law_621 rfl 0 rfl ?_
  refine z_iconst (v := 2) hC dL_law_622 rfl ?_
  refine z_iadd hC dL_law_623 ?_
  refine z_sld hC hX hbl hG0 hi2 dL_law_624 ?_
  refine z_callV (mc := 0) (ms := 0) (ci := 12) (rest := [.int v]) (av := [.int (xs ((i + (1 : Int32))).toNatClampNeg), .int (xs ((i + (2 : Int32))).toNatClampNeg)]) hC (ck_mk lkL_64 in_X12_misses cd_X12_misses ds_X12_misses (Nat.le_of_ble_eq_true rfl) (Nat.le_of_ble_eq_true rfl)) iy_X12_misses sy_X12_misses cf_12 (by decide) (kM_33 hM) (ct_X12_misses hM E) rfl rfl (Nat.le_of_ble_eq_true rfl) ⟨by have := hkn.1; omega, by have := hkn.2; omega⟩ dL_law_625 ?_
  rintro _ _ D2 ⟨v', rfl, rfl, E⟩
  refine z_icmp_eq (tgt := 1530) hC dL_law_628 (by decide) (fun _ => ?_) (fun c1 => absurd (hP _ _ _ E).1 c1)
  exact kz _ (hP _ _ _ E).2
set_option maxHeartbeats 4000000 in
set_option maxRecDepth 100000 in
theorem law_12 (hC : CX G code "WhyChosenLaw" 4 ret p s m args meth c) (hX : va_X b Ls xs s s.heap) (hbl : b < s.heap.size) (hG0 : G.1 = s.heap.size) (hF : FX S mdl) (hM : FM S) (h : Rel mdl S.1 D) {i : Int32} (hi1 : vp_in (i + (1 : Int32)) Ls) (hi2 : vp_in (i + (2 : Int32)) Ls) (hkn : k + 15 ≤ room_1.cells ∧ n + 249 ≤ room_1.slots) (kz : ∀ D', Rel mdl S.1 D' → Z p l e room_1 s m args below meth c 4 (WM G s (fun q => G.1 ≤ q) S D') k n Q 1530 [(3, .int i), (2, .ref (G.1 + 33)), (1, .ref (G.1 + 0)), (0, .ref b)] []) : Z p l e room_1 s m args below meth c 4 (WM G s (fun q => G.1 ≤ q) S D) k n Q 633 [(3, .int i), (2, .ref (G.1 + 33)), (1, .ref (G.1 + 0)), (0, .ref b)] [] := by
  obtain ⟨PP, hP, E⟩ := op_grid (a1 := (xs ((i + (1 : Int32))).toNatClampNeg)) (a2 := (xs ((i + (2 : Int32))).toNatClampNeg)) h
  refine z_aload_n hC dL_law_633 rfl 2 rfl ?_
  refine z_aload_n hC dL_law_634 rfl 3 rfl ?_
  refine z_iload_n hC dL_law_635 rfl 0 rfl ?_
  refine z_iconst (v := 1) hC dL_law_636 rfl ?_
  refine z_iadd hC dL_law_637 ?_
  refine z_sld hC hX hbl hG0 hi1 dL_law_638 ?_
  refine z_aload_n hC dL_law_639 rfl 3 rfl ?_
  refine z_iload_n hC dL_law_640 rfl 0 rfl ?_
  refine z_iconst (v := 2) hC dL_law_641 rfl ?_
  refine z_iadd hC dL_law_642 ?_
  refine z_sld hC hX hbl hG0 hi2 dL_law_643 ?_
  refine z_callV (mc := 0) (ms := 0) (ci := 11) (rest := []) (av := [.int (xs ((i + (1 : Int32))).toNatClampNeg), .int (xs ((i + (2 : Int32))).toNatClampNeg)]) hC (ck_mk lkL_65 in_X11_grid cd_X11_grid ds_X11_grid (Nat.le_of_ble_eq_true rfl) (Nat.le_of_ble_eq_true rfl)) iy_X11_grid sy_X11_grid cf_11 (by decide) (kX_0 hF) (ct_X11_grid hF E) rfl rfl (Nat.le_of_ble_eq_true rfl) ⟨by have := hkn.1; omega, by have := hkn.2; omega⟩ dL_law_644 ?_
  rintro _ _ D1 ⟨v, rfl, rfl, E⟩
  refine z_aload_n hC dL_law_647 rfl 1 rfl ?_
  refine z_aload_n hC dL_law_648 rfl 3 rfl ?_
  refine z_iload_n hC dL_law_649 rfl 0 rfl ?_
  refine z_iconst (v := 1) hC dL_law_650 rfl ?_
  refine z_iadd hC dL_law_651 ?_
  refine z_sld hC hX hbl hG0 hi1 dL_law_652 ?_
  refine z_aload_n hC dL_law_653 rfl 3 rfl ?_
  refine z_iload_n hC dL_law_654 rfl 0 rfl ?_
  refine z_iconst (v := 2) hC dL_law_655 rfl ?_
  refine z_iadd hC dL_law_656 ?_
  refine z_sld hC hX hbl hG0 hi2 dL_law_657 ?_
  refine z_callV (mc := 0) (ms := 0) (ci := 12) (rest := [.int v]) (av := [.int (xs ((i + (1 : Int32))).toNatClampNeg), .int (xs ((i + (2 : Int32))).toNatClampNeg)]) hC (ck_mk lkL_68 in_X12_grid cd_X12_grid ds_X12_grid (Nat.le_of_ble_eq_true rfl) (Nat.le_of_ble_eq_true rfl)) iy_X12_grid sy_X12_grid cf_12 (by decide) (kM_33 hM) (ct_X12_grid hM E) rfl rfl (Nat.le_of_ble_eq_true rfl) ⟨by have := hkn.1; omega, by have := hkn.2; omega⟩ dL_law_658 ?_
  rintro _ _ D2 ⟨v', rfl, rfl, E⟩
  refine z_icmp_eq (tgt := 1530) hC dL_law_661 (by decide) (fun _ => ?_) (fun c1 => absurd (hP _ _ _ E).1 c1)
  exact kz _ (hP _ _ _ E).2
set_option maxHeartbeats 4000000 in
set_option maxRecDepth 100000 in
theorem law_13 (hC : CX G code "WhyChosenLaw" 4 ret p s m args meth c) (hX : va_X b Ls xs s s.heap) (hbl : b < s.heap.size) (hG0 : G.1 = s.heap.size) (hF : FX S mdl) (hM : FM S) (h : Rel mdl S.1 D) {i : Int32} (hi1 : vp_in (i + (1 : Int32)) Ls) (hi2 : vp_in (i + (2 : Int32)) Ls) (hkn : k + 15 ≤ room_1.cells ∧ n + 249 ≤ room_1.slots) (kz : ∀ D', Rel mdl S.1 D' → Z p l e room_1 s m args below meth c 4 (WM G s (fun q => G.1 ≤ q) S D') k n Q 1530 [(3, .int i), (2, .ref (G.1 + 33)), (1, .ref (G.1 + 0)), (0, .ref b)] []) : Z p l e room_1 s m args below meth c 4 (WM G s (fun q => G.1 ≤ q) S D) k n Q 666 [(3, .int i), (2, .ref (G.1 + 33)), (1, .ref (G.1 + 0)), (0, .ref b)] [] := by
  obtain ⟨PP, hP, E⟩ := op_which (a1 := (xs ((i + (1 : Int32))).toNatClampNeg)) (a2 := (xs ((i + (2 : Int32))).toNatClampNeg)) h
  refine z_aload_n hC dL_law_666 rfl 2 rfl ?_
  refine z_aload_n hC dL_law_667 rfl 3 rfl ?_
  refine z_iload_n hC dL_law_668 rfl 0 rfl ?_
  refine z_iconst (v := 1) hC dL_law_669 rfl ?_
  refine z_iadd hC dL_law_670 ?_
  refine z_sld hC hX hbl hG0 hi1 dL_law_671 ?_
  refine z_aload_n hC dL_law_672 rfl 3 rfl ?_
  refine z_iload_n hC dL_law_673 rfl 0 rfl ?_
  refine z_iconst (v := 2) hC dL_law_674 rfl ?_
  refine z_iadd hC dL_law_675 ?_
  refine z_sld hC hX hbl hG0 hi2 dL_law_676 ?_
  refine z_callV (mc := 0) (ms := 0) (ci := 11) (rest := []) (av := [.int (xs ((i + (1 : Int32))).toNatClampNeg), .int (xs ((i + (2 : Int32))).toNatClampNeg)]) hC (ck_mk lkL_69 in_X11_which cd_X11_which ds_X11_which (Nat.le_of_ble_eq_true rfl) (Nat.le_of_ble_eq_true rfl)) iy_X11_which sy_X11_which cf_11 (by decide) (kX_0 hF) (ct_X11_which hF E) rfl rfl (Nat.le_of_ble_eq_true rfl) ⟨by have := hkn.1; omega, by have := hkn.2; omega⟩ dL_law_677 ?_
  rintro _ _ D1 ⟨v, rfl, rfl, E⟩
  refine z_aload_n hC dL_law_680 rfl 1 rfl ?_
  refine z_aload_n hC dL_law_681 rfl 3 rfl ?_
  refine z_iload_n hC dL_law_682 rfl 0 rfl ?_
  refine z_iconst (v := 1) hC dL_law_683 rfl ?_
  refine z_iadd hC dL_law_684 ?_
  refine z_sld hC hX hbl hG0 hi1 dL_law_685 ?_
  refine z_aload_n hC dL_law_686 rfl 3 rfl ?_
  refine z_iload_n hC dL_law_687 rfl 0 rfl ?_
  refine z_iconst (v := 2) hC dL_law_688 rfl ?_
  refine z_iadd hC dL_law_689 ?_
  refine z_sld hC hX hbl hG0 hi2 dL_law_690 ?_
  refine z_callV (mc := 0) (ms := 0) (ci := 12) (rest := [.int v]) (av := [.int (xs ((i + (1 : Int32))).toNatClampNeg), .int (xs ((i + (2 : Int32))).toNatClampNeg)]) hC (ck_mk lkL_72 in_X12_which cd_X12_which ds_X12_which (Nat.le_of_ble_eq_true rfl) (Nat.le_of_ble_eq_true rfl)) iy_X12_which sy_X12_which cf_12 (by decide) (kM_33 hM) (ct_X12_which hM E) rfl rfl (Nat.le_of_ble_eq_true rfl) ⟨by have := hkn.1; omega, by have := hkn.2; omega⟩ dL_law_691 ?_
  rintro _ _ D2 ⟨v', rfl, rfl, E⟩
  refine z_icmp_eq (tgt := 1530) hC dL_law_694 (by decide) (fun _ => ?_) (fun c1 => absurd (hP _ _ _ E).1 c1)
  exact kz _ (hP _ _ _ E).2
set_option maxHeartbeats 4000000 in
set_option maxRecDepth 100000 in
theorem law_14 (hC : CX G code "WhyChosenLaw" 4 ret p s m args meth c) (hX : va_X b Ls xs s s.heap) (hbl : b < s.heap.size) (hG0 : G.1 = s.heap.size) (hF : FX S mdl) (hM : FM S) (h : Rel mdl S.1 D) {i : Int32} (hi1 : vp_in (i + (1 : Int32)) Ls) (hkn : k + 15 ≤ room_1.cells ∧ n + 249 ≤ room_1.slots) (kz : ∀ D', Rel mdl S.1 D' → Z p l e room_1 s m args below meth c 4 (WM G s (fun q => G.1 ≤ q) S D') k n Q 1530 [(3, .int i), (2, .ref (G.1 + 33)), (1, .ref (G.1 + 0)), (0, .ref b)] []) : Z p l e room_1 s m args below meth c 4 (WM G s (fun q => G.1 ≤ q) S D) k n Q 699 [(3, .int i), (2, .ref (G.1 + 33)), (1, .ref (G.1 + 0)), (0, .ref b)] [] := by
  obtain ⟨PP, hP, E⟩ := op_agree (a1 := (xs ((i + (1 : Int32))).toNatClampNeg)) h
  refine z_aload_n hC dL_law_699 rfl 2 rfl ?_
  refine z_aload_n hC dL_law_700 rfl 3 rfl ?_
  refine z_iload_n hC dL_law_701 rfl 0 rfl ?_
  refine z_iconst (v := 1) hC dL_law_702 rfl ?_
  refine z_iadd hC dL_law_703 ?_
  refine z_sld hC hX hbl hG0 hi1 dL_law_704 ?_
  refine z_callV (mc := 0) (ms := 0) (ci := 11) (rest := []) (av := [.int (xs ((i + (1 : Int32))).toNatClampNeg)]) hC (ck_mk lkL_73 in_X11_agree cd_X11_agree ds_X11_agree (Nat.le_of_ble_eq_true rfl) (Nat.le_of_ble_eq_true rfl)) iy_X11_agree sy_X11_agree cf_11 (by decide) (kX_0 hF) (ct_X11_agree hF E) rfl rfl (Nat.le_of_ble_eq_true rfl) ⟨by have := hkn.1; omega, by have := hkn.2; omega⟩ dL_law_705 ?_
  rintro _ _ D1 ⟨v, rfl, rfl, E⟩
  refine z_aload_n hC dL_law_708 rfl 1 rfl ?_
  refine z_aload_n hC dL_law_709 rfl 3 rfl ?_
  refine z_iload_n hC dL_law_710 rfl 0 rfl ?_
  refine z_iconst (v := 1) hC dL_law_711 rfl ?_
  refine z_iadd hC dL_law_712 ?_
  refine z_sld hC hX hbl hG0 hi1 dL_law_713 ?_
  refine z_callV (mc := 0) (ms := 0) (ci := 12) (rest := [.int v]) (av := [.int (xs ((i + (1 : Int32))).toNatClampNeg)]) hC (ck_mk lkL_76 in_X12_agree cd_X12_agree ds_X12_agree (Nat.le_of_ble_eq_true rfl) (Nat.le_of_ble_eq_true rfl)) iy_X12_agree sy_X12_agree cf_12 (by decide) (kM_33 hM) (ct_X12_agree hM E) rfl rfl (Nat.le_of_ble_eq_true rfl) ⟨by have := hkn.1; omega, by have := hkn.2; omega⟩ dL_law_714 ?_
  rintro _ _ D2 ⟨v', rfl, rfl, E⟩
  refine z_icmp_eq (tgt := 1530) hC dL_law_717 (by decide) (fun _ => ?_) (fun c1 => absurd (hP _ _ _ E).1 c1)
  exact kz _ (hP _ _ _ E).2
set_option maxHeartbeats 4000000 in
set_option maxRecDepth 100000 in
theorem law_15 (hC : CX G code "WhyChosenLaw" 4 ret p s m args meth c) (hX : va_X b Ls xs s s.heap) (hbl : b < s.heap.size) (hG0 : G.1 = s.heap.size) (hF : FX S mdl) (hM : FM S) (h : Rel mdl S.1 D) {i : Int32} (hi1 : vp_in (i + (1 : Int32)) Ls) (hkn : k + 15 ≤ room_1.cells ∧ n + 249 ≤ room_1.slots) (kz : ∀ D', Rel mdl S.1 D' → Z p l e room_1 s m args below meth c 4 (WM G s (fun q => G.1 ≤ q) S D') k n Q 1530 [(3, .int i), (2, .ref (G.1 + 33)), (1, .ref (G.1 + 0)), (0, .ref b)] []) : Z p l e room_1 s m args below meth c 4 (WM G s (fun q => G.1 ≤ q) S D) k n Q 722 [(3, .int i), (2, .ref (G.1 + 33)), (1, .ref (G.1 + 0)), (0, .ref b)] [] := by
  obtain ⟨PP, hP, E⟩ := op_letgo (a1 := (xs ((i + (1 : Int32))).toNatClampNeg)) h
  refine z_aload_n hC dL_law_722 rfl 2 rfl ?_
  refine z_aload_n hC dL_law_723 rfl 3 rfl ?_
  refine z_iload_n hC dL_law_724 rfl 0 rfl ?_
  refine z_iconst (v := 1) hC dL_law_725 rfl ?_
  refine z_iadd hC dL_law_726 ?_
  refine z_sld hC hX hbl hG0 hi1 dL_law_727 ?_
  refine z_callV (mc := 0) (ms := 0) (ci := 11) (rest := []) (av := [.int (xs ((i + (1 : Int32))).toNatClampNeg)]) hC (ck_mk lkL_77 in_X11_letgo cd_X11_letgo ds_X11_letgo (Nat.le_of_ble_eq_true rfl) (Nat.le_of_ble_eq_true rfl)) iy_X11_letgo sy_X11_letgo cf_11 (by decide) (kX_0 hF) (ct_X11_letgo hF E) rfl rfl (Nat.le_of_ble_eq_true rfl) ⟨by have := hkn.1; omega, by have := hkn.2; omega⟩ dL_law_728 ?_
  rintro _ _ D1 ⟨v, rfl, rfl, E⟩
  refine z_aload_n hC dL_law_731 rfl 1 rfl ?_
  refine z_aload_n hC dL_law_732 rfl 3 rfl ?_
  refine z_iload_n hC dL_law_733 rfl 0 rfl ?_
  refine z_iconst (v := 1) hC dL_law_734 rfl ?_
  refine z_iadd hC dL_law_735 ?_
  refine z_sld hC hX hbl hG0 hi1 dL_law_736 ?_
  refine z_callV (mc := 0) (ms := 0) (ci := 12) (rest := [.int v]) (av := [.int (xs ((i + (1 : Int32))).toNatClampNeg)]) hC (ck_mk lkL_80 in_X12_letgo cd_X12_letgo ds_X12_letgo (Nat.le_of_ble_eq_true rfl) (Nat.le_of_ble_eq_true rfl)) iy_X12_letgo sy_X12_letgo cf_12 (by decide) (kM_33 hM) (ct_X12_letgo hM E) rfl rfl (Nat.le_of_ble_eq_true rfl) ⟨by have := hkn.1; omega, by have := hkn.2; omega⟩ dL_law_737 ?_
  rintro _ _ D2 ⟨v', rfl, rfl, E⟩
  refine z_icmp_eq (tgt := 1530) hC dL_law_740 (by decide) (fun _ => ?_) (fun c1 => absurd (hP _ _ _ E).1 c1)
  exact kz _ (hP _ _ _ E).2
set_option maxHeartbeats 4000000 in
set_option maxRecDepth 100000 in
theorem law_16 (hC : CX G code "WhyChosenLaw" 4 ret p s m args meth c) (hX : va_X b Ls xs s s.heap) (hbl : b < s.heap.size) (hG0 : G.1 = s.heap.size) (hF : FX S mdl) (hM : FM S) (h : Rel mdl S.1 D) {i : Int32} (hi1 : vp_in (i + (1 : Int32)) Ls) (hi2 : vp_in (i + (2 : Int32)) Ls) (hkn : k + 15 ≤ room_1.cells ∧ n + 249 ≤ room_1.slots) (kz : ∀ D', Rel mdl S.1 D' → Z p l e room_1 s m args below meth c 4 (WM G s (fun q => G.1 ≤ q) S D') k n Q 1530 [(3, .int i), (2, .ref (G.1 + 33)), (1, .ref (G.1 + 0)), (0, .ref b)] []) : Z p l e room_1 s m args below meth c 4 (WM G s (fun q => G.1 ≤ q) S D) k n Q 745 [(3, .int i), (2, .ref (G.1 + 33)), (1, .ref (G.1 + 0)), (0, .ref b)] [] := by
  obtain ⟨PP, hP, E⟩ := op_like (a1 := (xs ((i + (1 : Int32))).toNatClampNeg)) (a2 := (xs ((i + (2 : Int32))).toNatClampNeg)) h
  refine z_aload_n hC dL_law_745 rfl 2 rfl ?_
  refine z_aload_n hC dL_law_746 rfl 3 rfl ?_
  refine z_iload_n hC dL_law_747 rfl 0 rfl ?_
  refine z_iconst (v := 1) hC dL_law_748 rfl ?_
  refine z_iadd hC dL_law_749 ?_
  refine z_sld hC hX hbl hG0 hi1 dL_law_750 ?_
  refine z_aload_n hC dL_law_751 rfl 3 rfl ?_
  refine z_iload_n hC dL_law_752 rfl 0 rfl ?_
  refine z_iconst (v := 2) hC dL_law_753 rfl ?_
  refine z_iadd hC dL_law_754 ?_
  refine z_sld hC hX hbl hG0 hi2 dL_law_755 ?_
  refine z_callV (mc := 0) (ms := 0) (ci := 11) (rest := []) (av := [.int (xs ((i + (1 : Int32))).toNatClampNeg), .int (xs ((i + (2 : Int32))).toNatClampNeg)]) hC (ck_mk lkL_81 in_X11_like cd_X11_like ds_X11_like (Nat.le_of_ble_eq_true rfl) (Nat.le_of_ble_eq_true rfl)) iy_X11_like sy_X11_like cf_11 (by decide) (kX_0 hF) (ct_X11_like hF E) rfl rfl (Nat.le_of_ble_eq_true rfl) ⟨by have := hkn.1; omega, by have := hkn.2; omega⟩ dL_law_756 ?_
  rintro _ _ D1 ⟨v, rfl, rfl, E⟩
  refine z_aload_n hC dL_law_759 rfl 1 rfl ?_
  refine z_aload_n hC dL_law_760 rfl 3 rfl ?_
  refine z_iload_n hC dL_law_761 rfl 0 rfl ?_
  refine z_iconst (v := 1) hC dL_law_762 rfl ?_
  refine z_iadd hC dL_law_763 ?_
  refine z_sld hC hX hbl hG0 hi1 dL_law_764 ?_
  refine z_aload_n hC dL_law_765 rfl 3 rfl ?_
  refine z_iload_n hC dL_law_766 rfl 0 rfl ?_
  refine z_iconst (v := 2) hC dL_law_767 rfl ?_
  refine z_iadd hC dL_law_768 ?_
  refine z_sld hC hX hbl hG0 hi2 dL_law_769 ?_
  refine z_callV (mc := 0) (ms := 0) (ci := 12) (rest := [.int v]) (av := [.int (xs ((i + (1 : Int32))).toNatClampNeg), .int (xs ((i + (2 : Int32))).toNatClampNeg)]) hC (ck_mk lkL_84 in_X12_like cd_X12_like ds_X12_like (Nat.le_of_ble_eq_true rfl) (Nat.le_of_ble_eq_true rfl)) iy_X12_like sy_X12_like cf_12 (by decide) (kM_33 hM) (ct_X12_like hM E) rfl rfl (Nat.le_of_ble_eq_true rfl) ⟨by have := hkn.1; omega, by have := hkn.2; omega⟩ dL_law_770 ?_
  rintro _ _ D2 ⟨v', rfl, rfl, E⟩
  refine z_icmp_eq (tgt := 1530) hC dL_law_773 (by decide) (fun _ => ?_) (fun c1 => absurd (hP _ _ _ E).1 c1)
  exact kz _ (hP _ _ _ E).2
set_option maxHeartbeats 4000000 in
set_option maxRecDepth 100000 in
theorem law_17 (hC : CX G code "WhyChosenLaw" 4 ret p s m args meth c) (hX : va_X b Ls xs s s.heap) (hbl : b < s.heap.size) (hG0 : G.1 = s.heap.size) (hF : FX S mdl) (hM : FM S) (h : Rel mdl S.1 D) {i : Int32} (hi1 : vp_in (i + (1 : Int32)) Ls) (hi2 : vp_in (i + (2 : Int32)) Ls) (hkn : k + 15 ≤ room_1.cells ∧ n + 249 ≤ room_1.slots) (kz : ∀ D', Rel mdl S.1 D' → Z p l e room_1 s m args below meth c 4 (WM G s (fun q => G.1 ≤ q) S D') k n Q 1530 [(3, .int i), (2, .ref (G.1 + 33)), (1, .ref (G.1 + 0)), (0, .ref b)] []) : Z p l e room_1 s m args below meth c 4 (WM G s (fun q => G.1 ≤ q) S D) k n Q 778 [(3, .int i), (2, .ref (G.1 + 33)), (1, .ref (G.1 + 0)), (0, .ref b)] [] := by
  obtain ⟨PP, hP, E⟩ := op_would (a1 := (xs ((i + (1 : Int32))).toNatClampNeg)) (a2 := (xs ((i + (2 : Int32))).toNatClampNeg)) h
  refine z_aload_n hC dL_law_778 rfl 2 rfl ?_
  refine z_aload_n hC dL_law_779 rfl 3 rfl ?_
  refine z_iload_n hC dL_law_780 rfl 0 rfl ?_
  refine z_iconst (v := 1) hC dL_law_781 rfl ?_
  refine z_iadd hC dL_law_782 ?_
  refine z_sld hC hX hbl hG0 hi1 dL_law_783 ?_
  refine z_aload_n hC dL_law_784 rfl 3 rfl ?_
  refine z_iload_n hC dL_law_785 rfl 0 rfl ?_
  refine z_iconst (v := 2) hC dL_law_786 rfl ?_
  refine z_iadd hC dL_law_787 ?_
  refine z_sld hC hX hbl hG0 hi2 dL_law_788 ?_
  refine z_callV (mc := 0) (ms := 0) (ci := 11) (rest := []) (av := [.int (xs ((i + (1 : Int32))).toNatClampNeg), .int (xs ((i + (2 : Int32))).toNatClampNeg)]) hC (ck_mk lkL_85 in_X11_would cd_X11_would ds_X11_would (Nat.le_of_ble_eq_true rfl) (Nat.le_of_ble_eq_true rfl)) iy_X11_would sy_X11_would cf_11 (by decide) (kX_0 hF) (ct_X11_would hF E) rfl rfl (Nat.le_of_ble_eq_true rfl) ⟨by have := hkn.1; omega, by have := hkn.2; omega⟩ dL_law_789 ?_
  rintro _ _ D1 ⟨v, rfl, rfl, E⟩
  refine z_aload_n hC dL_law_792 rfl 1 rfl ?_
  refine z_aload_n hC dL_law_793 rfl 3 rfl ?_
  refine z_iload_n hC dL_law_794 rfl 0 rfl ?_
  refine z_iconst (v := 1) hC dL_law_795 rfl ?_
  refine z_iadd hC dL_law_796 ?_
  refine z_sld hC hX hbl hG0 hi1 dL_law_797 ?_
  refine z_aload_n hC dL_law_798 rfl 3 rfl ?_
  refine z_iload_n hC dL_law_799 rfl 0 rfl ?_
  refine z_iconst (v := 2) hC dL_law_800 rfl ?_
  refine z_iadd hC dL_law_801 ?_
  refine z_sld hC hX hbl hG0 hi2 dL_law_802 ?_
  refine z_callV (mc := 0) (ms := 0) (ci := 12) (rest := [.int v]) (av := [.int (xs ((i + (1 : Int32))).toNatClampNeg), .int (xs ((i + (2 : Int32))).toNatClampNeg)]) hC (ck_mk lkL_88 in_X12_would cd_X12_would ds_X12_would (Nat.le_of_ble_eq_true rfl) (Nat.le_of_ble_eq_true rfl)) iy_X12_would sy_X12_would cf_12 (by decide) (kM_33 hM) (ct_X12_would hM E) rfl rfl (Nat.le_of_ble_eq_true rfl) ⟨by have := hkn.1; omega, by have := hkn.2; omega⟩ dL_law_803 ?_
  rintro _ _ D2 ⟨v', rfl, rfl, E⟩
  refine z_icmp_eq (tgt := 1530) hC dL_law_806 (by decide) (fun _ => ?_) (fun c1 => absurd (hP _ _ _ E).1 c1)
  exact kz _ (hP _ _ _ E).2
set_option maxHeartbeats 4000000 in
set_option maxRecDepth 100000 in
theorem law_18 (hC : CX G code "WhyChosenLaw" 4 ret p s m args meth c) (hX : va_X b Ls xs s s.heap) (hbl : b < s.heap.size) (hG0 : G.1 = s.heap.size) (hF : FX S mdl) (hM : FM S) (h : Rel mdl S.1 D) {i : Int32} (hi1 : vp_in (i + (1 : Int32)) Ls) (hi2 : vp_in (i + (2 : Int32)) Ls) (hi3 : vp_in (i + (3 : Int32)) Ls) (hkn : k + 15 ≤ room_1.cells ∧ n + 249 ≤ room_1.slots) (kz : ∀ D', Rel mdl S.1 D' → Z p l e room_1 s m args below meth c 4 (WM G s (fun q => G.1 ≤ q) S D') k n Q 1530 [(3, .int i), (2, .ref (G.1 + 33)), (1, .ref (G.1 + 0)), (0, .ref b)] []) : Z p l e room_1 s m args below meth c 4 (WM G s (fun q => G.1 ≤ q) S D) k n Q 811 [(3, .int i), (2, .ref (G.1 + 33)), (1, .ref (G.1 + 0)), (0, .ref b)] [] := by
  obtain ⟨PP, hP, E⟩ := op_must (a1 := (xs ((i + (1 : Int32))).toNatClampNeg)) (a2 := (xs ((i + (2 : Int32))).toNatClampNeg)) (a3 := (xs ((i + (3 : Int32))).toNatClampNeg)) h
  refine z_aload_n hC dL_law_811 rfl 2 rfl ?_
  refine z_aload_n hC dL_law_812 rfl 3 rfl ?_
  refine z_iload_n hC dL_law_813 rfl 0 rfl ?_
  refine z_iconst (v := 1) hC dL_law_814 rfl ?_
  refine z_iadd hC dL_law_815 ?_
  refine z_sld hC hX hbl hG0 hi1 dL_law_816 ?_
  refine z_aload_n hC dL_law_817 rfl 3 rfl ?_
  refine z_iload_n hC dL_law_818 rfl 0 rfl ?_
  refine z_iconst (v := 2) hC dL_law_819 rfl ?_
  refine z_iadd hC dL_law_820 ?_
  refine z_sld hC hX hbl hG0 hi2 dL_law_821 ?_
  refine z_aload_n hC dL_law_822 rfl 3 rfl ?_
  refine z_iload_n hC dL_law_823 rfl 0 rfl ?_
  refine z_iconst (v := 3) hC dL_law_824 rfl ?_
  refine z_iadd hC dL_law_825 ?_
  refine z_sld hC hX hbl hG0 hi3 dL_law_826 ?_
  refine z_callV (mc := 0) (ms := 0) (ci := 11) (rest := []) (av := [.int (xs ((i + (1 : Int32))).toNatClampNeg), .int (xs ((i + (2 : Int32))).toNatClampNeg), .int (xs ((i + (3 : Int32))).toNatClampNeg)]) hC (ck_mk lkL_89 in_X11_must cd_X11_must ds_X11_must (Nat.le_of_ble_eq_true rfl) (Nat.le_of_ble_eq_true rfl)) iy_X11_must sy_X11_must cf_11 (by decide) (kX_0 hF) (ct_X11_must hF E) rfl rfl (Nat.le_of_ble_eq_true rfl) ⟨by have := hkn.1; omega, by have := hkn.2; omega⟩ dL_law_827 ?_
  rintro _ _ D1 ⟨v, rfl, rfl, E⟩
  refine z_aload_n hC dL_law_830 rfl 1 rfl ?_
  refine z_aload_n hC dL_law_831 rfl 3 rfl ?_
  refine z_iload_n hC dL_law_832 rfl 0 rfl ?_
  refine z_iconst (v := 1) hC dL_law_833 rfl ?_
  refine z_iadd hC dL_law_834 ?_
  refine z_sld hC hX hbl hG0 hi1 dL_law_835 ?_
  refine z_aload_n hC dL_law_836 rfl 3 rfl ?_
  refine z_iload_n hC dL_law_837 rfl 0 rfl ?_
  refine z_iconst (v := 2) hC dL_law_838 rfl ?_
  refine z_iadd hC dL_law_839 ?_
  refine z_sld hC hX hbl hG0 hi2 dL_law_840 ?_
  refine z_aload_n hC dL_law_841 rfl 3 rfl ?_
  refine z_iload_n hC dL_law_842 rfl 0 rfl ?_
  refine z_iconst (v := 3) hC dL_law_843 rfl ?_
  refine z_iadd hC dL_law_844 ?_
  refine z_sld hC hX hbl hG0 hi3 dL_law_845 ?_
  refine z_callV (mc := 0) (ms := 0) (ci := 12) (rest := [.int v]) (av := [.int (xs ((i + (1 : Int32))).toNatClampNeg), .int (xs ((i + (2 : Int32))).toNatClampNeg), .int (xs ((i + (3 : Int32))).toNatClampNeg)]) hC (ck_mk lkL_92 in_X12_must cd_X12_must ds_X12_must (Nat.le_of_ble_eq_true rfl) (Nat.le_of_ble_eq_true rfl)) iy_X12_must sy_X12_must cf_12 (by decide) (kM_33 hM) (ct_X12_must hM E) rfl rfl (Nat.le_of_ble_eq_true rfl) ⟨by have := hkn.1; omega, by have := hkn.2; omega⟩ dL_law_846 ?_
  rintro _ _ D2 ⟨v', rfl, rfl, E⟩
  refine z_icmp_eq (tgt := 1530) hC dL_law_849 (by decide) (fun _ => ?_) (fun c1 => absurd (hP _ _ _ E).1 c1)
  exact kz _ (hP _ _ _ E).2
set_option maxHeartbeats 4000000 in
set_option maxRecDepth 100000 in
theorem law_19 (hC : CX G code "WhyChosenLaw" 4 ret p s m args meth c) (hX : va_X b Ls xs s s.heap) (hbl : b < s.heap.size) (hG0 : G.1 = s.heap.size) (hF : FX S mdl) (hM : FM S) (h : Rel mdl S.1 D) {i : Int32} (hi1 : vp_in (i + (1 : Int32)) Ls) (hkn : k + 15 ≤ room_1.cells ∧ n + 249 ≤ room_1.slots) (kz : ∀ D', Rel mdl S.1 D' → Z p l e room_1 s m args below meth c 4 (WM G s (fun q => G.1 ≤ q) S D') k n Q 1530 [(3, .int i), (2, .ref (G.1 + 33)), (1, .ref (G.1 + 0)), (0, .ref b)] []) : Z p l e room_1 s m args below meth c 4 (WM G s (fun q => G.1 ≤ q) S D) k n Q 854 [(3, .int i), (2, .ref (G.1 + 33)), (1, .ref (G.1 + 0)), (0, .ref b)] [] := by
  obtain ⟨PP, hP, E⟩ := op_ask (a1 := (xs ((i + (1 : Int32))).toNatClampNeg)) h
  refine z_aload_n hC dL_law_854 rfl 2 rfl ?_
  refine z_aload_n hC dL_law_855 rfl 3 rfl ?_
  refine z_iload_n hC dL_law_856 rfl 0 rfl ?_
  refine z_iconst (v := 1) hC dL_law_857 rfl ?_
  refine z_iadd hC dL_law_858 ?_
  refine z_sld hC hX hbl hG0 hi1 dL_law_859 ?_
  refine z_callV (mc := 0) (ms := 0) (ci := 11) (rest := []) (av := [.int (xs ((i + (1 : Int32))).toNatClampNeg)]) hC (ck_mk lkL_93 in_X11_ask cd_X11_ask ds_X11_ask (Nat.le_of_ble_eq_true rfl) (Nat.le_of_ble_eq_true rfl)) iy_X11_ask sy_X11_ask cf_11 (by decide) (kX_0 hF) (ct_X11_ask hF E) rfl rfl (Nat.le_of_ble_eq_true rfl) ⟨by have := hkn.1; omega, by have := hkn.2; omega⟩ dL_law_860 ?_
  rintro _ _ D1 ⟨v, rfl, rfl, E⟩
  refine z_aload_n hC dL_law_863 rfl 1 rfl ?_
  refine z_aload_n hC dL_law_864 rfl 3 rfl ?_
  refine z_iload_n hC dL_law_865 rfl 0 rfl ?_
  refine z_iconst (v := 1) hC dL_law_866 rfl ?_
  refine z_iadd hC dL_law_867 ?_
  refine z_sld hC hX hbl hG0 hi1 dL_law_868 ?_
  refine z_callV (mc := 0) (ms := 0) (ci := 12) (rest := [.int v]) (av := [.int (xs ((i + (1 : Int32))).toNatClampNeg)]) hC (ck_mk lkL_96 in_X12_ask cd_X12_ask ds_X12_ask (Nat.le_of_ble_eq_true rfl) (Nat.le_of_ble_eq_true rfl)) iy_X12_ask sy_X12_ask cf_12 (by decide) (kM_33 hM) (ct_X12_ask hM E) rfl rfl (Nat.le_of_ble_eq_true rfl) ⟨by have := hkn.1; omega, by have := hkn.2; omega⟩ dL_law_869 ?_
  rintro _ _ D2 ⟨v', rfl, rfl, E⟩
  refine z_icmp_eq (tgt := 1530) hC dL_law_872 (by decide) (fun _ => ?_) (fun c1 => absurd (hP _ _ _ E).1 c1)
  exact kz _ (hP _ _ _ E).2
set_option maxHeartbeats 4000000 in
set_option maxRecDepth 100000 in
theorem law_20 (hC : CX G code "WhyChosenLaw" 4 ret p s m args meth c) (hX : va_X b Ls xs s s.heap) (hbl : b < s.heap.size) (hG0 : G.1 = s.heap.size) (hF : FX S mdl) (hM : FM S) (h : Rel mdl S.1 D) {i : Int32} (hi1 : vp_in (i + (1 : Int32)) Ls) (hkn : k + 15 ≤ room_1.cells ∧ n + 249 ≤ room_1.slots) (kz : ∀ D', Rel mdl S.1 D' → Z p l e room_1 s m args below meth c 4 (WM G s (fun q => G.1 ≤ q) S D') k n Q 1530 [(3, .int i), (2, .ref (G.1 + 33)), (1, .ref (G.1 + 0)), (0, .ref b)] []) : Z p l e room_1 s m args below meth c 4 (WM G s (fun q => G.1 ≤ q) S D) k n Q 877 [(3, .int i), (2, .ref (G.1 + 33)), (1, .ref (G.1 + 0)), (0, .ref b)] [] := by
  obtain ⟨PP, hP, E⟩ := op_next (a1 := (xs ((i + (1 : Int32))).toNatClampNeg)) h
  refine z_aload_n hC dL_law_877 rfl 2 rfl ?_
  refine z_aload_n hC dL_law_878 rfl 3 rfl ?_
  refine z_iload_n hC dL_law_879 rfl 0 rfl ?_
  refine z_iconst (v := 1) hC dL_law_880 rfl ?_
  refine z_iadd hC dL_law_881 ?_
  refine z_sld hC hX hbl hG0 hi1 dL_law_882 ?_
  refine z_callV (mc := 0) (ms := 0) (ci := 11) (rest := []) (av := [.int (xs ((i + (1 : Int32))).toNatClampNeg)]) hC (ck_mk lkL_97 in_X11_next cd_X11_next ds_X11_next (Nat.le_of_ble_eq_true rfl) (Nat.le_of_ble_eq_true rfl)) iy_X11_next sy_X11_next cf_11 (by decide) (kX_0 hF) (ct_X11_next hF E) rfl rfl (Nat.le_of_ble_eq_true rfl) ⟨by have := hkn.1; omega, by have := hkn.2; omega⟩ dL_law_883 ?_
  rintro _ _ D1 ⟨v, rfl, rfl, E⟩
  refine z_aload_n hC dL_law_886 rfl 1 rfl ?_
  refine z_aload_n hC dL_law_887 rfl 3 rfl ?_
  refine z_iload_n hC dL_law_888 rfl 0 rfl ?_
  refine z_iconst (v := 1) hC dL_law_889 rfl ?_
  refine z_iadd hC dL_law_890 ?_
  refine z_sld hC hX hbl hG0 hi1 dL_law_891 ?_
  refine z_callV (mc := 0) (ms := 0) (ci := 12) (rest := [.int v]) (av := [.int (xs ((i + (1 : Int32))).toNatClampNeg)]) hC (ck_mk lkL_100 in_X12_next cd_X12_next ds_X12_next (Nat.le_of_ble_eq_true rfl) (Nat.le_of_ble_eq_true rfl)) iy_X12_next sy_X12_next cf_12 (by decide) (kM_33 hM) (ct_X12_next hM E) rfl rfl (Nat.le_of_ble_eq_true rfl) ⟨by have := hkn.1; omega, by have := hkn.2; omega⟩ dL_law_892 ?_
  rintro _ _ D2 ⟨v', rfl, rfl, E⟩
  refine z_icmp_eq (tgt := 1530) hC dL_law_895 (by decide) (fun _ => ?_) (fun c1 => absurd (hP _ _ _ E).1 c1)
  exact kz _ (hP _ _ _ E).2
set_option maxHeartbeats 4000000 in
set_option maxRecDepth 100000 in
theorem law_21 (hC : CX G code "WhyChosenLaw" 4 ret p s m args meth c) (hX : va_X b Ls xs s s.heap) (hbl : b < s.heap.size) (hG0 : G.1 = s.heap.size) (hF : FX S mdl) (hM : FM S) (h : Rel mdl S.1 D) {i : Int32} (hi1 : vp_in (i + (1 : Int32)) Ls) (hkn : k + 15 ≤ room_1.cells ∧ n + 249 ≤ room_1.slots) (kz : ∀ D', Rel mdl S.1 D' → Z p l e room_1 s m args below meth c 4 (WM G s (fun q => G.1 ≤ q) S D') k n Q 1530 [(3, .int i), (2, .ref (G.1 + 33)), (1, .ref (G.1 + 0)), (0, .ref b)] []) : Z p l e room_1 s m args below meth c 4 (WM G s (fun q => G.1 ≤ q) S D) k n Q 900 [(3, .int i), (2, .ref (G.1 + 33)), (1, .ref (G.1 + 0)), (0, .ref b)] [] := by
  obtain ⟨PP, hP, E⟩ := op_silly (a1 := (xs ((i + (1 : Int32))).toNatClampNeg)) h
  refine z_aload_n hC dL_law_900 rfl 2 rfl ?_
  refine z_aload_n hC dL_law_901 rfl 3 rfl ?_
  refine z_iload_n hC dL_law_902 rfl 0 rfl ?_
  refine z_iconst (v := 1) hC dL_law_903 rfl ?_
  refine z_iadd hC dL_law_904 ?_
  refine z_sld hC hX hbl hG0 hi1 dL_law_905 ?_
  refine z_callV (mc := 0) (ms := 0) (ci := 11) (rest := []) (av := [.int (xs ((i + (1 : Int32))).toNatClampNeg)]) hC (ck_mk lkL_101 in_X11_silly cd_X11_silly ds_X11_silly (Nat.le_of_ble_eq_true rfl) (Nat.le_of_ble_eq_true rfl)) iy_X11_silly sy_X11_silly cf_11 (by decide) (kX_0 hF) (ct_X11_silly hF E) rfl rfl (Nat.le_of_ble_eq_true rfl) ⟨by have := hkn.1; omega, by have := hkn.2; omega⟩ dL_law_906 ?_
  rintro _ _ _ ⟨v, rfl, rfl, rfl, E⟩
  refine z_aload_n hC dL_law_909 rfl 1 rfl ?_
  refine z_aload_n hC dL_law_910 rfl 3 rfl ?_
  refine z_iload_n hC dL_law_911 rfl 0 rfl ?_
  refine z_iconst (v := 1) hC dL_law_912 rfl ?_
  refine z_iadd hC dL_law_913 ?_
  refine z_sld hC hX hbl hG0 hi1 dL_law_914 ?_
  refine z_callV (mc := 0) (ms := 0) (ci := 12) (rest := [.int v]) (av := [.int (xs ((i + (1 : Int32))).toNatClampNeg)]) hC (ck_mk lkL_104 in_X12_silly cd_X12_silly ds_X12_silly (Nat.le_of_ble_eq_true rfl) (Nat.le_of_ble_eq_true rfl)) iy_X12_silly sy_X12_silly cf_12 (by decide) (kM_33 hM) (ct_X12_silly hM E) rfl rfl (Nat.le_of_ble_eq_true rfl) ⟨by have := hkn.1; omega, by have := hkn.2; omega⟩ dL_law_915 ?_
  rintro _ _ _ ⟨v', rfl, rfl, rfl, E⟩
  refine z_icmp_eq (tgt := 1530) hC dL_law_918 (by decide) (fun _ => ?_) (fun c1 => absurd (hP _ _ E).1 c1)
  exact kz _ (hP _ _ E).2
set_option maxHeartbeats 4000000 in
set_option maxRecDepth 100000 in
theorem law_22 (hC : CX G code "WhyChosenLaw" 4 ret p s m args meth c) (hX : va_X b Ls xs s s.heap) (hbl : b < s.heap.size) (hG0 : G.1 = s.heap.size) (hF : FX S mdl) (hM : FM S) (h : Rel mdl S.1 D) {i : Int32} (hi1 : vp_in (i + (1 : Int32)) Ls) (hkn : k + 15 ≤ room_1.cells ∧ n + 249 ≤ room_1.slots) (kz : ∀ D', Rel mdl S.1 D' → Z p l e room_1 s m args below meth c 4 (WM G s (fun q => G.1 ≤ q) S D') k n Q 1530 [(3, .int i), (2, .ref (G.1 + 33)), (1, .ref (G.1 + 0)), (0, .ref b)] []) : Z p l e room_1 s m args below meth c 4 (WM G s (fun q => G.1 ≤ q) S D) k n Q 923 [(3, .int i), (2, .ref (G.1 + 33)), (1, .ref (G.1 + 0)), (0, .ref b)] [] := by
  obtain ⟨PP, hP, E⟩ := op_could (a1 := (xs ((i + (1 : Int32))).toNatClampNeg)) h
  refine z_aload_n hC dL_law_923 rfl 2 rfl ?_
  refine z_aload_n hC dL_law_924 rfl 3 rfl ?_
  refine z_iload_n hC dL_law_925 rfl 0 rfl ?_
  refine z_iconst (v := 1) hC dL_law_926 rfl ?_
  refine z_iadd hC dL_law_927 ?_
  refine z_sld hC hX hbl hG0 hi1 dL_law_928 ?_
  refine z_callV (mc := 0) (ms := 0) (ci := 11) (rest := []) (av := [.int (xs ((i + (1 : Int32))).toNatClampNeg)]) hC (ck_mk lkL_105 in_X11_could cd_X11_could ds_X11_could (Nat.le_of_ble_eq_true rfl) (Nat.le_of_ble_eq_true rfl)) iy_X11_could sy_X11_could cf_11 (by decide) (kX_0 hF) (ct_X11_could hF E) rfl rfl (Nat.le_of_ble_eq_true rfl) ⟨by have := hkn.1; omega, by have := hkn.2; omega⟩ dL_law_929 ?_
  rintro _ _ _ ⟨v, rfl, rfl, rfl, E⟩
  refine z_aload_n hC dL_law_932 rfl 1 rfl ?_
  refine z_aload_n hC dL_law_933 rfl 3 rfl ?_
  refine z_iload_n hC dL_law_934 rfl 0 rfl ?_
  refine z_iconst (v := 1) hC dL_law_935 rfl ?_
  refine z_iadd hC dL_law_936 ?_
  refine z_sld hC hX hbl hG0 hi1 dL_law_937 ?_
  refine z_callV (mc := 0) (ms := 0) (ci := 12) (rest := [.int v]) (av := [.int (xs ((i + (1 : Int32))).toNatClampNeg)]) hC (ck_mk lkL_108 in_X12_could cd_X12_could ds_X12_could (Nat.le_of_ble_eq_true rfl) (Nat.le_of_ble_eq_true rfl)) iy_X12_could sy_X12_could cf_12 (by decide) (kM_33 hM) (ct_X12_could hM E) rfl rfl (Nat.le_of_ble_eq_true rfl) ⟨by have := hkn.1; omega, by have := hkn.2; omega⟩ dL_law_938 ?_
  rintro _ _ _ ⟨v', rfl, rfl, rfl, E⟩
  refine z_icmp_eq (tgt := 1530) hC dL_law_941 (by decide) (fun _ => ?_) (fun c1 => absurd (hP _ _ E).1 c1)
  exact kz _ (hP _ _ E).2
set_option maxHeartbeats 4000000 in
set_option maxRecDepth 100000 in
theorem law_23 (hC : CX G code "WhyChosenLaw" 4 ret p s m args meth c) (hX : va_X b Ls xs s s.heap) (hbl : b < s.heap.size) (hG0 : G.1 = s.heap.size) (hF : FX S mdl) (hM : FM S) (h : Rel mdl S.1 D) {i : Int32} (hi1 : vp_in (i + (1 : Int32)) Ls) (hi2 : vp_in (i + (2 : Int32)) Ls) (hi3 : vp_in (i + (3 : Int32)) Ls) (hkn : k + 15 ≤ room_1.cells ∧ n + 249 ≤ room_1.slots) (kz : ∀ D', Rel mdl S.1 D' → Z p l e room_1 s m args below meth c 4 (WM G s (fun q => G.1 ≤ q) S D') k n Q 1530 [(3, .int i), (2, .ref (G.1 + 33)), (1, .ref (G.1 + 0)), (0, .ref b)] []) : Z p l e room_1 s m args below meth c 4 (WM G s (fun q => G.1 ≤ q) S D) k n Q 946 [(3, .int i), (2, .ref (G.1 + 33)), (1, .ref (G.1 + 0)), (0, .ref b)] [] := by
  obtain ⟨PP, hP, E⟩ := op_away (a1 := (xs ((i + (1 : Int32))).toNatClampNeg)) (a2 := (xs ((i + (2 : Int32))).toNatClampNeg)) (a3 := (xs ((i + (3 : Int32))).toNatClampNeg)) h
  refine z_aload_n hC dL_law_946 rfl 2 rfl ?_
  refine z_aload_n hC dL_law_947 rfl 3 rfl ?_
  refine z_iload_n hC dL_law_948 rfl 0 rfl ?_
  refine z_iconst (v := 1) hC dL_law_949 rfl ?_
  refine z_iadd hC dL_law_950 ?_
  refine z_sld hC hX hbl hG0 hi1 dL_law_951 ?_
  refine z_aload_n hC dL_law_952 rfl 3 rfl ?_
  refine z_iload_n hC dL_law_953 rfl 0 rfl ?_
  refine z_iconst (v := 2) hC dL_law_954 rfl ?_
  refine z_iadd hC dL_law_955 ?_
  refine z_sld hC hX hbl hG0 hi2 dL_law_956 ?_
  refine z_aload_n hC dL_law_957 rfl 3 rfl ?_
  refine z_iload_n hC dL_law_958 rfl 0 rfl ?_
  refine z_iconst (v := 3) hC dL_law_959 rfl ?_
  refine z_iadd hC dL_law_960 ?_
  refine z_sld hC hX hbl hG0 hi3 dL_law_961 ?_
  refine z_callV (mc := 0) (ms := 0) (ci := 11) (rest := []) (av := [.int (xs ((i + (1 : Int32))).toNatClampNeg), .int (xs ((i + (2 : Int32))).toNatClampNeg), .int (xs ((i + (3 : Int32))).toNatClampNeg)]) hC (ck_mk lkL_109 in_X11_away cd_X11_away ds_X11_away (Nat.le_of_ble_eq_true rfl) (Nat.le_of_ble_eq_true rfl)) iy_X11_away sy_X11_away cf_11 (by decide) (kX_0 hF) (ct_X11_away hF E) rfl rfl (Nat.le_of_ble_eq_true rfl) ⟨by have := hkn.1; omega, by have := hkn.2; omega⟩ dL_law_962 ?_
  rintro _ _ _ ⟨v, rfl, rfl, rfl, E⟩
  refine z_aload_n hC dL_law_965 rfl 1 rfl ?_
  refine z_aload_n hC dL_law_966 rfl 3 rfl ?_
  refine z_iload_n hC dL_law_967 rfl 0 rfl ?_
  refine z_iconst (v := 1) hC dL_law_968 rfl ?_
  refine z_iadd hC dL_law_969 ?_
  refine z_sld hC hX hbl hG0 hi1 dL_law_970 ?_
  refine z_aload_n hC dL_law_971 rfl 3 rfl ?_
  refine z_iload_n hC dL_law_972 rfl 0 rfl ?_
  refine z_iconst (v := 2) hC dL_law_973 rfl ?_
  refine z_iadd hC dL_law_974 ?_
  refine z_sld hC hX hbl hG0 hi2 dL_law_975 ?_
  refine z_aload_n hC dL_law_976 rfl 3 rfl ?_
  refine z_iload_n hC dL_law_977 rfl 0 rfl ?_
  refine z_iconst (v := 3) hC dL_law_978 rfl ?_
  refine z_iadd hC dL_law_979 ?_
  refine z_sld hC hX hbl hG0 hi3 dL_law_980 ?_
  refine z_callV (mc := 0) (ms := 0) (ci := 12) (rest := [.int v]) (av := [.int (xs ((i + (1 : Int32))).toNatClampNeg), .int (xs ((i + (2 : Int32))).toNatClampNeg), .int (xs ((i + (3 : Int32))).toNatClampNeg)]) hC (ck_mk lkL_112 in_X12_away cd_X12_away ds_X12_away (Nat.le_of_ble_eq_true rfl) (Nat.le_of_ble_eq_true rfl)) iy_X12_away sy_X12_away cf_12 (by decide) (kM_33 hM) (ct_X12_away hM E) rfl rfl (Nat.le_of_ble_eq_true rfl) ⟨by have := hkn.1; omega, by have := hkn.2; omega⟩ dL_law_981 ?_
  rintro _ _ _ ⟨v', rfl, rfl, rfl, E⟩
  refine z_icmp_eq (tgt := 1530) hC dL_law_984 (by decide) (fun _ => ?_) (fun c1 => absurd (hP _ _ E).1 c1)
  exact kz _ (hP _ _ E).2
set_option maxHeartbeats 4000000 in
set_option maxRecDepth 100000 in
theorem law_24 (hC : CX G code "WhyChosenLaw" 4 ret p s m args meth c) (hX : va_X b Ls xs s s.heap) (hbl : b < s.heap.size) (hG0 : G.1 = s.heap.size) (hF : FX S mdl) (hM : FM S) (h : Rel mdl S.1 D) {i : Int32} (hi1 : vp_in (i + (1 : Int32)) Ls) (hi2 : vp_in (i + (2 : Int32)) Ls) (hkn : k + 15 ≤ room_1.cells ∧ n + 249 ≤ room_1.slots) (kz : ∀ D', Rel mdl S.1 D' → Z p l e room_1 s m args below meth c 4 (WM G s (fun q => G.1 ≤ q) S D') k n Q 1530 [(3, .int i), (2, .ref (G.1 + 33)), (1, .ref (G.1 + 0)), (0, .ref b)] []) : Z p l e room_1 s m args below meth c 4 (WM G s (fun q => G.1 ≤ q) S D) k n Q 989 [(3, .int i), (2, .ref (G.1 + 33)), (1, .ref (G.1 + 0)), (0, .ref b)] [] := by
  obtain ⟨PP, hP, E⟩ := op_coin (a1 := (xs ((i + (1 : Int32))).toNatClampNeg)) (a2 := (xs ((i + (2 : Int32))).toNatClampNeg)) h
  refine z_aload_n hC dL_law_989 rfl 2 rfl ?_
  refine z_aload_n hC dL_law_990 rfl 3 rfl ?_
  refine z_iload_n hC dL_law_991 rfl 0 rfl ?_
  refine z_iconst (v := 1) hC dL_law_992 rfl ?_
  refine z_iadd hC dL_law_993 ?_
  refine z_sld hC hX hbl hG0 hi1 dL_law_994 ?_
  refine z_aload_n hC dL_law_995 rfl 3 rfl ?_
  refine z_iload_n hC dL_law_996 rfl 0 rfl ?_
  refine z_iconst (v := 2) hC dL_law_997 rfl ?_
  refine z_iadd hC dL_law_998 ?_
  refine z_sld hC hX hbl hG0 hi2 dL_law_999 ?_
  refine z_callV (mc := 0) (ms := 0) (ci := 11) (rest := []) (av := [.int (xs ((i + (1 : Int32))).toNatClampNeg), .int (xs ((i + (2 : Int32))).toNatClampNeg)]) hC (ck_mk lkL_113 in_X11_coin cd_X11_coin ds_X11_coin (Nat.le_of_ble_eq_true rfl) (Nat.le_of_ble_eq_true rfl)) iy_X11_coin sy_X11_coin cf_11 (by decide) (kX_0 hF) (ct_X11_coin hF E) rfl rfl (Nat.le_of_ble_eq_true rfl) ⟨by have := hkn.1; omega, by have := hkn.2; omega⟩ dL_law_1000 ?_
  rintro _ _ D1 ⟨v, rfl, rfl, E⟩
  refine z_aload_n hC dL_law_1003 rfl 1 rfl ?_
  refine z_aload_n hC dL_law_1004 rfl 3 rfl ?_
  refine z_iload_n hC dL_law_1005 rfl 0 rfl ?_
  refine z_iconst (v := 1) hC dL_law_1006 rfl ?_
  refine z_iadd hC dL_law_1007 ?_
  refine z_sld hC hX hbl hG0 hi1 dL_law_1008 ?_
  refine z_aload_n hC dL_law_1009 rfl 3 rfl ?_
  refine z_iload_n hC dL_law_1010 rfl 0 rfl ?_
  refine z_iconst (v := 2) hC dL_law_1011 rfl ?_
  refine z_iadd hC dL_law_1012 ?_
  refine z_sld hC hX hbl hG0 hi2 dL_law_1013 ?_
  refine z_callV (mc := 0) (ms := 0) (ci := 12) (rest := [.long v]) (av := [.int (xs ((i + (1 : Int32))).toNatClampNeg), .int (xs ((i + (2 : Int32))).toNatClampNeg)]) hC (ck_mk lkL_117 in_X12_coin cd_X12_coin ds_X12_coin (Nat.le_of_ble_eq_true rfl) (Nat.le_of_ble_eq_true rfl)) iy_X12_coin sy_X12_coin cf_12 (by decide) (kM_33 hM) (ct_X12_coin hM E) rfl rfl (Nat.le_of_ble_eq_true rfl) ⟨by have := hkn.1; omega, by have := hkn.2; omega⟩ dL_law_1014 ?_
  rintro _ _ D2 ⟨v', rfl, rfl, E⟩
  refine z_lcmp hC dL_law_1017 ?_
  refine z_if_eq (tgt := 1530) hC dL_law_1018 (by decide) (fun _ => ?_) (fun c1 => absurd (by rw [(hP _ _ _ E).1]; exact lg_cmp_self) c1)
  exact kz _ (hP _ _ _ E).2
set_option maxHeartbeats 4000000 in
set_option maxRecDepth 100000 in
theorem law_25 (hC : CX G code "WhyChosenLaw" 4 ret p s m args meth c) (hX : va_X b Ls xs s s.heap) (hbl : b < s.heap.size) (hG0 : G.1 = s.heap.size) (hF : FX S mdl) (hM : FM S) (h : Rel mdl S.1 D) {i : Int32} (hi1 : vp_in (i + (1 : Int32)) Ls) (hi2 : vp_in (i + (2 : Int32)) Ls) (hkn : k + 15 ≤ room_1.cells ∧ n + 249 ≤ room_1.slots) (kz : ∀ D', Rel mdl S.1 D' → Z p l e room_1 s m args below meth c 4 (WM G s (fun q => G.1 ≤ q) S D') k n Q 1530 [(3, .int i), (2, .ref (G.1 + 33)), (1, .ref (G.1 + 0)), (0, .ref b)] []) : Z p l e room_1 s m args below meth c 4 (WM G s (fun q => G.1 ≤ q) S D) k n Q 1023 [(3, .int i), (2, .ref (G.1 + 33)), (1, .ref (G.1 + 0)), (0, .ref b)] [] := by
  obtain ⟨PP, hP, E⟩ := op_lay (a1 := (xs ((i + (1 : Int32))).toNatClampNeg)) (a2 := (xs ((i + (2 : Int32))).toNatClampNeg)) h
  refine z_aload_n hC dL_law_1023 rfl 2 rfl ?_
  refine z_aload_n hC dL_law_1024 rfl 3 rfl ?_
  refine z_iload_n hC dL_law_1025 rfl 0 rfl ?_
  refine z_iconst (v := 1) hC dL_law_1026 rfl ?_
  refine z_iadd hC dL_law_1027 ?_
  refine z_sld hC hX hbl hG0 hi1 dL_law_1028 ?_
  refine z_aload_n hC dL_law_1029 rfl 3 rfl ?_
  refine z_iload_n hC dL_law_1030 rfl 0 rfl ?_
  refine z_iconst (v := 2) hC dL_law_1031 rfl ?_
  refine z_iadd hC dL_law_1032 ?_
  refine z_sld hC hX hbl hG0 hi2 dL_law_1033 ?_
  refine z_callV (mc := 0) (ms := 0) (ci := 11) (rest := []) (av := [.int (xs ((i + (1 : Int32))).toNatClampNeg), .int (xs ((i + (2 : Int32))).toNatClampNeg)]) hC (ck_mk lkL_118 in_X11_lay cd_X11_lay ds_X11_lay (Nat.le_of_ble_eq_true rfl) (Nat.le_of_ble_eq_true rfl)) iy_X11_lay sy_X11_lay cf_11 (by decide) (kX_0 hF) (ct_X11_lay hF E) rfl rfl (Nat.le_of_ble_eq_true rfl) ⟨by have := hkn.1; omega, by have := hkn.2; omega⟩ dL_law_1034 ?_
  rintro _ _ D1 ⟨v, rfl, rfl, E⟩
  refine z_aload_n hC dL_law_1037 rfl 1 rfl ?_
  refine z_aload_n hC dL_law_1038 rfl 3 rfl ?_
  refine z_iload_n hC dL_law_1039 rfl 0 rfl ?_
  refine z_iconst (v := 1) hC dL_law_1040 rfl ?_
  refine z_iadd hC dL_law_1041 ?_
  refine z_sld hC hX hbl hG0 hi1 dL_law_1042 ?_
  refine z_aload_n hC dL_law_1043 rfl 3 rfl ?_
  refine z_iload_n hC dL_law_1044 rfl 0 rfl ?_
  refine z_iconst (v := 2) hC dL_law_1045 rfl ?_
  refine z_iadd hC dL_law_1046 ?_
  refine z_sld hC hX hbl hG0 hi2 dL_law_1047 ?_
  refine z_callV (mc := 0) (ms := 0) (ci := 12) (rest := [.int v]) (av := [.int (xs ((i + (1 : Int32))).toNatClampNeg), .int (xs ((i + (2 : Int32))).toNatClampNeg)]) hC (ck_mk lkL_121 in_X12_lay cd_X12_lay ds_X12_lay (Nat.le_of_ble_eq_true rfl) (Nat.le_of_ble_eq_true rfl)) iy_X12_lay sy_X12_lay cf_12 (by decide) (kM_33 hM) (ct_X12_lay hM E) rfl rfl (Nat.le_of_ble_eq_true rfl) ⟨by have := hkn.1; omega, by have := hkn.2; omega⟩ dL_law_1048 ?_
  rintro _ _ D2 ⟨v', rfl, rfl, E⟩
  refine z_icmp_eq (tgt := 1530) hC dL_law_1051 (by decide) (fun _ => ?_) (fun c1 => absurd (hP _ _ _ E).1 c1)
  exact kz _ (hP _ _ _ E).2
set_option maxHeartbeats 4000000 in
set_option maxRecDepth 100000 in
theorem law_26 (hC : CX G code "WhyChosenLaw" 4 ret p s m args meth c) (hX : va_X b Ls xs s s.heap) (hbl : b < s.heap.size) (hG0 : G.1 = s.heap.size) (hF : FX S mdl) (hM : FM S) (h : Rel mdl S.1 D) {i : Int32} (hi1 : vp_in (i + (1 : Int32)) Ls) (hi2 : vp_in (i + (2 : Int32)) Ls) (hi3 : vp_in (i + (3 : Int32)) Ls) (hkn : k + 15 ≤ room_1.cells ∧ n + 249 ≤ room_1.slots) (kz : ∀ D', Rel mdl S.1 D' → Z p l e room_1 s m args below meth c 4 (WM G s (fun q => G.1 ≤ q) S D') k n Q 1530 [(3, .int i), (2, .ref (G.1 + 33)), (1, .ref (G.1 + 0)), (0, .ref b)] []) : Z p l e room_1 s m args below meth c 4 (WM G s (fun q => G.1 ≤ q) S D) k n Q 1056 [(3, .int i), (2, .ref (G.1 + 33)), (1, .ref (G.1 + 0)), (0, .ref b)] [] := by
  obtain ⟨PP, hP, E⟩ := op_best (a1 := (xs ((i + (1 : Int32))).toNatClampNeg)) (a2 := (xs ((i + (2 : Int32))).toNatClampNeg)) (a3 := (xs ((i + (3 : Int32))).toNatClampNeg)) h
  refine z_aload_n hC dL_law_1056 rfl 2 rfl ?_
  refine z_aload_n hC dL_law_1057 rfl 3 rfl ?_
  refine z_iload_n hC dL_law_1058 rfl 0 rfl ?_
  refine z_iconst (v := 1) hC dL_law_1059 rfl ?_
  refine z_iadd hC dL_law_1060 ?_
  refine z_sld hC hX hbl hG0 hi1 dL_law_1061 ?_
  refine z_aload_n hC dL_law_1062 rfl 3 rfl ?_
  refine z_iload_n hC dL_law_1063 rfl 0 rfl ?_
  refine z_iconst (v := 2) hC dL_law_1064 rfl ?_
  refine z_iadd hC dL_law_1065 ?_
  refine z_sld hC hX hbl hG0 hi2 dL_law_1066 ?_
  refine z_aload_n hC dL_law_1067 rfl 3 rfl ?_
  refine z_iload_n hC dL_law_1068 rfl 0 rfl ?_
  refine z_iconst (v := 3) hC dL_law_1069 rfl ?_
  refine z_iadd hC dL_law_1070 ?_
  refine z_sld hC hX hbl hG0 hi3 dL_law_1071 ?_
  refine z_callV (mc := 0) (ms := 0) (ci := 11) (rest := []) (av := [.int (xs ((i + (1 : Int32))).toNatClampNeg), .int (xs ((i + (2 : Int32))).toNatClampNeg), .int (xs ((i + (3 : Int32))).toNatClampNeg)]) hC (ck_mk lkL_122 in_X11_best cd_X11_best ds_X11_best (Nat.le_of_ble_eq_true rfl) (Nat.le_of_ble_eq_true rfl)) iy_X11_best sy_X11_best cf_11 (by decide) (kX_0 hF) (ct_X11_best hF E) rfl rfl (Nat.le_of_ble_eq_true rfl) ⟨by have := hkn.1; omega, by have := hkn.2; omega⟩ dL_law_1072 ?_
  rintro _ _ D1 ⟨v, rfl, rfl, E⟩
  refine z_aload_n hC dL_law_1075 rfl 1 rfl ?_
  refine z_aload_n hC dL_law_1076 rfl 3 rfl ?_
  refine z_iload_n hC dL_law_1077 rfl 0 rfl ?_
  refine z_iconst (v := 1) hC dL_law_1078 rfl ?_
  refine z_iadd hC dL_law_1079 ?_
  refine z_sld hC hX hbl hG0 hi1 dL_law_1080 ?_
  refine z_aload_n hC dL_law_1081 rfl 3 rfl ?_
  refine z_iload_n hC dL_law_1082 rfl 0 rfl ?_
  refine z_iconst (v := 2) hC dL_law_1083 rfl ?_
  refine z_iadd hC dL_law_1084 ?_
  refine z_sld hC hX hbl hG0 hi2 dL_law_1085 ?_
  refine z_aload_n hC dL_law_1086 rfl 3 rfl ?_
  refine z_iload_n hC dL_law_1087 rfl 0 rfl ?_
  refine z_iconst (v := 3) hC dL_law_1088 rfl ?_
  refine z_iadd hC dL_law_1089 ?_
  refine z_sld hC hX hbl hG0 hi3 dL_law_1090 ?_
  refine z_callV (mc := 0) (ms := 0) (ci := 12) (rest := [.int v]) (av := [.int (xs ((i + (1 : Int32))).toNatClampNeg), .int (xs ((i + (2 : Int32))).toNatClampNeg), .int (xs ((i + (3 : Int32))).toNatClampNeg)]) hC (ck_mk lkL_125 in_X12_best cd_X12_best ds_X12_best (Nat.le_of_ble_eq_true rfl) (Nat.le_of_ble_eq_true rfl)) iy_X12_best sy_X12_best cf_12 (by decide) (kM_33 hM) (ct_X12_best hM E) rfl rfl (Nat.le_of_ble_eq_true rfl) ⟨by have := hkn.1; omega, by have := hkn.2; omega⟩ dL_law_1091 ?_
  rintro _ _ D2 ⟨v', rfl, rfl, E⟩
  refine z_icmp_eq (tgt := 1530) hC dL_law_1094 (by decide) (fun _ => ?_) (fun c1 => absurd (hP _ _ _ E).1 c1)
  exact kz _ (hP _ _ _ E).2
set_option maxHeartbeats 4000000 in
set_option maxRecDepth 100000 in
theorem law_27 (hC : CX G code "WhyChosenLaw" 4 ret p s m args meth c) (hX : va_X b Ls xs s s.heap) (hbl : b < s.heap.size) (hG0 : G.1 = s.heap.size) (hF : FX S mdl) (hM : FM S) (h : Rel mdl S.1 D) {i : Int32} (hi1 : vp_in (i + (1 : Int32)) Ls) (hi2 : vp_in (i + (2 : Int32)) Ls) (hi3 : vp_in (i + (3 : Int32)) Ls) (hkn : k + 15 ≤ room_1.cells ∧ n + 249 ≤ room_1.slots) (kz : ∀ D', Rel mdl S.1 D' → Z p l e room_1 s m args below meth c 4 (WM G s (fun q => G.1 ≤ q) S D') k n Q 1530 [(3, .int i), (2, .ref (G.1 + 33)), (1, .ref (G.1 + 0)), (0, .ref b)] []) : Z p l e room_1 s m args below meth c 4 (WM G s (fun q => G.1 ≤ q) S D) k n Q 1099 [(3, .int i), (2, .ref (G.1 + 33)), (1, .ref (G.1 + 0)), (0, .ref b)] [] := by
  obtain ⟨PP, hP, E⟩ := op_worse (a1 := (xs ((i + (1 : Int32))).toNatClampNeg)) (a2 := (xs ((i + (2 : Int32))).toNatClampNeg)) (a3 := (xs ((i + (3 : Int32))).toNatClampNeg)) h
  refine z_aload_n hC dL_law_1099 rfl 2 rfl ?_
  refine z_aload_n hC dL_law_1100 rfl 3 rfl ?_
  refine z_iload_n hC dL_law_1101 rfl 0 rfl ?_
  refine z_iconst (v := 1) hC dL_law_1102 rfl ?_
  refine z_iadd hC dL_law_1103 ?_
  refine z_sld hC hX hbl hG0 hi1 dL_law_1104 ?_
  refine z_aload_n hC dL_law_1105 rfl 3 rfl ?_
  refine z_iload_n hC dL_law_1106 rfl 0 rfl ?_
  refine z_iconst (v := 2) hC dL_law_1107 rfl ?_
  refine z_iadd hC dL_law_1108 ?_
  refine z_sld hC hX hbl hG0 hi2 dL_law_1109 ?_
  refine z_aload_n hC dL_law_1110 rfl 3 rfl ?_
  refine z_iload_n hC dL_law_1111 rfl 0 rfl ?_
  refine z_iconst (v := 3) hC dL_law_1112 rfl ?_
  refine z_iadd hC dL_law_1113 ?_
  refine z_sld hC hX hbl hG0 hi3 dL_law_1114 ?_
  refine z_callV (mc := 0) (ms := 0) (ci := 11) (rest := []) (av := [.int (xs ((i + (1 : Int32))).toNatClampNeg), .int (xs ((i + (2 : Int32))).toNatClampNeg), .int (xs ((i + (3 : Int32))).toNatClampNeg)]) hC (ck_mk lkL_126 in_X11_worse cd_X11_worse ds_X11_worse (Nat.le_of_ble_eq_true rfl) (Nat.le_of_ble_eq_true rfl)) iy_X11_worse sy_X11_worse cf_11 (by decide) (kX_0 hF) (ct_X11_worse hF E) rfl rfl (Nat.le_of_ble_eq_true rfl) ⟨by have := hkn.1; omega, by have := hkn.2; omega⟩ dL_law_1115 ?_
  rintro _ _ D1 ⟨v, rfl, rfl, E⟩
  refine z_aload_n hC dL_law_1118 rfl 1 rfl ?_
  refine z_aload_n hC dL_law_1119 rfl 3 rfl ?_
  refine z_iload_n hC dL_law_1120 rfl 0 rfl ?_
  refine z_iconst (v := 1) hC dL_law_1121 rfl ?_
  refine z_iadd hC dL_law_1122 ?_
  refine z_sld hC hX hbl hG0 hi1 dL_law_1123 ?_
  refine z_aload_n hC dL_law_1124 rfl 3 rfl ?_
  refine z_iload_n hC dL_law_1125 rfl 0 rfl ?_
  refine z_iconst (v := 2) hC dL_law_1126 rfl ?_
  refine z_iadd hC dL_law_1127 ?_
  refine z_sld hC hX hbl hG0 hi2 dL_law_1128 ?_
  refine z_aload_n hC dL_law_1129 rfl 3 rfl ?_
  refine z_iload_n hC dL_law_1130 rfl 0 rfl ?_
  refine z_iconst (v := 3) hC dL_law_1131 rfl ?_
  refine z_iadd hC dL_law_1132 ?_
  refine z_sld hC hX hbl hG0 hi3 dL_law_1133 ?_
  refine z_callV (mc := 0) (ms := 0) (ci := 12) (rest := [.int v]) (av := [.int (xs ((i + (1 : Int32))).toNatClampNeg), .int (xs ((i + (2 : Int32))).toNatClampNeg), .int (xs ((i + (3 : Int32))).toNatClampNeg)]) hC (ck_mk lkL_129 in_X12_worse cd_X12_worse ds_X12_worse (Nat.le_of_ble_eq_true rfl) (Nat.le_of_ble_eq_true rfl)) iy_X12_worse sy_X12_worse cf_12 (by decide) (kM_33 hM) (ct_X12_worse hM E) rfl rfl (Nat.le_of_ble_eq_true rfl) ⟨by have := hkn.1; omega, by have := hkn.2; omega⟩ dL_law_1134 ?_
  rintro _ _ D2 ⟨v', rfl, rfl, E⟩
  refine z_icmp_eq (tgt := 1530) hC dL_law_1137 (by decide) (fun _ => ?_) (fun c1 => absurd (hP _ _ _ E).1 c1)
  exact kz _ (hP _ _ _ E).2
set_option maxHeartbeats 4000000 in
set_option maxRecDepth 100000 in
theorem law_28 (hC : CX G code "WhyChosenLaw" 4 ret p s m args meth c) (hX : va_X b Ls xs s s.heap) (hbl : b < s.heap.size) (hG0 : G.1 = s.heap.size) (hF : FX S mdl) (hM : FM S) (h : Rel mdl S.1 D) {i : Int32} (hi1 : vp_in (i + (1 : Int32)) Ls) (hi2 : vp_in (i + (2 : Int32)) Ls) (hi3 : vp_in (i + (3 : Int32)) Ls) (hkn : k + 15 ≤ room_1.cells ∧ n + 249 ≤ room_1.slots) (kz : ∀ D', Rel mdl S.1 D' → Z p l e room_1 s m args below meth c 4 (WM G s (fun q => G.1 ≤ q) S D') k n Q 1530 [(3, .int i), (2, .ref (G.1 + 33)), (1, .ref (G.1 + 0)), (0, .ref b)] []) : Z p l e room_1 s m args below meth c 4 (WM G s (fun q => G.1 ≤ q) S D) k n Q 1142 [(3, .int i), (2, .ref (G.1 + 33)), (1, .ref (G.1 + 0)), (0, .ref b)] [] := by
  obtain ⟨PP, hP, E⟩ := op_act (a1 := (xs ((i + (1 : Int32))).toNatClampNeg)) (a2 := (xs ((i + (2 : Int32))).toNatClampNeg)) (a3 := (xs ((i + (3 : Int32))).toNatClampNeg)) h
  refine z_aload_n hC dL_law_1142 rfl 2 rfl ?_
  refine z_aload_n hC dL_law_1143 rfl 3 rfl ?_
  refine z_iload_n hC dL_law_1144 rfl 0 rfl ?_
  refine z_iconst (v := 1) hC dL_law_1145 rfl ?_
  refine z_iadd hC dL_law_1146 ?_
  refine z_sld hC hX hbl hG0 hi1 dL_law_1147 ?_
  refine z_aload_n hC dL_law_1148 rfl 3 rfl ?_
  refine z_iload_n hC dL_law_1149 rfl 0 rfl ?_
  refine z_iconst (v := 2) hC dL_law_1150 rfl ?_
  refine z_iadd hC dL_law_1151 ?_
  refine z_sld hC hX hbl hG0 hi2 dL_law_1152 ?_
  refine z_aload_n hC dL_law_1153 rfl 3 rfl ?_
  refine z_iload_n hC dL_law_1154 rfl 0 rfl ?_
  refine z_iconst (v := 3) hC dL_law_1155 rfl ?_
  refine z_iadd hC dL_law_1156 ?_
  refine z_sld hC hX hbl hG0 hi3 dL_law_1157 ?_
  refine z_callV (mc := 0) (ms := 0) (ci := 11) (rest := []) (av := [.int (xs ((i + (1 : Int32))).toNatClampNeg), .int (xs ((i + (2 : Int32))).toNatClampNeg), .int (xs ((i + (3 : Int32))).toNatClampNeg)]) hC (ck_mk lkL_130 in_X11_act cd_X11_act ds_X11_act (Nat.le_of_ble_eq_true rfl) (Nat.le_of_ble_eq_true rfl)) iy_X11_act sy_X11_act cf_11 (by decide) (kX_0 hF) (ct_X11_act hF E) rfl rfl (Nat.le_of_ble_eq_true rfl) ⟨by have := hkn.1; omega, by have := hkn.2; omega⟩ dL_law_1158 ?_
  rintro _ _ D1 ⟨v, rfl, rfl, E⟩
  refine z_aload_n hC dL_law_1161 rfl 1 rfl ?_
  refine z_aload_n hC dL_law_1162 rfl 3 rfl ?_
  refine z_iload_n hC dL_law_1163 rfl 0 rfl ?_
  refine z_iconst (v := 1) hC dL_law_1164 rfl ?_
  refine z_iadd hC dL_law_1165 ?_
  refine z_sld hC hX hbl hG0 hi1 dL_law_1166 ?_
  refine z_aload_n hC dL_law_1167 rfl 3 rfl ?_
  refine z_iload_n hC dL_law_1168 rfl 0 rfl ?_
  refine z_iconst (v := 2) hC dL_law_1169 rfl ?_
  refine z_iadd hC dL_law_1170 ?_
  refine z_sld hC hX hbl hG0 hi2 dL_law_1171 ?_
  refine z_aload_n hC dL_law_1172 rfl 3 rfl ?_
  refine z_iload_n hC dL_law_1173 rfl 0 rfl ?_
  refine z_iconst (v := 3) hC dL_law_1174 rfl ?_
  refine z_iadd hC dL_law_1175 ?_
  refine z_sld hC hX hbl hG0 hi3 dL_law_1176 ?_
  refine z_callV (mc := 0) (ms := 0) (ci := 12) (rest := [.int v]) (av := [.int (xs ((i + (1 : Int32))).toNatClampNeg), .int (xs ((i + (2 : Int32))).toNatClampNeg), .int (xs ((i + (3 : Int32))).toNatClampNeg)]) hC (ck_mk lkL_133 in_X12_act cd_X12_act ds_X12_act (Nat.le_of_ble_eq_true rfl) (Nat.le_of_ble_eq_true rfl)) iy_X12_act sy_X12_act cf_12 (by decide) (kM_33 hM) (ct_X12_act hM E) rfl rfl (Nat.le_of_ble_eq_true rfl) ⟨by have := hkn.1; omega, by have := hkn.2; omega⟩ dL_law_1177 ?_
  rintro _ _ D2 ⟨v', rfl, rfl, E⟩
  refine z_icmp_eq (tgt := 1530) hC dL_law_1180 (by decide) (fun _ => ?_) (fun c1 => absurd (hP _ _ _ E).1 c1)
  exact kz _ (hP _ _ _ E).2
set_option maxHeartbeats 4000000 in
set_option maxRecDepth 100000 in
theorem law_29 (hC : CX G code "WhyChosenLaw" 4 ret p s m args meth c) (hX : va_X b Ls xs s s.heap) (hbl : b < s.heap.size) (hG0 : G.1 = s.heap.size) (hF : FX S mdl) (hM : FM S) (h : Rel mdl S.1 D) {i : Int32} (hi1 : vp_in (i + (1 : Int32)) Ls) (hkn : k + 15 ≤ room_1.cells ∧ n + 249 ≤ room_1.slots) (kz : ∀ D', Rel mdl S.1 D' → Z p l e room_1 s m args below meth c 4 (WM G s (fun q => G.1 ≤ q) S D') k n Q 1530 [(3, .int i), (2, .ref (G.1 + 33)), (1, .ref (G.1 + 0)), (0, .ref b)] []) : Z p l e room_1 s m args below meth c 4 (WM G s (fun q => G.1 ≤ q) S D) k n Q 1185 [(3, .int i), (2, .ref (G.1 + 33)), (1, .ref (G.1 + 0)), (0, .ref b)] [] := by
  obtain ⟨PP, hP, E⟩ := op_trace (a1 := (xs ((i + (1 : Int32))).toNatClampNeg)) h
  refine z_aload_n hC dL_law_1185 rfl 2 rfl ?_
  refine z_aload_n hC dL_law_1186 rfl 3 rfl ?_
  refine z_iload_n hC dL_law_1187 rfl 0 rfl ?_
  refine z_iconst (v := 1) hC dL_law_1188 rfl ?_
  refine z_iadd hC dL_law_1189 ?_
  refine z_sld hC hX hbl hG0 hi1 dL_law_1190 ?_
  refine z_callV (mc := 0) (ms := 0) (ci := 11) (rest := []) (av := [.int (xs ((i + (1 : Int32))).toNatClampNeg)]) hC (ck_mk lkL_134 in_X11_trace cd_X11_trace ds_X11_trace (Nat.le_of_ble_eq_true rfl) (Nat.le_of_ble_eq_true rfl)) iy_X11_trace sy_X11_trace cf_11 (by decide) (kX_0 hF) (ct_X11_trace hF E) rfl rfl (Nat.le_of_ble_eq_true rfl) ⟨by have := hkn.1; omega, by have := hkn.2; omega⟩ dL_law_1191 ?_
  rintro _ _ _ ⟨v, rfl, rfl, rfl, E⟩
  refine z_aload_n hC dL_law_1194 rfl 1 rfl ?_
  refine z_aload_n hC dL_law_1195 rfl 3 rfl ?_
  refine z_iload_n hC dL_law_1196 rfl 0 rfl ?_
  refine z_iconst (v := 1) hC dL_law_1197 rfl ?_
  refine z_iadd hC dL_law_1198 ?_
  refine z_sld hC hX hbl hG0 hi1 dL_law_1199 ?_
  refine z_callV (mc := 0) (ms := 0) (ci := 12) (rest := [.int v]) (av := [.int (xs ((i + (1 : Int32))).toNatClampNeg)]) hC (ck_mk lkL_137 in_X12_trace cd_X12_trace ds_X12_trace (Nat.le_of_ble_eq_true rfl) (Nat.le_of_ble_eq_true rfl)) iy_X12_trace sy_X12_trace cf_12 (by decide) (kM_33 hM) (ct_X12_trace hM E) rfl rfl (Nat.le_of_ble_eq_true rfl) ⟨by have := hkn.1; omega, by have := hkn.2; omega⟩ dL_law_1200 ?_
  rintro _ _ _ ⟨v', rfl, rfl, rfl, E⟩
  refine z_icmp_eq (tgt := 1530) hC dL_law_1203 (by decide) (fun _ => ?_) (fun c1 => absurd (hP _ _ E).1 c1)
  exact kz _ (hP _ _ E).2
set_option maxHeartbeats 4000000 in
set_option maxRecDepth 100000 in
theorem law_30 (hC : CX G code "WhyChosenLaw" 4 ret p s m args meth c) (hX : va_X b Ls xs s s.heap) (hbl : b < s.heap.size) (hG0 : G.1 = s.heap.size) (hF : FX S mdl) (hM : FM S) (h : Rel mdl S.1 D) {i : Int32} (hi1 : vp_in (i + (1 : Int32)) Ls) (hi2 : vp_in (i + (2 : Int32)) Ls) (hkn : k + 15 ≤ room_1.cells ∧ n + 249 ≤ room_1.slots) (kz : ∀ D', Rel mdl S.1 D' → Z p l e room_1 s m args below meth c 4 (WM G s (fun q => G.1 ≤ q) S D') k n Q 1530 [(3, .int i), (2, .ref (G.1 + 33)), (1, .ref (G.1 + 0)), (0, .ref b)] []) : Z p l e room_1 s m args below meth c 4 (WM G s (fun q => G.1 ≤ q) S D) k n Q 1208 [(3, .int i), (2, .ref (G.1 + 33)), (1, .ref (G.1 + 0)), (0, .ref b)] [] := by
  obtain ⟨PP, hP, E⟩ := op_taken (a1 := (xs ((i + (1 : Int32))).toNatClampNeg)) (a2 := (xs ((i + (2 : Int32))).toNatClampNeg)) h
  refine z_aload_n hC dL_law_1208 rfl 2 rfl ?_
  refine z_aload_n hC dL_law_1209 rfl 3 rfl ?_
  refine z_iload_n hC dL_law_1210 rfl 0 rfl ?_
  refine z_iconst (v := 1) hC dL_law_1211 rfl ?_
  refine z_iadd hC dL_law_1212 ?_
  refine z_sld hC hX hbl hG0 hi1 dL_law_1213 ?_
  refine z_aload_n hC dL_law_1214 rfl 3 rfl ?_
  refine z_iload_n hC dL_law_1215 rfl 0 rfl ?_
  refine z_iconst (v := 2) hC dL_law_1216 rfl ?_
  refine z_iadd hC dL_law_1217 ?_
  refine z_sld hC hX hbl hG0 hi2 dL_law_1218 ?_
  refine z_callV (mc := 0) (ms := 0) (ci := 11) (rest := []) (av := [.int (xs ((i + (1 : Int32))).toNatClampNeg), .int (xs ((i + (2 : Int32))).toNatClampNeg)]) hC (ck_mk lkL_138 in_X11_taken cd_X11_taken ds_X11_taken (Nat.le_of_ble_eq_true rfl) (Nat.le_of_ble_eq_true rfl)) iy_X11_taken sy_X11_taken cf_11 (by decide) (kX_0 hF) (ct_X11_taken hF E) rfl rfl (Nat.le_of_ble_eq_true rfl) ⟨by have := hkn.1; omega, by have := hkn.2; omega⟩ dL_law_1219 ?_
  rintro _ _ _ ⟨v, rfl, rfl, rfl, E⟩
  refine z_aload_n hC dL_law_1222 rfl 1 rfl ?_
  refine z_aload_n hC dL_law_1223 rfl 3 rfl ?_
  refine z_iload_n hC dL_law_1224 rfl 0 rfl ?_
  refine z_iconst (v := 1) hC dL_law_1225 rfl ?_
  refine z_iadd hC dL_law_1226 ?_
  refine z_sld hC hX hbl hG0 hi1 dL_law_1227 ?_
  refine z_aload_n hC dL_law_1228 rfl 3 rfl ?_
  refine z_iload_n hC dL_law_1229 rfl 0 rfl ?_
  refine z_iconst (v := 2) hC dL_law_1230 rfl ?_
  refine z_iadd hC dL_law_1231 ?_
  refine z_sld hC hX hbl hG0 hi2 dL_law_1232 ?_
  refine z_callV (mc := 0) (ms := 0) (ci := 12) (rest := [.int v]) (av := [.int (xs ((i + (1 : Int32))).toNatClampNeg), .int (xs ((i + (2 : Int32))).toNatClampNeg)]) hC (ck_mk lkL_141 in_X12_taken cd_X12_taken ds_X12_taken (Nat.le_of_ble_eq_true rfl) (Nat.le_of_ble_eq_true rfl)) iy_X12_taken sy_X12_taken cf_12 (by decide) (kM_33 hM) (ct_X12_taken hM E) rfl rfl (Nat.le_of_ble_eq_true rfl) ⟨by have := hkn.1; omega, by have := hkn.2; omega⟩ dL_law_1233 ?_
  rintro _ _ _ ⟨v', rfl, rfl, rfl, E⟩
  refine z_icmp_eq (tgt := 1530) hC dL_law_1236 (by decide) (fun _ => ?_) (fun c1 => absurd (hP _ _ E).1 c1)
  exact kz _ (hP _ _ E).2
set_option maxHeartbeats 4000000 in
set_option maxRecDepth 100000 in
theorem law_31 (hC : CX G code "WhyChosenLaw" 4 ret p s m args meth c) (hX : va_X b Ls xs s s.heap) (hbl : b < s.heap.size) (hG0 : G.1 = s.heap.size) (hF : FX S mdl) (hM : FM S) (h : Rel mdl S.1 D) {i : Int32} (hi1 : vp_in (i + (1 : Int32)) Ls) (hi2 : vp_in (i + (2 : Int32)) Ls) (hi3 : vp_in (i + (3 : Int32)) Ls) (hi4 : vp_in (i + (4 : Int32)) Ls) (hkn : k + 15 ≤ room_1.cells ∧ n + 249 ≤ room_1.slots) (kz : ∀ D', Rel mdl S.1 D' → Z p l e room_1 s m args below meth c 4 (WM G s (fun q => G.1 ≤ q) S D') k n Q 1530 [(3, .int i), (2, .ref (G.1 + 33)), (1, .ref (G.1 + 0)), (0, .ref b)] []) : Z p l e room_1 s m args below meth c 4 (WM G s (fun q => G.1 ≤ q) S D) k n Q 1241 [(3, .int i), (2, .ref (G.1 + 33)), (1, .ref (G.1 + 0)), (0, .ref b)] [] := by
  obtain ⟨PP, hP, E⟩ := op_sheet (a1 := (xs ((i + (1 : Int32))).toNatClampNeg)) (a2 := (xs ((i + (2 : Int32))).toNatClampNeg)) (a3 := (xs ((i + (3 : Int32))).toNatClampNeg)) (a4 := (xs ((i + (4 : Int32))).toNatClampNeg)) h
  refine z_aload_n hC dL_law_1241 rfl 2 rfl ?_
  refine z_aload_n hC dL_law_1242 rfl 3 rfl ?_
  refine z_iload_n hC dL_law_1243 rfl 0 rfl ?_
  refine z_iconst (v := 1) hC dL_law_1244 rfl ?_
  refine z_iadd hC dL_law_1245 ?_
  refine z_sld hC hX hbl hG0 hi1 dL_law_1246 ?_
  refine z_aload_n hC dL_law_1247 rfl 3 rfl ?_
  refine z_iload_n hC dL_law_1248 rfl 0 rfl ?_
  refine z_iconst (v := 2) hC dL_law_1249 rfl ?_
  refine z_iadd hC dL_law_1250 ?_
  refine z_sld hC hX hbl hG0 hi2 dL_law_1251 ?_
  refine z_aload_n hC dL_law_1252 rfl 3 rfl ?_
  refine z_iload_n hC dL_law_1253 rfl 0 rfl ?_
  refine z_iconst (v := 3) hC dL_law_1254 rfl ?_
  refine z_iadd hC dL_law_1255 ?_
  refine z_sld hC hX hbl hG0 hi3 dL_law_1256 ?_
  refine z_aload_n hC dL_law_1257 rfl 3 rfl ?_
  refine z_iload_n hC dL_law_1258 rfl 0 rfl ?_
  refine z_iconst (v := 4) hC dL_law_1259 rfl ?_
  refine z_iadd hC dL_law_1260 ?_
  refine z_sld hC hX hbl hG0 hi4 dL_law_1261 ?_
  refine z_callV (mc := 0) (ms := 0) (ci := 11) (rest := []) (av := [.int (xs ((i + (1 : Int32))).toNatClampNeg), .int (xs ((i + (2 : Int32))).toNatClampNeg), .int (xs ((i + (3 : Int32))).toNatClampNeg), .int (xs ((i + (4 : Int32))).toNatClampNeg)]) hC (ck_mk lkL_142 in_X11_sheet cd_X11_sheet ds_X11_sheet (Nat.le_of_ble_eq_true rfl) (Nat.le_of_ble_eq_true rfl)) iy_X11_sheet sy_X11_sheet cf_11 (by decide) (kX_0 hF) (ct_X11_sheet hF E) rfl rfl (Nat.le_of_ble_eq_true rfl) ⟨by have := hkn.1; omega, by have := hkn.2; omega⟩ dL_law_1262 ?_
  rintro _ _ D1 ⟨v, rfl, rfl, E⟩
  refine z_aload_n hC dL_law_1265 rfl 1 rfl ?_
  refine z_aload_n hC dL_law_1266 rfl 3 rfl ?_
  refine z_iload_n hC dL_law_1267 rfl 0 rfl ?_
  refine z_iconst (v := 1) hC dL_law_1268 rfl ?_
  refine z_iadd hC dL_law_1269 ?_
  refine z_sld hC hX hbl hG0 hi1 dL_law_1270 ?_
  refine z_aload_n hC dL_law_1271 rfl 3 rfl ?_
  refine z_iload_n hC dL_law_1272 rfl 0 rfl ?_
  refine z_iconst (v := 2) hC dL_law_1273 rfl ?_
  refine z_iadd hC dL_law_1274 ?_
  refine z_sld hC hX hbl hG0 hi2 dL_law_1275 ?_
  refine z_aload_n hC dL_law_1276 rfl 3 rfl ?_
  refine z_iload_n hC dL_law_1277 rfl 0 rfl ?_
  refine z_iconst (v := 3) hC dL_law_1278 rfl ?_
  refine z_iadd hC dL_law_1279 ?_
  refine z_sld hC hX hbl hG0 hi3 dL_law_1280 ?_
  refine z_aload_n hC dL_law_1281 rfl 3 rfl ?_
  refine z_iload_n hC dL_law_1282 rfl 0 rfl ?_
  refine z_iconst (v := 4) hC dL_law_1283 rfl ?_
  refine z_iadd hC dL_law_1284 ?_
  refine z_sld hC hX hbl hG0 hi4 dL_law_1285 ?_
  refine z_callV (mc := 0) (ms := 0) (ci := 12) (rest := [.int v]) (av := [.int (xs ((i + (1 : Int32))).toNatClampNeg), .int (xs ((i + (2 : Int32))).toNatClampNeg), .int (xs ((i + (3 : Int32))).toNatClampNeg), .int (xs ((i + (4 : Int32))).toNatClampNeg)]) hC (ck_mk lkL_146 in_X12_sheet cd_X12_sheet ds_X12_sheet (Nat.le_of_ble_eq_true rfl) (Nat.le_of_ble_eq_true rfl)) iy_X12_sheet sy_X12_sheet cf_12 (by decide) (kM_33 hM) (ct_X12_sheet hM E) rfl rfl (Nat.le_of_ble_eq_true rfl) ⟨by have := hkn.1; omega, by have := hkn.2; omega⟩ dL_law_1286 ?_
  rintro _ _ D2 ⟨v', rfl, rfl, E⟩
  refine z_icmp_eq (tgt := 1530) hC dL_law_1289 (by decide) (fun _ => ?_) (fun c1 => absurd (hP _ _ _ E).1 c1)
  exact kz _ (hP _ _ _ E).2
set_option maxHeartbeats 4000000 in
set_option maxRecDepth 100000 in
theorem law_32 (hC : CX G code "WhyChosenLaw" 4 ret p s m args meth c) (hX : va_X b Ls xs s s.heap) (hbl : b < s.heap.size) (hG0 : G.1 = s.heap.size) (hF : FX S mdl) (hM : FM S) (h : Rel mdl S.1 D) {i : Int32} (hi1 : vp_in (i + (1 : Int32)) Ls) (hkn : k + 15 ≤ room_1.cells ∧ n + 249 ≤ room_1.slots) (kz : ∀ D', Rel mdl S.1 D' → Z p l e room_1 s m args below meth c 4 (WM G s (fun q => G.1 ≤ q) S D') k n Q 1530 [(3, .int i), (2, .ref (G.1 + 33)), (1, .ref (G.1 + 0)), (0, .ref b)] []) : Z p l e room_1 s m args below meth c 4 (WM G s (fun q => G.1 ≤ q) S D) k n Q 1294 [(3, .int i), (2, .ref (G.1 + 33)), (1, .ref (G.1 + 0)), (0, .ref b)] [] := by
  obtain ⟨PP, hP, E⟩ := op_count (a1 := (xs ((i + (1 : Int32))).toNatClampNeg)) h
  refine z_aload_n hC dL_law_1294 rfl 2 rfl ?_
  refine z_aload_n hC dL_law_1295 rfl 3 rfl ?_
  refine z_iload_n hC dL_law_1296 rfl 0 rfl ?_
  refine z_iconst (v := 1) hC dL_law_1297 rfl ?_
  refine z_iadd hC dL_law_1298 ?_
  refine z_sld hC hX hbl hG0 hi1 dL_law_1299 ?_
  refine z_callV (mc := 0) (ms := 0) (ci := 11) (rest := []) (av := [.int (xs ((i + (1 : Int32))).toNatClampNeg)]) hC (ck_mk lkL_147 in_X11_count cd_X11_count ds_X11_count (Nat.le_of_ble_eq_true rfl) (Nat.le_of_ble_eq_true rfl)) iy_X11_count sy_X11_count cf_11 (by decide) (kX_0 hF) (ct_X11_count hF E) rfl rfl (Nat.le_of_ble_eq_true rfl) ⟨by have := hkn.1; omega, by have := hkn.2; omega⟩ dL_law_1300 ?_
  rintro _ _ _ ⟨v, rfl, rfl, rfl, E⟩
  refine z_aload_n hC dL_law_1303 rfl 1 rfl ?_
  refine z_aload_n hC dL_law_1304 rfl 3 rfl ?_
  refine z_iload_n hC dL_law_1305 rfl 0 rfl ?_
  refine z_iconst (v := 1) hC dL_law_1306 rfl ?_
  refine z_iadd hC dL_law_1307 ?_
  refine z_sld hC hX hbl hG0 hi1 dL_law_1308 ?_
  refine z_callV (mc := 0) (ms := 0) (ci := 12) (rest := [.int v]) (av := [.int (xs ((i + (1 : Int32))).toNatClampNeg)]) hC (ck_mk lkL_150 in_X12_count cd_X12_count ds_X12_count (Nat.le_of_ble_eq_true rfl) (Nat.le_of_ble_eq_true rfl)) iy_X12_count sy_X12_count cf_12 (by decide) (kM_33 hM) (ct_X12_count hM E) rfl rfl (Nat.le_of_ble_eq_true rfl) ⟨by have := hkn.1; omega, by have := hkn.2; omega⟩ dL_law_1309 ?_
  rintro _ _ _ ⟨v', rfl, rfl, rfl, E⟩
  refine z_icmp_eq (tgt := 1530) hC dL_law_1312 (by decide) (fun _ => ?_) (fun c1 => absurd (hP _ _ E).1 c1)
  exact kz _ (hP _ _ E).2
set_option maxHeartbeats 4000000 in
set_option maxRecDepth 100000 in
theorem law_33 (hC : CX G code "WhyChosenLaw" 4 ret p s m args meth c) (hX : va_X b Ls xs s s.heap) (hbl : b < s.heap.size) (hG0 : G.1 = s.heap.size) (hF : FX S mdl) (hM : FM S) (h : Rel mdl S.1 D) {i : Int32} (hi1 : vp_in (i + (1 : Int32)) Ls) (hi2 : vp_in (i + (2 : Int32)) Ls) (hi3 : vp_in (i + (3 : Int32)) Ls) (hkn : k + 15 ≤ room_1.cells ∧ n + 249 ≤ room_1.slots) (kz : ∀ D', Rel mdl S.1 D' → Z p l e room_1 s m args below meth c 4 (WM G s (fun q => G.1 ≤ q) S D') k n Q 1530 [(3, .int i), (2, .ref (G.1 + 33)), (1, .ref (G.1 + 0)), (0, .ref b)] []) : Z p l e room_1 s m args below meth c 4 (WM G s (fun q => G.1 ≤ q) S D) k n Q 1317 [(3, .int i), (2, .ref (G.1 + 33)), (1, .ref (G.1 + 0)), (0, .ref b)] [] := by
  obtain ⟨PP, hP, E⟩ := op_tape (a1 := (xs ((i + (1 : Int32))).toNatClampNeg)) (a2 := (xs ((i + (2 : Int32))).toNatClampNeg)) (a3 := (xs ((i + (3 : Int32))).toNatClampNeg)) h
  refine z_aload_n hC dL_law_1317 rfl 2 rfl ?_
  refine z_aload_n hC dL_law_1318 rfl 3 rfl ?_
  refine z_iload_n hC dL_law_1319 rfl 0 rfl ?_
  refine z_iconst (v := 1) hC dL_law_1320 rfl ?_
  refine z_iadd hC dL_law_1321 ?_
  refine z_sld hC hX hbl hG0 hi1 dL_law_1322 ?_
  refine z_aload_n hC dL_law_1323 rfl 3 rfl ?_
  refine z_iload_n hC dL_law_1324 rfl 0 rfl ?_
  refine z_iconst (v := 2) hC dL_law_1325 rfl ?_
  refine z_iadd hC dL_law_1326 ?_
  refine z_sld hC hX hbl hG0 hi2 dL_law_1327 ?_
  refine z_aload_n hC dL_law_1328 rfl 3 rfl ?_
  refine z_iload_n hC dL_law_1329 rfl 0 rfl ?_
  refine z_iconst (v := 3) hC dL_law_1330 rfl ?_
  refine z_iadd hC dL_law_1331 ?_
  refine z_sld hC hX hbl hG0 hi3 dL_law_1332 ?_
  refine z_callV (mc := 0) (ms := 0) (ci := 11) (rest := []) (av := [.int (xs ((i + (1 : Int32))).toNatClampNeg), .int (xs ((i + (2 : Int32))).toNatClampNeg), .int (xs ((i + (3 : Int32))).toNatClampNeg)]) hC (ck_mk lkL_151 in_X11_tape cd_X11_tape ds_X11_tape (Nat.le_of_ble_eq_true rfl) (Nat.le_of_ble_eq_true rfl)) iy_X11_tape sy_X11_tape cf_11 (by decide) (kX_0 hF) (ct_X11_tape hF E) rfl rfl (Nat.le_of_ble_eq_true rfl) ⟨by have := hkn.1; omega, by have := hkn.2; omega⟩ dL_law_1333 ?_
  rintro _ _ D1 ⟨v, rfl, rfl, E⟩
  refine z_aload_n hC dL_law_1336 rfl 1 rfl ?_
  refine z_aload_n hC dL_law_1337 rfl 3 rfl ?_
  refine z_iload_n hC dL_law_1338 rfl 0 rfl ?_
  refine z_iconst (v := 1) hC dL_law_1339 rfl ?_
  refine z_iadd hC dL_law_1340 ?_
  refine z_sld hC hX hbl hG0 hi1 dL_law_1341 ?_
  refine z_aload_n hC dL_law_1342 rfl 3 rfl ?_
  refine z_iload_n hC dL_law_1343 rfl 0 rfl ?_
  refine z_iconst (v := 2) hC dL_law_1344 rfl ?_
  refine z_iadd hC dL_law_1345 ?_
  refine z_sld hC hX hbl hG0 hi2 dL_law_1346 ?_
  refine z_aload_n hC dL_law_1347 rfl 3 rfl ?_
  refine z_iload_n hC dL_law_1348 rfl 0 rfl ?_
  refine z_iconst (v := 3) hC dL_law_1349 rfl ?_
  refine z_iadd hC dL_law_1350 ?_
  refine z_sld hC hX hbl hG0 hi3 dL_law_1351 ?_
  refine z_callV (mc := 0) (ms := 0) (ci := 12) (rest := [.int v]) (av := [.int (xs ((i + (1 : Int32))).toNatClampNeg), .int (xs ((i + (2 : Int32))).toNatClampNeg), .int (xs ((i + (3 : Int32))).toNatClampNeg)]) hC (ck_mk lkL_154 in_X12_tape cd_X12_tape ds_X12_tape (Nat.le_of_ble_eq_true rfl) (Nat.le_of_ble_eq_true rfl)) iy_X12_tape sy_X12_tape cf_12 (by decide) (kM_33 hM) (ct_X12_tape hM E) rfl rfl (Nat.le_of_ble_eq_true rfl) ⟨by have := hkn.1; omega, by have := hkn.2; omega⟩ dL_law_1352 ?_
  rintro _ _ D2 ⟨v', rfl, rfl, E⟩
  refine z_icmp_eq (tgt := 1530) hC dL_law_1355 (by decide) (fun _ => ?_) (fun c1 => absurd (hP _ _ _ E).1 c1)
  exact kz _ (hP _ _ _ E).2
set_option maxHeartbeats 4000000 in
set_option maxRecDepth 100000 in
theorem law_34 (hC : CX G code "WhyChosenLaw" 4 ret p s m args meth c) (hX : va_X b Ls xs s s.heap) (hbl : b < s.heap.size) (hG0 : G.1 = s.heap.size) (hF : FX S mdl) (hM : FM S) (h : Rel mdl S.1 D) {i : Int32} (hi1 : vp_in (i + (1 : Int32)) Ls) (hi2 : vp_in (i + (2 : Int32)) Ls) (hi3 : vp_in (i + (3 : Int32)) Ls) (hi4 : vp_in (i + (4 : Int32)) Ls) (hkn : k + 15 ≤ room_1.cells ∧ n + 249 ≤ room_1.slots) (kz : ∀ D', Rel mdl S.1 D' → Z p l e room_1 s m args below meth c 4 (WM G s (fun q => G.1 ≤ q) S D') k n Q 1530 [(3, .int i), (2, .ref (G.1 + 33)), (1, .ref (G.1 + 0)), (0, .ref b)] []) : Z p l e room_1 s m args below meth c 4 (WM G s (fun q => G.1 ≤ q) S D) k n Q 1360 [(3, .int i), (2, .ref (G.1 + 33)), (1, .ref (G.1 + 0)), (0, .ref b)] [] := by
  obtain ⟨PP, hP, E⟩ := op_item (a1 := (xs ((i + (1 : Int32))).toNatClampNeg)) (a2 := (xs ((i + (2 : Int32))).toNatClampNeg)) (a3 := ((((xs ((i + (3 : Int32))).toNatClampNeg)).toInt64 <<< (((32 : Int32)).toInt64 &&& 63)) ||| (((xs ((i + (4 : Int32))).toNatClampNeg)).toInt64 &&& (4294967295 : Int64)))) h
  refine z_aload_n hC dL_law_1360 rfl 2 rfl ?_
  refine z_aload_n hC dL_law_1361 rfl 3 rfl ?_
  refine z_iload_n hC dL_law_1362 rfl 0 rfl ?_
  refine z_iconst (v := 1) hC dL_law_1363 rfl ?_
  refine z_iadd hC dL_law_1364 ?_
  refine z_sld hC hX hbl hG0 hi1 dL_law_1365 ?_
  refine z_aload_n hC dL_law_1366 rfl 3 rfl ?_
  refine z_iload_n hC dL_law_1367 rfl 0 rfl ?_
  refine z_iconst (v := 2) hC dL_law_1368 rfl ?_
  refine z_iadd hC dL_law_1369 ?_
  refine z_sld hC hX hbl hG0 hi2 dL_law_1370 ?_
  refine z_aload_n hC dL_law_1371 rfl 3 rfl ?_
  refine z_iload_n hC dL_law_1372 rfl 0 rfl ?_
  refine z_iconst (v := 3) hC dL_law_1373 rfl ?_
  refine z_iadd hC dL_law_1374 ?_
  refine z_sld hC hX hbl hG0 hi3 dL_law_1375 ?_
  refine z_i2l hC dL_law_1376 ?_
  refine z_bipush (v := 32) hC dL_law_1377 rfl ?_
  refine z_lshl hC dL_law_1379 ?_
  refine z_aload_n hC dL_law_1380 rfl 3 rfl ?_
  refine z_iload_n hC dL_law_1381 rfl 0 rfl ?_
  refine z_iconst (v := 4) hC dL_law_1382 rfl ?_
  refine z_iadd hC dL_law_1383 ?_
  refine z_sld hC hX hbl hG0 hi4 dL_law_1384 ?_
  refine z_i2l hC dL_law_1385 ?_
  refine z_ldc2 hC klL_155 dL_law_1386 ?_
  refine z_land hC dL_law_1389 ?_
  refine z_lor hC dL_law_1390 ?_
  refine z_callV (mc := 0) (ms := 0) (ci := 11) (rest := []) (av := [.int (xs ((i + (1 : Int32))).toNatClampNeg), .int (xs ((i + (2 : Int32))).toNatClampNeg), .long ((((xs ((i + (3 : Int32))).toNatClampNeg)).toInt64 <<< (((32 : Int32)).toInt64 &&& 63)) ||| (((xs ((i + (4 : Int32))).toNatClampNeg)).toInt64 &&& (4294967295 : Int64)))]) hC (ck_mk lkL_157 in_X11_item cd_X11_item ds_X11_item (Nat.le_of_ble_eq_true rfl) (Nat.le_of_ble_eq_true rfl)) iy_X11_item sy_X11_item cf_11 (by decide) (kX_0 hF) (ct_X11_item hF E) rfl rfl (Nat.le_of_ble_eq_true rfl) ⟨by have := hkn.1; omega, by have := hkn.2; omega⟩ dL_law_1391 ?_
  rintro _ _ D1 ⟨v, rfl, rfl, E⟩
  refine z_aload_n hC dL_law_1394 rfl 1 rfl ?_
  refine z_aload_n hC dL_law_1395 rfl 3 rfl ?_
  refine z_iload_n hC dL_law_1396 rfl 0 rfl ?_
  refine z_iconst (v := 1) hC dL_law_1397 rfl ?_
  refine z_iadd hC dL_law_1398 ?_
  refine z_sld hC hX hbl hG0 hi1 dL_law_1399 ?_
  refine z_aload_n hC dL_law_1400 rfl 3 rfl ?_
  refine z_iload_n hC dL_law_1401 rfl 0 rfl ?_
  refine z_iconst (v := 2) hC dL_law_1402 rfl ?_
  refine z_iadd hC dL_law_1403 ?_
  refine z_sld hC hX hbl hG0 hi2 dL_law_1404 ?_
  refine z_aload_n hC dL_law_1405 rfl 3 rfl ?_
  refine z_iload_n hC dL_law_1406 rfl 0 rfl ?_
  refine z_iconst (v := 3) hC dL_law_1407 rfl ?_
  refine z_iadd hC dL_law_1408 ?_
  refine z_sld hC hX hbl hG0 hi3 dL_law_1409 ?_
  refine z_i2l hC dL_law_1410 ?_
  refine z_bipush (v := 32) hC dL_law_1411 rfl ?_
  refine z_lshl hC dL_law_1413 ?_
  refine z_aload_n hC dL_law_1414 rfl 3 rfl ?_
  refine z_iload_n hC dL_law_1415 rfl 0 rfl ?_
  refine z_iconst (v := 4) hC dL_law_1416 rfl ?_
  refine z_iadd hC dL_law_1417 ?_
  refine z_sld hC hX hbl hG0 hi4 dL_law_1418 ?_
  refine z_i2l hC dL_law_1419 ?_
  refine z_ldc2 hC klL_155 dL_law_1420 ?_
  refine z_land hC dL_law_1423 ?_
  refine z_lor hC dL_law_1424 ?_
  refine z_callV (mc := 0) (ms := 0) (ci := 12) (rest := [.int v]) (av := [.int (xs ((i + (1 : Int32))).toNatClampNeg), .int (xs ((i + (2 : Int32))).toNatClampNeg), .long ((((xs ((i + (3 : Int32))).toNatClampNeg)).toInt64 <<< (((32 : Int32)).toInt64 &&& 63)) ||| (((xs ((i + (4 : Int32))).toNatClampNeg)).toInt64 &&& (4294967295 : Int64)))]) hC (ck_mk lkL_161 in_X12_item cd_X12_item ds_X12_item (Nat.le_of_ble_eq_true rfl) (Nat.le_of_ble_eq_true rfl)) iy_X12_item sy_X12_item cf_12 (by decide) (kM_33 hM) (ct_X12_item hM E) rfl rfl (Nat.le_of_ble_eq_true rfl) ⟨by have := hkn.1; omega, by have := hkn.2; omega⟩ dL_law_1425 ?_
  rintro _ _ D2 ⟨v', rfl, rfl, E⟩
  refine z_icmp_eq (tgt := 1530) hC dL_law_1428 (by decide) (fun _ => ?_) (fun c1 => absurd (hP _ _ _ E).1 c1)
  exact kz _ (hP _ _ _ E).2
set_option maxHeartbeats 4000000 in
set_option maxRecDepth 100000 in
theorem law_35 (hC : CX G code "WhyChosenLaw" 4 ret p s m args meth c) (hX : va_X b Ls xs s s.heap) (hbl : b < s.heap.size) (hG0 : G.1 = s.heap.size) (hF : FX S mdl) (hM : FM S) (h : Rel mdl S.1 D) {i : Int32} (hi1 : vp_in (i + (1 : Int32)) Ls) (hi2 : vp_in (i + (2 : Int32)) Ls) (hkn : k + 15 ≤ room_1.cells ∧ n + 249 ≤ room_1.slots) (kz : ∀ D', Rel mdl S.1 D' → Z p l e room_1 s m args below meth c 4 (WM G s (fun q => G.1 ≤ q) S D') k n Q 1530 [(3, .int i), (2, .ref (G.1 + 33)), (1, .ref (G.1 + 0)), (0, .ref b)] []) : Z p l e room_1 s m args below meth c 4 (WM G s (fun q => G.1 ≤ q) S D) k n Q 1433 [(3, .int i), (2, .ref (G.1 + 33)), (1, .ref (G.1 + 0)), (0, .ref b)] [] := by
  obtain ⟨PP, hP, E⟩ := op_read (a1 := (xs ((i + (1 : Int32))).toNatClampNeg)) (a2 := (xs ((i + (2 : Int32))).toNatClampNeg)) h
  refine z_aload_n hC dL_law_1433 rfl 2 rfl ?_
  refine z_aload_n hC dL_law_1434 rfl 3 rfl ?_
  refine z_iload_n hC dL_law_1435 rfl 0 rfl ?_
  refine z_iconst (v := 1) hC dL_law_1436 rfl ?_
  refine z_iadd hC dL_law_1437 ?_
  refine z_sld hC hX hbl hG0 hi1 dL_law_1438 ?_
  refine z_aload_n hC dL_law_1439 rfl 3 rfl ?_
  refine z_iload_n hC dL_law_1440 rfl 0 rfl ?_
  refine z_iconst (v := 2) hC dL_law_1441 rfl ?_
  refine z_iadd hC dL_law_1442 ?_
  refine z_sld hC hX hbl hG0 hi2 dL_law_1443 ?_
  refine z_callV (mc := 0) (ms := 0) (ci := 11) (rest := []) (av := [.int (xs ((i + (1 : Int32))).toNatClampNeg), .int (xs ((i + (2 : Int32))).toNatClampNeg)]) hC (ck_mk lkL_162 in_X11_read cd_X11_read ds_X11_read (Nat.le_of_ble_eq_true rfl) (Nat.le_of_ble_eq_true rfl)) iy_X11_read sy_X11_read cf_11 (by decide) (kX_0 hF) (ct_X11_read hF E) rfl rfl (Nat.le_of_ble_eq_true rfl) ⟨by have := hkn.1; omega, by have := hkn.2; omega⟩ dL_law_1444 ?_
  rintro _ _ _ ⟨v, rfl, rfl, rfl, E⟩
  refine z_aload_n hC dL_law_1447 rfl 1 rfl ?_
  refine z_aload_n hC dL_law_1448 rfl 3 rfl ?_
  refine z_iload_n hC dL_law_1449 rfl 0 rfl ?_
  refine z_iconst (v := 1) hC dL_law_1450 rfl ?_
  refine z_iadd hC dL_law_1451 ?_
  refine z_sld hC hX hbl hG0 hi1 dL_law_1452 ?_
  refine z_aload_n hC dL_law_1453 rfl 3 rfl ?_
  refine z_iload_n hC dL_law_1454 rfl 0 rfl ?_
  refine z_iconst (v := 2) hC dL_law_1455 rfl ?_
  refine z_iadd hC dL_law_1456 ?_
  refine z_sld hC hX hbl hG0 hi2 dL_law_1457 ?_
  refine z_callV (mc := 0) (ms := 0) (ci := 12) (rest := [.long v]) (av := [.int (xs ((i + (1 : Int32))).toNatClampNeg), .int (xs ((i + (2 : Int32))).toNatClampNeg)]) hC (ck_mk lkL_165 in_X12_read cd_X12_read ds_X12_read (Nat.le_of_ble_eq_true rfl) (Nat.le_of_ble_eq_true rfl)) iy_X12_read sy_X12_read cf_12 (by decide) (kM_33 hM) (ct_X12_read hM E) rfl rfl (Nat.le_of_ble_eq_true rfl) ⟨by have := hkn.1; omega, by have := hkn.2; omega⟩ dL_law_1458 ?_
  rintro _ _ _ ⟨v', rfl, rfl, rfl, E⟩
  refine z_lcmp hC dL_law_1461 ?_
  refine z_if_eq (tgt := 1530) hC dL_law_1462 (by decide) (fun _ => ?_) (fun c1 => absurd (by rw [(hP _ _ E).1]; exact lg_cmp_self) c1)
  exact kz _ (hP _ _ E).2
set_option maxHeartbeats 4000000 in
set_option maxRecDepth 100000 in
theorem law_36 (hC : CX G code "WhyChosenLaw" 4 ret p s m args meth c) (hX : va_X b Ls xs s s.heap) (hbl : b < s.heap.size) (hG0 : G.1 = s.heap.size) (hF : FX S mdl) (hM : FM S) (h : Rel mdl S.1 D) {i : Int32} (hi1 : vp_in (i + (1 : Int32)) Ls) (hi2 : vp_in (i + (2 : Int32)) Ls) (hi3 : vp_in (i + (3 : Int32)) Ls) (hi4 : vp_in (i + (4 : Int32)) Ls) (hi5 : vp_in (i + (5 : Int32)) Ls) (hkn : k + 15 ≤ room_1.cells ∧ n + 249 ≤ room_1.slots) (kz : ∀ D', Rel mdl S.1 D' → Z p l e room_1 s m args below meth c 4 (WM G s (fun q => G.1 ≤ q) S D') k n Q 1530 [(3, .int i), (2, .ref (G.1 + 33)), (1, .ref (G.1 + 0)), (0, .ref b)] []) : Z p l e room_1 s m args below meth c 4 (WM G s (fun q => G.1 ≤ q) S D) k n Q 1467 [(3, .int i), (2, .ref (G.1 + 33)), (1, .ref (G.1 + 0)), (0, .ref b)] [] := by
  obtain ⟨PP, hP, E⟩ := op_shift (a1 := (xs ((i + (1 : Int32))).toNatClampNeg)) (a2 := (xs ((i + (2 : Int32))).toNatClampNeg)) (a3 := (xs ((i + (3 : Int32))).toNatClampNeg)) (a4 := (xs ((i + (4 : Int32))).toNatClampNeg)) (a5 := (xs ((i + (5 : Int32))).toNatClampNeg)) h
  refine z_aload_n hC dL_law_1467 rfl 2 rfl ?_
  refine z_aload_n hC dL_law_1468 rfl 3 rfl ?_
  refine z_iload_n hC dL_law_1469 rfl 0 rfl ?_
  refine z_iconst (v := 1) hC dL_law_1470 rfl ?_
  refine z_iadd hC dL_law_1471 ?_
  refine z_sld hC hX hbl hG0 hi1 dL_law_1472 ?_
  refine z_aload_n hC dL_law_1473 rfl 3 rfl ?_
  refine z_iload_n hC dL_law_1474 rfl 0 rfl ?_
  refine z_iconst (v := 2) hC dL_law_1475 rfl ?_
  refine z_iadd hC dL_law_1476 ?_
  refine z_sld hC hX hbl hG0 hi2 dL_law_1477 ?_
  refine z_aload_n hC dL_law_1478 rfl 3 rfl ?_
  refine z_iload_n hC dL_law_1479 rfl 0 rfl ?_
  refine z_iconst (v := 3) hC dL_law_1480 rfl ?_
  refine z_iadd hC dL_law_1481 ?_
  refine z_sld hC hX hbl hG0 hi3 dL_law_1482 ?_
  refine z_aload_n hC dL_law_1483 rfl 3 rfl ?_
  refine z_iload_n hC dL_law_1484 rfl 0 rfl ?_
  refine z_iconst (v := 4) hC dL_law_1485 rfl ?_
  refine z_iadd hC dL_law_1486 ?_
  refine z_sld hC hX hbl hG0 hi4 dL_law_1487 ?_
  refine z_aload_n hC dL_law_1488 rfl 3 rfl ?_
  refine z_iload_n hC dL_law_1489 rfl 0 rfl ?_
  refine z_iconst (v := 5) hC dL_law_1490 rfl ?_
  refine z_iadd hC dL_law_1491 ?_
  refine z_sld hC hX hbl hG0 hi5 dL_law_1492 ?_
  refine z_callV (mc := 0) (ms := 0) (ci := 11) (rest := []) (av := [.int (xs ((i + (1 : Int32))).toNatClampNeg), .int (xs ((i + (2 : Int32))).toNatClampNeg), .int (xs ((i + (3 : Int32))).toNatClampNeg), .int (xs ((i + (4 : Int32))).toNatClampNeg), .int (xs ((i + (5 : Int32))).toNatClampNeg)]) hC (ck_mk lkL_166 in_X11_shift cd_X11_shift ds_X11_shift (Nat.le_of_ble_eq_true rfl) (Nat.le_of_ble_eq_true rfl)) iy_X11_shift sy_X11_shift cf_11 (by decide) (kX_0 hF) (ct_X11_shift hF E) rfl rfl (Nat.le_of_ble_eq_true rfl) ⟨by have := hkn.1; omega, by have := hkn.2; omega⟩ dL_law_1493 ?_
  rintro _ _ D1 ⟨v, rfl, rfl, E⟩
  refine z_aload_n hC dL_law_1496 rfl 1 rfl ?_
  refine z_aload_n hC dL_law_1497 rfl 3 rfl ?_
  refine z_iload_n hC dL_law_1498 rfl 0 rfl ?_
  refine z_iconst (v := 1) hC dL_law_1499 rfl ?_
  refine z_iadd hC dL_law_1500 ?_
  refine z_sld hC hX hbl hG0 hi1 dL_law_1501 ?_
  refine z_aload_n hC dL_law_1502 rfl 3 rfl ?_
  refine z_iload_n hC dL_law_1503 rfl 0 rfl ?_
  refine z_iconst (v := 2) hC dL_law_1504 rfl ?_
  refine z_iadd hC dL_law_1505 ?_
  refine z_sld hC hX hbl hG0 hi2 dL_law_1506 ?_
  refine z_aload_n hC dL_law_1507 rfl 3 rfl ?_
  refine z_iload_n hC dL_law_1508 rfl 0 rfl ?_
  refine z_iconst (v := 3) hC dL_law_1509 rfl ?_
  refine z_iadd hC dL_law_1510 ?_
  refine z_sld hC hX hbl hG0 hi3 dL_law_1511 ?_
  refine z_aload_n hC dL_law_1512 rfl 3 rfl ?_
  refine z_iload_n hC dL_law_1513 rfl 0 rfl ?_
  refine z_iconst (v := 4) hC dL_law_1514 rfl ?_
  refine z_iadd hC dL_law_1515 ?_
  refine z_sld hC hX hbl hG0 hi4 dL_law_1516 ?_
  refine z_aload_n hC dL_law_1517 rfl 3 rfl ?_
  refine z_iload_n hC dL_law_1518 rfl 0 rfl ?_
  refine z_iconst (v := 5) hC dL_law_1519 rfl ?_
  refine z_iadd hC dL_law_1520 ?_
  refine z_sld hC hX hbl hG0 hi5 dL_law_1521 ?_
  refine z_callV (mc := 0) (ms := 0) (ci := 12) (rest := [.int v]) (av := [.int (xs ((i + (1 : Int32))).toNatClampNeg), .int (xs ((i + (2 : Int32))).toNatClampNeg), .int (xs ((i + (3 : Int32))).toNatClampNeg), .int (xs ((i + (4 : Int32))).toNatClampNeg), .int (xs ((i + (5 : Int32))).toNatClampNeg)]) hC (ck_mk lkL_170 in_X12_shift cd_X12_shift ds_X12_shift (Nat.le_of_ble_eq_true rfl) (Nat.le_of_ble_eq_true rfl)) iy_X12_shift sy_X12_shift cf_12 (by decide) (kM_33 hM) (ct_X12_shift hM E) rfl rfl (Nat.le_of_ble_eq_true rfl) ⟨by have := hkn.1; omega, by have := hkn.2; omega⟩ dL_law_1522 ?_
  rintro _ _ D2 ⟨v', rfl, rfl, E⟩
  refine z_icmp_eq (tgt := 1530) hC dL_law_1525 (by decide) (fun _ => ?_) (fun c1 => absurd (hP _ _ _ E).1 c1)
  exact kz _ (hP _ _ _ E).2
end ZLW
