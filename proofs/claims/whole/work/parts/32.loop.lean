theorem law_in {Ls q : Nat} (hL : Ls ≤ 3072) (hq : 6 * q ≤ 3078) (h : ¬ (Int32.ofNat Ls - 6 < nI (6 * q))) : 6 * q + 6 ≤ Ls := by
  apply Classical.byContradiction
  intro h2
  refine h ?_
  rw [Int32.lt_iff_toInt_lt, Int32.toInt_sub, nI_toInt (by omega), show (Int32.ofNat Ls).toInt = (Ls : Int) from nI_toInt (n := Ls) (by omega), show (6 : Int32).toInt = 6 from by decide]
  unfold Int.bmod
  dsimp only
  split <;> omega
theorem law_ix {Ls q j : Nat} (hL : Ls ≤ 3072) (h : 6 * q + j < Ls) : vp_in (nI (6 * q) + nI j) Ls := by
  rw [nI_add]; exact nI_in h (by omega)
theorem law_step {q : Nat} : nI (6 * q) + 6 = nI (6 * (q + 1)) := by
  show nI (6 * q) + nI 6 = _
  rw [nI_add]
  rfl
section ZLP
variable {p : Program} {l : Launch} {e : Env} {R : Room} {s : State} {m : MethodId} {args : Array Value} {below : List Frame} {meth : Method} {c : Code} {nL : Nat} {k n : Nat} {Q : State → Prop} {pc : Nat} {lv : List (Nat × Value)} {st : List Value}
variable {G : Gl} {cc : ByteArray} {own : String} {A : Nat → Prop} {S S' S0 : Sh} {D D' : Dy} {a N : Nat} {Wp : Heap → List Loc → Prop}
variable {b Ls : Nat} {xs : Nat → Int32} {mdl : Nat → Option (Nat × Nat)}
set_option maxHeartbeats 4000000 in
set_option maxRecDepth 100000 in
theorem law_end (hC : CX G code "WhyChosenLaw" 4 ret p s m #[Value.ref b] meth c) (hG0 : G.1 = s.heap.size) (hk : k ≤ 600000) (hn : n ≤ 7302250) {lv : List (Nat × Value)} : Z p l e room_1 s m #[Value.ref b] below meth c 4 (WM G s (fun q => G.1 ≤ q) S D) k n (lw_Z below #[Value.ref b] s) 1537 lv [.int 1] := by
  intro H locs hW ls hl
  refine va_forget (fun q hq => ?_) ?_
  · have := hW.2.2.2.2.2 q hq
    rw [← hG0]; exact this
  · refine W.widen (k := 600000) (n := 7302250) hk hn ?_
    exact lw_ret hC.1 hC.2.1 hC.2.2.2.2.2.1 hC.2.2.2.2.2.2.1 dL_law_1537
set_option maxHeartbeats 8000000 in
set_option maxRecDepth 100000 in
theorem law_loop (hC : CX G code "WhyChosenLaw" 4 ret p s m #[Value.ref b] meth c) (hX : va_X b Ls xs s s.heap) (hbl : b < s.heap.size) (hG0 : G.1 = s.heap.size) (hL : Ls ≤ 3072) :
    ∀ (N q : Nat) (S : Sh) (D : Dy) (mdl : Nat → Option (Nat × Nat)) (k n : Nat), q + N = 513 → FX S mdl → FM S → Sb S → 33 ≤ S.1 → Rel mdl S.1 D → k ≤ 65 + 15 * q → n ≤ 124974 + 249 * q → 6 * q ≤ 3078 →
      Z p l e room_1 s m #[Value.ref b] below meth c 4 (WM G s (fun q => G.1 ≤ q) S D) k n (lw_Z below #[Value.ref b] s) 18 [(3, .int (nI (6 * q))), (2, .ref (G.1 + 33)), (1, .ref (G.1 + 0)), (0, .ref b)] [] := by
  intro N
  induction N with
  | zero =>
    intro q S D mdl k n hqN hF hM hSb h33 h hk hn hq
    refine z_iload_n hC dL_law_18 rfl 0 rfl ?_
    refine z_aload_n hC dL_law_19 rfl 3 rfl ?_
    refine z_sln hC hX hbl hG0 dL_law_20 ?_
    refine z_bipush (v := 6) hC dL_law_21 rfl ?_
    refine z_isub hC dL_law_23 ?_
    refine z_icmp_gt (tgt := 1536) hC dL_law_24 (by decide) (fun _ => ?_) (fun c1 => ?_)
    · refine z_iconst (v := 1) hC dL_law_1536 rfl ?_
      exact law_end hC hG0 (by omega) (by omega)
    · have := law_in hL hq c1
      omega
  | succ N ih =>
    intro q S D mdl k n hqN hF hM hSb h33 h hk hn hq
    refine z_iload_n hC dL_law_18 rfl 0 rfl ?_
    refine z_aload_n hC dL_law_19 rfl 3 rfl ?_
    refine z_sln hC hX hbl hG0 dL_law_20 ?_
    refine z_bipush (v := 6) hC dL_law_21 rfl ?_
    refine z_isub hC dL_law_23 ?_
    refine z_icmp_gt (tgt := 1536) hC dL_law_24 (by decide) (fun _ => ?_) (fun c1 => ?_)
    · refine z_iconst (v := 1) hC dL_law_1536 rfl ?_
      exact law_end hC hG0 (by omega) (by omega)
    have hin := law_in hL hq c1
    have hkn : k + 15 ≤ room_1.cells ∧ n + 249 ≤ room_1.slots := ⟨by show k + 15 ≤ 600000; omega, by show n + 249 ≤ 7302250; omega⟩
    have hi0 : vp_in (nI (6 * q)) Ls := nI_in (by omega) (by omega)
    have hi1 : vp_in (nI (6 * q) + (1 : Int32)) Ls := law_ix (j := 1) hL (by omega)
    have hi2 : vp_in (nI (6 * q) + (2 : Int32)) Ls := law_ix (j := 2) hL (by omega)
    have hi3 : vp_in (nI (6 * q) + (3 : Int32)) Ls := law_ix (j := 3) hL (by omega)
    have hi4 : vp_in (nI (6 * q) + (4 : Int32)) Ls := law_ix (j := 4) hL (by omega)
    have hi5 : vp_in (nI (6 * q) + (5 : Int32)) Ls := law_ix (j := 5) hL (by omega)
    have next : ∀ (S' : Sh) (D' : Dy) (mdl' : Nat → Option (Nat × Nat)) (k' n' : Nat), FX S' mdl' → FM S' → Sb S' → 33 ≤ S'.1 → Rel mdl' S'.1 D' → k' ≤ k + 15 → n' ≤ n + 249 →
        Z p l e room_1 s m #[Value.ref b] below meth c 4 (WM G s (fun q => G.1 ≤ q) S' D') k' n' (lw_Z below #[Value.ref b] s) 1530 [(3, .int (nI (6 * q))), (2, .ref (G.1 + 33)), (1, .ref (G.1 + 0)), (0, .ref b)] [] := by
      intro S' D' mdl' k' n' a1 a2 a3 a4 a5 a6 a7
      refine z_iinc (q := 0) (v := nI (6 * (q + 1))) (lv' := [(3, .int (nI (6 * (q + 1)))), (2, .ref (G.1 + 33)), (1, .ref (G.1 + 0)), (0, .ref b)]) hC dL_law_1530 rfl (by rw [← law_step]; rfl) (Nat.le_of_ble_eq_true rfl) rfl ?_
      refine z_goto (tgt := 18) hC dL_law_1533 (by decide) ?_
      exact ih (q + 1) S' D' mdl' k' n' (by omega) a1 a2 a3 a4 a5 (by omega) (by omega) (by omega)
    have keep : ∀ D', Rel mdl S.1 D' → Z p l e room_1 s m #[Value.ref b] below meth c 4 (WM G s (fun q => G.1 ≤ q) S D') k n (lw_Z below #[Value.ref b] s) 1530 [(3, .int (nI (6 * q))), (2, .ref (G.1 + 33)), (1, .ref (G.1 + 0)), (0, .ref b)] [] := fun D' h' => next S D' mdl k n hF hM hSb h33 h' (by omega) (by omega)
    refine z_aload_n hC dL_law_27 rfl 3 rfl ?_
    refine z_iload_n hC dL_law_28 rfl 0 rfl ?_
    refine z_sld hC hX hbl hG0 hi0 dL_law_29 ?_
    refine z_bipush (v := 63) hC dL_law_30 rfl ?_
    refine z_iand hC dL_law_32 ?_
    generalize (xs (nI (6 * q)).toNatClampNeg &&& (63 : Int32)) = w
    by_cases c0 : w = (0 : Int32)
    · exact z_tableIn (tgt := 196) (off := 163) hC dL_law_33 c0 (by decide) (by decide) (law_0 hC hX hbl hG0 hF hM h hi1 hi2 hi3 hkn keep)
    by_cases c1 : w = (1 : Int32)
    · exact z_tableIn (tgt := 239) (off := 206) hC dL_law_33 c1 (by decide) (by decide) (law_1 hC hX hbl hG0 hF hM h hi1 hi2 hkn keep)
    by_cases c2 : w = (2 : Int32)
    · exact z_tableIn (tgt := 272) (off := 239) hC dL_law_33 c2 (by decide) (by decide) (law_2 hC hX hbl hG0 hF hM h hi1 hkn keep)
    by_cases c3 : w = (3 : Int32)
    · exact z_tableIn (tgt := 295) (off := 262) hC dL_law_33 c3 (by decide) (by decide) (law_3 hC hX hbl hG0 hF hM h hi1 hi2 hi3 hkn keep)
    by_cases c4 : w = (4 : Int32)
    · exact z_tableIn (tgt := 338) (off := 305) hC dL_law_33 c4 (by decide) (by decide) (law_4 hC hX hbl hG0 hF hM h hi1 hi2 hkn keep)
    by_cases c5 : w = (5 : Int32)
    · exact z_tableIn (tgt := 371) (off := 338) hC dL_law_33 c5 (by decide) (by decide) (law_5 hC hX hbl hG0 hF hM h hi1 hi2 hkn keep)
    by_cases c6 : w = (6 : Int32)
    · exact z_tableIn (tgt := 404) (off := 371) hC dL_law_33 c6 (by decide) (by decide) (law_6 hC hX hbl hG0 hF hM h hi1 hi2 hkn keep)
    by_cases c7 : w = (7 : Int32)
    · refine z_tableIn (tgt := 437) (off := 404) hC dL_law_33 c7 (by decide) (by decide) ?_
      exact law_7 hC hX hbl hG0 hF hM hSb h33 h hi1 hkn (fun mdl' S' D' g1 g2 g3 g4 g5 g6 => next S' D' mdl' _ _ g1 (FM_33 hM hSb g2) g3 (by omega) g6 (Nat.le_refl _) (Nat.le_refl _))
    by_cases c8 : w = (8 : Int32)
    · exact z_tableIn (tgt := 460) (off := 427) hC dL_law_33 c8 (by decide) (by decide) (law_8 hC hX hbl hG0 hF hM h hi1 hi2 hi3 hkn keep)
    by_cases c9 : w = (9 : Int32)
    · exact z_tableIn (tgt := 503) (off := 470) hC dL_law_33 c9 (by decide) (by decide) (law_9 hC hX hbl hG0 hF hM h hi1 hi2 hi3 hi4 hi5 hkn keep)
    by_cases c10 : w = (10 : Int32)
    · exact z_tableIn (tgt := 567) (off := 534) hC dL_law_33 c10 (by decide) (by decide) (law_10 hC hX hbl hG0 hF hM h hi1 hi2 hkn keep)
    by_cases c11 : w = (11 : Int32)
    · exact z_tableIn (tgt := 600) (off := 567) hC dL_law_33 c11 (by decide) (by decide) (law_11 hC hX hbl hG0 hF hM h hi1 hi2 hkn keep)
    by_cases c12 : w = (12 : Int32)
    · exact z_tableIn (tgt := 633) (off := 600) hC dL_law_33 c12 (by decide) (by decide) (law_12 hC hX hbl hG0 hF hM h hi1 hi2 hkn keep)
    by_cases c13 : w = (13 : Int32)
    · exact z_tableIn (tgt := 666) (off := 633) hC dL_law_33 c13 (by decide) (by decide) (law_13 hC hX hbl hG0 hF hM h hi1 hi2 hkn keep)
    by_cases c14 : w = (14 : Int32)
    · exact z_tableIn (tgt := 699) (off := 666) hC dL_law_33 c14 (by decide) (by decide) (law_14 hC hX hbl hG0 hF hM h hi1 hkn keep)
    by_cases c15 : w = (15 : Int32)
    · exact z_tableIn (tgt := 722) (off := 689) hC dL_law_33 c15 (by decide) (by decide) (law_15 hC hX hbl hG0 hF hM h hi1 hkn keep)
    by_cases c16 : w = (16 : Int32)
    · exact z_tableIn (tgt := 745) (off := 712) hC dL_law_33 c16 (by decide) (by decide) (law_16 hC hX hbl hG0 hF hM h hi1 hi2 hkn keep)
    by_cases c17 : w = (17 : Int32)
    · exact z_tableIn (tgt := 778) (off := 745) hC dL_law_33 c17 (by decide) (by decide) (law_17 hC hX hbl hG0 hF hM h hi1 hi2 hkn keep)
    by_cases c18 : w = (18 : Int32)
    · exact z_tableIn (tgt := 811) (off := 778) hC dL_law_33 c18 (by decide) (by decide) (law_18 hC hX hbl hG0 hF hM h hi1 hi2 hi3 hkn keep)
    by_cases c19 : w = (19 : Int32)
    · exact z_tableIn (tgt := 854) (off := 821) hC dL_law_33 c19 (by decide) (by decide) (law_19 hC hX hbl hG0 hF hM h hi1 hkn keep)
    by_cases c20 : w = (20 : Int32)
    · exact z_tableIn (tgt := 877) (off := 844) hC dL_law_33 c20 (by decide) (by decide) (law_20 hC hX hbl hG0 hF hM h hi1 hkn keep)
    by_cases c21 : w = (21 : Int32)
    · exact z_tableIn (tgt := 900) (off := 867) hC dL_law_33 c21 (by decide) (by decide) (law_21 hC hX hbl hG0 hF hM h hi1 hkn keep)
    by_cases c22 : w = (22 : Int32)
    · exact z_tableIn (tgt := 923) (off := 890) hC dL_law_33 c22 (by decide) (by decide) (law_22 hC hX hbl hG0 hF hM h hi1 hkn keep)
    by_cases c23 : w = (23 : Int32)
    · exact z_tableIn (tgt := 946) (off := 913) hC dL_law_33 c23 (by decide) (by decide) (law_23 hC hX hbl hG0 hF hM h hi1 hi2 hi3 hkn keep)
    by_cases c24 : w = (24 : Int32)
    · exact z_tableIn (tgt := 989) (off := 956) hC dL_law_33 c24 (by decide) (by decide) (law_24 hC hX hbl hG0 hF hM h hi1 hi2 hkn keep)
    by_cases c25 : w = (25 : Int32)
    · exact z_tableIn (tgt := 1023) (off := 990) hC dL_law_33 c25 (by decide) (by decide) (law_25 hC hX hbl hG0 hF hM h hi1 hi2 hkn keep)
    by_cases c26 : w = (26 : Int32)
    · exact z_tableIn (tgt := 1056) (off := 1023) hC dL_law_33 c26 (by decide) (by decide) (law_26 hC hX hbl hG0 hF hM h hi1 hi2 hi3 hkn keep)
    by_cases c27 : w = (27 : Int32)
    · exact z_tableIn (tgt := 1099) (off := 1066) hC dL_law_33 c27 (by decide) (by decide) (law_27 hC hX hbl hG0 hF hM h hi1 hi2 hi3 hkn keep)
    by_cases c28 : w = (28 : Int32)
    · exact z_tableIn (tgt := 1142) (off := 1109) hC dL_law_33 c28 (by decide) (by decide) (law_28 hC hX hbl hG0 hF hM h hi1 hi2 hi3 hkn keep)
    by_cases c29 : w = (29 : Int32)
    · exact z_tableIn (tgt := 1185) (off := 1152) hC dL_law_33 c29 (by decide) (by decide) (law_29 hC hX hbl hG0 hF hM h hi1 hkn keep)
    by_cases c30 : w = (30 : Int32)
    · exact z_tableIn (tgt := 1208) (off := 1175) hC dL_law_33 c30 (by decide) (by decide) (law_30 hC hX hbl hG0 hF hM h hi1 hi2 hkn keep)
    by_cases c31 : w = (31 : Int32)
    · exact z_tableIn (tgt := 1241) (off := 1208) hC dL_law_33 c31 (by decide) (by decide) (law_31 hC hX hbl hG0 hF hM h hi1 hi2 hi3 hi4 hkn keep)
    by_cases c32 : w = (32 : Int32)
    · exact z_tableIn (tgt := 1294) (off := 1261) hC dL_law_33 c32 (by decide) (by decide) (law_32 hC hX hbl hG0 hF hM h hi1 hkn keep)
    by_cases c33 : w = (33 : Int32)
    · exact z_tableIn (tgt := 1317) (off := 1284) hC dL_law_33 c33 (by decide) (by decide) (law_33 hC hX hbl hG0 hF hM h hi1 hi2 hi3 hkn keep)
    by_cases c34 : w = (34 : Int32)
    · exact z_tableIn (tgt := 1360) (off := 1327) hC dL_law_33 c34 (by decide) (by decide) (law_34 hC hX hbl hG0 hF hM h hi1 hi2 hi3 hi4 hkn keep)
    by_cases c35 : w = (35 : Int32)
    · exact z_tableIn (tgt := 1433) (off := 1400) hC dL_law_33 c35 (by decide) (by decide) (law_35 hC hX hbl hG0 hF hM h hi1 hi2 hkn keep)
    by_cases c36 : w = (36 : Int32)
    · exact z_tableIn (tgt := 1467) (off := 1434) hC dL_law_33 c36 (by decide) (by decide) (law_36 hC hX hbl hG0 hF hM h hi1 hi2 hi3 hi4 hi5 hkn keep)
    exact z_tableOut (tgt := 1530) hC dL_law_33 (by have zc0 := sw_ne c0 (show (0 : Int32).toInt = 0 by decide); have zc1 := sw_ne c1 (show (1 : Int32).toInt = 1 by decide); have zc2 := sw_ne c2 (show (2 : Int32).toInt = 2 by decide); have zc3 := sw_ne c3 (show (3 : Int32).toInt = 3 by decide); have zc4 := sw_ne c4 (show (4 : Int32).toInt = 4 by decide); have zc5 := sw_ne c5 (show (5 : Int32).toInt = 5 by decide); have zc6 := sw_ne c6 (show (6 : Int32).toInt = 6 by decide); have zc7 := sw_ne c7 (show (7 : Int32).toInt = 7 by decide); have zc8 := sw_ne c8 (show (8 : Int32).toInt = 8 by decide); have zc9 := sw_ne c9 (show (9 : Int32).toInt = 9 by decide); have zc10 := sw_ne c10 (show (10 : Int32).toInt = 10 by decide); have zc11 := sw_ne c11 (show (11 : Int32).toInt = 11 by decide); have zc12 := sw_ne c12 (show (12 : Int32).toInt = 12 by decide); have zc13 := sw_ne c13 (show (13 : Int32).toInt = 13 by decide); have zc14 := sw_ne c14 (show (14 : Int32).toInt = 14 by decide); have zc15 := sw_ne c15 (show (15 : Int32).toInt = 15 by decide); have zc16 := sw_ne c16 (show (16 : Int32).toInt = 16 by decide); have zc17 := sw_ne c17 (show (17 : Int32).toInt = 17 by decide); have zc18 := sw_ne c18 (show (18 : Int32).toInt = 18 by decide); have zc19 := sw_ne c19 (show (19 : Int32).toInt = 19 by decide); have zc20 := sw_ne c20 (show (20 : Int32).toInt = 20 by decide); have zc21 := sw_ne c21 (show (21 : Int32).toInt = 21 by decide); have zc22 := sw_ne c22 (show (22 : Int32).toInt = 22 by decide); have zc23 := sw_ne c23 (show (23 : Int32).toInt = 23 by decide); have zc24 := sw_ne c24 (show (24 : Int32).toInt = 24 by decide); have zc25 := sw_ne c25 (show (25 : Int32).toInt = 25 by decide); have zc26 := sw_ne c26 (show (26 : Int32).toInt = 26 by decide); have zc27 := sw_ne c27 (show (27 : Int32).toInt = 27 by decide); have zc28 := sw_ne c28 (show (28 : Int32).toInt = 28 by decide); have zc29 := sw_ne c29 (show (29 : Int32).toInt = 29 by decide); have zc30 := sw_ne c30 (show (30 : Int32).toInt = 30 by decide); have zc31 := sw_ne c31 (show (31 : Int32).toInt = 31 by decide); have zc32 := sw_ne c32 (show (32 : Int32).toInt = 32 by decide); have zc33 := sw_ne c33 (show (33 : Int32).toInt = 33 by decide); have zc34 := sw_ne c34 (show (34 : Int32).toInt = 34 by decide); have zc35 := sw_ne c35 (show (35 : Int32).toInt = 35 by decide); have zc36 := sw_ne c36 (show (36 : Int32).toInt = 36 by decide); omega) (by decide) (keep D h)
end ZLP
set_option maxRecDepth 100000 in
theorem clL_7 : Cond.classLink "WhyChosenLaw" 7 RX11 ∈ TB := TB_of 21 rfl rfl
set_option maxRecDepth 100000 in
theorem clL_10 : Cond.classLink "WhyChosenLaw" 10 RX12 ∈ TB := TB_of 1085 rfl rfl
set_option maxRecDepth 100000 in
theorem lkL_9 : Cond.methodLink "WhyChosenLaw" 9 yX11_init ∈ TB := TB_of 23 rfl rfl
set_option maxRecDepth 100000 in
theorem lkL_12 : Cond.methodLink "WhyChosenLaw" 12 yX12_init ∈ TB := TB_of 1087 rfl rfl
set_option maxHeartbeats 4000000 in
set_option maxRecDepth 100000 in
theorem whole_start {p : Program} {e : Env} {s : State} {m : MethodId} {below : List Frame} {meth : Method} {c : Code} (l : Launch) (hflags : l.flags = flags0) {b L : Nat} {xs : Nat → Int32} (hL : L ≤ 3072) (C0 : lw_At p s m meth c b L xs) : W p l e room_1 s m #[Value.ref b] below meth c s.heap [] 0 0 (lw_Z below #[Value.ref b] s) (entryFrame m ([Value.ref b] : List Value).toArray 4) := by
  obtain ⟨G, hG0, hG⟩ := gk_start C0
  obtain ⟨hx, hb, hr, hml, hown, hts, hX, hbl, hlocks, hgv⟩ := C0
  have hC : CX G code "WhyChosenLaw" 4 ret p s m #[Value.ref b] meth c := ⟨hx, hb, hml, hown, fun w hw => hts w (List.mem_filter.mp hw).1, hr, hlocks, hG⟩
  rw [lg_entry_eq]
  have hl := lv_entry [Value.ref b] (n := 4) (Nat.le_of_ble_eq_true rfl)
  have hW0 : WM G s (fun q => G.1 ≤ q) SQ_0 (fun _ _ => 0, fun _ _ => 0) s.heap [] := by
    refine ⟨⟨by rw [hG0]; rfl, fun a ha => absurd rfl ha, fun a => ?_⟩, fun q ⟨a, ha, _⟩ => by show G.1 ≤ q; omega, fun q h => h, va_S.rf⟩
    unfold Wa; rw [if_pos (show SQ_0.2.1 a = 0 from rfl)]; trivial
  have hZ : Z p l e room_1 s m #[Value.ref b] below meth c 4 (WM G s (fun q => G.1 ≤ q) SQ_0 (fun _ _ => 0, fun _ _ => 0)) 0 0 (lw_Z below #[Value.ref b] s) 0 [(0, .ref b)] [] := by
    refine z_newQ (a := 0) hC cf_11 (by decide) clL_7 rfl (by decide) (by decide) dL_law_0 ?_
    rintro S' hS' D1 h1
    obtain rfl : S' = SQ_1 := hS'.trans rfl
    have E := op_init h1
    refine z_dup hC dL_law_3 rfl ?_
    refine z_callI (mc := 32) (ms := 1344) (rest := [.ref (G.1 + 0)]) (av := []) hC (ck_mk lkL_9 in_X11_init cd_X11_init ds_X11_init (by decide) (by decide)) rfl iy_X11_init (ct_X11_init E) rfl rfl (Nat.le_of_ble_eq_true rfl) ⟨by decide, by decide⟩ dL_law_4 ?_
    rintro _ _ D2 ⟨rfl, rfl, E⟩
    refine z_astore_n (lv' := [(1, .ref (G.1 + 0)), (0, .ref b)]) hC dL_law_7 rfl (Nat.le_of_ble_eq_true rfl) rfl ?_
    refine z_newQ (a := 33) hC cf_12 (by decide) clL_10 rfl (by decide) (by decide) dL_law_8 ?_
    rintro S' hS' D3 h3
    obtain rfl : S' = SQ_54 := hS'.trans rfl
    replace E := E D3 h3
    refine z_dup hC dL_law_11 rfl ?_
    refine z_callI (mc := 31) (ms := 123560) (rest := [.ref (G.1 + 33)]) (av := []) hC (ck_mk lkL_12 in_X12_init cd_X12_init ds_X12_init (by decide) (by decide)) rfl iy_X12_init (ct_X12_init E) rfl rfl (Nat.le_of_ble_eq_true rfl) ⟨by decide, by decide⟩ dL_law_12 ?_
    rintro _ _ D4 ⟨rfl, rfl, E⟩
    refine z_astore_n (lv' := [(2, .ref (G.1 + 33)), (1, .ref (G.1 + 0)), (0, .ref b)]) hC dL_law_15 rfl (Nat.le_of_ble_eq_true rfl) rfl ?_
    refine z_iconst (v := 0) hC dL_law_16 rfl ?_
    refine z_istore_n (lv' := [(3, .int (nI (6 * 0))), (2, .ref (G.1 + 33)), (1, .ref (G.1 + 0)), (0, .ref b)]) hC dL_law_17 rfl (Nat.le_of_ble_eq_true rfl) rfl ?_
    exact law_loop hC hX hbl hG0 hL 513 0 SE D4 (fun _ => none) _ _ rfl SE_FX SE_FM SE_Sb (by decide) E (by decide) (by decide) (by decide)
  exact hZ s.heap [] hW0 _ hl
