set_option maxHeartbeats 4000000 in
set_option maxRecDepth 100000 in
theorem ct_X11_away {l : Launch} {G : Gl} {S : Sh} {D : Dy} {mdl : Nat → Option (Nat × Nat)} (hF : FX S mdl) {a1 : Int32} {a2 : Int32} {a3 : Int32} {post : Int32 → Prop} (E : fX11_away a1 a2 a3 D post) : Ct l G yX11_away cX11_away 4 (some .int) 3 0 0 S D [.ref (G.1 + 0), .int a1, .int a2, .int a3] (PIr S D post) := by
  refine z_enter (lv0 := [(0, .ref (G.1 + 0)), (1, .int a1), (2, .int a2), (3, .int a3)]) pl_11 (Nat.le_of_ble_eq_true rfl) rfl ?_
  intro p e s m args below meth c hC hnm
  unfold fX11_away at E
  refine z_aload_n hC dX11_away_0 rfl 0 rfl ?_
  refine z_get hC lf_X11_12_11 (kX_0 hF) dX11_away_1 (fV_ref rfl (rX_0_0 hF)) ?_
  refine z_iload_n hC dX11_away_4 rfl 1 rfl ?_
  refine z_callV (ci := 1) (rest := []) hC (ck_mk lk_X11_84 in_X1_has cd_X1_has ds_X1_has (Nat.le_of_ble_eq_true rfl) (Nat.le_of_ble_eq_true rfl)) iy_X1_has sy_X1_has cf_1 (by decide) (kX_1 hF) (ct_X1_has hF E) rfl rfl (Nat.le_of_ble_eq_true rfl) ⟨Nat.le_refl _, Nat.le_refl _⟩ dX11_away_5 ?_
  rintro _ _ _ ⟨v2, rfl, rfl, rfl, E⟩
  refine z_if_eq (tgt := 30) hC dX11_away_8 (by decide) (fun c6 => ?_) (fun c6 => ?_)
  · replace E := E.1 c6
    refine z_iconst (v := -1) hC dX11_away_30 rfl ?_
    exact z_iret hC dX11_away_31 (Nat.le_refl _) (Nat.le_refl _) ⟨_, rfl, rfl, rfl, E⟩
  · replace E := E.2 c6
    refine z_aload_n hC dX11_away_11 rfl 0 rfl ?_
    refine z_get hC lf_X11_12_11 (kX_0 hF) dX11_away_12 (fV_ref rfl (rX_0_0 hF)) ?_
    refine z_iload_n hC dX11_away_15 rfl 2 rfl ?_
    refine z_callV (ci := 1) (rest := []) hC (ck_mk lk_X11_84 in_X1_has cd_X1_has ds_X1_has (Nat.le_of_ble_eq_true rfl) (Nat.le_of_ble_eq_true rfl)) iy_X1_has sy_X1_has cf_1 (by decide) (kX_1 hF) (ct_X1_has hF E) rfl rfl (Nat.le_of_ble_eq_true rfl) ⟨Nat.le_refl _, Nat.le_refl _⟩ dX11_away_16 ?_
    rintro _ _ _ ⟨v8, rfl, rfl, rfl, E⟩
    refine z_if_eq (tgt := 30) hC dX11_away_19 (by decide) (fun c12 => ?_) (fun c12 => ?_)
    · replace E := E.1 c12
      refine z_iconst (v := -1) hC dX11_away_30 rfl ?_
      exact z_iret hC dX11_away_31 (Nat.le_refl _) (Nat.le_refl _) ⟨_, rfl, rfl, rfl, E⟩
    · replace E := E.2 c12
      refine z_iload_n hC dX11_away_22 rfl 3 rfl ?_
      refine z_iconst (v := 5) hC dX11_away_23 rfl ?_
      refine z_callS (rest := []) hC (ck_mk lk_X11_69 in_X11_within cd_X11_within ds_X11_within (Nat.le_of_ble_eq_true rfl) (Nat.le_of_ble_eq_true rfl)) st_X11_within (ct_X11_within hF E) rfl rfl (Nat.le_of_ble_eq_true rfl) ⟨Nat.le_refl _, Nat.le_refl _⟩ dX11_away_24 ?_
      rintro _ _ _ ⟨v14, rfl, rfl, rfl, E⟩
      refine z_if_ne (tgt := 32) hC dX11_away_27 (by decide) (fun c18 => ?_) (fun c18 => ?_)
      · replace E := E.1 c18
        refine z_iload_n hC dX11_away_32 rfl 1 rfl ?_
        refine z_iload_n hC dX11_away_33 rfl 2 rfl ?_
        refine z_icmp_ne (tgt := 40) hC dX11_away_34 (by decide) (fun c19 => ?_) (fun c19 => ?_)
        · replace E := E.1 c19
          refine z_iload_n hC dX11_away_40 rfl 3 rfl ?_
          refine z_iconst (v := 2) hC dX11_away_41 rfl ?_
          refine z_icmp_ge (tgt := 65) hC dX11_away_42 (by decide) (fun c20 => ?_) (fun c20 => ?_)
          · replace E := E.1 c20
            refine z_iload_n hC dX11_away_65 rfl 3 rfl ?_
            refine z_iconst (v := 4) hC dX11_away_66 rfl ?_
            refine z_icmp_ge (tgt := 93) hC dX11_away_67 (by decide) (fun c21 => ?_) (fun c21 => ?_)
            · replace E := E.1 c21
              refine z_aload_n hC dX11_away_93 rfl 0 rfl ?_
              refine z_iload_n hC dX11_away_94 rfl 1 rfl ?_
              refine z_iload_n hC dX11_away_95 rfl 2 rfl ?_
              refine z_callV (ci := 11) (rest := []) hC (ck_mk lk_X11_218 in_X11_compareAway cd_X11_compareAway ds_X11_compareAway (Nat.le_of_ble_eq_true rfl) (Nat.le_of_ble_eq_true rfl)) iy_X11_compareAway sy_X11_compareAway cf_11 (by decide) (kX_0 hF) (ct_X11_compareAway hF E) rfl rfl (Nat.le_of_ble_eq_true rfl) ⟨Nat.le_refl _, Nat.le_refl _⟩ dX11_away_96 ?_
              rintro _ _ _ ⟨v22, rfl, rfl, rfl, E⟩
              exact z_iret hC dX11_away_99 (Nat.le_refl _) (Nat.le_refl _) ⟨_, rfl, rfl, rfl, E⟩
            · replace E := E.2 c21
              refine z_aload_n hC dX11_away_70 rfl 0 rfl ?_
              refine z_get hC lf_X11_28_11 (kX_0 hF) dX11_away_71 (fV_ref rfl (rX_0_4 hF)) ?_
              refine z_iload_n hC dX11_away_74 rfl 1 rfl ?_
              refine z_iload_n hC dX11_away_75 rfl 2 rfl ?_
              refine z_iconst (v := 0) hC dX11_away_76 rfl ?_
              refine z_iload_n hC dX11_away_77 rfl 3 rfl ?_
              refine z_iconst (v := 2) hC dX11_away_78 rfl ?_
              obtain ⟨K28, hK29, EE⟩ := JN_use E (fun K28 : Int32 → Prop => ∀ (v27 : Int32), K28 v27 → ZM l G p e s m args below meth c 4 3 S (PIr S D post) S D 87 [] [.int v27, .int (0 : Int32), .int a2, .int a1, .ref (G.1 + 7)]) (by
                intro v27 E
                refine z_callV (ci := 0) (rest := []) hC (ck_mk lk_X11_214 in_X0_countWith cd_X0_countWith ds_X0_countWith (Nat.le_of_ble_eq_true rfl) (Nat.le_of_ble_eq_true rfl)) iy_X0_countWith sy_X0_countWith cf_0 (by decide) (kX_7 hF) (ct_X0_countWith hF E) rfl rfl (Nat.le_of_ble_eq_true rfl) ⟨Nat.le_refl _, Nat.le_refl _⟩ dX11_away_87 ?_
                rintro _ _ _ ⟨v30, rfl, rfl, rfl, E⟩
                refine z_goto (tgt := 99) hC dX11_away_90 (by decide) ?_
                exact z_iret hC dX11_away_99 (Nat.le_refl _) (Nat.le_refl _) ⟨_, rfl, rfl, rfl, E⟩)
              replace E := EE
              clear EE
              refine z_icmp_ne (tgt := 86) hC dX11_away_79 (by decide) (fun c35 => ?_) (fun c35 => ?_)
              · replace E := E.1 c35
                refine z_iconst (v := 0) hC dX11_away_86 rfl ?_
                refine z_sub [] rfl ?_
                exact hK29 (0 : Int32) E
              · replace E := E.2 c35
                refine z_iconst (v := 1) hC dX11_away_82 rfl ?_
                refine z_goto (tgt := 87) hC dX11_away_83 (by decide) ?_
                refine z_sub [] rfl ?_
                exact hK29 (1 : Int32) E
          · replace E := E.2 c20
            refine z_aload_n hC dX11_away_45 rfl 0 rfl ?_
            refine z_get hC lf_X11_28_11 (kX_0 hF) dX11_away_46 (fV_ref rfl (rX_0_4 hF)) ?_
            refine z_iload_n hC dX11_away_49 rfl 1 rfl ?_
            refine z_iload_n hC dX11_away_50 rfl 2 rfl ?_
            refine z_iconst (v := 1) hC dX11_away_51 rfl ?_
            refine z_iload_n hC dX11_away_52 rfl 3 rfl ?_
            refine z_if_ne (tgt := 60) hC dX11_away_53 (by decide) (fun c36 => ?_) (fun c36 => ?_)
            · replace E := E.1 c36
              refine z_iconst (v := 0) hC dX11_away_60 rfl ?_
              refine z_callV (ci := 0) (rest := []) hC (ck_mk lk_X11_214 in_X0_countWith cd_X0_countWith ds_X0_countWith (Nat.le_of_ble_eq_true rfl) (Nat.le_of_ble_eq_true rfl)) iy_X0_countWith sy_X0_countWith cf_0 (by decide) (kX_7 hF) (ct_X0_countWith hF E) rfl rfl (Nat.le_of_ble_eq_true rfl) ⟨Nat.le_refl _, Nat.le_refl _⟩ dX11_away_61 ?_
              rintro _ _ _ ⟨v37, rfl, rfl, rfl, E⟩
              exact z_iret hC dX11_away_64 (Nat.le_refl _) (Nat.le_refl _) ⟨_, rfl, rfl, rfl, E⟩
            · replace E := E.2 c36
              refine z_iconst (v := 1) hC dX11_away_56 rfl ?_
              refine z_goto (tgt := 61) hC dX11_away_57 (by decide) ?_
              refine z_callV (ci := 0) (rest := []) hC (ck_mk lk_X11_214 in_X0_countWith cd_X0_countWith ds_X0_countWith (Nat.le_of_ble_eq_true rfl) (Nat.le_of_ble_eq_true rfl)) iy_X0_countWith sy_X0_countWith cf_0 (by decide) (kX_7 hF) (ct_X0_countWith hF E) rfl rfl (Nat.le_of_ble_eq_true rfl) ⟨Nat.le_refl _, Nat.le_refl _⟩ dX11_away_61 ?_
              rintro _ _ _ ⟨v42, rfl, rfl, rfl, E⟩
              exact z_iret hC dX11_away_64 (Nat.le_refl _) (Nat.le_refl _) ⟨_, rfl, rfl, rfl, E⟩
        · replace E := E.2 c19
          refine z_bipush (v := -2) hC dX11_away_37 rfl ?_
          exact z_iret hC dX11_away_39 (Nat.le_refl _) (Nat.le_refl _) ⟨_, rfl, rfl, rfl, E⟩
      · replace E := E.2 c18
        refine z_iconst (v := -1) hC dX11_away_30 rfl ?_
        exact z_iret hC dX11_away_31 (Nat.le_refl _) (Nat.le_refl _) ⟨_, rfl, rfl, rfl, E⟩
def v_thousandths (t kd : Nat) (a1 : Int32) (D : Dy) (post : Int32 → Prop) : Prop :=
  (kd = 0 → fX4_thousandths t 0 a1 D post) ∧ (kd = 1 → fX4_thousandths t 1 a1 D post) ∧ (kd = 2 → fX4_thousandths t 2 a1 D post) ∧ (kd = 3 → fX4_thousandths t 3 a1 D post) ∧ (kd = 4 → fX4_thousandths t 4 a1 D post) ∧ (kd = 5 → fX4_thousandths t 5 a1 D post)
theorem v_thousandths_0 {t : Nat} {a1 : Int32} {D : Dy} {post : Int32 → Prop} (h : fX4_thousandths t 0 a1 D post) : v_thousandths t 0 a1 D post := ⟨fun _ => h, fun q => absurd q (by decide), fun q => absurd q (by decide), fun q => absurd q (by decide), fun q => absurd q (by decide), fun q => absurd q (by decide)⟩
theorem v_thousandths_1 {t : Nat} {a1 : Int32} {D : Dy} {post : Int32 → Prop} (h : fX4_thousandths t 1 a1 D post) : v_thousandths t 1 a1 D post := ⟨fun q => absurd q (by decide), fun _ => h, fun q => absurd q (by decide), fun q => absurd q (by decide), fun q => absurd q (by decide), fun q => absurd q (by decide)⟩
theorem v_thousandths_2 {t : Nat} {a1 : Int32} {D : Dy} {post : Int32 → Prop} (h : fX4_thousandths t 2 a1 D post) : v_thousandths t 2 a1 D post := ⟨fun q => absurd q (by decide), fun q => absurd q (by decide), fun _ => h, fun q => absurd q (by decide), fun q => absurd q (by decide), fun q => absurd q (by decide)⟩
theorem v_thousandths_3 {t : Nat} {a1 : Int32} {D : Dy} {post : Int32 → Prop} (h : fX4_thousandths t 3 a1 D post) : v_thousandths t 3 a1 D post := ⟨fun q => absurd q (by decide), fun q => absurd q (by decide), fun q => absurd q (by decide), fun _ => h, fun q => absurd q (by decide), fun q => absurd q (by decide)⟩
theorem v_thousandths_4 {t : Nat} {a1 : Int32} {D : Dy} {post : Int32 → Prop} (h : fX4_thousandths t 4 a1 D post) : v_thousandths t 4 a1 D post := ⟨fun q => absurd q (by decide), fun q => absurd q (by decide), fun q => absurd q (by decide), fun q => absurd q (by decide), fun _ => h, fun q => absurd q (by decide)⟩
theorem v_thousandths_5 {t : Nat} {a1 : Int32} {D : Dy} {post : Int32 → Prop} (h : fX4_thousandths t 5 a1 D post) : v_thousandths t 5 a1 D post := ⟨fun q => absurd q (by decide), fun q => absurd q (by decide), fun q => absurd q (by decide), fun q => absurd q (by decide), fun q => absurd q (by decide), fun _ => h⟩
theorem cu_X11_307_0 : CU RX4 RX4 ⟨"WhyChosen$Model", "thousandths", "(I)I"⟩ yX4_thousandths := ⟨tw_754, tw_753, iy_X4_thousandths, iy_X4_thousandths, ⟨_, _, _, cd_X4_thousandths⟩, by decide +kernel, by decide +kernel⟩
theorem cu_X11_307_1 : CU RX7 RX4 ⟨"WhyChosen$Model", "thousandths", "(I)I"⟩ yX4_thousandths := ⟨tw_754, tw_758, iy_X4_thousandths, iy_X4_thousandths, ⟨_, _, _, cd_X4_thousandths⟩, by decide +kernel, by decide +kernel⟩
theorem cu_X11_307_2 : CU RX5 RX4 ⟨"WhyChosen$Model", "thousandths", "(I)I"⟩ yX4_thousandths := ⟨tw_754, tw_757, iy_X4_thousandths, iy_X4_thousandths, ⟨_, _, _, cd_X4_thousandths⟩, by decide +kernel, by decide +kernel⟩
theorem cu_X11_307_3 : CU RX3 RX4 ⟨"WhyChosen$Model", "thousandths", "(I)I"⟩ yX4_thousandths := ⟨tw_754, tw_756, iy_X4_thousandths, iy_X4_thousandths, ⟨_, _, _, cd_X4_thousandths⟩, by decide +kernel, by decide +kernel⟩
theorem cu_X11_307_4 : CU RX2 RX4 ⟨"WhyChosen$Model", "thousandths", "(I)I"⟩ yX4_thousandths := ⟨tw_754, tw_755, iy_X4_thousandths, iy_X4_thousandths, ⟨_, _, _, cd_X4_thousandths⟩, by decide +kernel, by decide +kernel⟩
theorem cu_X11_307_5 : CU RX8 RX4 ⟨"WhyChosen$Model", "thousandths", "(I)I"⟩ yX4_thousandths := ⟨tw_754, tw_759, iy_X4_thousandths, iy_X4_thousandths, ⟨_, _, _, cd_X4_thousandths⟩, by decide +kernel, by decide +kernel⟩
theorem lk_X11_307 : Cond.methodLink RX11 307 ⟨"WhyChosen$Model", "thousandths", "(I)I"⟩ ∈ TB := tw_751
section ZVV
variable {p : Program} {l : Launch} {e : Env} {R : Room} {s : State} {m : MethodId} {args : Array Value} {below : List Frame} {meth : Method} {c : Code} {nL : Nat} {k n : Nat} {Q : State → Prop} {pc : Nat} {lv : List (Nat × Value)} {st : List Value}
variable {G : Gl} {cc : ByteArray} {own : String} {ret : Option FieldType} {A : Nat → Prop} {S S' S0 : Sh} {D D' : Dy} {a N : Nat} {Wp : Heap → List Loc → Prop}

set_option maxRecDepth 100000 in
theorem zv_X11_307 (hC : CX G cc RX11 nL ret p s m args meth c) {mdl : Nat → Option (Nat × Nat)} (hF : FX S mdl) {t kd : Nat} (hM : FMo S t kd) (hk : kd < 6) {a1 : Int32} {post : Int32 → Prop} (E : v_thousandths t kd a1 D post) {rest : List Value} (hstk : st = List.reverse [.int a1] ++ .ref (G.1 + (t + 9)) :: rest) (hrm : (rest.map fun v => v.category).sum ≤ 8) (hR : 0 + 1 ≤ R.frames ∧ 8 + (2 + 11) + 60 * 0 ≤ R.locals) (hkn : k + 0 ≤ R.cells ∧ n + 0 ≤ R.slots) (hd : decode cc pc = .ok (.invokevirtual 307, 3)) (kz : ∀ v S1 D1, (PIr S D post) v S1 D1 → Z p l e R s m args below meth c nL (WM G s A S1 D1) (k + 0) (n + 0) Q (pc + 3) lv (v.toList ++ rest)) : Z p l e R s m args below meth c nL (WM G s A S D) k n Q pc lv st := by
  obtain rfl | rfl | rfl | rfl | rfl | rfl : kd = 0 ∨ kd = 1 ∨ kd = 2 ∨ kd = 3 ∨ kd = 4 ∨ kd = 5 := by omega
  · exact z_callU (ci := 4) (C := RX4) (owner := RX4) (x := ⟨"WhyChosen$Model", "thousandths", "(I)I"⟩) (av := [.int a1]) hC lk_X11_307 in_X4_thousandths cd_X4_thousandths dn_X4_thousandths (by omega) cu_X11_307_0 cf_4 (by decide) (kO hM) (ct_X4_thousandths hF hM (E.1 rfl)) rfl hstk hrm hkn hd kz
  · exact z_callU (ci := 7) (C := RX7) (owner := RX4) (x := ⟨"WhyChosen$Model", "thousandths", "(I)I"⟩) (av := [.int a1]) hC lk_X11_307 in_X4_thousandths cd_X4_thousandths dn_X4_thousandths (by omega) cu_X11_307_1 cf_7 (by decide) (kO hM) (ct_X4_thousandths hF hM (E.2.1 rfl)) rfl hstk hrm hkn hd kz
  · exact z_callU (ci := 5) (C := RX5) (owner := RX4) (x := ⟨"WhyChosen$Model", "thousandths", "(I)I"⟩) (av := [.int a1]) hC lk_X11_307 in_X4_thousandths cd_X4_thousandths dn_X4_thousandths (by omega) cu_X11_307_2 cf_5 (by decide) (kO hM) (ct_X4_thousandths hF hM (E.2.2.1 rfl)) rfl hstk hrm hkn hd kz
  · exact z_callU (ci := 3) (C := RX3) (owner := RX4) (x := ⟨"WhyChosen$Model", "thousandths", "(I)I"⟩) (av := [.int a1]) hC lk_X11_307 in_X4_thousandths cd_X4_thousandths dn_X4_thousandths (by omega) cu_X11_307_3 cf_3 (by decide) (kO hM) (ct_X4_thousandths hF hM (E.2.2.2.1 rfl)) rfl hstk hrm hkn hd kz
  · exact z_callU (ci := 2) (C := RX2) (owner := RX4) (x := ⟨"WhyChosen$Model", "thousandths", "(I)I"⟩) (av := [.int a1]) hC lk_X11_307 in_X4_thousandths cd_X4_thousandths dn_X4_thousandths (by omega) cu_X11_307_4 cf_2 (by decide) (kO hM) (ct_X4_thousandths hF hM (E.2.2.2.2.1 rfl)) rfl hstk hrm hkn hd kz
  · exact z_callU (ci := 8) (C := RX8) (owner := RX4) (x := ⟨"WhyChosen$Model", "thousandths", "(I)I"⟩) (av := [.int a1]) hC lk_X11_307 in_X4_thousandths cd_X4_thousandths dn_X4_thousandths (by omega) cu_X11_307_5 cf_8 (by decide) (kO hM) (ct_X4_thousandths hF hM (E.2.2.2.2.2 rfl)) rfl hstk hrm hkn hd kz
end ZVV
def fX11_coinOfShares (t : Nat) (kd : Nat) (a2 : Int32) (D : Dy) (post : Int32 → Prop) : Prop :=
  (LP2 (fun (rec3 : Int32 → Int32 → Prop) (v1 : Int32) (v2 : Int32) => (((D.1 1 3) ≤ v2 → post v1) ∧ (¬ (D.1 1 3) ≤ v2 → (fX11_isIn v2 a2 (fun (v7 : Int32) => (JN (fun (v11 : Int32) => (∀ v14 : Int32, v14 = v2 + 1 → (rec3 v11 v14))) (fun K12 : Int32 → Prop => ((v7 = 0 → (K12 v1)) ∧ (¬ v7 = 0 → (vp_in v2 6 ∧ (v_thousandths t kd v2 D (fun (v17 : Int32) => (∀ v22 : Int32, v22 = (v1 + ((D.1 3 (v2).toNatClampNeg) * v17)) → (K12 v22)))))))))))))) FU (0 : Int32) (0 : Int32))
set_option maxHeartbeats 4000000 in
set_option maxRecDepth 100000 in
theorem ct_X11_coinOfShares {l : Launch} {G : Gl} {S : Sh} {D : Dy} {mdl : Nat → Option (Nat × Nat)} (hF : FX S mdl) {t kd : Nat} (hM : FMo S t kd) {a2 : Int32} {post : Int32 → Prop} (E : fX11_coinOfShares t kd a2 D post) : Ct l G yX11_coinOfShares cX11_coinOfShares 5 (some .int) 1 0 0 S D [.ref (G.1 + 0), .ref (G.1 + (t + 9)), .int a2] (PIr S D post) := by
  refine z_enter (lv0 := [(0, .ref (G.1 + 0)), (1, .ref (G.1 + (t + 9))), (2, .int a2)]) pl_11 (Nat.le_of_ble_eq_true rfl) rfl ?_
  intro p e s m args below meth c hC hnm
  unfold fX11_coinOfShares at E
  have hT := hM.ft
  refine z_iconst (v := 0) hC dX11_coinOfShares_0 rfl ?_
  refine z_istore_n (lv' := [(3, .int (0 : Int32)), (0, .ref (G.1 + 0)), (1, .ref (G.1 + (t + 9))), (2, .int a2)]) hC dX11_coinOfShares_1 rfl (Nat.le_of_ble_eq_true rfl) rfl ?_
  refine z_iconst (v := 0) hC dX11_coinOfShares_2 rfl ?_
  refine z_istore (lv' := [(4, .int (0 : Int32)), (3, .int (0 : Int32)), (0, .ref (G.1 + 0)), (1, .ref (G.1 + (t + 9))), (2, .int a2)]) hC dX11_coinOfShares_3 (Nat.le_of_ble_eq_true rfl) rfl ?_
  refine z_sub [2, 3, 4, 1, 0] rfl ?_
  refine LP2_use (fun (v1 : Int32) (v2 : Int32) => ZM l G p e s m args below meth c 5 1 S (PIr S D post) S D 5 [(0, .ref (G.1 + 0)), (1, .ref (G.1 + (t + 9))), (2, .int a2), (3, .int v1), (4, .int v2)] []) ?_ FU (0 : Int32) (0 : Int32) E
  intro rec3 hrec4 v1 v2 E
  refine z_iload hC dX11_coinOfShares_5 4 rfl ?_
  refine z_aload_n hC dX11_coinOfShares_7 rfl 0 rfl ?_
  refine z_get hC lf_X11_12_11 (kX_0 hF) dX11_coinOfShares_8 (fV_ref rfl (rX_0_0 hF)) ?_
  refine z_get hC lf_X11_224_1 (kX_1 hF) dX11_coinOfShares_11 (fV_int rfl) ?_
  refine z_icmp_ge (tgt := 52) hC dX11_coinOfShares_14 (by decide) (fun c5 => ?_) (fun c5 => ?_)
  · replace E := E.1 c5
    refine z_iload_n hC dX11_coinOfShares_52 rfl 3 rfl ?_
    exact z_iret hC dX11_coinOfShares_53 (Nat.le_refl _) (Nat.le_refl _) ⟨_, rfl, rfl, rfl, E⟩
  · replace E := E.2 c5
    refine z_iload hC dX11_coinOfShares_17 4 rfl ?_
    refine z_iload_n hC dX11_coinOfShares_19 rfl 2 rfl ?_
    refine z_callS (rest := []) hC (ck_mk lk_X11_199 in_X11_isIn cd_X11_isIn ds_X11_isIn (Nat.le_of_ble_eq_true rfl) (Nat.le_of_ble_eq_true rfl)) st_X11_isIn (ct_X11_isIn hF E) rfl rfl (Nat.le_of_ble_eq_true rfl) ⟨Nat.le_refl _, Nat.le_refl _⟩ dX11_coinOfShares_20 ?_
    rintro _ _ _ ⟨v7, rfl, rfl, rfl, E⟩
    obtain ⟨K12, hK13, EE⟩ := JN_use E (fun K12 : Int32 → Prop => ∀ (v11 : Int32), K12 v11 → ZM l G p e s m args below meth c 5 1 S (PIr S D post) S D 46 [(0, .ref (G.1 + 0)), (1, .ref (G.1 + (t + 9))), (2, .int a2), (3, .int v11), (4, .int v2)] []) (by
      intro v11 E
      obtain ⟨v14, h15⟩ : ∃ y : Int32, y = v2 + 1 := ⟨_, rfl⟩
      replace E := E v14 h15
      refine z_iinc (q := 4) (v := v14) (lv' := [(4, .int v14), (0, .ref (G.1 + 0)), (1, .ref (G.1 + (t + 9))), (2, .int a2), (3, .int v11)]) hC dX11_coinOfShares_46 rfl (by rw [h15]; rfl) (Nat.le_of_ble_eq_true rfl) rfl ?_
      refine z_goto (tgt := 5) hC dX11_coinOfShares_49 (by decide) ?_
      refine z_sub [1, 2, 3, 4, 0] rfl ?_
      exact hrec4 v11 v14 E)
    replace E := EE
    clear EE
    refine z_if_eq (tgt := 46) hC dX11_coinOfShares_23 (by decide) (fun c16 => ?_) (fun c16 => ?_)
    · replace E := E.1 c16
      exact hK13 v1 E
    · replace E := E.2 c16
      refine z_iload_n hC dX11_coinOfShares_26 rfl 3 rfl ?_
      refine z_aload_n hC dX11_coinOfShares_27 rfl 0 rfl ?_
      refine z_get hC lf_X11_12_11 (kX_0 hF) dX11_coinOfShares_28 (fV_ref rfl (rX_0_0 hF)) ?_
      refine z_get hC lf_X11_88_1 (kX_1 hF) dX11_coinOfShares_31 (fV_ref rfl (rX_1_1 hF)) ?_
      refine z_iload hC dX11_coinOfShares_34 4 rfl ?_
      refine z_iald hC (kX_3 hF) (nX_3 hF) E.1 dX11_coinOfShares_36 ?_
      replace E := E.2
      refine z_aload_n hC dX11_coinOfShares_37 rfl 1 rfl ?_
      refine z_iload hC dX11_coinOfShares_38 4 rfl ?_
      refine zv_X11_307 (rest := [.int (D.1 3 (v2).toNatClampNeg), .int v1]) hC hF hM (by have := hM.kd; omega) E rfl (Nat.le_of_ble_eq_true rfl) ⟨Nat.le_of_ble_eq_true rfl, Nat.le_of_ble_eq_true rfl⟩ ⟨Nat.le_refl _, Nat.le_refl _⟩ dX11_coinOfShares_40 ?_
      rintro _ _ _ ⟨v17, rfl, rfl, rfl, E⟩
      refine z_imul hC dX11_coinOfShares_43 ?_
      refine z_iadd hC dX11_coinOfShares_44 ?_
      refine z_topi (fun v22 h23 => ?_)
      replace E := E v22 h23
      refine z_istore_n (lv' := [(3, .int v22), (0, .ref (G.1 + 0)), (1, .ref (G.1 + (t + 9))), (2, .int a2), (4, .int v2)]) hC dX11_coinOfShares_45 rfl (Nat.le_of_ble_eq_true rfl) rfl ?_
      refine z_sub [1, 2, 3, 0, 4] rfl ?_
      exact hK13 v22 E
def v_share (t kd : Nat) (a2 : Int32) (a3 : Int32) (D : Dy) (post : Dy → Prop) : Prop :=
  (kd = 0 → fX4_share t a2 a3 D post) ∧ (kd = 1 → fX7_share t 1 a2 a3 D post) ∧ (kd = 2 → fX5_share t a2 a3 D post) ∧ (kd = 3 → fX3_share t a2 a3 D post) ∧ (kd = 4 → fX2_share t a2 a3 D post) ∧ (kd = 5 → fX8_share t a2 a3 D post)
theorem v_share_0 {t : Nat} {a2 : Int32} {a3 : Int32} {D : Dy} {post : Dy → Prop} (h : fX4_share t a2 a3 D post) : v_share t 0 a2 a3 D post := ⟨fun _ => h, fun q => absurd q (by decide), fun q => absurd q (by decide), fun q => absurd q (by decide), fun q => absurd q (by decide), fun q => absurd q (by decide)⟩
theorem v_share_1 {t : Nat} {a2 : Int32} {a3 : Int32} {D : Dy} {post : Dy → Prop} (h : fX7_share t 1 a2 a3 D post) : v_share t 1 a2 a3 D post := ⟨fun q => absurd q (by decide), fun _ => h, fun q => absurd q (by decide), fun q => absurd q (by decide), fun q => absurd q (by decide), fun q => absurd q (by decide)⟩
theorem v_share_2 {t : Nat} {a2 : Int32} {a3 : Int32} {D : Dy} {post : Dy → Prop} (h : fX5_share t a2 a3 D post) : v_share t 2 a2 a3 D post := ⟨fun q => absurd q (by decide), fun q => absurd q (by decide), fun _ => h, fun q => absurd q (by decide), fun q => absurd q (by decide), fun q => absurd q (by decide)⟩
theorem v_share_3 {t : Nat} {a2 : Int32} {a3 : Int32} {D : Dy} {post : Dy → Prop} (h : fX3_share t a2 a3 D post) : v_share t 3 a2 a3 D post := ⟨fun q => absurd q (by decide), fun q => absurd q (by decide), fun q => absurd q (by decide), fun _ => h, fun q => absurd q (by decide), fun q => absurd q (by decide)⟩
theorem v_share_4 {t : Nat} {a2 : Int32} {a3 : Int32} {D : Dy} {post : Dy → Prop} (h : fX2_share t a2 a3 D post) : v_share t 4 a2 a3 D post := ⟨fun q => absurd q (by decide), fun q => absurd q (by decide), fun q => absurd q (by decide), fun q => absurd q (by decide), fun _ => h, fun q => absurd q (by decide)⟩
theorem v_share_5 {t : Nat} {a2 : Int32} {a3 : Int32} {D : Dy} {post : Dy → Prop} (h : fX8_share t a2 a3 D post) : v_share t 5 a2 a3 D post := ⟨fun q => absurd q (by decide), fun q => absurd q (by decide), fun q => absurd q (by decide), fun q => absurd q (by decide), fun q => absurd q (by decide), fun _ => h⟩
theorem cu_X11_150_0 : CU RX4 RX4 ⟨"WhyChosen$Model", "share", "(LWhyChosen$Goods;II)V"⟩ yX4_share := ⟨tw_640, tw_639, iy_X4_share, iy_X4_share, ⟨_, _, _, cd_X4_share⟩, by decide +kernel, by decide +kernel⟩
theorem cu_X11_150_1 : CU RX7 RX4 ⟨"WhyChosen$Model", "share", "(LWhyChosen$Goods;II)V"⟩ yX7_share := ⟨tw_640, tw_719, iy_X7_share, iy_X4_share, ⟨_, _, _, cd_X4_share⟩, by decide +kernel, by decide +kernel⟩
theorem cu_X11_150_2 : CU RX5 RX4 ⟨"WhyChosen$Model", "share", "(LWhyChosen$Goods;II)V"⟩ yX5_share := ⟨tw_640, tw_704, iy_X5_share, iy_X4_share, ⟨_, _, _, cd_X4_share⟩, by decide +kernel, by decide +kernel⟩
theorem cu_X11_150_3 : CU RX3 RX4 ⟨"WhyChosen$Model", "share", "(LWhyChosen$Goods;II)V"⟩ yX3_share := ⟨tw_640, tw_690, iy_X3_share, iy_X4_share, ⟨_, _, _, cd_X4_share⟩, by decide +kernel, by decide +kernel⟩
theorem cu_X11_150_4 : CU RX2 RX4 ⟨"WhyChosen$Model", "share", "(LWhyChosen$Goods;II)V"⟩ yX2_share := ⟨tw_640, tw_641, iy_X2_share, iy_X4_share, ⟨_, _, _, cd_X4_share⟩, by decide +kernel, by decide +kernel⟩
theorem cu_X11_150_5 : CU RX8 RX4 ⟨"WhyChosen$Model", "share", "(LWhyChosen$Goods;II)V"⟩ yX8_share := ⟨tw_640, tw_720, iy_X8_share, iy_X4_share, ⟨_, _, _, cd_X4_share⟩, by decide +kernel, by decide +kernel⟩
theorem lk_X11_150 : Cond.methodLink RX11 150 ⟨"WhyChosen$Model", "share", "(LWhyChosen$Goods;II)V"⟩ ∈ TB := tw_637
section ZVV
variable {p : Program} {l : Launch} {e : Env} {R : Room} {s : State} {m : MethodId} {args : Array Value} {below : List Frame} {meth : Method} {c : Code} {nL : Nat} {k n : Nat} {Q : State → Prop} {pc : Nat} {lv : List (Nat × Value)} {st : List Value}
variable {G : Gl} {cc : ByteArray} {own : String} {ret : Option FieldType} {A : Nat → Prop} {S S' S0 : Sh} {D D' : Dy} {a N : Nat} {Wp : Heap → List Loc → Prop}

set_option maxRecDepth 100000 in
theorem zv_X11_150 (hC : CX G cc RX11 nL ret p s m args meth c) {mdl : Nat → Option (Nat × Nat)} (hF : FX S mdl) {t kd : Nat} (hM : FMo S t kd) (hk : kd < 6) {a2 : Int32} {a3 : Int32} {post : Dy → Prop} (E : v_share t kd a2 a3 D post) {rest : List Value} (hstk : st = List.reverse [.ref (G.1 + 1), .int a2, .int a3] ++ .ref (G.1 + (t + 9)) :: rest) (hrm : (rest.map fun v => v.category).sum ≤ 8) (hR : 3 + 1 ≤ R.frames ∧ 8 + (19 + 11) + 60 * 3 ≤ R.locals) (hkn : k + 0 ≤ R.cells ∧ n + 0 ≤ R.slots) (hd : decode cc pc = .ok (.invokevirtual 150, 3)) (kz : ∀ v S1 D1, (PV S post) v S1 D1 → Z p l e R s m args below meth c nL (WM G s A S1 D1) (k + 0) (n + 0) Q (pc + 3) lv (v.toList ++ rest)) : Z p l e R s m args below meth c nL (WM G s A S D) k n Q pc lv st := by
  obtain rfl | rfl | rfl | rfl | rfl | rfl : kd = 0 ∨ kd = 1 ∨ kd = 2 ∨ kd = 3 ∨ kd = 4 ∨ kd = 5 := by omega
  · exact z_callU (ci := 4) (C := RX4) (owner := RX4) (x := ⟨"WhyChosen$Model", "share", "(LWhyChosen$Goods;II)V"⟩) (av := [.ref (G.1 + 1), .int a2, .int a3]) hC lk_X11_150 in_X4_share cd_X4_share dn_X4_share (by omega) cu_X11_150_0 cf_4 (by decide) (kO hM) (ct_X4_share hF hM (E.1 rfl)) rfl hstk hrm hkn hd kz
  · exact z_callU (ci := 7) (C := RX7) (owner := RX4) (x := ⟨"WhyChosen$Model", "share", "(LWhyChosen$Goods;II)V"⟩) (av := [.ref (G.1 + 1), .int a2, .int a3]) hC lk_X11_150 in_X7_share cd_X7_share dn_X7_share (by omega) cu_X11_150_1 cf_7 (by decide) (kO hM) (ct_X7_share hF hM (by decide) (E.2.1 rfl)) rfl hstk hrm hkn hd kz
  · exact z_callU (ci := 5) (C := RX5) (owner := RX4) (x := ⟨"WhyChosen$Model", "share", "(LWhyChosen$Goods;II)V"⟩) (av := [.ref (G.1 + 1), .int a2, .int a3]) hC lk_X11_150 in_X5_share cd_X5_share dn_X5_share (by omega) cu_X11_150_2 cf_5 (by decide) (kO hM) (ct_X5_share hF hM (E.2.2.1 rfl)) rfl hstk hrm hkn hd kz
  · exact z_callU (ci := 3) (C := RX3) (owner := RX4) (x := ⟨"WhyChosen$Model", "share", "(LWhyChosen$Goods;II)V"⟩) (av := [.ref (G.1 + 1), .int a2, .int a3]) hC lk_X11_150 in_X3_share cd_X3_share dn_X3_share (by omega) cu_X11_150_3 cf_3 (by decide) (kO hM) (ct_X3_share hF hM (E.2.2.2.1 rfl)) rfl hstk hrm hkn hd kz
  · exact z_callU (ci := 2) (C := RX2) (owner := RX4) (x := ⟨"WhyChosen$Model", "share", "(LWhyChosen$Goods;II)V"⟩) (av := [.ref (G.1 + 1), .int a2, .int a3]) hC lk_X11_150 in_X2_share cd_X2_share dn_X2_share (by omega) cu_X11_150_4 cf_2 (by decide) (kO hM) (ct_X2_share hF hM (E.2.2.2.2.1 rfl)) rfl hstk hrm hkn hd kz
  · exact z_callU (ci := 8) (C := RX8) (owner := RX4) (x := ⟨"WhyChosen$Model", "share", "(LWhyChosen$Goods;II)V"⟩) (av := [.ref (G.1 + 1), .int a2, .int a3]) hC lk_X11_150 in_X8_share cd_X8_share dn_X8_share (by omega) cu_X11_150_5 cf_8 (by decide) (kO hM) (ct_X8_share hF hM (E.2.2.2.2.2 rfl)) rfl hstk hrm hkn hd kz
end ZVV
def fX11_coinOf (t : Nat) (kd : Nat) (a2 : Int32) (D : Dy) (post : Int32 → Dy → Prop) : Prop :=
  (LP3 (fun (rec4 : Int32 → Int32 → Dy → Prop) (v1 : Int32) (v2 : Int32) (D3 : Dy) => (((3 : Int32) ≤ v2 → post v1 D3) ∧ (¬ (3 : Int32) ≤ v2 → ((a2 = 0 → post v1 D3) ∧ (¬ a2 = 0 → (vp_in v2 3 ∧ (JN (fun (v8 : Int32) (D9 : Dy) => (∀ v12 : Int32, v12 = v2 + 1 → (rec4 v8 v12 D9))) (fun K10 : Int32 → Dy → Prop => (((D3.1 6 (v2).toNatClampNeg) ≤ 0 → (K10 v1 D3)) ∧ (¬ (D3.1 6 (v2).toNatClampNeg) ≤ 0 → (v_share t kd a2 v2 D3 (fun (D20 : Dy) => (vp_in v2 3 ∧ (fX11_coinOfShares t kd a2 D20 (fun (v21 : Int32) => (∀ v26 : Int32, v26 = (v1 + ((D20.1 6 (v2).toNatClampNeg) * v21)) → (K10 v26 D20))))))))))))))))) FU (0 : Int32) (0 : Int32) D)
set_option maxHeartbeats 4000000 in
set_option maxRecDepth 100000 in
theorem ct_X11_coinOf {l : Launch} {G : Gl} {S : Sh} {D : Dy} {mdl : Nat → Option (Nat × Nat)} (hF : FX S mdl) {t kd : Nat} (hM : FMo S t kd) {a2 : Int32} {post : Int32 → Dy → Prop} (E : fX11_coinOf t kd a2 D post) : Ct l G yX11_coinOf cX11_coinOf 5 (some .int) 4 0 0 S D [.ref (G.1 + 0), .ref (G.1 + (t + 9)), .int a2] (PI S post) := by
  refine z_enter (lv0 := [(0, .ref (G.1 + 0)), (1, .ref (G.1 + (t + 9))), (2, .int a2)]) pl_11 (Nat.le_of_ble_eq_true rfl) rfl ?_
  intro p e s m args below meth c hC hnm
  unfold fX11_coinOf at E
  have hT := hM.ft
  refine z_iconst (v := 0) hC dX11_coinOf_0 rfl ?_
  refine z_istore_n (lv' := [(3, .int (0 : Int32)), (0, .ref (G.1 + 0)), (1, .ref (G.1 + (t + 9))), (2, .int a2)]) hC dX11_coinOf_1 rfl (Nat.le_of_ble_eq_true rfl) rfl ?_
  refine z_iconst (v := 0) hC dX11_coinOf_2 rfl ?_
  refine z_istore (lv' := [(4, .int (0 : Int32)), (3, .int (0 : Int32)), (0, .ref (G.1 + 0)), (1, .ref (G.1 + (t + 9))), (2, .int a2)]) hC dX11_coinOf_3 (Nat.le_of_ble_eq_true rfl) rfl ?_
  refine z_sub [2, 3, 4, 1, 0] rfl ?_
  refine LP3_use (fun (v1 : Int32) (v2 : Int32) (D3 : Dy) => ZM l G p e s m args below meth c 5 4 S (PI S post) S D3 5 [(0, .ref (G.1 + 0)), (1, .ref (G.1 + (t + 9))), (2, .int a2), (3, .int v1), (4, .int v2)] []) ?_ FU (0 : Int32) (0 : Int32) D E
  intro rec4 hrec5 v1 v2 D3 E
  refine z_iload hC dX11_coinOf_5 4 rfl ?_
  refine z_iconst (v := 3) hC dX11_coinOf_7 rfl ?_
  refine z_icmp_ge (tgt := 59) hC dX11_coinOf_8 (by decide) (fun c6 => ?_) (fun c6 => ?_)
  · replace E := E.1 c6
    refine z_iload_n hC dX11_coinOf_59 rfl 3 rfl ?_
    exact z_iret hC dX11_coinOf_60 (Nat.le_refl _) (Nat.le_refl _) ⟨_, rfl, rfl, E⟩
  · replace E := E.2 c6
    refine z_iload_n hC dX11_coinOf_11 rfl 2 rfl ?_
    refine z_if_eq (tgt := 59) hC dX11_coinOf_12 (by decide) (fun c7 => ?_) (fun c7 => ?_)
    · replace E := E.1 c7
      refine z_iload_n hC dX11_coinOf_59 rfl 3 rfl ?_
      exact z_iret hC dX11_coinOf_60 (Nat.le_refl _) (Nat.le_refl _) ⟨_, rfl, rfl, E⟩
    · replace E := E.2 c7
      refine z_aload_n hC dX11_coinOf_15 rfl 0 rfl ?_
      refine z_get hC lf_X11_22_11 (kX_0 hF) dX11_coinOf_16 (fV_ref rfl (rX_0_2 hF)) ?_
      refine z_iload hC dX11_coinOf_19 4 rfl ?_
      refine z_iald hC (kX_6 hF) (nX_6 hF) E.1 dX11_coinOf_21 ?_
      replace E := E.2
      obtain ⟨K10, hK11, EE⟩ := JN_use E (fun K10 : Int32 → Dy → Prop => ∀ (v8 : Int32) (D9 : Dy), K10 v8 D9 → ZM l G p e s m args below meth c 5 4 S (PI S post) S D9 53 [(0, .ref (G.1 + 0)), (1, .ref (G.1 + (t + 9))), (2, .int a2), (3, .int v8), (4, .int v2)] []) (by
        intro v8 D9 E
        obtain ⟨v12, h13⟩ : ∃ y : Int32, y = v2 + 1 := ⟨_, rfl⟩
        replace E := E v12 h13
        refine z_iinc (q := 4) (v := v12) (lv' := [(4, .int v12), (0, .ref (G.1 + 0)), (1, .ref (G.1 + (t + 9))), (2, .int a2), (3, .int v8)]) hC dX11_coinOf_53 rfl (by rw [h13]; rfl) (Nat.le_of_ble_eq_true rfl) rfl ?_
        refine z_goto (tgt := 5) hC dX11_coinOf_56 (by decide) ?_
        refine z_sub [1, 2, 3, 4, 0] rfl ?_
        exact hrec5 v8 v12 D9 E)
      replace E := EE
      clear EE
      refine z_if_le (tgt := 53) hC dX11_coinOf_22 (by decide) (fun c14 => ?_) (fun c14 => ?_)
      · replace E := E.1 c14
        exact hK11 v1 D3 E
      · replace E := E.2 c14
        refine z_aload_n hC dX11_coinOf_25 rfl 1 rfl ?_
        refine z_aload_n hC dX11_coinOf_26 rfl 0 rfl ?_
        refine z_get hC lf_X11_12_11 (kX_0 hF) dX11_coinOf_27 (fV_ref rfl (rX_0_0 hF)) ?_
        refine z_iload_n hC dX11_coinOf_30 rfl 2 rfl ?_
        refine z_iload hC dX11_coinOf_31 4 rfl ?_
        refine zv_X11_150 (rest := []) hC hF hM (by have := hM.kd; omega) E rfl (Nat.le_of_ble_eq_true rfl) ⟨Nat.le_of_ble_eq_true rfl, Nat.le_of_ble_eq_true rfl⟩ ⟨Nat.le_refl _, Nat.le_refl _⟩ dX11_coinOf_33 ?_
        rintro _ _ D20 ⟨rfl, rfl, E⟩
        refine z_iload_n hC dX11_coinOf_36 rfl 3 rfl ?_
        refine z_aload_n hC dX11_coinOf_37 rfl 0 rfl ?_
        refine z_get hC lf_X11_22_11 (kX_0 hF) dX11_coinOf_38 (fV_ref rfl (rX_0_2 hF)) ?_
        refine z_iload hC dX11_coinOf_41 4 rfl ?_
        refine z_iald hC (kX_6 hF) (nX_6 hF) E.1 dX11_coinOf_43 ?_
        replace E := E.2
        refine z_aload_n hC dX11_coinOf_44 rfl 0 rfl ?_
        refine z_aload_n hC dX11_coinOf_45 rfl 1 rfl ?_
        refine z_iload_n hC dX11_coinOf_46 rfl 2 rfl ?_
        refine z_callV (ci := 11) (rest := [.int (D20.1 6 (v2).toNatClampNeg), .int v1]) hC (ck_mk lk_X11_322 in_X11_coinOfShares cd_X11_coinOfShares ds_X11_coinOfShares (Nat.le_of_ble_eq_true rfl) (Nat.le_of_ble_eq_true rfl)) iy_X11_coinOfShares sy_X11_coinOfShares cf_11 (by decide) (kX_0 hF) (ct_X11_coinOfShares hF hM E) rfl rfl (Nat.le_of_ble_eq_true rfl) ⟨Nat.le_refl _, Nat.le_refl _⟩ dX11_coinOf_47 ?_
        rintro _ _ _ ⟨v21, rfl, rfl, rfl, E⟩
        refine z_imul hC dX11_coinOf_50 ?_
        refine z_iadd hC dX11_coinOf_51 ?_
        refine z_topi (fun v26 h27 => ?_)
        replace E := E v26 h27
        refine z_istore_n (lv' := [(3, .int v26), (0, .ref (G.1 + 0)), (1, .ref (G.1 + (t + 9))), (2, .int a2), (4, .int v2)]) hC dX11_coinOf_52 rfl (Nat.le_of_ble_eq_true rfl) rfl ?_
        refine z_sub [1, 2, 3, 0, 4] rfl ?_
        exact hK11 v26 D20 E
def v_prepare (t kd : Nat)  (D : Dy) (post : Dy → Prop) : Prop :=
  (kd = 0 → fX4_prepare t 0 D post) ∧ (kd = 1 → fX4_prepare t 1 D post) ∧ (kd = 2 → fX4_prepare t 2 D post) ∧ (kd = 3 → fX4_prepare t 3 D post) ∧ (kd = 4 → fX4_prepare t 4 D post) ∧ (kd = 5 → fX8_prepare t D post)
theorem v_prepare_0 {t : Nat}  {D : Dy} {post : Dy → Prop} (h : fX4_prepare t 0 D post) : v_prepare t 0 D post := ⟨fun _ => h, fun q => absurd q (by decide), fun q => absurd q (by decide), fun q => absurd q (by decide), fun q => absurd q (by decide), fun q => absurd q (by decide)⟩
theorem v_prepare_1 {t : Nat}  {D : Dy} {post : Dy → Prop} (h : fX4_prepare t 1 D post) : v_prepare t 1 D post := ⟨fun q => absurd q (by decide), fun _ => h, fun q => absurd q (by decide), fun q => absurd q (by decide), fun q => absurd q (by decide), fun q => absurd q (by decide)⟩
theorem v_prepare_2 {t : Nat}  {D : Dy} {post : Dy → Prop} (h : fX4_prepare t 2 D post) : v_prepare t 2 D post := ⟨fun q => absurd q (by decide), fun q => absurd q (by decide), fun _ => h, fun q => absurd q (by decide), fun q => absurd q (by decide), fun q => absurd q (by decide)⟩
theorem v_prepare_3 {t : Nat}  {D : Dy} {post : Dy → Prop} (h : fX4_prepare t 3 D post) : v_prepare t 3 D post := ⟨fun q => absurd q (by decide), fun q => absurd q (by decide), fun q => absurd q (by decide), fun _ => h, fun q => absurd q (by decide), fun q => absurd q (by decide)⟩
theorem v_prepare_4 {t : Nat}  {D : Dy} {post : Dy → Prop} (h : fX4_prepare t 4 D post) : v_prepare t 4 D post := ⟨fun q => absurd q (by decide), fun q => absurd q (by decide), fun q => absurd q (by decide), fun q => absurd q (by decide), fun _ => h, fun q => absurd q (by decide)⟩
theorem v_prepare_5 {t : Nat}  {D : Dy} {post : Dy → Prop} (h : fX8_prepare t D post) : v_prepare t 5 D post := ⟨fun q => absurd q (by decide), fun q => absurd q (by decide), fun q => absurd q (by decide), fun q => absurd q (by decide), fun q => absurd q (by decide), fun _ => h⟩
theorem cu_X11_146_0 : CU RX4 RX4 ⟨"WhyChosen$Model", "prepare", "(LWhyChosen$Goods;)V"⟩ yX4_prepare := ⟨tw_609, tw_608, iy_X4_prepare, iy_X4_prepare, ⟨_, _, _, cd_X4_prepare⟩, by decide +kernel, by decide +kernel⟩
theorem cu_X11_146_1 : CU RX7 RX4 ⟨"WhyChosen$Model", "prepare", "(LWhyChosen$Goods;)V"⟩ yX4_prepare := ⟨tw_609, tw_613, iy_X4_prepare, iy_X4_prepare, ⟨_, _, _, cd_X4_prepare⟩, by decide +kernel, by decide +kernel⟩
theorem cu_X11_146_2 : CU RX5 RX4 ⟨"WhyChosen$Model", "prepare", "(LWhyChosen$Goods;)V"⟩ yX4_prepare := ⟨tw_609, tw_612, iy_X4_prepare, iy_X4_prepare, ⟨_, _, _, cd_X4_prepare⟩, by decide +kernel, by decide +kernel⟩
theorem cu_X11_146_3 : CU RX3 RX4 ⟨"WhyChosen$Model", "prepare", "(LWhyChosen$Goods;)V"⟩ yX4_prepare := ⟨tw_609, tw_611, iy_X4_prepare, iy_X4_prepare, ⟨_, _, _, cd_X4_prepare⟩, by decide +kernel, by decide +kernel⟩
theorem cu_X11_146_4 : CU RX2 RX4 ⟨"WhyChosen$Model", "prepare", "(LWhyChosen$Goods;)V"⟩ yX4_prepare := ⟨tw_609, tw_610, iy_X4_prepare, iy_X4_prepare, ⟨_, _, _, cd_X4_prepare⟩, by decide +kernel, by decide +kernel⟩
theorem cu_X11_146_5 : CU RX8 RX4 ⟨"WhyChosen$Model", "prepare", "(LWhyChosen$Goods;)V"⟩ yX8_prepare := ⟨tw_609, tw_614, iy_X8_prepare, iy_X4_prepare, ⟨_, _, _, cd_X4_prepare⟩, by decide +kernel, by decide +kernel⟩
theorem lk_X11_146 : Cond.methodLink RX11 146 ⟨"WhyChosen$Model", "prepare", "(LWhyChosen$Goods;)V"⟩ ∈ TB := tw_606
section ZVV
variable {p : Program} {l : Launch} {e : Env} {R : Room} {s : State} {m : MethodId} {args : Array Value} {below : List Frame} {meth : Method} {c : Code} {nL : Nat} {k n : Nat} {Q : State → Prop} {pc : Nat} {lv : List (Nat × Value)} {st : List Value}
variable {G : Gl} {cc : ByteArray} {own : String} {ret : Option FieldType} {A : Nat → Prop} {S S' S0 : Sh} {D D' : Dy} {a N : Nat} {Wp : Heap → List Loc → Prop}

set_option maxRecDepth 100000 in
theorem zv_X11_146 (hC : CX G cc RX11 nL ret p s m args meth c) {mdl : Nat → Option (Nat × Nat)} (hF : FX S mdl) {t kd : Nat} (hM : FMo S t kd) (hk : kd < 6)  {post : Dy → Prop} (E : v_prepare t kd D post) {rest : List Value} (hstk : st = List.reverse [.ref (G.1 + 1)] ++ .ref (G.1 + (t + 9)) :: rest) (hrm : (rest.map fun v => v.category).sum ≤ 8) (hR : 5 + 1 ≤ R.frames ∧ 8 + (4 + 11) + 60 * 5 ≤ R.locals) (hkn : k + 0 ≤ R.cells ∧ n + 0 ≤ R.slots) (hd : decode cc pc = .ok (.invokevirtual 146, 3)) (kz : ∀ v S1 D1, (PV S post) v S1 D1 → Z p l e R s m args below meth c nL (WM G s A S1 D1) (k + 0) (n + 0) Q (pc + 3) lv (v.toList ++ rest)) : Z p l e R s m args below meth c nL (WM G s A S D) k n Q pc lv st := by
  obtain rfl | rfl | rfl | rfl | rfl | rfl : kd = 0 ∨ kd = 1 ∨ kd = 2 ∨ kd = 3 ∨ kd = 4 ∨ kd = 5 := by omega
  · exact z_callU (ci := 4) (C := RX4) (owner := RX4) (x := ⟨"WhyChosen$Model", "prepare", "(LWhyChosen$Goods;)V"⟩) (av := [.ref (G.1 + 1)]) hC lk_X11_146 in_X4_prepare cd_X4_prepare dn_X4_prepare (by omega) cu_X11_146_0 cf_4 (by decide) (kO hM) (ct_X4_prepare hF hM (E.1 rfl)) rfl hstk hrm hkn hd kz
  · exact z_callU (ci := 7) (C := RX7) (owner := RX4) (x := ⟨"WhyChosen$Model", "prepare", "(LWhyChosen$Goods;)V"⟩) (av := [.ref (G.1 + 1)]) hC lk_X11_146 in_X4_prepare cd_X4_prepare dn_X4_prepare (by omega) cu_X11_146_1 cf_7 (by decide) (kO hM) (ct_X4_prepare hF hM (E.2.1 rfl)) rfl hstk hrm hkn hd kz
  · exact z_callU (ci := 5) (C := RX5) (owner := RX4) (x := ⟨"WhyChosen$Model", "prepare", "(LWhyChosen$Goods;)V"⟩) (av := [.ref (G.1 + 1)]) hC lk_X11_146 in_X4_prepare cd_X4_prepare dn_X4_prepare (by omega) cu_X11_146_2 cf_5 (by decide) (kO hM) (ct_X4_prepare hF hM (E.2.2.1 rfl)) rfl hstk hrm hkn hd kz
  · exact z_callU (ci := 3) (C := RX3) (owner := RX4) (x := ⟨"WhyChosen$Model", "prepare", "(LWhyChosen$Goods;)V"⟩) (av := [.ref (G.1 + 1)]) hC lk_X11_146 in_X4_prepare cd_X4_prepare dn_X4_prepare (by omega) cu_X11_146_3 cf_3 (by decide) (kO hM) (ct_X4_prepare hF hM (E.2.2.2.1 rfl)) rfl hstk hrm hkn hd kz
  · exact z_callU (ci := 2) (C := RX2) (owner := RX4) (x := ⟨"WhyChosen$Model", "prepare", "(LWhyChosen$Goods;)V"⟩) (av := [.ref (G.1 + 1)]) hC lk_X11_146 in_X4_prepare cd_X4_prepare dn_X4_prepare (by omega) cu_X11_146_4 cf_2 (by decide) (kO hM) (ct_X4_prepare hF hM (E.2.2.2.2.1 rfl)) rfl hstk hrm hkn hd kz
  · exact z_callU (ci := 8) (C := RX8) (owner := RX4) (x := ⟨"WhyChosen$Model", "prepare", "(LWhyChosen$Goods;)V"⟩) (av := [.ref (G.1 + 1)]) hC lk_X11_146 in_X8_prepare cd_X8_prepare dn_X8_prepare (by omega) cu_X11_146_5 cf_8 (by decide) (kO hM) (ct_X8_prepare hF hM (E.2.2.2.2.2 rfl)) rfl hstk hrm hkn hd kz
end ZVV
def fX11_best (mdl : Nat → Option (Nat × Nat)) (a1 : Int32) (a2 : Int32) (a3 : Int32) (D : Dy) (post : Int32 → Dy → Prop) : Prop :=
  (fX11_modelAt mdl a1 D (fun (r4 : Option (Nat × Nat)) => ((r4 = none → post (-1 : Int32) D) ∧ (∀ t kd : Nat, r4 = some (t, kd) → (fX1_has a2 D (fun (v8 : Int32) => ((¬ v8 = 0 → (fX1_hasSome a3 D (fun (v14 : Int32) => ((v14 = 0 → post (-2 : Int32) D) ∧ (¬ v14 = 0 → (fX11_isIn a2 a3 (fun (v20 : Int32) => ((¬ v20 = 0 → (vp_in a2 6 ∧ (∀ v25 : Int32, v25 = (D.1 3 (a2).toNatClampNeg) → (LP4 (fun (rec31 : Int32 → Int32 → Int32 → Dy → Prop) (v27 : Int32) (v28 : Int32) (v29 : Int32) (D30 : Dy) => (((100 : Int32) ≤ v29 → (vp_in a2 6 ∧ (∀ D34 : Dy, D34 = sI D30 3 (a2).toNatClampNeg v25 → post v27 D34))) ∧ (¬ (100 : Int32) ≤ v29 → (vp_in a2 6 ∧ (∀ D36 : Dy, D36 = sI D30 3 (a2).toNatClampNeg v29 → (v_prepare t kd D36 (fun (D43 : Dy) => (fX11_coinOf t kd a3 D43 (fun (v44 : Int32) (D49 : Dy) => (JN (fun (v50 : Int32) (v51 : Int32) => (∀ v54 : Int32, v54 = v29 + 1 → (rec31 v50 v51 v54 D49))) (fun K52 : Int32 → Int32 → Prop => ((v44 ≤ v28 → (K52 v27 v28)) ∧ (¬ v44 ≤ v28 → (K52 v29 v44)))))))))))))) FU (0 : Int32) (-1 : Int32) (0 : Int32) D)))) ∧ (v20 = 0 → post (-2 : Int32) D))))))))) ∧ (v8 = 0 → post (-1 : Int32) D))))))))
set_option maxHeartbeats 4000000 in
set_option maxRecDepth 100000 in
theorem ct_X11_best {l : Launch} {G : Gl} {S : Sh} {D : Dy} {mdl : Nat → Option (Nat × Nat)} (hF : FX S mdl) {a1 : Int32} {a2 : Int32} {a3 : Int32} {post : Int32 → Dy → Prop} (E : fX11_best mdl a1 a2 a3 D post) : Ct l G yX11_best cX11_best 10 (some .int) 6 0 0 S D [.ref (G.1 + 0), .int a1, .int a2, .int a3] (PI S post) := by
  refine z_enter (lv0 := [(0, .ref (G.1 + 0)), (1, .int a1), (2, .int a2), (3, .int a3)]) pl_11 (Nat.le_of_ble_eq_true rfl) rfl ?_
  intro p e s m args below meth c hC hnm
  unfold fX11_best at E
  refine z_aload_n hC dX11_best_0 rfl 0 rfl ?_
  refine z_iload_n hC dX11_best_1 rfl 1 rfl ?_
  refine z_callV (ci := 11) (rest := []) hC (ck_mk lk_X11_130 in_X11_modelAt cd_X11_modelAt ds_X11_modelAt (Nat.le_of_ble_eq_true rfl) (Nat.le_of_ble_eq_true rfl)) iy_X11_modelAt sy_X11_modelAt cf_11 (by decide) (kX_0 hF) (ct_X11_modelAt hF E) rfl rfl (Nat.le_of_ble_eq_true rfl) ⟨Nat.le_refl _, Nat.le_refl _⟩ dX11_best_2 ?_
  rintro _ _ _ ⟨r4, rfl, rfl, rfl, hq_r4, E⟩
  refine z_astoreq (lv' := [(4, va_rf (mq G r4)), (0, .ref (G.1 + 0)), (1, .int a1), (2, .int a2), (3, .int a3)]) hC dX11_best_5 (Nat.le_of_ble_eq_true rfl) rfl ?_
  refine z_aloadq hC dX11_best_7 0 rfl ?_
  refine z_ifnullM (tgt := 23) hC hq_r4 dX11_best_9 (by decide) ?_ ?_
  · intro c6
    replace E := E.1 c6
    refine z_iconst (v := -1) hC dX11_best_23 rfl ?_
    exact z_iret hC dX11_best_24 (Nat.le_refl _) (Nat.le_refl _) ⟨_, rfl, rfl, E⟩
  · intro t kd hM c6
    replace E := E.2 t kd c6
    subst c6
    have hT := hM.ft
    refine z_aload_n hC dX11_best_12 rfl 1 rfl ?_
    refine z_get hC lf_X11_12_11 (kX_0 hF) dX11_best_13 (fV_ref rfl (rX_0_0 hF)) ?_
    refine z_iload_n hC dX11_best_16 rfl 3 rfl ?_
    refine z_callV (ci := 1) (rest := []) hC (ck_mk lk_X11_84 in_X1_has cd_X1_has ds_X1_has (Nat.le_of_ble_eq_true rfl) (Nat.le_of_ble_eq_true rfl)) iy_X1_has sy_X1_has cf_1 (by decide) (kX_1 hF) (ct_X1_has hF E) rfl rfl (Nat.le_of_ble_eq_true rfl) ⟨Nat.le_refl _, Nat.le_refl _⟩ dX11_best_17 ?_
    rintro _ _ _ ⟨v8, rfl, rfl, rfl, E⟩
    refine z_if_ne (tgt := 25) hC dX11_best_20 (by decide) (fun c12 => ?_) (fun c12 => ?_)
    · replace E := E.1 c12
      refine z_aload_n hC dX11_best_25 rfl 1 rfl ?_
      refine z_get hC lf_X11_12_11 (kX_0 hF) dX11_best_26 (fV_ref rfl (rX_0_0 hF)) ?_
      refine z_iload_n hC dX11_best_29 rfl 4 rfl ?_
      refine z_callV (ci := 1) (rest := []) hC (ck_mk lk_X11_143 in_X1_hasSome cd_X1_hasSome ds_X1_hasSome (Nat.le_of_ble_eq_true rfl) (Nat.le_of_ble_eq_true rfl)) iy_X1_hasSome sy_X1_hasSome cf_1 (by decide) (kX_1 hF) (ct_X1_hasSome hF E) rfl rfl (Nat.le_of_ble_eq_true rfl) ⟨Nat.le_refl _, Nat.le_refl _⟩ dX11_best_30 ?_
      rintro _ _ _ ⟨v14, rfl, rfl, rfl, E⟩
      refine z_if_eq (tgt := 44) hC dX11_best_33 (by decide) (fun c18 => ?_) (fun c18 => ?_)
      · replace E := E.1 c18
        refine z_bipush (v := -2) hC dX11_best_44 rfl ?_
        exact z_iret hC dX11_best_46 (Nat.le_refl _) (Nat.le_refl _) ⟨_, rfl, rfl, E⟩
      · replace E := E.2 c18
        refine z_iload_n hC dX11_best_36 rfl 3 rfl ?_
        refine z_iload_n hC dX11_best_37 rfl 4 rfl ?_
        refine z_callS (rest := []) hC (ck_mk lk_X11_199 in_X11_isIn cd_X11_isIn ds_X11_isIn (Nat.le_of_ble_eq_true rfl) (Nat.le_of_ble_eq_true rfl)) st_X11_isIn (ct_X11_isIn hF E) rfl rfl (Nat.le_of_ble_eq_true rfl) ⟨Nat.le_refl _, Nat.le_refl _⟩ dX11_best_38 ?_
        rintro _ _ _ ⟨v20, rfl, rfl, rfl, E⟩
        refine z_if_ne (tgt := 47) hC dX11_best_41 (by decide) (fun c24 => ?_) (fun c24 => ?_)
        · replace E := E.1 c24
          refine z_aload_n hC dX11_best_47 rfl 1 rfl ?_
          refine z_get hC lf_X11_12_11 (kX_0 hF) dX11_best_48 (fV_ref rfl (rX_0_0 hF)) ?_
          refine z_get hC lf_X11_88_1 (kX_1 hF) dX11_best_51 (fV_ref rfl (rX_1_1 hF)) ?_
          refine z_iload_n hC dX11_best_54 rfl 3 rfl ?_
          refine z_iald hC (kX_3 hF) (nX_3 hF) E.1 dX11_best_55 ?_
          replace E := E.2
          refine z_topi (fun v25 h26 => ?_)
          replace E := E v25 h26
          refine z_istore (lv' := [(5, .int v25), (4, .ref (G.1 + (t + 9))), (0, .ref (G.1 + 0)), (1, .int a1), (2, .int a2), (3, .int a3)]) hC dX11_best_56 (Nat.le_of_ble_eq_true rfl) rfl ?_
          refine z_iconst (v := 0) hC dX11_best_58 rfl ?_
          refine z_istore (lv' := [(6, .int (0 : Int32)), (5, .int v25), (4, .ref (G.1 + (t + 9))), (0, .ref (G.1 + 0)), (1, .int a1), (2, .int a2), (3, .int a3)]) hC dX11_best_59 (Nat.le_of_ble_eq_true rfl) rfl ?_
          refine z_iconst (v := -1) hC dX11_best_61 rfl ?_
          refine z_istore (lv' := [(7, .int (-1 : Int32)), (6, .int (0 : Int32)), (5, .int v25), (4, .ref (G.1 + (t + 9))), (0, .ref (G.1 + 0)), (1, .int a1), (2, .int a2), (3, .int a3)]) hC dX11_best_62 (Nat.le_of_ble_eq_true rfl) rfl ?_
          refine z_iconst (v := 0) hC dX11_best_64 rfl ?_
          refine z_istore (lv' := [(8, .int (0 : Int32)), (7, .int (-1 : Int32)), (6, .int (0 : Int32)), (5, .int v25), (4, .ref (G.1 + (t + 9))), (0, .ref (G.1 + 0)), (1, .int a1), (2, .int a2), (3, .int a3)]) hC dX11_best_65 (Nat.le_of_ble_eq_true rfl) rfl ?_
          refine z_sub [5, 7, 8, 4, 3, 2, 1, 0] rfl ?_
          refine LP4_use (fun (v27 : Int32) (v28 : Int32) (v29 : Int32) (D30 : Dy) => ZM l G p e s m args below meth c 10 6 S (PI S post) S D30 67 [(0, .ref (G.1 + 0)), (2, .int a2), (3, .int a3), (4, .ref (G.1 + (t + 9))), (5, .int v25), (6, .int v27), (7, .int v28), (8, .int v29)] []) ?_ FU (0 : Int32) (-1 : Int32) (0 : Int32) D E
          intro rec31 hrec32 v27 v28 v29 D30 E
          refine z_iload hC dX11_best_67 7 rfl ?_
          refine z_bipush (v := 100) hC dX11_best_69 rfl ?_
          refine z_icmp_ge (tgt := 124) hC dX11_best_71 (by decide) (fun c33 => ?_) (fun c33 => ?_)
          · replace E := E.1 c33
            refine z_aload_n hC dX11_best_124 rfl 0 rfl ?_
            refine z_get hC lf_X11_12_11 (kX_0 hF) dX11_best_125 (fV_ref rfl (rX_0_0 hF)) ?_
            refine z_get hC lf_X11_88_1 (kX_1 hF) dX11_best_128 (fV_ref rfl (rX_1_1 hF)) ?_
            refine z_iload_n hC dX11_best_131 rfl 1 rfl ?_
            refine z_iload hC dX11_best_132 4 rfl ?_
            refine z_iast hC (kX_3 hF) (nX_3 hF) E.1 dX11_best_134 ?_
            replace E := E.2
            refine z_topD (fun D34 h35 => ?_)
            replace E := E D34 h35
            refine z_iload hC dX11_best_135 5 rfl ?_
            exact z_iret hC dX11_best_137 (Nat.le_refl _) (Nat.le_refl _) ⟨_, rfl, rfl, E⟩
          · replace E := E.2 c33
            refine z_aload_n hC dX11_best_74 rfl 0 rfl ?_
            refine z_get hC lf_X11_12_11 (kX_0 hF) dX11_best_75 (fV_ref rfl (rX_0_0 hF)) ?_
            refine z_get hC lf_X11_88_1 (kX_1 hF) dX11_best_78 (fV_ref rfl (rX_1_1 hF)) ?_
            refine z_iload_n hC dX11_best_81 rfl 1 rfl ?_
            refine z_iload hC dX11_best_82 7 rfl ?_
            refine z_iast hC (kX_3 hF) (nX_3 hF) E.1 dX11_best_84 ?_
            replace E := E.2
            refine z_topD (fun D36 h37 => ?_)
            replace E := E D36 h37
            refine z_aload hC dX11_best_85 3 rfl ?_
            refine z_aload_n hC dX11_best_87 rfl 0 rfl ?_
            refine z_get hC lf_X11_12_11 (kX_0 hF) dX11_best_88 (fV_ref rfl (rX_0_0 hF)) ?_
            refine zv_X11_146 (rest := []) hC hF hM (by have := hM.kd; omega) E rfl (Nat.le_of_ble_eq_true rfl) ⟨Nat.le_of_ble_eq_true rfl, Nat.le_of_ble_eq_true rfl⟩ ⟨Nat.le_refl _, Nat.le_refl _⟩ dX11_best_91 ?_
            rintro _ _ D43 ⟨rfl, rfl, E⟩
            refine z_aload_n hC dX11_best_94 rfl 0 rfl ?_
            refine z_aload hC dX11_best_95 3 rfl ?_
            refine z_iload_n hC dX11_best_97 rfl 2 rfl ?_
            refine z_callV (ci := 11) (rest := []) hC (ck_mk lk_X11_221 in_X11_coinOf cd_X11_coinOf ds_X11_coinOf (Nat.le_of_ble_eq_true rfl) (Nat.le_of_ble_eq_true rfl)) iy_X11_coinOf sy_X11_coinOf cf_11 (by decide) (kX_0 hF) (ct_X11_coinOf hF hM E) rfl rfl (Nat.le_of_ble_eq_true rfl) ⟨Nat.le_refl _, Nat.le_refl _⟩ dX11_best_98 ?_
            rintro _ _ D49 ⟨v44, rfl, rfl, E⟩
            refine z_istore (lv' := [(9, .int v44), (0, .ref (G.1 + 0)), (2, .int a2), (3, .int a3), (4, .ref (G.1 + (t + 9))), (5, .int v25), (6, .int v27), (7, .int v28), (8, .int v29)]) hC dX11_best_101 (Nat.le_of_ble_eq_true rfl) rfl ?_
            refine z_iload hC dX11_best_103 0 rfl ?_
            refine z_iload hC dX11_best_105 7 rfl ?_
            obtain ⟨K52, hK53, EE⟩ := JN_use E (fun K52 : Int32 → Int32 → Prop => ∀ (v50 : Int32) (v51 : Int32), K52 v50 v51 → ZM l G p e s m args below meth c 10 6 S (PI S post) S D49 118 [(0, .ref (G.1 + 0)), (2, .int a2), (3, .int a3), (4, .ref (G.1 + (t + 9))), (5, .int v25), (6, .int v50), (7, .int v51), (8, .int v29)] []) (by
              intro v50 v51 E
              obtain ⟨v54, h55⟩ : ∃ y : Int32, y = v29 + 1 := ⟨_, rfl⟩
              replace E := E v54 h55
              refine z_iinc (q := 7) (v := v54) (lv' := [(8, .int v54), (0, .ref (G.1 + 0)), (2, .int a2), (3, .int a3), (4, .ref (G.1 + (t + 9))), (5, .int v25), (6, .int v50), (7, .int v51)]) hC dX11_best_118 rfl (by rw [h55]; rfl) (Nat.le_of_ble_eq_true rfl) rfl ?_
              refine z_goto (tgt := 67) hC dX11_best_121 (by decide) ?_
              refine z_sub [1, 2, 3, 4, 5, 6, 7, 0] rfl ?_
              exact hrec32 v50 v51 v54 D49 E)
            replace E := EE
            clear EE
            refine z_icmp_le (tgt := 118) hC dX11_best_107 (by decide) (fun c56 => ?_) (fun c56 => ?_)
            · replace E := E.1 c56
              refine z_sub [1, 2, 3, 4, 5, 6, 7, 8] rfl ?_
              exact hK53 v27 v28 E
            · replace E := E.2 c56
              refine z_iload hC dX11_best_110 0 rfl ?_
              refine z_istore (lv' := [(7, .int v44), (9, .int v44), (0, .ref (G.1 + 0)), (2, .int a2), (3, .int a3), (4, .ref (G.1 + (t + 9))), (5, .int v25), (6, .int v27), (8, .int v29)]) hC dX11_best_112 (Nat.le_of_ble_eq_true rfl) rfl ?_
              refine z_iload hC dX11_best_114 8 rfl ?_
              refine z_istore (lv' := [(6, .int v29), (7, .int v44), (9, .int v44), (0, .ref (G.1 + 0)), (2, .int a2), (3, .int a3), (4, .ref (G.1 + (t + 9))), (5, .int v25), (8, .int v29)]) hC dX11_best_116 (Nat.le_of_ble_eq_true rfl) rfl ?_
              refine z_sub [3, 4, 5, 6, 7, 0, 1, 8] rfl ?_
              exact hK53 v29 v44 E
        · replace E := E.2 c24
          refine z_bipush (v := -2) hC dX11_best_44 rfl ?_
          exact z_iret hC dX11_best_46 (Nat.le_refl _) (Nat.le_refl _) ⟨_, rfl, rfl, E⟩
    · replace E := E.2 c12
      refine z_iconst (v := -1) hC dX11_best_23 rfl ?_
      exact z_iret hC dX11_best_24 (Nat.le_refl _) (Nat.le_refl _) ⟨_, rfl, rfl, E⟩
def fX11_tellChoice (a1 : Int32) (a2 : Int32) (a3 : Int32) (D : Dy) (post : Int32 → Dy → Prop) : Prop :=
  (fX1_hasSome a2 D (fun (v2 : Int32) => ((v2 = 0 → post (-2 : Int32) D) ∧ (¬ v2 = 0 → (((-1 : Int32) ≤ a3 → (JN (((0 ≤ a3 → (fX0_add a1 a2 a3 D (fun (v11 : Int32) (D16 : Dy) => post v11 D16))) ∧ (¬ 0 ≤ a3 → (fX0_add a1 a2 (7 : Int32) D (fun (v17 : Int32) (D22 : Dy) => post v17 D22))))) (fun K8 : Prop => ((a3 < 0 → K8) ∧ (¬ a3 < 0 → (fX1_has a3 D (fun (v25 : Int32) => ((v25 = 0 → post (-2 : Int32) D) ∧ (¬ v25 = 0 → (fX11_isIn a3 a2 (fun (v31 : Int32) => ((¬ v31 = 0 → K8) ∧ (v31 = 0 → post (-2 : Int32) D))))))))))))) ∧ (¬ (-1 : Int32) ≤ a3 → post (-2 : Int32) D))))))
set_option maxHeartbeats 4000000 in
set_option maxRecDepth 100000 in
theorem ct_X11_tellChoice {l : Launch} {G : Gl} {S : Sh} {D : Dy} {mdl : Nat → Option (Nat × Nat)} (hF : FX S mdl) {a1 : Int32} {a2 : Int32} {a3 : Int32} {post : Int32 → Dy → Prop} (E : fX11_tellChoice a1 a2 a3 D post) : Ct l G yX11_tellChoice cX11_tellChoice 4 (some .int) 2 0 0 S D [.ref (G.1 + 0), .int a1, .int a2, .int a3] (PI S post) := by
  refine z_enter (lv0 := [(0, .ref (G.1 + 0)), (1, .int a1), (2, .int a2), (3, .int a3)]) pl_11 (Nat.le_of_ble_eq_true rfl) rfl ?_
  intro p e s m args below meth c hC hnm
  unfold fX11_tellChoice at E
  refine z_aload_n hC dX11_tellChoice_0 rfl 0 rfl ?_
  refine z_get hC lf_X11_12_11 (kX_0 hF) dX11_tellChoice_1 (fV_ref rfl (rX_0_0 hF)) ?_
  refine z_iload_n hC dX11_tellChoice_4 rfl 2 rfl ?_
  refine z_callV (ci := 1) (rest := []) hC (ck_mk lk_X11_143 in_X1_hasSome cd_X1_hasSome ds_X1_hasSome (Nat.le_of_ble_eq_true rfl) (Nat.le_of_ble_eq_true rfl)) iy_X1_hasSome sy_X1_hasSome cf_1 (by decide) (kX_1 hF) (ct_X1_hasSome hF E) rfl rfl (Nat.le_of_ble_eq_true rfl) ⟨Nat.le_refl _, Nat.le_refl _⟩ dX11_tellChoice_5 ?_
  rintro _ _ _ ⟨v2, rfl, rfl, rfl, E⟩
  refine z_if_eq (tgt := 16) hC dX11_tellChoice_8 (by decide) (fun c6 => ?_) (fun c6 => ?_)
  · replace E := E.1 c6
    refine z_bipush (v := -2) hC dX11_tellChoice_16 rfl ?_
    exact z_iret hC dX11_tellChoice_18 (Nat.le_refl _) (Nat.le_refl _) ⟨_, rfl, rfl, E⟩
  · replace E := E.2 c6
    refine z_iload_n hC dX11_tellChoice_11 rfl 3 rfl ?_
    refine z_iconst (v := -1) hC dX11_tellChoice_12 rfl ?_
    refine z_icmp_ge (tgt := 19) hC dX11_tellChoice_13 (by decide) (fun c7 => ?_) (fun c7 => ?_)
    · replace E := E.1 c7
      refine z_iload_n hC dX11_tellChoice_19 rfl 3 rfl ?_
      obtain ⟨K8, hK9, EE⟩ := JN_use E (fun K8 : Prop => K8 → ZM l G p e s m args below meth c 4 2 S (PI S post) S D 45 [(0, .ref (G.1 + 0)), (1, .int a1), (2, .int a2), (3, .int a3)] []) (by
        intro E
        refine z_aload_n hC dX11_tellChoice_45 rfl 0 rfl ?_
        refine z_get hC lf_X11_28_11 (kX_0 hF) dX11_tellChoice_46 (fV_ref rfl (rX_0_4 hF)) ?_
        refine z_iload_n hC dX11_tellChoice_49 rfl 1 rfl ?_
        refine z_iload_n hC dX11_tellChoice_50 rfl 2 rfl ?_
        refine z_iload_n hC dX11_tellChoice_51 rfl 3 rfl ?_
        refine z_if_ge (tgt := 60) hC dX11_tellChoice_52 (by decide) (fun c10 => ?_) (fun c10 => ?_)
        · replace E := E.1 c10
          refine z_iload_n hC dX11_tellChoice_60 rfl 3 rfl ?_
          refine z_callV (ci := 0) (rest := []) hC (ck_mk lk_X11_302 in_X0_add cd_X0_add ds_X0_add (Nat.le_of_ble_eq_true rfl) (Nat.le_of_ble_eq_true rfl)) iy_X0_add sy_X0_add cf_0 (by decide) (kX_7 hF) (ct_X0_add hF E) rfl rfl (Nat.le_of_ble_eq_true rfl) ⟨Nat.le_refl _, Nat.le_refl _⟩ dX11_tellChoice_61 ?_
          rintro _ _ D16 ⟨v11, rfl, rfl, E⟩
          exact z_iret hC dX11_tellChoice_64 (Nat.le_refl _) (Nat.le_refl _) ⟨_, rfl, rfl, E⟩
        · replace E := E.2 c10
          refine z_bipush (v := 7) hC dX11_tellChoice_55 rfl ?_
          refine z_goto (tgt := 61) hC dX11_tellChoice_57 (by decide) ?_
          refine z_callV (ci := 0) (rest := []) hC (ck_mk lk_X11_302 in_X0_add cd_X0_add ds_X0_add (Nat.le_of_ble_eq_true rfl) (Nat.le_of_ble_eq_true rfl)) iy_X0_add sy_X0_add cf_0 (by decide) (kX_7 hF) (ct_X0_add hF E) rfl rfl (Nat.le_of_ble_eq_true rfl) ⟨Nat.le_refl _, Nat.le_refl _⟩ dX11_tellChoice_61 ?_
          rintro _ _ D22 ⟨v17, rfl, rfl, E⟩
          exact z_iret hC dX11_tellChoice_64 (Nat.le_refl _) (Nat.le_refl _) ⟨_, rfl, rfl, E⟩)
      replace E := EE
      clear EE
      refine z_if_lt (tgt := 45) hC dX11_tellChoice_20 (by decide) (fun c23 => ?_) (fun c23 => ?_)
      · replace E := E.1 c23
        exact hK9  E
      · replace E := E.2 c23
        refine z_aload_n hC dX11_tellChoice_23 rfl 0 rfl ?_
        refine z_get hC lf_X11_12_11 (kX_0 hF) dX11_tellChoice_24 (fV_ref rfl (rX_0_0 hF)) ?_
        refine z_iload_n hC dX11_tellChoice_27 rfl 3 rfl ?_
        refine z_callV (ci := 1) (rest := []) hC (ck_mk lk_X11_84 in_X1_has cd_X1_has ds_X1_has (Nat.le_of_ble_eq_true rfl) (Nat.le_of_ble_eq_true rfl)) iy_X1_has sy_X1_has cf_1 (by decide) (kX_1 hF) (ct_X1_has hF E) rfl rfl (Nat.le_of_ble_eq_true rfl) ⟨Nat.le_refl _, Nat.le_refl _⟩ dX11_tellChoice_28 ?_
        rintro _ _ _ ⟨v25, rfl, rfl, rfl, E⟩
        refine z_if_eq (tgt := 42) hC dX11_tellChoice_31 (by decide) (fun c29 => ?_) (fun c29 => ?_)
        · replace E := E.1 c29
          refine z_bipush (v := -2) hC dX11_tellChoice_42 rfl ?_
          exact z_iret hC dX11_tellChoice_44 (Nat.le_refl _) (Nat.le_refl _) ⟨_, rfl, rfl, E⟩
        · replace E := E.2 c29
          refine z_iload_n hC dX11_tellChoice_34 rfl 3 rfl ?_
          refine z_iload_n hC dX11_tellChoice_35 rfl 2 rfl ?_
          refine z_callS (rest := []) hC (ck_mk lk_X11_199 in_X11_isIn cd_X11_isIn ds_X11_isIn (Nat.le_of_ble_eq_true rfl) (Nat.le_of_ble_eq_true rfl)) st_X11_isIn (ct_X11_isIn hF E) rfl rfl (Nat.le_of_ble_eq_true rfl) ⟨Nat.le_refl _, Nat.le_refl _⟩ dX11_tellChoice_36 ?_
          rintro _ _ _ ⟨v31, rfl, rfl, rfl, E⟩
          refine z_if_ne (tgt := 45) hC dX11_tellChoice_39 (by decide) (fun c35 => ?_) (fun c35 => ?_)
          · replace E := E.1 c35
            exact hK9  E
          · replace E := E.2 c35
            refine z_bipush (v := -2) hC dX11_tellChoice_42 rfl ?_
            exact z_iret hC dX11_tellChoice_44 (Nat.le_refl _) (Nat.le_refl _) ⟨_, rfl, rfl, E⟩
    · replace E := E.2 c7
      refine z_bipush (v := -2) hC dX11_tellChoice_16 rfl ?_
      exact z_iret hC dX11_tellChoice_18 (Nat.le_refl _) (Nat.le_refl _) ⟨_, rfl, rfl, E⟩
def fX11_choice (a1 : Int32) (a2 : Int32) (a3 : Int32) (D : Dy) (post : Int32 → Dy → Prop) : Prop :=
  (fX11_within a1 (D.1 0 3) (fun (v2 : Int32) => ((¬ v2 = 0 → (fX11_tellChoice a1 a2 a3 D (fun (v7 : Int32) (D12 : Dy) => post v7 D12))) ∧ (v2 = 0 → post (-1 : Int32) D))))
set_option maxHeartbeats 4000000 in
set_option maxRecDepth 100000 in
theorem ct_X11_choice {l : Launch} {G : Gl} {S : Sh} {D : Dy} {mdl : Nat → Option (Nat × Nat)} (hF : FX S mdl) {a1 : Int32} {a2 : Int32} {a3 : Int32} {post : Int32 → Dy → Prop} (E : fX11_choice a1 a2 a3 D post) : Ct l G yX11_choice cX11_choice 4 (some .int) 3 0 0 S D [.ref (G.1 + 0), .int a1, .int a2, .int a3] (PI S post) := by
  refine z_enter (lv0 := [(0, .ref (G.1 + 0)), (1, .int a1), (2, .int a2), (3, .int a3)]) pl_11 (Nat.le_of_ble_eq_true rfl) rfl ?_
  intro p e s m args below meth c hC hnm
  unfold fX11_choice at E
  refine z_iload_n hC dX11_choice_0 rfl 1 rfl ?_
  refine z_aload_n hC dX11_choice_1 rfl 0 rfl ?_
  refine z_get hC lf_X11_91_11 (kX_0 hF) dX11_choice_2 (fV_int rfl) ?_
  refine z_callS (rest := []) hC (ck_mk lk_X11_69 in_X11_within cd_X11_within ds_X11_within (Nat.le_of_ble_eq_true rfl) (Nat.le_of_ble_eq_true rfl)) st_X11_within (ct_X11_within hF E) rfl rfl (Nat.le_of_ble_eq_true rfl) ⟨Nat.le_refl _, Nat.le_refl _⟩ dX11_choice_5 ?_
  rintro _ _ _ ⟨v2, rfl, rfl, rfl, E⟩
  refine z_if_ne (tgt := 13) hC dX11_choice_8 (by decide) (fun c6 => ?_) (fun c6 => ?_)
  · replace E := E.1 c6
    refine z_aload_n hC dX11_choice_13 rfl 0 rfl ?_
    refine z_iload_n hC dX11_choice_14 rfl 1 rfl ?_
    refine z_iload_n hC dX11_choice_15 rfl 2 rfl ?_
    refine z_iload_n hC dX11_choice_16 rfl 3 rfl ?_
    refine z_callV (ci := 11) (rest := []) hC (ck_mk lk_X11_94 in_X11_tellChoice cd_X11_tellChoice ds_X11_tellChoice (Nat.le_of_ble_eq_true rfl) (Nat.le_of_ble_eq_true rfl)) iy_X11_tellChoice sy_X11_tellChoice cf_11 (by decide) (kX_0 hF) (ct_X11_tellChoice hF E) rfl rfl (Nat.le_of_ble_eq_true rfl) ⟨Nat.le_refl _, Nat.le_refl _⟩ dX11_choice_17 ?_
    rintro _ _ D12 ⟨v7, rfl, rfl, E⟩
    exact z_iret hC dX11_choice_20 (Nat.le_refl _) (Nat.le_refl _) ⟨_, rfl, rfl, E⟩
  · replace E := E.2 c6
    refine z_iconst (v := -1) hC dX11_choice_11 rfl ?_
    exact z_iret hC dX11_choice_12 (Nat.le_refl _) (Nat.le_refl _) ⟨_, rfl, rfl, E⟩
def fX11_coin (mdl : Nat → Option (Nat × Nat)) (a1 : Int32) (a2 : Int32) (D : Dy) (post : Int64 → Dy → Prop) : Prop :=
  (fX11_modelAt mdl a1 D (fun (r4 : Option (Nat × Nat)) => ((r4 = none → post (-9223372036854775808 : Int64) D) ∧ (∀ t kd : Nat, r4 = some (t, kd) → (fX1_hasAll a2 D (fun (v8 : Int32) => ((¬ v8 = 0 → (v_prepare t kd D (fun (D18 : Dy) => (fX11_coinOf t kd a2 D18 (fun (v19 : Int32) (D24 : Dy) => post (v19).toInt64 D24))))) ∧ (v8 = 0 → post (-9223372036854775808 : Int64) D))))))))
set_option maxHeartbeats 4000000 in
set_option maxRecDepth 100000 in
theorem ct_X11_coin {l : Launch} {G : Gl} {S : Sh} {D : Dy} {mdl : Nat → Option (Nat × Nat)} (hF : FX S mdl) {a1 : Int32} {a2 : Int32} {post : Int64 → Dy → Prop} (E : fX11_coin mdl a1 a2 D post) : Ct l G yX11_coin cX11_coin 4 (some .long) 6 0 0 S D [.ref (G.1 + 0), .int a1, .int a2] (PL S post) := by
  refine z_enter (lv0 := [(0, .ref (G.1 + 0)), (1, .int a1), (2, .int a2)]) pl_11 (Nat.le_of_ble_eq_true rfl) rfl ?_
  intro p e s m args below meth c hC hnm
  unfold fX11_coin at E
  refine z_aload_n hC dX11_coin_0 rfl 0 rfl ?_
  refine z_iload_n hC dX11_coin_1 rfl 1 rfl ?_
  refine z_callV (ci := 11) (rest := []) hC (ck_mk lk_X11_130 in_X11_modelAt cd_X11_modelAt ds_X11_modelAt (Nat.le_of_ble_eq_true rfl) (Nat.le_of_ble_eq_true rfl)) iy_X11_modelAt sy_X11_modelAt cf_11 (by decide) (kX_0 hF) (ct_X11_modelAt hF E) rfl rfl (Nat.le_of_ble_eq_true rfl) ⟨Nat.le_refl _, Nat.le_refl _⟩ dX11_coin_2 ?_
  rintro _ _ _ ⟨r4, rfl, rfl, rfl, hq_r4, E⟩
  refine z_astoreq_n (lv' := [(3, va_rf (mq G r4)), (0, .ref (G.1 + 0)), (1, .int a1), (2, .int a2)]) hC dX11_coin_5 rfl (Nat.le_of_ble_eq_true rfl) rfl ?_
  refine z_aloadq_n hC dX11_coin_6 rfl 0 rfl ?_
  refine z_ifnullM (tgt := 21) hC hq_r4 dX11_coin_7 (by decide) ?_ ?_
  · intro c6
    replace E := E.1 c6
    refine z_ldc2 hC kl_X11_141 dX11_coin_21 ?_
    exact z_lret hC dX11_coin_24 (Nat.le_refl _) (Nat.le_refl _) ⟨_, rfl, rfl, E⟩
  · intro t kd hM c6
    replace E := E.2 t kd c6
    subst c6
    have hT := hM.ft
    refine z_aload_n hC dX11_coin_10 rfl 1 rfl ?_
    refine z_get hC lf_X11_12_11 (kX_0 hF) dX11_coin_11 (fV_ref rfl (rX_0_0 hF)) ?_
    refine z_iload_n hC dX11_coin_14 rfl 3 rfl ?_
    refine z_callV (ci := 1) (rest := []) hC (ck_mk lk_X11_208 in_X1_hasAll cd_X1_hasAll ds_X1_hasAll (Nat.le_of_ble_eq_true rfl) (Nat.le_of_ble_eq_true rfl)) iy_X1_hasAll sy_X1_hasAll cf_1 (by decide) (kX_1 hF) (ct_X1_hasAll hF E) rfl rfl (Nat.le_of_ble_eq_true rfl) ⟨Nat.le_refl _, Nat.le_refl _⟩ dX11_coin_15 ?_
    rintro _ _ _ ⟨v8, rfl, rfl, rfl, E⟩
    refine z_if_ne (tgt := 25) hC dX11_coin_18 (by decide) (fun c12 => ?_) (fun c12 => ?_)
    · replace E := E.1 c12
      refine z_aload_n hC dX11_coin_25 rfl 0 rfl ?_
      refine z_aload_n hC dX11_coin_26 rfl 1 rfl ?_
      refine z_get hC lf_X11_12_11 (kX_0 hF) dX11_coin_27 (fV_ref rfl (rX_0_0 hF)) ?_
      refine zv_X11_146 (rest := []) hC hF hM (by have := hM.kd; omega) E rfl (Nat.le_of_ble_eq_true rfl) ⟨Nat.le_of_ble_eq_true rfl, Nat.le_of_ble_eq_true rfl⟩ ⟨Nat.le_refl _, Nat.le_refl _⟩ dX11_coin_30 ?_
      rintro _ _ D18 ⟨rfl, rfl, E⟩
      refine z_aload_n hC dX11_coin_33 rfl 1 rfl ?_
      refine z_aload_n hC dX11_coin_34 rfl 0 rfl ?_
      refine z_iload_n hC dX11_coin_35 rfl 3 rfl ?_
      refine z_callV (ci := 11) (rest := []) hC (ck_mk lk_X11_221 in_X11_coinOf cd_X11_coinOf ds_X11_coinOf (Nat.le_of_ble_eq_true rfl) (Nat.le_of_ble_eq_true rfl)) iy_X11_coinOf sy_X11_coinOf cf_11 (by decide) (kX_0 hF) (ct_X11_coinOf hF hM E) rfl rfl (Nat.le_of_ble_eq_true rfl) ⟨Nat.le_refl _, Nat.le_refl _⟩ dX11_coin_36 ?_
      rintro _ _ D24 ⟨v19, rfl, rfl, E⟩
      refine z_i2l hC dX11_coin_39 ?_
      exact z_lret hC dX11_coin_40 (Nat.le_refl _) (Nat.le_refl _) ⟨_, rfl, rfl, E⟩
    · replace E := E.2 c12
      refine z_ldc2 hC kl_X11_141 dX11_coin_21 ?_
      exact z_lret hC dX11_coin_24 (Nat.le_refl _) (Nat.le_refl _) ⟨_, rfl, rfl, E⟩
def fX11_could (a1 : Int32) (D : Dy) (post : Int32 → Prop) : Prop :=
  (fX11_within a1 (D.1 7 4) (fun (v2 : Int32) => ((¬ v2 = 0 → (vp_in a1 80 ∧ (∀ v7 : Int32, v7 = (D.1 9 (a1).toNatClampNeg) → (LP2 (fun (rec11 : Int32 → Int32 → Prop) (v9 : Int32) (v10 : Int32) => (((D.1 0 11) ≤ v10 → post v9) ∧ (¬ (D.1 0 11) ≤ v10 → (vp_in v10 10 ∧ (JN (fun (v14 : Int32) => (∀ v17 : Int32, v17 = v10 + 1 → (rec11 v14 v17))) (fun K15 : Int32 → Prop => ((¬ ((D.1 21 (v10).toNatClampNeg) &&& v7) = v7 → (K15 v9)) ∧ (((D.1 21 (v10).toNatClampNeg) &&& v7) = v7 → (∀ v20 : Int32, v20 = v9 + 1 → (K15 v20)))))))))) FU (0 : Int32) (0 : Int32))))) ∧ (v2 = 0 → post (-1 : Int32)))))
set_option maxHeartbeats 4000000 in
set_option maxRecDepth 100000 in
theorem ct_X11_could {l : Launch} {G : Gl} {S : Sh} {D : Dy} {mdl : Nat → Option (Nat × Nat)} (hF : FX S mdl) {a1 : Int32} {post : Int32 → Prop} (E : fX11_could a1 D post) : Ct l G yX11_could cX11_could 5 (some .int) 1 0 0 S D [.ref (G.1 + 0), .int a1] (PIr S D post) := by
  refine z_enter (lv0 := [(0, .ref (G.1 + 0)), (1, .int a1)]) pl_11 (Nat.le_of_ble_eq_true rfl) rfl ?_
  intro p e s m args below meth c hC hnm
  unfold fX11_could at E
  refine z_iload_n hC dX11_could_0 rfl 1 rfl ?_
  refine z_aload_n hC dX11_could_1 rfl 0 rfl ?_
  refine z_get hC lf_X11_28_11 (kX_0 hF) dX11_could_2 (fV_ref rfl (rX_0_4 hF)) ?_
  refine z_get hC lf_X11_73_0 (kX_7 hF) dX11_could_5 (fV_int rfl) ?_
  refine z_callS (rest := []) hC (ck_mk lk_X11_69 in_X11_within cd_X11_within ds_X11_within (Nat.le_of_ble_eq_true rfl) (Nat.le_of_ble_eq_true rfl)) st_X11_within (ct_X11_within hF E) rfl rfl (Nat.le_of_ble_eq_true rfl) ⟨Nat.le_refl _, Nat.le_refl _⟩ dX11_could_8 ?_
  rintro _ _ _ ⟨v2, rfl, rfl, rfl, E⟩
  refine z_if_ne (tgt := 16) hC dX11_could_11 (by decide) (fun c6 => ?_) (fun c6 => ?_)
  · replace E := E.1 c6
    refine z_aload_n hC dX11_could_16 rfl 0 rfl ?_
    refine z_get hC lf_X11_28_11 (kX_0 hF) dX11_could_17 (fV_ref rfl (rX_0_4 hF)) ?_
    refine z_get hC lf_X11_102_0 (kX_7 hF) dX11_could_20 (fV_ref rfl (rX_7_1 hF)) ?_
    refine z_iload_n hC dX11_could_23 rfl 1 rfl ?_
    refine z_iald hC (kX_9 hF) (nX_9 hF) E.1 dX11_could_24 ?_
    replace E := E.2
    refine z_topi (fun v7 h8 => ?_)
    replace E := E v7 h8
    refine z_istore_n (lv' := [(2, .int v7), (0, .ref (G.1 + 0)), (1, .int a1)]) hC dX11_could_25 rfl (Nat.le_of_ble_eq_true rfl) rfl ?_
    refine z_iconst (v := 0) hC dX11_could_26 rfl ?_
    refine z_istore_n (lv' := [(3, .int (0 : Int32)), (2, .int v7), (0, .ref (G.1 + 0)), (1, .int a1)]) hC dX11_could_27 rfl (Nat.le_of_ble_eq_true rfl) rfl ?_
    refine z_iconst (v := 0) hC dX11_could_28 rfl ?_
    refine z_istore (lv' := [(4, .int (0 : Int32)), (3, .int (0 : Int32)), (2, .int v7), (0, .ref (G.1 + 0)), (1, .int a1)]) hC dX11_could_29 (Nat.le_of_ble_eq_true rfl) rfl ?_
    refine z_sub [3, 2, 1, 0] rfl ?_
    refine LP2_use (fun (v9 : Int32) (v10 : Int32) => ZM l G p e s m args below meth c 5 1 S (PIr S D post) S D 31 [(0, .ref (G.1 + 0)), (2, .int v7), (3, .int v9), (4, .int v10)] []) ?_ FU (0 : Int32) (0 : Int32) E
    intro rec11 hrec12 v9 v10 E
    refine z_iload hC dX11_could_31 3 rfl ?_
    refine z_aload_n hC dX11_could_33 rfl 0 rfl ?_
    refine z_get hC lf_X11_77_11 (kX_0 hF) dX11_could_34 (fV_int rfl) ?_
    refine z_icmp_ge (tgt := 62) hC dX11_could_37 (by decide) (fun c13 => ?_) (fun c13 => ?_)
    · replace E := E.1 c13
      refine z_iload_n hC dX11_could_62 rfl 2 rfl ?_
      exact z_iret hC dX11_could_63 (Nat.le_refl _) (Nat.le_refl _) ⟨_, rfl, rfl, rfl, E⟩
    · replace E := E.2 c13
      refine z_aload_n hC dX11_could_40 rfl 0 rfl ?_
      refine z_get hC lf_X11_48_11 (kX_0 hF) dX11_could_41 (fV_ref rfl (rX_0_10 hF)) ?_
      refine z_iload hC dX11_could_44 3 rfl ?_
      refine z_iald hC (kX_21 hF) (nX_21 hF) E.1 dX11_could_46 ?_
      replace E := E.2
      refine z_iload_n hC dX11_could_47 rfl 1 rfl ?_
      refine z_iand hC dX11_could_48 ?_
      refine z_iload_n hC dX11_could_49 rfl 1 rfl ?_
      obtain ⟨K15, hK16, EE⟩ := JN_use E (fun K15 : Int32 → Prop => ∀ (v14 : Int32), K15 v14 → ZM l G p e s m args below meth c 5 1 S (PIr S D post) S D 56 [(0, .ref (G.1 + 0)), (2, .int v7), (3, .int v14), (4, .int v10)] []) (by
        intro v14 E
        obtain ⟨v17, h18⟩ : ∃ y : Int32, y = v10 + 1 := ⟨_, rfl⟩
        replace E := E v17 h18
        refine z_iinc (q := 3) (v := v17) (lv' := [(4, .int v17), (0, .ref (G.1 + 0)), (2, .int v7), (3, .int v14)]) hC dX11_could_56 rfl (by rw [h18]; rfl) (Nat.le_of_ble_eq_true rfl) rfl ?_
        refine z_goto (tgt := 31) hC dX11_could_59 (by decide) ?_
        refine z_sub [1, 2, 3, 0] rfl ?_
        exact hrec12 v14 v17 E)
      replace E := EE
      clear EE
      refine z_icmp_ne (tgt := 56) hC dX11_could_50 (by decide) (fun c19 => ?_) (fun c19 => ?_)
      · replace E := E.1 c19
        exact hK16 v9 E
      · replace E := E.2 c19
        obtain ⟨v20, h21⟩ : ∃ y : Int32, y = v9 + 1 := ⟨_, rfl⟩
        replace E := E v20 h21
        refine z_iinc (q := 2) (v := v20) (lv' := [(3, .int v20), (0, .ref (G.1 + 0)), (2, .int v7), (4, .int v10)]) hC dX11_could_53 rfl (by rw [h21]; rfl) (Nat.le_of_ble_eq_true rfl) rfl ?_
        refine z_sub [1, 2, 0, 3] rfl ?_
        exact hK16 v20 E
  · replace E := E.2 c6
    refine z_iconst (v := -1) hC dX11_could_14 rfl ?_
    exact z_iret hC dX11_could_15 (Nat.le_refl _) (Nat.le_refl _) ⟨_, rfl, rfl, rfl, E⟩
def fX11_couldTake (a1 : Int32) (a2 : Int32) (D : Dy) (post : Int32 → Dy → Prop) : Prop :=
  (fX11_gatherOne a1 D (fun (D6 : Dy) => (fX6_countAgreeing D6 (fun (v7 : Int32) (D12 : Dy) => ((¬ v7 = 0 → (fX6_countTakes a2 D12 (fun (D19 : Dy) => (fX6_takenBits D19 (fun (v20 : Int32) => post v20 D19))))) ∧ (v7 = 0 → post (0 : Int32) D12))))))
set_option maxHeartbeats 4000000 in
set_option maxRecDepth 100000 in
theorem ct_X11_couldTake {l : Launch} {G : Gl} {S : Sh} {D : Dy} {mdl : Nat → Option (Nat × Nat)} (hF : FX S mdl) {a1 : Int32} {a2 : Int32} {post : Int32 → Dy → Prop} (E : fX11_couldTake a1 a2 D post) : Ct l G yX11_couldTake cX11_couldTake 3 (some .int) 4 0 0 S D [.ref (G.1 + 0), .int a1, .int a2] (PI S post) := by
  refine z_enter (lv0 := [(0, .ref (G.1 + 0)), (1, .int a1), (2, .int a2)]) pl_11 (Nat.le_of_ble_eq_true rfl) rfl ?_
  intro p e s m args below meth c hC hnm
  unfold fX11_couldTake at E
  refine z_aload_n hC dX11_couldTake_0 rfl 0 rfl ?_
  refine z_iload_n hC dX11_couldTake_1 rfl 1 rfl ?_
  refine z_callV (ci := 11) (rest := []) hC (ck_mk lk_X11_181 in_X11_gatherOne cd_X11_gatherOne ds_X11_gatherOne (Nat.le_of_ble_eq_true rfl) (Nat.le_of_ble_eq_true rfl)) iy_X11_gatherOne sy_X11_gatherOne cf_11 (by decide) (kX_0 hF) (ct_X11_gatherOne hF E) rfl rfl (Nat.le_of_ble_eq_true rfl) ⟨Nat.le_refl _, Nat.le_refl _⟩ dX11_couldTake_2 ?_
  rintro _ _ D6 ⟨rfl, rfl, E⟩
  refine z_aload_n hC dX11_couldTake_5 rfl 0 rfl ?_
  refine z_get hC lf_X11_44_11 (kX_0 hF) dX11_couldTake_6 (fV_ref rfl (rX_0_9 hF)) ?_
  refine z_callV (ci := 6) (rest := []) hC (ck_mk lk_X11_185 in_X6_countAgreeing cd_X6_countAgreeing ds_X6_countAgreeing (Nat.le_of_ble_eq_true rfl) (Nat.le_of_ble_eq_true rfl)) iy_X6_countAgreeing sy_X6_countAgreeing cf_6 (by decide) (kX_14 hF) (ct_X6_countAgreeing hF E) rfl rfl (Nat.le_of_ble_eq_true rfl) ⟨Nat.le_refl _, Nat.le_refl _⟩ dX11_couldTake_9 ?_
  rintro _ _ D12 ⟨v7, rfl, rfl, E⟩
  refine z_if_ne (tgt := 17) hC dX11_couldTake_12 (by decide) (fun c13 => ?_) (fun c13 => ?_)
  · replace E := E.1 c13
    refine z_aload_n hC dX11_couldTake_17 rfl 0 rfl ?_
    refine z_get hC lf_X11_44_11 (kX_0 hF) dX11_couldTake_18 (fV_ref rfl (rX_0_9 hF)) ?_
    refine z_iload_n hC dX11_couldTake_21 rfl 2 rfl ?_
    refine z_callV (ci := 6) (rest := []) hC (ck_mk lk_X11_202 in_X6_countTakes cd_X6_countTakes ds_X6_countTakes (Nat.le_of_ble_eq_true rfl) (Nat.le_of_ble_eq_true rfl)) iy_X6_countTakes sy_X6_countTakes cf_6 (by decide) (kX_14 hF) (ct_X6_countTakes hF E) rfl rfl (Nat.le_of_ble_eq_true rfl) ⟨Nat.le_refl _, Nat.le_refl _⟩ dX11_couldTake_22 ?_
    rintro _ _ D19 ⟨rfl, rfl, E⟩
    refine z_aload_n hC dX11_couldTake_25 rfl 0 rfl ?_
    refine z_get hC lf_X11_44_11 (kX_0 hF) dX11_couldTake_26 (fV_ref rfl (rX_0_9 hF)) ?_
    refine z_callV (ci := 6) (rest := []) hC (ck_mk lk_X11_319 in_X6_takenBits cd_X6_takenBits ds_X6_takenBits (Nat.le_of_ble_eq_true rfl) (Nat.le_of_ble_eq_true rfl)) iy_X6_takenBits sy_X6_takenBits cf_6 (by decide) (kX_14 hF) (ct_X6_takenBits hF E) rfl rfl (Nat.le_of_ble_eq_true rfl) ⟨Nat.le_refl _, Nat.le_refl _⟩ dX11_couldTake_29 ?_
    rintro _ _ _ ⟨v20, rfl, rfl, rfl, E⟩
    exact z_iret hC dX11_couldTake_32 (Nat.le_refl _) (Nat.le_refl _) ⟨_, rfl, rfl, E⟩
  · replace E := E.2 c13
    refine z_iconst (v := 0) hC dX11_couldTake_15 rfl ?_
    exact z_iret hC dX11_couldTake_16 (Nat.le_refl _) (Nat.le_refl _) ⟨_, rfl, rfl, E⟩
def fX11_ordersThereAre  (D : Dy) (post : Int32 → Prop) : Prop :=
  (LP2 (fun (rec3 : Int32 → Int32 → Prop) (v1 : Int32) (v2 : Int32) => ((((D.1 1 3) + (1 : Int32)) < v2 → post v1) ∧ (¬ ((D.1 1 3) + (1 : Int32)) < v2 → (∀ v6 : Int32, v6 = (v1 * v2) → (∀ v8 : Int32, v8 = v2 + 1 → (rec3 v6 v8)))))) FU (1 : Int32) (2 : Int32))
set_option maxHeartbeats 4000000 in
set_option maxRecDepth 100000 in
theorem ct_X11_ordersThereAre {l : Launch} {G : Gl} {S : Sh} {D : Dy} {mdl : Nat → Option (Nat × Nat)} (hF : FX S mdl)  {post : Int32 → Prop} (E : fX11_ordersThereAre D post) : Ct l G yX11_ordersThereAre cX11_ordersThereAre 3 (some .int) 0 0 0 S D [.ref (G.1 + 0)] (PIr S D post) := by
  refine z_enter (lv0 := [(0, .ref (G.1 + 0))]) pl_11 (Nat.le_of_ble_eq_true rfl) rfl ?_
  intro p e s m args below meth c hC hnm
  unfold fX11_ordersThereAre at E
  refine z_iconst (v := 1) hC dX11_ordersThereAre_0 rfl ?_
  refine z_istore_n (lv' := [(1, .int (1 : Int32)), (0, .ref (G.1 + 0))]) hC dX11_ordersThereAre_1 rfl (Nat.le_of_ble_eq_true rfl) rfl ?_
  refine z_iconst (v := 2) hC dX11_ordersThereAre_2 rfl ?_
  refine z_istore_n (lv' := [(2, .int (2 : Int32)), (1, .int (1 : Int32)), (0, .ref (G.1 + 0))]) hC dX11_ordersThereAre_3 rfl (Nat.le_of_ble_eq_true rfl) rfl ?_
  refine z_sub [2, 1, 0] rfl ?_
  refine LP2_use (fun (v1 : Int32) (v2 : Int32) => ZM l G p e s m args below meth c 3 0 S (PIr S D post) S D 4 [(0, .ref (G.1 + 0)), (1, .int v1), (2, .int v2)] []) ?_ FU (1 : Int32) (2 : Int32) E
  intro rec3 hrec4 v1 v2 E
  refine z_iload_n hC dX11_ordersThereAre_4 rfl 2 rfl ?_
  refine z_aload_n hC dX11_ordersThereAre_5 rfl 0 rfl ?_
  refine z_get hC lf_X11_12_11 (kX_0 hF) dX11_ordersThereAre_6 (fV_ref rfl (rX_0_0 hF)) ?_
  refine z_get hC lf_X11_224_1 (kX_1 hF) dX11_ordersThereAre_9 (fV_int rfl) ?_
  refine z_iconst (v := 1) hC dX11_ordersThereAre_12 rfl ?_
  refine z_iadd hC dX11_ordersThereAre_13 ?_
  refine z_icmp_gt (tgt := 27) hC dX11_ordersThereAre_14 (by decide) (fun c5 => ?_) (fun c5 => ?_)
  · replace E := E.1 c5
    refine z_iload_n hC dX11_ordersThereAre_27 rfl 1 rfl ?_
    exact z_iret hC dX11_ordersThereAre_28 (Nat.le_refl _) (Nat.le_refl _) ⟨_, rfl, rfl, rfl, E⟩
  · replace E := E.2 c5
    refine z_iload_n hC dX11_ordersThereAre_17 rfl 1 rfl ?_
    refine z_iload_n hC dX11_ordersThereAre_18 rfl 2 rfl ?_
    refine z_imul hC dX11_ordersThereAre_19 ?_
    refine z_topi (fun v6 h7 => ?_)
    replace E := E v6 h7
    refine z_istore_n (lv' := [(1, .int v6), (0, .ref (G.1 + 0)), (2, .int v2)]) hC dX11_ordersThereAre_20 rfl (Nat.le_of_ble_eq_true rfl) rfl ?_
    obtain ⟨v8, h9⟩ : ∃ y : Int32, y = v2 + 1 := ⟨_, rfl⟩
    replace E := E v8 h9
    refine z_iinc (q := 2) (v := v8) (lv' := [(2, .int v8), (1, .int v6), (0, .ref (G.1 + 0))]) hC dX11_ordersThereAre_21 rfl (by rw [h9]; rfl) (Nat.le_of_ble_eq_true rfl) rfl ?_
    refine z_goto (tgt := 4) hC dX11_ordersThereAre_24 (by decide) ?_
    refine z_sub [2, 1, 0] rfl ?_
    exact hrec4 v6 v8 E
def fX11_count (a1 : Int32) (D : Dy) (post : Int32 → Prop) : Prop :=
  ((a1 = (0 : Int32) → post (D.1 1 3)) ∧ (¬ a1 = (0 : Int32) → ((a1 = (1 : Int32) → post (D.1 0 3)) ∧ (¬ a1 = (1 : Int32) → ((a1 = (2 : Int32) → post (D.1 7 4)) ∧ (¬ a1 = (2 : Int32) → ((a1 = (3 : Int32) → post (D.1 0 8)) ∧ (¬ a1 = (3 : Int32) → ((a1 = (4 : Int32) → post (D.1 0 6)) ∧ (¬ a1 = (4 : Int32) → ((a1 = (5 : Int32) → post (D.1 0 11)) ∧ (¬ a1 = (5 : Int32) → ((a1 = (6 : Int32) → (fX11_ordersThereAre D (fun (v8 : Int32) => post v8))) ∧ (¬ a1 = (6 : Int32) → ((a1 = (7 : Int32) → post (D.1 22 1)) ∧ (¬ a1 = (7 : Int32) → post (-2 : Int32)))))))))))))))))
set_option maxHeartbeats 4000000 in
set_option maxRecDepth 100000 in
theorem ct_X11_count {l : Launch} {G : Gl} {S : Sh} {D : Dy} {mdl : Nat → Option (Nat × Nat)} (hF : FX S mdl) {a1 : Int32} {post : Int32 → Prop} (E : fX11_count a1 D post) : Ct l G yX11_count cX11_count 2 (some .int) 1 0 0 S D [.ref (G.1 + 0), .int a1] (PIr S D post) := by
  refine z_enter (lv0 := [(0, .ref (G.1 + 0)), (1, .int a1)]) pl_11 (Nat.le_of_ble_eq_true rfl) rfl ?_
  intro p e s m args below meth c hC hnm
  unfold fX11_count at E
  refine z_iload_n hC dX11_count_0 rfl 1 rfl ?_
  by_cases c1 : a1 = (0 : Int32)
  · replace E := E.1 c1
    refine z_tableIn (tgt := 48) (off := 47) hC dX11_count_1 c1 (by decide) (by decide) ?_
    refine z_aload_n hC dX11_count_48 rfl 0 rfl ?_
    refine z_get hC lf_X11_12_11 (kX_0 hF) dX11_count_49 (fV_ref rfl (rX_0_0 hF)) ?_
    refine z_get hC lf_X11_224_1 (kX_1 hF) dX11_count_52 (fV_int rfl) ?_
    exact z_iret hC dX11_count_55 (Nat.le_refl _) (Nat.le_refl _) ⟨_, rfl, rfl, rfl, E⟩
  replace E := E.2 c1
  by_cases c2 : a1 = (1 : Int32)
  · replace E := E.1 c2
    refine z_tableIn (tgt := 56) (off := 55) hC dX11_count_1 c2 (by decide) (by decide) ?_
    refine z_aload_n hC dX11_count_56 rfl 0 rfl ?_
    refine z_get hC lf_X11_91_11 (kX_0 hF) dX11_count_57 (fV_int rfl) ?_
    exact z_iret hC dX11_count_60 (Nat.le_refl _) (Nat.le_refl _) ⟨_, rfl, rfl, rfl, E⟩
  replace E := E.2 c2
  by_cases c3 : a1 = (2 : Int32)
  · replace E := E.1 c3
    refine z_tableIn (tgt := 61) (off := 60) hC dX11_count_1 c3 (by decide) (by decide) ?_
    refine z_aload_n hC dX11_count_61 rfl 0 rfl ?_
    refine z_get hC lf_X11_28_11 (kX_0 hF) dX11_count_62 (fV_ref rfl (rX_0_4 hF)) ?_
    refine z_get hC lf_X11_73_0 (kX_7 hF) dX11_count_65 (fV_int rfl) ?_
    exact z_iret hC dX11_count_68 (Nat.le_refl _) (Nat.le_refl _) ⟨_, rfl, rfl, rfl, E⟩
  replace E := E.2 c3
  by_cases c4 : a1 = (3 : Int32)
  · replace E := E.1 c4
    refine z_tableIn (tgt := 69) (off := 68) hC dX11_count_1 c4 (by decide) (by decide) ?_
    refine z_aload_n hC dX11_count_69 rfl 0 rfl ?_
    refine z_get hC lf_X11_111_11 (kX_0 hF) dX11_count_70 (fV_int rfl) ?_
    exact z_iret hC dX11_count_73 (Nat.le_refl _) (Nat.le_refl _) ⟨_, rfl, rfl, rfl, E⟩
  replace E := E.2 c4
  by_cases c5 : a1 = (4 : Int32)
  · replace E := E.1 c5
    refine z_tableIn (tgt := 74) (off := 73) hC dX11_count_1 c5 (by decide) (by decide) ?_
    refine z_aload_n hC dX11_count_74 rfl 0 rfl ?_
    refine z_get hC lf_X11_108_11 (kX_0 hF) dX11_count_75 (fV_int rfl) ?_
    exact z_iret hC dX11_count_78 (Nat.le_refl _) (Nat.le_refl _) ⟨_, rfl, rfl, rfl, E⟩
  replace E := E.2 c5
  by_cases c6 : a1 = (5 : Int32)
  · replace E := E.1 c6
    refine z_tableIn (tgt := 79) (off := 78) hC dX11_count_1 c6 (by decide) (by decide) ?_
    refine z_aload_n hC dX11_count_79 rfl 0 rfl ?_
    refine z_get hC lf_X11_77_11 (kX_0 hF) dX11_count_80 (fV_int rfl) ?_
    exact z_iret hC dX11_count_83 (Nat.le_refl _) (Nat.le_refl _) ⟨_, rfl, rfl, rfl, E⟩
  replace E := E.2 c6
  by_cases c7 : a1 = (6 : Int32)
  · replace E := E.1 c7
    refine z_tableIn (tgt := 84) (off := 83) hC dX11_count_1 c7 (by decide) (by decide) ?_
    refine z_aload_n hC dX11_count_84 rfl 0 rfl ?_
    refine z_callV (ci := 11) (rest := []) hC (ck_mk lk_X11_264 in_X11_ordersThereAre cd_X11_ordersThereAre ds_X11_ordersThereAre (Nat.le_of_ble_eq_true rfl) (Nat.le_of_ble_eq_true rfl)) iy_X11_ordersThereAre sy_X11_ordersThereAre cf_11 (by decide) (kX_0 hF) (ct_X11_ordersThereAre hF E) rfl rfl (Nat.le_of_ble_eq_true rfl) ⟨Nat.le_refl _, Nat.le_refl _⟩ dX11_count_85 ?_
    rintro _ _ _ ⟨v8, rfl, rfl, rfl, E⟩
    exact z_iret hC dX11_count_88 (Nat.le_refl _) (Nat.le_refl _) ⟨_, rfl, rfl, rfl, E⟩
  replace E := E.2 c7
  by_cases c13 : a1 = (7 : Int32)
  · replace E := E.1 c13
    refine z_tableIn (tgt := 89) (off := 88) hC dX11_count_1 c13 (by decide) (by decide) ?_
    refine z_aload_n hC dX11_count_89 rfl 0 rfl ?_
    refine z_get hC lf_X11_54_11 (kX_0 hF) dX11_count_90 (fV_ref rfl (rX_0_12 hF)) ?_
    refine z_get hC lf_X11_267_10 (kX_22 hF) dX11_count_93 (fV_int rfl) ?_
    exact z_iret hC dX11_count_96 (Nat.le_refl _) (Nat.le_refl _) ⟨_, rfl, rfl, rfl, E⟩
  replace E := E.2 c13
  refine z_tableOut (tgt := 97) hC dX11_count_1 (by have zc1 := sw_ne c1 (show (0 : Int32).toInt = 0 by decide); have zc2 := sw_ne c2 (show (1 : Int32).toInt = 1 by decide); have zc3 := sw_ne c3 (show (2 : Int32).toInt = 2 by decide); have zc4 := sw_ne c4 (show (3 : Int32).toInt = 3 by decide); have zc5 := sw_ne c5 (show (4 : Int32).toInt = 4 by decide); have zc6 := sw_ne c6 (show (5 : Int32).toInt = 5 by decide); have zc7 := sw_ne c7 (show (6 : Int32).toInt = 6 by decide); have zc13 := sw_ne c13 (show (7 : Int32).toInt = 7 by decide); omega) (by decide) ?_
  refine z_bipush (v := -2) hC dX11_count_97 rfl ?_
  exact z_iret hC dX11_count_99 (Nat.le_refl _) (Nat.le_refl _) ⟨_, rfl, rfl, rfl, E⟩
def fX11_feed (a1 : Int32) (a2 : Int32) (D : Dy) (post : Int32 → Dy → Prop) : Prop :=
  ((a2 < 0 → post (-2 : Int32) D) ∧ (¬ a2 < 0 → ((a2 ≤ (4 : Int32) → ((a2 ≤ ((120 : Int32) - (D.1 0 6)) → (∀ v4 : Int32, v4 = (a2 - (1 : Int32)) → (LP2 (fun (rec8 : Int32 → Dy → Prop) (v6 : Int32) (D7 : Dy) => ((v6 < 0 → post (D7.1 0 6) D7) ∧ (¬ v6 < 0 → (vp_in (D7.1 0 6) 120 ∧ (∀ D11 : Dy, D11 = sI D7 12 ((D7.1 0 6)).toNatClampNeg (((a1).toUInt32 >>> ((((8 : Int32) * v6)).toUInt32 &&& Int32.toUInt32 31)).toInt32 &&& (255 : Int32)) → (∀ D13 : Dy, D13 = sI D11 0 6 ((D11.1 0 6) + (1 : Int32)) → (∀ v15 : Int32, v15 = v6 + (-1) → (rec8 v15 D13)))))))) FU v4 D))) ∧ (¬ a2 ≤ ((120 : Int32) - (D.1 0 6)) → post (-4 : Int32) D))) ∧ (¬ a2 ≤ (4 : Int32) → post (-2 : Int32) D))))
set_option maxHeartbeats 4000000 in
set_option maxRecDepth 100000 in
theorem ct_X11_feed {l : Launch} {G : Gl} {S : Sh} {D : Dy} {mdl : Nat → Option (Nat × Nat)} (hF : FX S mdl) {a1 : Int32} {a2 : Int32} {post : Int32 → Dy → Prop} (E : fX11_feed a1 a2 D post) : Ct l G yX11_feed cX11_feed 4 (some .int) 0 0 0 S D [.ref (G.1 + 0), .int a1, .int a2] (PI S post) := by
  refine z_enter (lv0 := [(0, .ref (G.1 + 0)), (1, .int a1), (2, .int a2)]) pl_11 (Nat.le_of_ble_eq_true rfl) rfl ?_
  intro p e s m args below meth c hC hnm
  unfold fX11_feed at E
  refine z_iload_n hC dX11_feed_0 rfl 2 rfl ?_
  refine z_if_lt (tgt := 9) hC dX11_feed_1 (by decide) (fun c1 => ?_) (fun c1 => ?_)
  · replace E := E.1 c1
    refine z_bipush (v := -2) hC dX11_feed_9 rfl ?_
    exact z_iret hC dX11_feed_11 (Nat.le_refl _) (Nat.le_refl _) ⟨_, rfl, rfl, E⟩
  · replace E := E.2 c1
    refine z_iload_n hC dX11_feed_4 rfl 2 rfl ?_
    refine z_iconst (v := 4) hC dX11_feed_5 rfl ?_
    refine z_icmp_le (tgt := 12) hC dX11_feed_6 (by decide) (fun c2 => ?_) (fun c2 => ?_)
    · replace E := E.1 c2
      refine z_iload_n hC dX11_feed_12 rfl 2 rfl ?_
      refine z_bipush (v := 120) hC dX11_feed_13 rfl ?_
      refine z_aload_n hC dX11_feed_15 rfl 0 rfl ?_
      refine z_get hC lf_X11_108_11 (kX_0 hF) dX11_feed_16 (fV_int rfl) ?_
      refine z_isub hC dX11_feed_19 ?_
      refine z_icmp_le (tgt := 26) hC dX11_feed_20 (by decide) (fun c3 => ?_) (fun c3 => ?_)
      · replace E := E.1 c3
        refine z_iload_n hC dX11_feed_26 rfl 2 rfl ?_
        refine z_iconst (v := 1) hC dX11_feed_27 rfl ?_
        refine z_isub hC dX11_feed_28 ?_
        refine z_topi (fun v4 h5 => ?_)
        replace E := E v4 h5
        refine z_istore_n (lv' := [(3, .int v4), (0, .ref (G.1 + 0)), (1, .int a1), (2, .int a2)]) hC dX11_feed_29 rfl (Nat.le_of_ble_eq_true rfl) rfl ?_
        refine z_sub [1, 2, 0] rfl ?_
        refine LP2_use (fun (v6 : Int32) (D7 : Dy) => ZM l G p e s m args below meth c 4 0 S (PI S post) S D7 30 [(0, .ref (G.1 + 0)), (1, .int a1), (3, .int v6)] []) ?_ FU v4 D E
        intro rec8 hrec9 v6 D7 E
        refine z_iload_n hC dX11_feed_30 rfl 2 rfl ?_
        refine z_if_lt (tgt := 69) hC dX11_feed_31 (by decide) (fun c10 => ?_) (fun c10 => ?_)
        · replace E := E.1 c10
          refine z_aload_n hC dX11_feed_69 rfl 0 rfl ?_
          refine z_get hC lf_X11_108_11 (kX_0 hF) dX11_feed_70 (fV_int rfl) ?_
          exact z_iret hC dX11_feed_73 (Nat.le_refl _) (Nat.le_refl _) ⟨_, rfl, rfl, E⟩
        · replace E := E.2 c10
          refine z_aload_n hC dX11_feed_34 rfl 0 rfl ?_
          refine z_get hC lf_X11_32_11 (kX_0 hF) dX11_feed_35 (fV_ref rfl (rX_0_5 hF)) ?_
          refine z_aload_n hC dX11_feed_38 rfl 0 rfl ?_
          refine z_get hC lf_X11_108_11 (kX_0 hF) dX11_feed_39 (fV_int rfl) ?_
          refine z_iload_n hC dX11_feed_42 rfl 1 rfl ?_
          refine z_bipush (v := 8) hC dX11_feed_43 rfl ?_
          refine z_iload_n hC dX11_feed_45 rfl 2 rfl ?_
          refine z_imul hC dX11_feed_46 ?_
          refine z_iushr hC dX11_feed_47 ?_
          refine z_sipush (v := 255) hC dX11_feed_48 rfl ?_
          refine z_iand hC dX11_feed_51 ?_
          refine z_iast hC (kX_12 hF) (nX_12 hF) E.1 dX11_feed_52 ?_
          replace E := E.2
          refine z_topD (fun D11 h12 => ?_)
          replace E := E D11 h12
          refine z_aload_n hC dX11_feed_53 rfl 0 rfl ?_
          refine z_dup hC dX11_feed_54 rfl ?_
          refine z_get hC lf_X11_108_11 (kX_0 hF) dX11_feed_55 (fV_int rfl) ?_
          refine z_iconst (v := 1) hC dX11_feed_58 rfl ?_
          refine z_iadd hC dX11_feed_59 ?_
          refine z_puti hC lf_X11_108_11 rfl (kX_0 hF) dX11_feed_60 ?_
          refine z_topD (fun D13 h14 => ?_)
          replace E := E D13 h14
          obtain ⟨v15, h16⟩ : ∃ y : Int32, y = v6 + (-1) := ⟨_, rfl⟩
          replace E := E v15 h16
          refine z_iinc (q := 2) (v := v15) (lv' := [(3, .int v15), (0, .ref (G.1 + 0)), (1, .int a1)]) hC dX11_feed_63 rfl (by rw [h16]; rfl) (Nat.le_of_ble_eq_true rfl) rfl ?_
          refine z_goto (tgt := 30) hC dX11_feed_66 (by decide) ?_
          refine z_sub [1, 2, 0] rfl ?_
          exact hrec9 v15 D13 E
      · replace E := E.2 c3
        refine z_bipush (v := -4) hC dX11_feed_23 rfl ?_
        exact z_iret hC dX11_feed_25 (Nat.le_refl _) (Nat.le_refl _) ⟨_, rfl, rfl, E⟩
    · replace E := E.2 c2
      refine z_bipush (v := -2) hC dX11_feed_9 rfl ?_
      exact z_iret hC dX11_feed_11 (Nat.le_refl _) (Nat.le_refl _) ⟨_, rfl, rfl, E⟩
def fX11_fits (a1 : Int32) (a2 : Int32) (a3 : Int32) (post : Int32 → Prop) : Prop :=
  (JN (post (0 : Int32)) (fun K1 : Prop => ((a2 < 0 → K1) ∧ (¬ a2 < 0 → ((a1 < 0 → K1) ∧ (¬ a1 < 0 → ((a3 < a2 → K1) ∧ (¬ a3 < a2 → (((a3 - a2) < a1 → K1) ∧ (¬ (a3 - a2) < a1 → post (1 : Int32)))))))))))
set_option maxHeartbeats 4000000 in
set_option maxRecDepth 100000 in
theorem ct_X11_fits {l : Launch} {G : Gl} {S : Sh} {D : Dy} {mdl : Nat → Option (Nat × Nat)} (hF : FX S mdl) {a1 : Int32} {a2 : Int32} {a3 : Int32} {post : Int32 → Prop} (E : fX11_fits a1 a2 a3 post) : Ct l G yX11_fits cX11_fits 3 (some .boolean) 0 0 0 S D [.int a1, .int a2, .int a3] (PIr S D post) := by
  refine z_enter (lv0 := [(0, .int a1), (1, .int a2), (2, .int a3)]) pl_11 (Nat.le_of_ble_eq_true rfl) rfl ?_
  intro p e s m args below meth c hC hnm
  unfold fX11_fits at E
  refine z_iload_n hC dX11_fits_0 rfl 1 rfl ?_
  obtain ⟨K1, hK2, EE⟩ := JN_use E (fun K1 : Prop => K1 → ZM l G p e s m args below meth c 3 0 S (PIr S D post) S D 24 [] []) (by
    intro E
    refine z_iconst (v := 0) hC dX11_fits_24 rfl ?_
    exact z_zret hC dX11_fits_25 (Or.inl rfl) (Nat.le_refl _) (Nat.le_refl _) ⟨_, rfl, rfl, rfl, E⟩)
  replace E := EE
  clear EE
  refine z_if_lt (tgt := 24) hC dX11_fits_1 (by decide) (fun c3 => ?_) (fun c3 => ?_)
  · replace E := E.1 c3
    refine z_sub [] rfl ?_
    exact hK2  E
  · replace E := E.2 c3
    refine z_iload_n hC dX11_fits_4 rfl 0 rfl ?_
    refine z_if_lt (tgt := 24) hC dX11_fits_5 (by decide) (fun c4 => ?_) (fun c4 => ?_)
    · replace E := E.1 c4
      refine z_sub [] rfl ?_
      exact hK2  E
    · replace E := E.2 c4
      refine z_iload_n hC dX11_fits_8 rfl 1 rfl ?_
      refine z_iload_n hC dX11_fits_9 rfl 2 rfl ?_
      refine z_icmp_gt (tgt := 24) hC dX11_fits_10 (by decide) (fun c5 => ?_) (fun c5 => ?_)
      · replace E := E.1 c5
        refine z_sub [] rfl ?_
        exact hK2  E
      · replace E := E.2 c5
        refine z_iload_n hC dX11_fits_13 rfl 0 rfl ?_
        refine z_iload_n hC dX11_fits_14 rfl 2 rfl ?_
        refine z_iload_n hC dX11_fits_15 rfl 1 rfl ?_
        refine z_isub hC dX11_fits_16 ?_
        refine z_icmp_gt (tgt := 24) hC dX11_fits_17 (by decide) (fun c6 => ?_) (fun c6 => ?_)
        · replace E := E.1 c6
          refine z_sub [] rfl ?_
          exact hK2  E
        · replace E := E.2 c6
          refine z_iconst (v := 1) hC dX11_fits_20 rfl ?_
          refine z_goto (tgt := 25) hC dX11_fits_21 (by decide) ?_
          exact z_zret hC dX11_fits_25 (Or.inr rfl) (Nat.le_refl _) (Nat.le_refl _) ⟨_, rfl, rfl, rfl, E⟩
def fX11_greatestCommon (a1 : Int64) (a2 : Int64) (post : Int64 → Prop) : Prop :=
  (LP3 (fun (rec4 : Int64 → Int64 → Int32 → Prop) (w1 : Int64) (w2 : Int64) (v3 : Int32) => (JN (((¬ (lg_cmp w1 (0 : Int64)) = 0 → post w1) ∧ ((lg_cmp w1 (0 : Int64)) = 0 → post (1 : Int64)))) (fun K6 : Prop => (((100 : Int32) ≤ v3 → K6) ∧ (¬ (100 : Int32) ≤ v3 → (((lg_cmp w2 (0 : Int64)) = 0 → K6) ∧ (¬ (lg_cmp w2 (0 : Int64)) = 0 → (¬ w2 = 0 ∧ (∀ w11 : Int64, w11 = (w1 - w1 / w2 * w2) → (∀ v13 : Int32, v13 = v3 + 1 → (rec4 w2 w11 v13))))))))))) FU a1 a2 (0 : Int32))
set_option maxHeartbeats 4000000 in
set_option maxRecDepth 100000 in
theorem ct_X11_greatestCommon {l : Launch} {G : Gl} {S : Sh} {D : Dy} {mdl : Nat → Option (Nat × Nat)} (hF : FX S mdl) {a1 : Int64} {a2 : Int64} {post : Int64 → Prop} (E : fX11_greatestCommon a1 a2 post) : Ct l G yX11_greatestCommon cX11_greatestCommon 7 (some .long) 0 0 0 S D [.long a1, .long a2] (PLr S D post) := by
  refine z_enter (lv0 := [(0, .long a1), (2, .long a2)]) pl_11 (Nat.le_of_ble_eq_true rfl) rfl ?_
  intro p e s m args below meth c hC hnm
  unfold fX11_greatestCommon at E
  refine z_iconst (v := 0) hC dX11_greatestCommon_0 rfl ?_
  refine z_istore (lv' := [(4, .int (0 : Int32)), (0, .long a1), (2, .long a2)]) hC dX11_greatestCommon_1 (Nat.le_of_ble_eq_true rfl) rfl ?_
  refine z_sub [1, 2, 0] rfl ?_
  refine LP3_use (fun (w1 : Int64) (w2 : Int64) (v3 : Int32) => ZM l G p e s m args below meth c 7 0 S (PLr S D post) S D 3 [(0, .long w1), (2, .long w2), (4, .int v3)] []) ?_ FU a1 a2 (0 : Int32) E
  intro rec4 hrec5 w1 w2 v3 E
  refine z_iload hC dX11_greatestCommon_3 2 rfl ?_
  refine z_bipush (v := 100) hC dX11_greatestCommon_5 rfl ?_
  obtain ⟨K6, hK7, EE⟩ := JN_use E (fun K6 : Prop => K6 → ZM l G p e s m args below meth c 7 0 S (PLr S D post) S D 32 [(0, .long w1)] []) (by
    intro E
    refine z_lload_n hC dX11_greatestCommon_32 rfl 0 rfl ?_
    refine z_lconst (v := 0) hC dX11_greatestCommon_33 rfl ?_
    refine z_lcmp hC dX11_greatestCommon_34 ?_
    refine z_if_ne (tgt := 42) hC dX11_greatestCommon_35 (by decide) (fun c8 => ?_) (fun c8 => ?_)
    · replace E := E.1 c8
      refine z_lload_n hC dX11_greatestCommon_42 rfl 0 rfl ?_
      exact z_lret hC dX11_greatestCommon_43 (Nat.le_refl _) (Nat.le_refl _) ⟨_, rfl, rfl, rfl, E⟩
    · replace E := E.2 c8
      refine z_lconst (v := 1) hC dX11_greatestCommon_38 rfl ?_
      refine z_goto (tgt := 43) hC dX11_greatestCommon_39 (by decide) ?_
      exact z_lret hC dX11_greatestCommon_43 (Nat.le_refl _) (Nat.le_refl _) ⟨_, rfl, rfl, rfl, E⟩)
  replace E := EE
  clear EE
  refine z_icmp_ge (tgt := 32) hC dX11_greatestCommon_7 (by decide) (fun c9 => ?_) (fun c9 => ?_)
  · replace E := E.1 c9
    refine z_sub [0] rfl ?_
    exact hK7  E
  · replace E := E.2 c9
    refine z_lload_n hC dX11_greatestCommon_10 rfl 1 rfl ?_
    refine z_lconst (v := 0) hC dX11_greatestCommon_11 rfl ?_
    refine z_lcmp hC dX11_greatestCommon_12 ?_
    refine z_if_eq (tgt := 32) hC dX11_greatestCommon_13 (by decide) (fun c10 => ?_) (fun c10 => ?_)
    · replace E := E.1 c10
      refine z_sub [0] rfl ?_
      exact hK7  E
    · replace E := E.2 c10
      refine z_lload_n hC dX11_greatestCommon_16 rfl 0 rfl ?_
      refine z_lload_n hC dX11_greatestCommon_17 rfl 1 rfl ?_
      have q0 := E.1
      replace E := E.2
      refine z_lrem hC dX11_greatestCommon_18 q0 ?_
      refine z_topl (fun w11 h12 => ?_)
      replace E := E w11 h12
      refine z_lstore (lv' := [(5, .long w11), (0, .long w1), (2, .long w2), (4, .int v3)]) hC dX11_greatestCommon_19 (Nat.le_of_ble_eq_true rfl) rfl ?_
      refine z_lload_n hC dX11_greatestCommon_21 rfl 2 rfl ?_
      refine z_lstore_n (lv' := [(0, .long w2), (5, .long w11), (2, .long w2), (4, .int v3)]) hC dX11_greatestCommon_22 rfl (Nat.le_of_ble_eq_true rfl) rfl ?_
      refine z_lload hC dX11_greatestCommon_23 1 rfl ?_
      refine z_lstore_n (lv' := [(2, .long w11), (0, .long w2), (5, .long w11), (4, .int v3)]) hC dX11_greatestCommon_25 rfl (Nat.le_of_ble_eq_true rfl) rfl ?_
      obtain ⟨v13, h14⟩ : ∃ y : Int32, y = v3 + 1 := ⟨_, rfl⟩
      replace E := E v13 h14
      refine z_iinc (q := 3) (v := v13) (lv' := [(4, .int v13), (2, .long w11), (0, .long w2), (5, .long w11)]) hC dX11_greatestCommon_26 rfl (by rw [h14]; rfl) (Nat.le_of_ble_eq_true rfl) rfl ?_
      refine z_goto (tgt := 3) hC dX11_greatestCommon_29 (by decide) ?_
      refine z_sub [2, 1, 0] rfl ?_
      exact hrec5 w2 w11 v13 E
def fX11_scoreOf (t : Nat) (kd : Nat) (a2 : Int32) (D : Dy) (post : Int32 → Dy → Prop) : Prop :=
  (v_prepare t kd D (fun (D6 : Dy) => (LP3 (fun (rec10 : Int32 → Int32 → Dy → Prop) (v7 : Int32) (v8 : Int32) (D9 : Dy) => (((D9.1 7 4) ≤ v8 → post v7 D9) ∧ (¬ (D9.1 7 4) ≤ v8 → (vp_in v8 80 ∧ (JN (fun (v13 : Int32) (D14 : Dy) => (∀ v17 : Int32, v17 = v8 + 1 → (rec10 v13 v17 D14))) (fun K15 : Int32 → Dy → Prop => ((¬ (D9.1 11 (v8).toNatClampNeg) = a2 → (K15 v7 D9)) ∧ ((D9.1 11 (v8).toNatClampNeg) = a2 → (vp_in v8 80 ∧ (vp_in v8 80 ∧ (vp_in (D9.1 8 (v8).toNatClampNeg) 16 ∧ (v_share t kd (D9.1 9 (v8).toNatClampNeg) (D9.1 5 ((D9.1 8 (v8).toNatClampNeg)).toNatClampNeg) D9 (fun (D25 : Dy) => (vp_in v8 80 ∧ (v_thousandths t kd (D25.1 10 (v8).toNatClampNeg) D25 (fun (v26 : Int32) => (∀ v31 : Int32, v31 = (v7 + v26) → (K15 v31 D25)))))))))))))))))) FU (0 : Int32) (0 : Int32) D6)))
set_option maxHeartbeats 4000000 in
set_option maxRecDepth 100000 in
theorem ct_X11_scoreOf {l : Launch} {G : Gl} {S : Sh} {D : Dy} {mdl : Nat → Option (Nat × Nat)} (hF : FX S mdl) {t kd : Nat} (hM : FMo S t kd) {a2 : Int32} {post : Int32 → Dy → Prop} (E : fX11_scoreOf t kd a2 D post) : Ct l G yX11_scoreOf cX11_scoreOf 5 (some .int) 6 0 0 S D [.ref (G.1 + 0), .ref (G.1 + (t + 9)), .int a2] (PI S post) := by
  refine z_enter (lv0 := [(0, .ref (G.1 + 0)), (1, .ref (G.1 + (t + 9))), (2, .int a2)]) pl_11 (Nat.le_of_ble_eq_true rfl) rfl ?_
  intro p e s m args below meth c hC hnm
  unfold fX11_scoreOf at E
  have hT := hM.ft
  refine z_aload_n hC dX11_scoreOf_0 rfl 1 rfl ?_
  refine z_aload_n hC dX11_scoreOf_1 rfl 0 rfl ?_
  refine z_get hC lf_X11_12_11 (kX_0 hF) dX11_scoreOf_2 (fV_ref rfl (rX_0_0 hF)) ?_
  refine zv_X11_146 (rest := []) hC hF hM (by have := hM.kd; omega) E rfl (Nat.le_of_ble_eq_true rfl) ⟨Nat.le_of_ble_eq_true rfl, Nat.le_of_ble_eq_true rfl⟩ ⟨Nat.le_refl _, Nat.le_refl _⟩ dX11_scoreOf_5 ?_
  rintro _ _ D6 ⟨rfl, rfl, E⟩
  refine z_iconst (v := 0) hC dX11_scoreOf_8 rfl ?_
  refine z_istore_n (lv' := [(3, .int (0 : Int32)), (0, .ref (G.1 + 0)), (1, .ref (G.1 + (t + 9))), (2, .int a2)]) hC dX11_scoreOf_9 rfl (Nat.le_of_ble_eq_true rfl) rfl ?_
  refine z_iconst (v := 0) hC dX11_scoreOf_10 rfl ?_
  refine z_istore (lv' := [(4, .int (0 : Int32)), (3, .int (0 : Int32)), (0, .ref (G.1 + 0)), (1, .ref (G.1 + (t + 9))), (2, .int a2)]) hC dX11_scoreOf_11 (Nat.le_of_ble_eq_true rfl) rfl ?_
  refine z_sub [2, 3, 4, 1, 0] rfl ?_
  refine LP3_use (fun (v7 : Int32) (v8 : Int32) (D9 : Dy) => ZM l G p e s m args below meth c 5 6 S (PI S post) S D9 13 [(0, .ref (G.1 + 0)), (1, .ref (G.1 + (t + 9))), (2, .int a2), (3, .int v7), (4, .int v8)] []) ?_ FU (0 : Int32) (0 : Int32) D6 E
  intro rec10 hrec11 v7 v8 D9 E
  refine z_iload hC dX11_scoreOf_13 4 rfl ?_
  refine z_aload_n hC dX11_scoreOf_15 rfl 0 rfl ?_
  refine z_get hC lf_X11_28_11 (kX_0 hF) dX11_scoreOf_16 (fV_ref rfl (rX_0_4 hF)) ?_
  refine z_get hC lf_X11_73_0 (kX_7 hF) dX11_scoreOf_19 (fV_int rfl) ?_
  refine z_icmp_ge (tgt := 95) hC dX11_scoreOf_22 (by decide) (fun c12 => ?_) (fun c12 => ?_)
  · replace E := E.1 c12
    refine z_iload_n hC dX11_scoreOf_95 rfl 3 rfl ?_
    exact z_iret hC dX11_scoreOf_96 (Nat.le_refl _) (Nat.le_refl _) ⟨_, rfl, rfl, E⟩
  · replace E := E.2 c12
    refine z_aload_n hC dX11_scoreOf_25 rfl 0 rfl ?_
    refine z_get hC lf_X11_28_11 (kX_0 hF) dX11_scoreOf_26 (fV_ref rfl (rX_0_4 hF)) ?_
    refine z_get hC lf_X11_97_0 (kX_7 hF) dX11_scoreOf_29 (fV_ref rfl (rX_7_3 hF)) ?_
    refine z_iload hC dX11_scoreOf_32 4 rfl ?_
    refine z_iald hC (kX_11 hF) (nX_11 hF) E.1 dX11_scoreOf_34 ?_
    replace E := E.2
    refine z_iload_n hC dX11_scoreOf_35 rfl 2 rfl ?_
    obtain ⟨K15, hK16, EE⟩ := JN_use E (fun K15 : Int32 → Dy → Prop => ∀ (v13 : Int32) (D14 : Dy), K15 v13 D14 → ZM l G p e s m args below meth c 5 6 S (PI S post) S D14 89 [(0, .ref (G.1 + 0)), (1, .ref (G.1 + (t + 9))), (2, .int a2), (3, .int v13), (4, .int v8)] []) (by
      intro v13 D14 E
      obtain ⟨v17, h18⟩ : ∃ y : Int32, y = v8 + 1 := ⟨_, rfl⟩
      replace E := E v17 h18
      refine z_iinc (q := 4) (v := v17) (lv' := [(4, .int v17), (0, .ref (G.1 + 0)), (1, .ref (G.1 + (t + 9))), (2, .int a2), (3, .int v13)]) hC dX11_scoreOf_89 rfl (by rw [h18]; rfl) (Nat.le_of_ble_eq_true rfl) rfl ?_
      refine z_goto (tgt := 13) hC dX11_scoreOf_92 (by decide) ?_
      refine z_sub [1, 2, 3, 4, 0] rfl ?_
      exact hrec11 v13 v17 D14 E)
    replace E := EE
    clear EE
    refine z_icmp_ne (tgt := 89) hC dX11_scoreOf_36 (by decide) (fun c19 => ?_) (fun c19 => ?_)
    · replace E := E.1 c19
      exact hK16 v7 D9 E
    · replace E := E.2 c19
      refine z_aload_n hC dX11_scoreOf_39 rfl 1 rfl ?_
      refine z_aload_n hC dX11_scoreOf_40 rfl 0 rfl ?_
      refine z_get hC lf_X11_12_11 (kX_0 hF) dX11_scoreOf_41 (fV_ref rfl (rX_0_0 hF)) ?_
      refine z_aload_n hC dX11_scoreOf_44 rfl 0 rfl ?_
      refine z_get hC lf_X11_28_11 (kX_0 hF) dX11_scoreOf_45 (fV_ref rfl (rX_0_4 hF)) ?_
      refine z_get hC lf_X11_102_0 (kX_7 hF) dX11_scoreOf_48 (fV_ref rfl (rX_7_1 hF)) ?_
      refine z_iload hC dX11_scoreOf_51 4 rfl ?_
      refine z_iald hC (kX_9 hF) (nX_9 hF) E.1 dX11_scoreOf_53 ?_
      replace E := E.2
      refine z_aload_n hC dX11_scoreOf_54 rfl 0 rfl ?_
      refine z_get hC lf_X11_18_11 (kX_0 hF) dX11_scoreOf_55 (fV_ref rfl (rX_0_1 hF)) ?_
      refine z_aload_n hC dX11_scoreOf_58 rfl 0 rfl ?_
      refine z_get hC lf_X11_28_11 (kX_0 hF) dX11_scoreOf_59 (fV_ref rfl (rX_0_4 hF)) ?_
      refine z_get hC lf_X11_100_0 (kX_7 hF) dX11_scoreOf_62 (fV_ref rfl (rX_7_0 hF)) ?_
      refine z_iload hC dX11_scoreOf_65 4 rfl ?_
      refine z_iald hC (kX_8 hF) (nX_8 hF) E.1 dX11_scoreOf_67 ?_
      replace E := E.2
      refine z_iald hC (kX_5 hF) (nX_5 hF) E.1 dX11_scoreOf_68 ?_
      replace E := E.2
      refine zv_X11_150 (rest := []) hC hF hM (by have := hM.kd; omega) E rfl (Nat.le_of_ble_eq_true rfl) ⟨Nat.le_of_ble_eq_true rfl, Nat.le_of_ble_eq_true rfl⟩ ⟨Nat.le_refl _, Nat.le_refl _⟩ dX11_scoreOf_69 ?_
      rintro _ _ D25 ⟨rfl, rfl, E⟩
      refine z_iload_n hC dX11_scoreOf_72 rfl 3 rfl ?_
      refine z_aload_n hC dX11_scoreOf_73 rfl 1 rfl ?_
      refine z_aload_n hC dX11_scoreOf_74 rfl 0 rfl ?_
      refine z_get hC lf_X11_28_11 (kX_0 hF) dX11_scoreOf_75 (fV_ref rfl (rX_0_4 hF)) ?_
      refine z_get hC lf_X11_105_0 (kX_7 hF) dX11_scoreOf_78 (fV_ref rfl (rX_7_2 hF)) ?_
      refine z_iload hC dX11_scoreOf_81 4 rfl ?_
      refine z_iald hC (kX_10 hF) (nX_10 hF) E.1 dX11_scoreOf_83 ?_
      replace E := E.2
      refine zv_X11_307 (rest := [.int v7]) hC hF hM (by have := hM.kd; omega) E rfl (Nat.le_of_ble_eq_true rfl) ⟨Nat.le_of_ble_eq_true rfl, Nat.le_of_ble_eq_true rfl⟩ ⟨Nat.le_refl _, Nat.le_refl _⟩ dX11_scoreOf_84 ?_
      rintro _ _ _ ⟨v26, rfl, rfl, rfl, E⟩
      refine z_iadd hC dX11_scoreOf_87 ?_
      refine z_topi (fun v31 h32 => ?_)
      replace E := E v31 h32
      refine z_istore_n (lv' := [(3, .int v31), (0, .ref (G.1 + 0)), (1, .ref (G.1 + (t + 9))), (2, .int a2), (4, .int v8)]) hC dX11_scoreOf_88 rfl (Nat.le_of_ble_eq_true rfl) rfl ?_
      refine z_sub [1, 2, 3, 0, 4] rfl ?_
      exact hK16 v31 D25 E
def fX11_grid (mdl : Nat → Option (Nat × Nat)) (a1 : Int32) (a2 : Int32) (D : Dy) (post : Int32 → Dy → Prop) : Prop :=
  (fX11_modelAt mdl a1 D (fun (r4 : Option (Nat × Nat)) => ((r4 = none → post (-1 : Int32) D) ∧ (∀ t kd : Nat, r4 = some (t, kd) → (fX1_has a2 D (fun (v8 : Int32) => ((¬ v8 = 0 → (vp_in a2 6 ∧ (∀ v13 : Int32, v13 = (D.1 (t + 1) (a2).toNatClampNeg) → (LP4 (fun (rec19 : Int32 → Int32 → Int32 → Dy → Prop) (v15 : Int32) (v16 : Int32) (v17 : Int32) (D18 : Dy) => (((30 : Int32) < v17 → (vp_in a2 6 ∧ (∀ D22 : Dy, D22 = sI D18 (t + 1) (a2).toNatClampNeg v13 → post v15 D22))) ∧ (¬ (30 : Int32) < v17 → (vp_in a2 6 ∧ (∀ D24 : Dy, D24 = sI D18 (t + 1) (a2).toNatClampNeg v17 → (fX11_scoreOf t kd (0 : Int32) D24 (fun (v26 : Int32) (D31 : Dy) => (JN (fun (v32 : Int32) (v33 : Int32) => (∀ v36 : Int32, v36 = v17 + 1 → (rec19 v32 v33 v36 D31))) (fun K34 : Int32 → Int32 → Prop => ((v26 ≤ v16 → (K34 v15 v16)) ∧ (¬ v26 ≤ v16 → (K34 v17 v26)))))))))))) FU (0 : Int32) (-1 : Int32) (1 : Int32) D)))) ∧ (v8 = 0 → post (-1 : Int32) D))))))))
set_option maxHeartbeats 4000000 in
set_option maxRecDepth 100000 in
theorem ct_X11_grid {l : Launch} {G : Gl} {S : Sh} {D : Dy} {mdl : Nat → Option (Nat × Nat)} (hF : FX S mdl) {a1 : Int32} {a2 : Int32} {post : Int32 → Dy → Prop} (E : fX11_grid mdl a1 a2 D post) : Ct l G yX11_grid cX11_grid 9 (some .int) 7 0 0 S D [.ref (G.1 + 0), .int a1, .int a2] (PI S post) := by
  refine z_enter (lv0 := [(0, .ref (G.1 + 0)), (1, .int a1), (2, .int a2)]) pl_11 (Nat.le_of_ble_eq_true rfl) rfl ?_
  intro p e s m args below meth c hC hnm
  unfold fX11_grid at E
  refine z_aload_n hC dX11_grid_0 rfl 0 rfl ?_
  refine z_iload_n hC dX11_grid_1 rfl 1 rfl ?_
  refine z_callV (ci := 11) (rest := []) hC (ck_mk lk_X11_130 in_X11_modelAt cd_X11_modelAt ds_X11_modelAt (Nat.le_of_ble_eq_true rfl) (Nat.le_of_ble_eq_true rfl)) iy_X11_modelAt sy_X11_modelAt cf_11 (by decide) (kX_0 hF) (ct_X11_modelAt hF E) rfl rfl (Nat.le_of_ble_eq_true rfl) ⟨Nat.le_refl _, Nat.le_refl _⟩ dX11_grid_2 ?_
  rintro _ _ _ ⟨r4, rfl, rfl, rfl, hq_r4, E⟩
  refine z_astoreq_n (lv' := [(3, va_rf (mq G r4)), (0, .ref (G.1 + 0)), (1, .int a1), (2, .int a2)]) hC dX11_grid_5 rfl (Nat.le_of_ble_eq_true rfl) rfl ?_
  refine z_aloadq_n hC dX11_grid_6 rfl 0 rfl ?_
  refine z_ifnullM (tgt := 21) hC hq_r4 dX11_grid_7 (by decide) ?_ ?_
  · intro c6
    replace E := E.1 c6
    refine z_iconst (v := -1) hC dX11_grid_21 rfl ?_
    exact z_iret hC dX11_grid_22 (Nat.le_refl _) (Nat.le_refl _) ⟨_, rfl, rfl, E⟩
  · intro t kd hM c6
    replace E := E.2 t kd c6
    subst c6
    have hT := hM.ft
    refine z_aload_n hC dX11_grid_10 rfl 1 rfl ?_
    refine z_get hC lf_X11_12_11 (kX_0 hF) dX11_grid_11 (fV_ref rfl (rX_0_0 hF)) ?_
    refine z_iload_n hC dX11_grid_14 rfl 3 rfl ?_
    refine z_callV (ci := 1) (rest := []) hC (ck_mk lk_X11_84 in_X1_has cd_X1_has ds_X1_has (Nat.le_of_ble_eq_true rfl) (Nat.le_of_ble_eq_true rfl)) iy_X1_has sy_X1_has cf_1 (by decide) (kX_1 hF) (ct_X1_has hF E) rfl rfl (Nat.le_of_ble_eq_true rfl) ⟨Nat.le_refl _, Nat.le_refl _⟩ dX11_grid_15 ?_
    rintro _ _ _ ⟨v8, rfl, rfl, rfl, E⟩
    refine z_if_ne (tgt := 23) hC dX11_grid_18 (by decide) (fun c12 => ?_) (fun c12 => ?_)
    · replace E := E.1 c12
      refine z_aload_n hC dX11_grid_23 rfl 0 rfl ?_
      refine z_get hC (lfm_X11_175 hM.kd) (kO hM) dX11_grid_24 (fVm_2 hM) ?_
      refine z_get hC lf_X11_178_9 (kT_0 hT) dX11_grid_27 (fV_ref rfl (rT_4 hT)) ?_
      refine z_iload_n hC dX11_grid_30 rfl 3 rfl ?_
      refine z_iald hC (kT_1 hT) (nT_1 hT) E.1 dX11_grid_31 ?_
      replace E := E.2
      refine z_topi (fun v13 h14 => ?_)
      replace E := E v13 h14
      refine z_istore (lv' := [(4, .int v13), (3, .ref (G.1 + (t + 9))), (0, .ref (G.1 + 0)), (1, .int a1), (2, .int a2)]) hC dX11_grid_32 (Nat.le_of_ble_eq_true rfl) rfl ?_
      refine z_iconst (v := 0) hC dX11_grid_34 rfl ?_
      refine z_istore (lv' := [(5, .int (0 : Int32)), (4, .int v13), (3, .ref (G.1 + (t + 9))), (0, .ref (G.1 + 0)), (1, .int a1), (2, .int a2)]) hC dX11_grid_35 (Nat.le_of_ble_eq_true rfl) rfl ?_
      refine z_iconst (v := -1) hC dX11_grid_37 rfl ?_
      refine z_istore (lv' := [(6, .int (-1 : Int32)), (5, .int (0 : Int32)), (4, .int v13), (3, .ref (G.1 + (t + 9))), (0, .ref (G.1 + 0)), (1, .int a1), (2, .int a2)]) hC dX11_grid_38 (Nat.le_of_ble_eq_true rfl) rfl ?_
      refine z_iconst (v := 1) hC dX11_grid_40 rfl ?_
      refine z_istore (lv' := [(7, .int (1 : Int32)), (6, .int (-1 : Int32)), (5, .int (0 : Int32)), (4, .int v13), (3, .ref (G.1 + (t + 9))), (0, .ref (G.1 + 0)), (1, .int a1), (2, .int a2)]) hC dX11_grid_41 (Nat.le_of_ble_eq_true rfl) rfl ?_
      refine z_sub [5, 7, 4, 3, 2, 1, 0] rfl ?_
      refine LP4_use (fun (v15 : Int32) (v16 : Int32) (v17 : Int32) (D18 : Dy) => ZM l G p e s m args below meth c 9 7 S (PI S post) S D18 43 [(0, .ref (G.1 + 0)), (2, .int a2), (3, .ref (G.1 + (t + 9))), (4, .int v13), (5, .int v15), (6, .int v16), (7, .int v17)] []) ?_ FU (0 : Int32) (-1 : Int32) (1 : Int32) D E
      intro rec19 hrec20 v15 v16 v17 D18 E
      refine z_iload hC dX11_grid_43 6 rfl ?_
      refine z_bipush (v := 30) hC dX11_grid_45 rfl ?_
      refine z_icmp_gt (tgt := 90) hC dX11_grid_47 (by decide) (fun c21 => ?_) (fun c21 => ?_)
      · replace E := E.1 c21
        refine z_aload_n hC dX11_grid_90 rfl 2 rfl ?_
        refine z_get hC (lfm_X11_175 hM.kd) (kO hM) dX11_grid_91 (fVm_2 hM) ?_
        refine z_get hC lf_X11_178_9 (kT_0 hT) dX11_grid_94 (fV_ref rfl (rT_4 hT)) ?_
        refine z_iload_n hC dX11_grid_97 rfl 1 rfl ?_
        refine z_iload hC dX11_grid_98 3 rfl ?_
        refine z_iast hC (kT_1 hT) (nT_1 hT) E.1 dX11_grid_100 ?_
        replace E := E.2
        refine z_topD (fun D22 h23 => ?_)
        replace E := E D22 h23
        refine z_iload hC dX11_grid_101 4 rfl ?_
        exact z_iret hC dX11_grid_103 (Nat.le_refl _) (Nat.le_refl _) ⟨_, rfl, rfl, E⟩
      · replace E := E.2 c21
        refine z_aload_n hC dX11_grid_50 rfl 2 rfl ?_
        refine z_get hC (lfm_X11_175 hM.kd) (kO hM) dX11_grid_51 (fVm_2 hM) ?_
        refine z_get hC lf_X11_178_9 (kT_0 hT) dX11_grid_54 (fV_ref rfl (rT_4 hT)) ?_
        refine z_iload_n hC dX11_grid_57 rfl 1 rfl ?_
        refine z_iload hC dX11_grid_58 6 rfl ?_
        refine z_iast hC (kT_1 hT) (nT_1 hT) E.1 dX11_grid_60 ?_
        replace E := E.2
        refine z_topD (fun D24 h25 => ?_)
        replace E := E D24 h25
        refine z_aload_n hC dX11_grid_61 rfl 0 rfl ?_
        refine z_aload_n hC dX11_grid_62 rfl 2 rfl ?_
        refine z_iconst (v := 0) hC dX11_grid_63 rfl ?_
        refine z_callV (ci := 11) (rest := []) hC (ck_mk lk_X11_168 in_X11_scoreOf cd_X11_scoreOf ds_X11_scoreOf (Nat.le_of_ble_eq_true rfl) (Nat.le_of_ble_eq_true rfl)) iy_X11_scoreOf sy_X11_scoreOf cf_11 (by decide) (kX_0 hF) (ct_X11_scoreOf hF hM E) rfl rfl (Nat.le_of_ble_eq_true rfl) ⟨Nat.le_refl _, Nat.le_refl _⟩ dX11_grid_64 ?_
        rintro _ _ D31 ⟨v26, rfl, rfl, E⟩
        refine z_istore (lv' := [(8, .int v26), (0, .ref (G.1 + 0)), (2, .int a2), (3, .ref (G.1 + (t + 9))), (4, .int v13), (5, .int v15), (6, .int v16), (7, .int v17)]) hC dX11_grid_67 (Nat.le_of_ble_eq_true rfl) rfl ?_
        refine z_iload hC dX11_grid_69 0 rfl ?_
        refine z_iload hC dX11_grid_71 6 rfl ?_
        obtain ⟨K34, hK35, EE⟩ := JN_use E (fun K34 : Int32 → Int32 → Prop => ∀ (v32 : Int32) (v33 : Int32), K34 v32 v33 → ZM l G p e s m args below meth c 9 7 S (PI S post) S D31 84 [(0, .ref (G.1 + 0)), (2, .int a2), (3, .ref (G.1 + (t + 9))), (4, .int v13), (5, .int v32), (6, .int v33), (7, .int v17)] []) (by
          intro v32 v33 E
          obtain ⟨v36, h37⟩ : ∃ y : Int32, y = v17 + 1 := ⟨_, rfl⟩
          replace E := E v36 h37
          refine z_iinc (q := 6) (v := v36) (lv' := [(7, .int v36), (0, .ref (G.1 + 0)), (2, .int a2), (3, .ref (G.1 + (t + 9))), (4, .int v13), (5, .int v32), (6, .int v33)]) hC dX11_grid_84 rfl (by rw [h37]; rfl) (Nat.le_of_ble_eq_true rfl) rfl ?_
          refine z_goto (tgt := 43) hC dX11_grid_87 (by decide) ?_
          refine z_sub [1, 2, 3, 4, 5, 6, 0] rfl ?_
          exact hrec20 v32 v33 v36 D31 E)
        replace E := EE
        clear EE
        refine z_icmp_le (tgt := 84) hC dX11_grid_73 (by decide) (fun c38 => ?_) (fun c38 => ?_)
        · replace E := E.1 c38
          refine z_sub [1, 2, 3, 4, 5, 6, 7] rfl ?_
          exact hK35 v15 v16 E
        · replace E := E.2 c38
          refine z_iload hC dX11_grid_76 0 rfl ?_
          refine z_istore (lv' := [(6, .int v26), (8, .int v26), (0, .ref (G.1 + 0)), (2, .int a2), (3, .ref (G.1 + (t + 9))), (4, .int v13), (5, .int v15), (7, .int v17)]) hC dX11_grid_78 (Nat.le_of_ble_eq_true rfl) rfl ?_
          refine z_iload hC dX11_grid_80 7 rfl ?_
          refine z_istore (lv' := [(5, .int v17), (6, .int v26), (8, .int v26), (0, .ref (G.1 + 0)), (2, .int a2), (3, .ref (G.1 + (t + 9))), (4, .int v13), (7, .int v17)]) hC dX11_grid_82 (Nat.le_of_ble_eq_true rfl) rfl ?_
          refine z_sub [3, 4, 5, 6, 0, 1, 7] rfl ?_
          exact hK35 v17 v26 E
    · replace E := E.2 c12
      refine z_iconst (v := -1) hC dX11_grid_21 rfl ?_
      exact z_iret hC dX11_grid_22 (Nat.le_refl _) (Nat.le_refl _) ⟨_, rfl, rfl, E⟩
def fX11_isOfKind (t : Nat) (kd : Nat) (a2 : Int32) (post : Int32 → Prop) : Prop :=
  ((a2 = (1 : Int32) → (((instK 7 kd) = 0 ∨ (instK 7 kd) = 1) ∧ post (instK 7 kd))) ∧ (¬ a2 = (1 : Int32) → ((a2 = (2 : Int32) → (((instK 5 kd) = 0 ∨ (instK 5 kd) = 1) ∧ post (instK 5 kd))) ∧ (¬ a2 = (2 : Int32) → ((a2 = (3 : Int32) → (((instK 3 kd) = 0 ∨ (instK 3 kd) = 1) ∧ post (instK 3 kd))) ∧ (¬ a2 = (3 : Int32) → ((a2 = (4 : Int32) → (((instK 2 kd) = 0 ∨ (instK 2 kd) = 1) ∧ post (instK 2 kd))) ∧ (¬ a2 = (4 : Int32) → ((a2 = (5 : Int32) → (((instK 8 kd) = 0 ∨ (instK 8 kd) = 1) ∧ post (instK 8 kd))) ∧ (¬ a2 = (5 : Int32) → post (1 : Int32)))))))))))
set_option maxHeartbeats 4000000 in
set_option maxRecDepth 100000 in
theorem ct_X11_isOfKind {l : Launch} {G : Gl} {S : Sh} {D : Dy} {mdl : Nat → Option (Nat × Nat)} (hF : FX S mdl) {t kd : Nat} (hM : FMo S t kd) {a2 : Int32} {post : Int32 → Prop} (E : fX11_isOfKind t kd a2 post) : Ct l G yX11_isOfKind cX11_isOfKind 2 (some .boolean) 0 0 0 S D [.ref (G.1 + (t + 9)), .int a2] (PIr S D post) := by
  refine z_enter (lv0 := [(0, .ref (G.1 + (t + 9))), (1, .int a2)]) pl_11 (Nat.le_of_ble_eq_true rfl) rfl ?_
  intro p e s m args below meth c hC hnm
  unfold fX11_isOfKind at E
  have hT := hM.ft
  refine z_iload_n hC dX11_isOfKind_0 rfl 1 rfl ?_
  by_cases c1 : a2 = (1 : Int32)
  · replace E := E.1 c1
    refine z_tableIn (tgt := 36) (off := 35) hC dX11_isOfKind_1 c1 (by decide) (by decide) ?_
    refine z_aload_n hC dX11_isOfKind_36 rfl 0 rfl ?_
    refine z_inst_X11_284 hC hM dX11_isOfKind_37 ?_
    exact z_zret hC dX11_isOfKind_40 E.1 (Nat.le_refl _) (Nat.le_refl _) ⟨_, rfl, rfl, rfl, E.2⟩
  replace E := E.2 c1
  by_cases c2 : a2 = (2 : Int32)
  · replace E := E.1 c2
    refine z_tableIn (tgt := 41) (off := 40) hC dX11_isOfKind_1 c2 (by decide) (by decide) ?_
    refine z_aload_n hC dX11_isOfKind_41 rfl 0 rfl ?_
    refine z_inst_X11_289 hC hM dX11_isOfKind_42 ?_
    exact z_zret hC dX11_isOfKind_45 E.1 (Nat.le_refl _) (Nat.le_refl _) ⟨_, rfl, rfl, rfl, E.2⟩
  replace E := E.2 c2
  by_cases c3 : a2 = (3 : Int32)
  · replace E := E.1 c3
    refine z_tableIn (tgt := 46) (off := 45) hC dX11_isOfKind_1 c3 (by decide) (by decide) ?_
    refine z_aload_n hC dX11_isOfKind_46 rfl 0 rfl ?_
    refine z_inst_X11_292 hC hM dX11_isOfKind_47 ?_
    exact z_zret hC dX11_isOfKind_50 E.1 (Nat.le_refl _) (Nat.le_refl _) ⟨_, rfl, rfl, rfl, E.2⟩
  replace E := E.2 c3
  by_cases c4 : a2 = (4 : Int32)
  · replace E := E.1 c4
    refine z_tableIn (tgt := 51) (off := 50) hC dX11_isOfKind_1 c4 (by decide) (by decide) ?_
    refine z_aload_n hC dX11_isOfKind_51 rfl 0 rfl ?_
    refine z_inst_X11_295 hC hM dX11_isOfKind_52 ?_
    exact z_zret hC dX11_isOfKind_55 E.1 (Nat.le_refl _) (Nat.le_refl _) ⟨_, rfl, rfl, rfl, E.2⟩
  replace E := E.2 c4
  by_cases c5 : a2 = (5 : Int32)
  · replace E := E.1 c5
    refine z_tableIn (tgt := 56) (off := 55) hC dX11_isOfKind_1 c5 (by decide) (by decide) ?_
    refine z_aload_n hC dX11_isOfKind_56 rfl 0 rfl ?_
    refine z_inst_X11_298 hC hM dX11_isOfKind_57 ?_
    exact z_zret hC dX11_isOfKind_60 E.1 (Nat.le_refl _) (Nat.le_refl _) ⟨_, rfl, rfl, rfl, E.2⟩
  replace E := E.2 c5
  refine z_tableOut (tgt := 61) hC dX11_isOfKind_1 (by have zc1 := sw_ne c1 (show (1 : Int32).toInt = 1 by decide); have zc2 := sw_ne c2 (show (2 : Int32).toInt = 2 by decide); have zc3 := sw_ne c3 (show (3 : Int32).toInt = 3 by decide); have zc4 := sw_ne c4 (show (4 : Int32).toInt = 4 by decide); have zc5 := sw_ne c5 (show (5 : Int32).toInt = 5 by decide); omega) (by decide) ?_
  refine z_iconst (v := 1) hC dX11_isOfKind_61 rfl ?_
  exact z_zret hC dX11_isOfKind_62 (Or.inr rfl) (Nat.le_refl _) (Nat.le_refl _) ⟨_, rfl, rfl, rfl, E⟩
def fX11_isOption (a1 : Int32) (D : Dy) (post : Int32 → Prop) : Prop :=
  (JN (post (1 : Int32)) (fun K1 : Prop => ((a1 = (7 : Int32) → K1) ∧ (¬ a1 = (7 : Int32) → (fX1_has a1 D (fun (v5 : Int32) => ((v5 = 0 → post (0 : Int32)) ∧ (¬ v5 = 0 → K1))))))))
set_option maxHeartbeats 4000000 in
set_option maxRecDepth 100000 in
theorem ct_X11_isOption {l : Launch} {G : Gl} {S : Sh} {D : Dy} {mdl : Nat → Option (Nat × Nat)} (hF : FX S mdl) {a1 : Int32} {post : Int32 → Prop} (E : fX11_isOption a1 D post) : Ct l G yX11_isOption cX11_isOption 2 (some .boolean) 2 0 0 S D [.ref (G.1 + 0), .int a1] (PIr S D post) := by
  refine z_enter (lv0 := [(0, .ref (G.1 + 0)), (1, .int a1)]) pl_11 (Nat.le_of_ble_eq_true rfl) rfl ?_
  intro p e s m args below meth c hC hnm
  unfold fX11_isOption at E
  refine z_iload_n hC dX11_isOption_0 rfl 1 rfl ?_
  refine z_bipush (v := 7) hC dX11_isOption_1 rfl ?_
  obtain ⟨K1, hK2, EE⟩ := JN_use E (fun K1 : Prop => K1 → ZM l G p e s m args below meth c 2 2 S (PIr S D post) S D 17 [] []) (by
    intro E
    refine z_iconst (v := 1) hC dX11_isOption_17 rfl ?_
    refine z_goto (tgt := 22) hC dX11_isOption_18 (by decide) ?_
    exact z_zret hC dX11_isOption_22 (Or.inr rfl) (Nat.le_refl _) (Nat.le_refl _) ⟨_, rfl, rfl, rfl, E⟩)
  replace E := EE
  clear EE
  refine z_icmp_eq (tgt := 17) hC dX11_isOption_3 (by decide) (fun c3 => ?_) (fun c3 => ?_)
  · replace E := E.1 c3
    refine z_sub [] rfl ?_
    exact hK2  E
  · replace E := E.2 c3
    refine z_aload_n hC dX11_isOption_6 rfl 0 rfl ?_
    refine z_get hC lf_X11_12_11 (kX_0 hF) dX11_isOption_7 (fV_ref rfl (rX_0_0 hF)) ?_
    refine z_iload_n hC dX11_isOption_10 rfl 1 rfl ?_
    refine z_callV (ci := 1) (rest := []) hC (ck_mk lk_X11_84 in_X1_has cd_X1_has ds_X1_has (Nat.le_of_ble_eq_true rfl) (Nat.le_of_ble_eq_true rfl)) iy_X1_has sy_X1_has cf_1 (by decide) (kX_1 hF) (ct_X1_has hF E) rfl rfl (Nat.le_of_ble_eq_true rfl) ⟨Nat.le_refl _, Nat.le_refl _⟩ dX11_isOption_11 ?_
    rintro _ _ _ ⟨v5, rfl, rfl, rfl, E⟩
    refine z_if_eq (tgt := 21) hC dX11_isOption_14 (by decide) (fun c9 => ?_) (fun c9 => ?_)
    · replace E := E.1 c9
      refine z_iconst (v := 0) hC dX11_isOption_21 rfl ?_
      exact z_zret hC dX11_isOption_22 (Or.inl rfl) (Nat.le_refl _) (Nat.le_refl _) ⟨_, rfl, rfl, rfl, E⟩
    · replace E := E.2 c9
      refine z_sub [] rfl ?_
      exact hK2  E
def fX11_isScored (a1 : Int32) (post : Int32 → Prop) : Prop :=
  (JN (post (1 : Int32)) (fun K1 : Prop => ((a1 = 0 → K1) ∧ (¬ a1 = 0 → ((¬ a1 = (1 : Int32) → post (0 : Int32)) ∧ (a1 = (1 : Int32) → K1))))))
set_option maxHeartbeats 4000000 in
set_option maxRecDepth 100000 in
theorem ct_X11_isScored {l : Launch} {G : Gl} {S : Sh} {D : Dy} {mdl : Nat → Option (Nat × Nat)} (hF : FX S mdl) {a1 : Int32} {post : Int32 → Prop} (E : fX11_isScored a1 post) : Ct l G yX11_isScored cX11_isScored 1 (some .boolean) 0 0 0 S D [.int a1] (PIr S D post) := by
  refine z_enter (lv0 := [(0, .int a1)]) pl_11 (Nat.le_of_ble_eq_true rfl) rfl ?_
  intro p e s m args below meth c hC hnm
  unfold fX11_isScored at E
  refine z_iload_n hC dX11_isScored_0 rfl 0 rfl ?_
  obtain ⟨K1, hK2, EE⟩ := JN_use E (fun K1 : Prop => K1 → ZM l G p e s m args below meth c 1 0 S (PIr S D post) S D 9 [] []) (by
    intro E
    refine z_iconst (v := 1) hC dX11_isScored_9 rfl ?_
    refine z_goto (tgt := 14) hC dX11_isScored_10 (by decide) ?_
    exact z_zret hC dX11_isScored_14 (Or.inr rfl) (Nat.le_refl _) (Nat.le_refl _) ⟨_, rfl, rfl, rfl, E⟩)
  replace E := EE
  clear EE
  refine z_if_eq (tgt := 9) hC dX11_isScored_1 (by decide) (fun c3 => ?_) (fun c3 => ?_)
  · replace E := E.1 c3
    refine z_sub [] rfl ?_
    exact hK2  E
  · replace E := E.2 c3
    refine z_iload_n hC dX11_isScored_4 rfl 0 rfl ?_
    refine z_iconst (v := 1) hC dX11_isScored_5 rfl ?_
    refine z_icmp_ne (tgt := 13) hC dX11_isScored_6 (by decide) (fun c4 => ?_) (fun c4 => ?_)
    · replace E := E.1 c4
      refine z_iconst (v := 0) hC dX11_isScored_13 rfl ?_
      exact z_zret hC dX11_isScored_14 (Or.inl rfl) (Nat.le_refl _) (Nat.le_refl _) ⟨_, rfl, rfl, rfl, E⟩
    · replace E := E.2 c4
      refine z_sub [] rfl ?_
      exact hK2  E
def fX11_item (mdl : Nat → Option (Nat × Nat)) (a1 : Int32) (a2 : Int32) (a3 : Int64) (D : Dy) (post : Int32 → Dy → Prop) : Prop :=
  (fX11_within a1 (6 : Int32) (fun (v2 : Int32) => ((¬ v2 = 0 → (vp_in a1 6 ∧ ((0 ≤ (D.1 24 (a1).toNatClampNeg) → (vp_in a1 6 ∧ (fX11_within a2 (D.1 25 (a1).toNatClampNeg) (fun (v9 : Int32) => ((¬ v9 = 0 → (vp_in a1 6 ∧ (vp_in a1 6 ∧ (fX11_asItem (D.1 24 (a1).toNatClampNeg) a3 (fun (w17 : Int64) => (vp_in a2 60 ∧ (∀ D20 : Dy, D20 = sL D (27 + (a1).toNatClampNeg) (a2).toNatClampNeg w17 → post (1 : Int32) D20))))))) ∧ (v9 = 0 → post (-13 : Int32) D)))))) ∧ (¬ 0 ≤ (D.1 24 (a1).toNatClampNeg) → post (-11 : Int32) D)))) ∧ (v2 = 0 → post (-1 : Int32) D))))
set_option maxHeartbeats 4000000 in
set_option maxRecDepth 100000 in
theorem ct_X11_item {l : Launch} {G : Gl} {S : Sh} {D : Dy} {mdl : Nat → Option (Nat × Nat)} (hF : FX S mdl) {a1 : Int32} {a2 : Int32} {a3 : Int64} {post : Int32 → Dy → Prop} (E : fX11_item mdl a1 a2 a3 D post) : Ct l G yX11_item cX11_item 5 (some .int) 1 0 0 S D [.ref (G.1 + 0), .int a1, .int a2, .long a3] (PI S post) := by
  refine z_enter (lv0 := [(0, .ref (G.1 + 0)), (1, .int a1), (2, .int a2), (3, .long a3)]) pl_11 (Nat.le_of_ble_eq_true rfl) rfl ?_
  intro p e s m args below meth c hC hnm
  unfold fX11_item at E
  refine z_iload_n hC dX11_item_0 rfl 1 rfl ?_
  refine z_bipush (v := 6) hC dX11_item_1 rfl ?_
  refine z_callS (rest := []) hC (ck_mk lk_X11_69 in_X11_within cd_X11_within ds_X11_within (Nat.le_of_ble_eq_true rfl) (Nat.le_of_ble_eq_true rfl)) st_X11_within (ct_X11_within hF E) rfl rfl (Nat.le_of_ble_eq_true rfl) ⟨Nat.le_refl _, Nat.le_refl _⟩ dX11_item_3 ?_
  rintro _ _ _ ⟨v2, rfl, rfl, rfl, E⟩
  refine z_if_ne (tgt := 11) hC dX11_item_6 (by decide) (fun c6 => ?_) (fun c6 => ?_)
  · replace E := E.1 c6
    refine z_aload_n hC dX11_item_11 rfl 0 rfl ?_
    refine z_get hC lf_X11_58_11 (kX_0 hF) dX11_item_12 (fV_ref rfl (rX_0_13 hF)) ?_
    refine z_iload_n hC dX11_item_15 rfl 1 rfl ?_
    refine z_iald hC (kX_24 hF) (nX_24 hF) E.1 dX11_item_16 ?_
    replace E := E.2
    refine z_if_ge (tgt := 23) hC dX11_item_17 (by decide) (fun c7 => ?_) (fun c7 => ?_)
    · replace E := E.1 c7
      refine z_iload_n hC dX11_item_23 rfl 2 rfl ?_
      refine z_aload_n hC dX11_item_24 rfl 0 rfl ?_
      refine z_get hC lf_X11_61_11 (kX_0 hF) dX11_item_25 (fV_ref rfl (rX_0_14 hF)) ?_
      refine z_iload_n hC dX11_item_28 rfl 1 rfl ?_
      refine z_iald hC (kX_25 hF) (nX_25 hF) E.1 dX11_item_29 ?_
      replace E := E.2
      refine z_callS (rest := []) hC (ck_mk lk_X11_69 in_X11_within cd_X11_within ds_X11_within (Nat.le_of_ble_eq_true rfl) (Nat.le_of_ble_eq_true rfl)) st_X11_within (ct_X11_within hF E) rfl rfl (Nat.le_of_ble_eq_true rfl) ⟨Nat.le_refl _, Nat.le_refl _⟩ dX11_item_30 ?_
      rintro _ _ _ ⟨v9, rfl, rfl, rfl, E⟩
      refine z_if_ne (tgt := 39) hC dX11_item_33 (by decide) (fun c13 => ?_) (fun c13 => ?_)
      · replace E := E.1 c13
        refine z_aload_n hC dX11_item_39 rfl 0 rfl ?_
        refine z_get hC lf_X11_66_11 (kX_0 hF) dX11_item_40 (fV_ref rfl (rX_0_15 hF)) ?_
        refine z_iload_n hC dX11_item_43 rfl 1 rfl ?_
        have b14 := E.1
        refine z_aldRow hC hF b14 dX11_item_44 ?_
        replace E := E.2
        refine z_iload_n hC dX11_item_45 rfl 2 rfl ?_
        refine z_aload_n hC dX11_item_46 rfl 0 rfl ?_
        refine z_get hC lf_X11_58_11 (kX_0 hF) dX11_item_47 (fV_ref rfl (rX_0_13 hF)) ?_
        refine z_iload_n hC dX11_item_50 rfl 1 rfl ?_
        refine z_iald hC (kX_24 hF) (nX_24 hF) E.1 dX11_item_51 ?_
        replace E := E.2
        refine z_lload_n hC dX11_item_52 rfl 3 rfl ?_
        refine z_callS (rest := [.int a2, .ref (G.1 + (27 + (a1).toNatClampNeg))]) hC (ck_mk lk_X11_270 in_X11_asItem cd_X11_asItem ds_X11_asItem (Nat.le_of_ble_eq_true rfl) (Nat.le_of_ble_eq_true rfl)) st_X11_asItem (ct_X11_asItem hF E) rfl rfl (Nat.le_of_ble_eq_true rfl) ⟨Nat.le_refl _, Nat.le_refl _⟩ dX11_item_53 ?_
        rintro _ _ _ ⟨w17, rfl, rfl, rfl, E⟩
        refine z_last hC (kRow hF b14) (nRow hF b14) E.1 dX11_item_56 ?_
        replace E := E.2
        refine z_topD (fun D20 h21 => ?_)
        replace E := E D20 h21
        refine z_iconst (v := 1) hC dX11_item_57 rfl ?_
        exact z_iret hC dX11_item_58 (Nat.le_refl _) (Nat.le_refl _) ⟨_, rfl, rfl, E⟩
      · replace E := E.2 c13
        refine z_bipush (v := -13) hC dX11_item_36 rfl ?_
        exact z_iret hC dX11_item_38 (Nat.le_refl _) (Nat.le_refl _) ⟨_, rfl, rfl, E⟩
    · replace E := E.2 c7
      refine z_bipush (v := -11) hC dX11_item_20 rfl ?_
      exact z_iret hC dX11_item_22 (Nat.le_refl _) (Nat.le_refl _) ⟨_, rfl, rfl, E⟩
  · replace E := E.2 c6
    refine z_iconst (v := -1) hC dX11_item_9 rfl ?_
    exact z_iret hC dX11_item_10 (Nat.le_refl _) (Nat.le_refl _) ⟨_, rfl, rfl, E⟩
def fX11_lay (mdl : Nat → Option (Nat × Nat)) (a1 : Int32) (a2 : Int32) (D : Dy) (post : Int32 → Dy → Prop) : Prop :=
  (fX11_modelAt mdl a1 D (fun (r4 : Option (Nat × Nat)) => ((r4 = none → post (-1 : Int32) D) ∧ (∀ t kd : Nat, r4 = some (t, kd) → ((a2 < 0 → post (-2 : Int32) D) ∧ (¬ a2 < 0 → ((a2 ≤ (6 : Int32) → (v_prepare t kd D (fun (D14 : Dy) => (LP4 (fun (rec19 : Int32 → Int32 → Int32 → Dy → Prop) (v15 : Int32) (v16 : Int32) (v17 : Int32) (D18 : Dy) => ((((1 : Int32) <<< ((D18.1 1 3) &&& 31)) ≤ v17 → post v15 D18) ∧ (¬ ((1 : Int32) <<< ((D18.1 1 3) &&& 31)) ≤ v17 → (∀ v22 : Int32, v22 = (bitC v17) → (JN (fun (v24 : Int32) (v25 : Int32) (D26 : Dy) => (∀ v29 : Int32, v29 = v17 + 1 → (rec19 v24 v25 v29 D26))) (fun K27 : Int32 → Int32 → Dy → Prop => ((v22 ≤ a2 → (fX11_coinOf t kd v17 D18 (fun (v32 : Int32) (D37 : Dy) => (JN ((K27 v17 v32 D37)) (fun K38 : Prop => ((v16 < v32 → K38) ∧ (¬ v16 < v32 → ((¬ v32 = v16 → (K27 v15 v16 D37)) ∧ (v32 = v16 → (∀ v42 : Int32, v42 = (bitC v15) → ((v42 ≤ v22 → (K27 v15 v16 D37)) ∧ (¬ v42 ≤ v22 → K38)))))))))))) ∧ (¬ v22 ≤ a2 → (K27 v15 v16 D18))))))))) FU (0 : Int32) (0 : Int32) (1 : Int32) D14)))) ∧ (¬ a2 ≤ (6 : Int32) → post (-2 : Int32) D))))))))
set_option maxHeartbeats 4000000 in
set_option maxRecDepth 100000 in
theorem ct_X11_lay {l : Launch} {G : Gl} {S : Sh} {D : Dy} {mdl : Nat → Option (Nat × Nat)} (hF : FX S mdl) {a1 : Int32} {a2 : Int32} {post : Int32 → Dy → Prop} (E : fX11_lay mdl a1 a2 D post) : Ct l G yX11_lay cX11_lay 9 (some .int) 6 0 0 S D [.ref (G.1 + 0), .int a1, .int a2] (PI S post) := by
  refine z_enter (lv0 := [(0, .ref (G.1 + 0)), (1, .int a1), (2, .int a2)]) pl_11 (Nat.le_of_ble_eq_true rfl) rfl ?_
  intro p e s m args below meth c hC hnm
  unfold fX11_lay at E
  refine z_aload_n hC dX11_lay_0 rfl 0 rfl ?_
  refine z_iload_n hC dX11_lay_1 rfl 1 rfl ?_
  refine z_callV (ci := 11) (rest := []) hC (ck_mk lk_X11_130 in_X11_modelAt cd_X11_modelAt ds_X11_modelAt (Nat.le_of_ble_eq_true rfl) (Nat.le_of_ble_eq_true rfl)) iy_X11_modelAt sy_X11_modelAt cf_11 (by decide) (kX_0 hF) (ct_X11_modelAt hF E) rfl rfl (Nat.le_of_ble_eq_true rfl) ⟨Nat.le_refl _, Nat.le_refl _⟩ dX11_lay_2 ?_
  rintro _ _ _ ⟨r4, rfl, rfl, rfl, hq_r4, E⟩
  refine z_astoreq_n (lv' := [(3, va_rf (mq G r4)), (0, .ref (G.1 + 0)), (1, .int a1), (2, .int a2)]) hC dX11_lay_5 rfl (Nat.le_of_ble_eq_true rfl) rfl ?_
  refine z_aloadq_n hC dX11_lay_6 rfl 0 rfl ?_
  refine z_ifnonnullM (tgt := 12) hC hq_r4 dX11_lay_7 (by decide) ?_ ?_
  · intro t kd hM c6
    replace E := E.2 t kd c6
    subst c6
    have hT := hM.ft
    refine z_iload_n hC dX11_lay_12 rfl 3 rfl ?_
    refine z_if_lt (tgt := 22) hC dX11_lay_13 (by decide) (fun c7 => ?_) (fun c7 => ?_)
    · replace E := E.1 c7
      refine z_bipush (v := -2) hC dX11_lay_22 rfl ?_
      exact z_iret hC dX11_lay_24 (Nat.le_refl _) (Nat.le_refl _) ⟨_, rfl, rfl, E⟩
    · replace E := E.2 c7
      refine z_iload_n hC dX11_lay_16 rfl 3 rfl ?_
      refine z_bipush (v := 6) hC dX11_lay_17 rfl ?_
      refine z_icmp_le (tgt := 25) hC dX11_lay_19 (by decide) (fun c8 => ?_) (fun c8 => ?_)
      · replace E := E.1 c8
        refine z_aload_n hC dX11_lay_25 rfl 0 rfl ?_
        refine z_aload_n hC dX11_lay_26 rfl 1 rfl ?_
        refine z_get hC lf_X11_12_11 (kX_0 hF) dX11_lay_27 (fV_ref rfl (rX_0_0 hF)) ?_
        refine zv_X11_146 (rest := []) hC hF hM (by have := hM.kd; omega) E rfl (Nat.le_of_ble_eq_true rfl) ⟨Nat.le_of_ble_eq_true rfl, Nat.le_of_ble_eq_true rfl⟩ ⟨Nat.le_refl _, Nat.le_refl _⟩ dX11_lay_30 ?_
        rintro _ _ D14 ⟨rfl, rfl, E⟩
        refine z_iconst (v := 0) hC dX11_lay_33 rfl ?_
        refine z_istore (lv' := [(4, .int (0 : Int32)), (3, .ref (G.1 + (t + 9))), (0, .ref (G.1 + 0)), (1, .int a1), (2, .int a2)]) hC dX11_lay_34 (Nat.le_of_ble_eq_true rfl) rfl ?_
        refine z_iconst (v := 0) hC dX11_lay_36 rfl ?_
        refine z_istore (lv' := [(5, .int (0 : Int32)), (4, .int (0 : Int32)), (3, .ref (G.1 + (t + 9))), (0, .ref (G.1 + 0)), (1, .int a1), (2, .int a2)]) hC dX11_lay_37 (Nat.le_of_ble_eq_true rfl) rfl ?_
        refine z_iconst (v := 1) hC dX11_lay_39 rfl ?_
        refine z_istore (lv' := [(6, .int (1 : Int32)), (5, .int (0 : Int32)), (4, .int (0 : Int32)), (3, .ref (G.1 + (t + 9))), (0, .ref (G.1 + 0)), (1, .int a1), (2, .int a2)]) hC dX11_lay_40 (Nat.le_of_ble_eq_true rfl) rfl ?_
        refine z_sub [4, 6, 3, 2, 1, 0] rfl ?_
        refine LP4_use (fun (v15 : Int32) (v16 : Int32) (v17 : Int32) (D18 : Dy) => ZM l G p e s m args below meth c 9 6 S (PI S post) S D18 42 [(0, .ref (G.1 + 0)), (2, .int a2), (3, .ref (G.1 + (t + 9))), (4, .int v15), (5, .int v16), (6, .int v17)] []) ?_ FU (0 : Int32) (0 : Int32) (1 : Int32) D14 E
        intro rec19 hrec20 v15 v16 v17 D18 E
        refine z_iload hC dX11_lay_42 5 rfl ?_
        refine z_iconst (v := 1) hC dX11_lay_44 rfl ?_
        refine z_aload_n hC dX11_lay_45 rfl 0 rfl ?_
        refine z_get hC lf_X11_12_11 (kX_0 hF) dX11_lay_46 (fV_ref rfl (rX_0_0 hF)) ?_
        refine z_get hC lf_X11_224_1 (kX_1 hF) dX11_lay_49 (fV_int rfl) ?_
        refine z_ishl hC dX11_lay_52 ?_
        refine z_icmp_ge (tgt := 119) hC dX11_lay_53 (by decide) (fun c21 => ?_) (fun c21 => ?_)
        · replace E := E.1 c21
          refine z_iload hC dX11_lay_119 3 rfl ?_
          exact z_iret hC dX11_lay_121 (Nat.le_refl _) (Nat.le_refl _) ⟨_, rfl, rfl, E⟩
        · replace E := E.2 c21
          refine z_iload hC dX11_lay_56 5 rfl ?_
          refine z_bitCount hC lk_X11_225 ⟨Nat.le_of_ble_eq_true rfl, Nat.le_of_ble_eq_true rfl⟩ ⟨Nat.zero_le _, Nat.zero_le _⟩ (Nat.le_of_ble_eq_true rfl) dX11_lay_58 ?_
          refine z_topi (fun v22 h23 => ?_)
          replace E := E v22 h23
          refine z_istore (lv' := [(7, .int v22), (0, .ref (G.1 + 0)), (2, .int a2), (3, .ref (G.1 + (t + 9))), (4, .int v15), (5, .int v16), (6, .int v17)]) hC dX11_lay_61 (Nat.le_of_ble_eq_true rfl) rfl ?_
          refine z_iload hC dX11_lay_63 0 rfl ?_
          refine z_iload_n hC dX11_lay_65 rfl 2 rfl ?_
          obtain ⟨K27, hK28, EE⟩ := JN_use E (fun K27 : Int32 → Int32 → Dy → Prop => ∀ (v24 : Int32) (v25 : Int32) (D26 : Dy), K27 v24 v25 D26 → ZM l G p e s m args below meth c 9 6 S (PI S post) S D26 113 [(0, .ref (G.1 + 0)), (2, .int a2), (3, .ref (G.1 + (t + 9))), (4, .int v24), (5, .int v25), (6, .int v17)] []) (by
            intro v24 v25 D26 E
            obtain ⟨v29, h30⟩ : ∃ y : Int32, y = v17 + 1 := ⟨_, rfl⟩
            replace E := E v29 h30
            refine z_iinc (q := 5) (v := v29) (lv' := [(6, .int v29), (0, .ref (G.1 + 0)), (2, .int a2), (3, .ref (G.1 + (t + 9))), (4, .int v24), (5, .int v25)]) hC dX11_lay_113 rfl (by rw [h30]; rfl) (Nat.le_of_ble_eq_true rfl) rfl ?_
            refine z_goto (tgt := 42) hC dX11_lay_116 (by decide) ?_
            refine z_sub [1, 2, 3, 4, 5, 0] rfl ?_
            exact hrec20 v24 v25 v29 D26 E)
          replace E := EE
          clear EE
          refine z_icmp_le (tgt := 72) hC dX11_lay_66 (by decide) (fun c31 => ?_) (fun c31 => ?_)
          · replace E := E.1 c31
            refine z_aload_n hC dX11_lay_72 rfl 1 rfl ?_
            refine z_aload_n hC dX11_lay_73 rfl 3 rfl ?_
            refine z_iload hC dX11_lay_74 6 rfl ?_
            refine z_callV (ci := 11) (rest := []) hC (ck_mk lk_X11_221 in_X11_coinOf cd_X11_coinOf ds_X11_coinOf (Nat.le_of_ble_eq_true rfl) (Nat.le_of_ble_eq_true rfl)) iy_X11_coinOf sy_X11_coinOf cf_11 (by decide) (kX_0 hF) (ct_X11_coinOf hF hM E) rfl rfl (Nat.le_of_ble_eq_true rfl) ⟨Nat.le_refl _, Nat.le_refl _⟩ dX11_lay_76 ?_
            rintro _ _ D37 ⟨v32, rfl, rfl, E⟩
            refine z_istore (lv' := [(8, .int v32), (7, .int v22), (0, .ref (G.1 + 0)), (2, .int a2), (3, .ref (G.1 + (t + 9))), (4, .int v15), (5, .int v16), (6, .int v17)]) hC dX11_lay_79 (Nat.le_of_ble_eq_true rfl) rfl ?_
            refine z_iload hC dX11_lay_81 0 rfl ?_
            refine z_iload hC dX11_lay_83 6 rfl ?_
            obtain ⟨K38, hK39, EE⟩ := JN_use E (fun K38 : Prop => K38 → ZM l G p e s m args below meth c 9 6 S (PI S post) S D37 105 [(0, .ref (G.1 + 0)), (2, .int a2), (3, .ref (G.1 + (t + 9))), (6, .int v17), (8, .int v32)] []) (by
              intro E
              refine z_iload hC dX11_lay_105 4 rfl ?_
              refine z_istore (lv' := [(5, .int v32), (0, .ref (G.1 + 0)), (2, .int a2), (3, .ref (G.1 + (t + 9))), (6, .int v17), (8, .int v32)]) hC dX11_lay_107 (Nat.le_of_ble_eq_true rfl) rfl ?_
              refine z_iload hC dX11_lay_109 4 rfl ?_
              refine z_istore (lv' := [(4, .int v17), (5, .int v32), (0, .ref (G.1 + 0)), (2, .int a2), (3, .ref (G.1 + (t + 9))), (6, .int v17), (8, .int v32)]) hC dX11_lay_111 (Nat.le_of_ble_eq_true rfl) rfl ?_
              refine z_sub [2, 3, 4, 0, 1, 5] rfl ?_
              exact hK28 v17 v32 D37 E)
            replace E := EE
            clear EE
            refine z_icmp_gt (tgt := 105) hC dX11_lay_85 (by decide) (fun c40 => ?_) (fun c40 => ?_)
            · replace E := E.1 c40
              refine z_sub [2, 3, 4, 7, 0] rfl ?_
              exact hK39  E
            · replace E := E.2 c40
              refine z_iload hC dX11_lay_88 0 rfl ?_
              refine z_iload hC dX11_lay_90 6 rfl ?_
              refine z_icmp_ne (tgt := 113) hC dX11_lay_92 (by decide) (fun c41 => ?_) (fun c41 => ?_)
              · replace E := E.1 c41
                refine z_sub [2, 3, 4, 5, 6, 7] rfl ?_
                exact hK28 v15 v16 D37 E
              · replace E := E.2 c41
                refine z_iload hC dX11_lay_95 1 rfl ?_
                refine z_iload hC dX11_lay_97 5 rfl ?_
                refine z_bitCount hC lk_X11_225 ⟨Nat.le_of_ble_eq_true rfl, Nat.le_of_ble_eq_true rfl⟩ ⟨Nat.zero_le _, Nat.zero_le _⟩ (Nat.le_of_ble_eq_true rfl) dX11_lay_99 ?_
                refine z_topi (fun v42 h43 => ?_)
                replace E := E v42 h43
                refine z_icmp_ge (tgt := 113) hC dX11_lay_102 (by decide) (fun c44 => ?_) (fun c44 => ?_)
                · replace E := E.1 c44
                  refine z_sub [2, 3, 4, 5, 6, 7] rfl ?_
                  exact hK28 v15 v16 D37 E
                · replace E := E.2 c44
                  refine z_sub [2, 3, 4, 7, 0] rfl ?_
                  exact hK39  E
          · replace E := E.2 c31
            refine z_goto (tgt := 113) hC dX11_lay_69 (by decide) ?_
            refine z_sub [1, 2, 3, 4, 5, 6] rfl ?_
            exact hK28 v15 v16 D18 E
      · replace E := E.2 c8
        refine z_bipush (v := -2) hC dX11_lay_22 rfl ?_
        exact z_iret hC dX11_lay_24 (Nat.le_refl _) (Nat.le_refl _) ⟨_, rfl, rfl, E⟩
  · intro c6
    replace E := E.1 c6
    refine z_iconst (v := -1) hC dX11_lay_10 rfl ?_
    exact z_iret hC dX11_lay_11 (Nat.le_refl _) (Nat.le_refl _) ⟨_, rfl, rfl, E⟩
def fX11_letgo (a1 : Int32) (D : Dy) (post : Int32 → Dy → Prop) : Prop :=
  (fX11_within a1 (D.1 0 3) (fun (v2 : Int32) => ((¬ v2 = 0 → (fX11_gatherOne a1 D (fun (D12 : Dy) => (fX6_fewestBroken D12 (fun (v13 : Int32) (D18 : Dy) => post v13 D18))))) ∧ (v2 = 0 → post (-1 : Int32) D))))
set_option maxHeartbeats 4000000 in
set_option maxRecDepth 100000 in
theorem ct_X11_letgo {l : Launch} {G : Gl} {S : Sh} {D : Dy} {mdl : Nat → Option (Nat × Nat)} (hF : FX S mdl) {a1 : Int32} {post : Int32 → Dy → Prop} (E : fX11_letgo a1 D post) : Ct l G yX11_letgo cX11_letgo 2 (some .int) 4 0 0 S D [.ref (G.1 + 0), .int a1] (PI S post) := by
  refine z_enter (lv0 := [(0, .ref (G.1 + 0)), (1, .int a1)]) pl_11 (Nat.le_of_ble_eq_true rfl) rfl ?_
  intro p e s m args below meth c hC hnm
  unfold fX11_letgo at E
  refine z_iload_n hC dX11_letgo_0 rfl 1 rfl ?_
  refine z_aload_n hC dX11_letgo_1 rfl 0 rfl ?_
  refine z_get hC lf_X11_91_11 (kX_0 hF) dX11_letgo_2 (fV_int rfl) ?_
  refine z_callS (rest := []) hC (ck_mk lk_X11_69 in_X11_within cd_X11_within ds_X11_within (Nat.le_of_ble_eq_true rfl) (Nat.le_of_ble_eq_true rfl)) st_X11_within (ct_X11_within hF E) rfl rfl (Nat.le_of_ble_eq_true rfl) ⟨Nat.le_refl _, Nat.le_refl _⟩ dX11_letgo_5 ?_
  rintro _ _ _ ⟨v2, rfl, rfl, rfl, E⟩
  refine z_if_ne (tgt := 13) hC dX11_letgo_8 (by decide) (fun c6 => ?_) (fun c6 => ?_)
  · replace E := E.1 c6
    refine z_aload_n hC dX11_letgo_13 rfl 0 rfl ?_
    refine z_iload_n hC dX11_letgo_14 rfl 1 rfl ?_
    refine z_callV (ci := 11) (rest := []) hC (ck_mk lk_X11_181 in_X11_gatherOne cd_X11_gatherOne ds_X11_gatherOne (Nat.le_of_ble_eq_true rfl) (Nat.le_of_ble_eq_true rfl)) iy_X11_gatherOne sy_X11_gatherOne cf_11 (by decide) (kX_0 hF) (ct_X11_gatherOne hF E) rfl rfl (Nat.le_of_ble_eq_true rfl) ⟨Nat.le_refl _, Nat.le_refl _⟩ dX11_letgo_15 ?_
    rintro _ _ D12 ⟨rfl, rfl, E⟩
    refine z_aload_n hC dX11_letgo_18 rfl 0 rfl ?_
    refine z_get hC lf_X11_44_11 (kX_0 hF) dX11_letgo_19 (fV_ref rfl (rX_0_9 hF)) ?_
    refine z_callV (ci := 6) (rest := []) hC (ck_mk lk_X11_189 in_X6_fewestBroken cd_X6_fewestBroken ds_X6_fewestBroken (Nat.le_of_ble_eq_true rfl) (Nat.le_of_ble_eq_true rfl)) iy_X6_fewestBroken sy_X6_fewestBroken cf_6 (by decide) (kX_14 hF) (ct_X6_fewestBroken hF E) rfl rfl (Nat.le_of_ble_eq_true rfl) ⟨Nat.le_refl _, Nat.le_refl _⟩ dX11_letgo_22 ?_
    rintro _ _ D18 ⟨v13, rfl, rfl, E⟩
    exact z_iret hC dX11_letgo_25 (Nat.le_refl _) (Nat.le_refl _) ⟨_, rfl, rfl, E⟩
  · replace E := E.2 c6
    refine z_iconst (v := -1) hC dX11_letgo_11 rfl ?_
    exact z_iret hC dX11_letgo_12 (Nat.le_refl _) (Nat.le_refl _) ⟨_, rfl, rfl, E⟩
def fX11_like (a1 : Int32) (a2 : Int32) (D : Dy) (post : Int32 → Dy → Prop) : Prop :=
  (fX11_within a1 (D.1 0 3) (fun (v2 : Int32) => ((v2 = 0 → post (-1 : Int32) D) ∧ (¬ v2 = 0 → (fX11_within a2 (D.1 0 3) (fun (v8 : Int32) => ((¬ v8 = 0 → ((¬ a1 = a2 → (fX11_gatherOne a1 D (fun (D19 : Dy) => (fX11_gatherMore a2 D19 (fun (D25 : Dy) => (fX6_countAgreeing D25 (fun (v26 : Int32) (D31 : Dy) => ((v26 ≤ 0 → post (0 : Int32) D31) ∧ (¬ v26 ≤ 0 → post (1 : Int32) D31))))))))) ∧ (a1 = a2 → post (-2 : Int32) D))) ∧ (v8 = 0 → post (-1 : Int32) D))))))))
set_option maxHeartbeats 4000000 in
set_option maxRecDepth 100000 in
theorem ct_X11_like {l : Launch} {G : Gl} {S : Sh} {D : Dy} {mdl : Nat → Option (Nat × Nat)} (hF : FX S mdl) {a1 : Int32} {a2 : Int32} {post : Int32 → Dy → Prop} (E : fX11_like a1 a2 D post) : Ct l G yX11_like cX11_like 3 (some .int) 4 0 0 S D [.ref (G.1 + 0), .int a1, .int a2] (PI S post) := by
  refine z_enter (lv0 := [(0, .ref (G.1 + 0)), (1, .int a1), (2, .int a2)]) pl_11 (Nat.le_of_ble_eq_true rfl) rfl ?_
  intro p e s m args below meth c hC hnm
  unfold fX11_like at E
  refine z_iload_n hC dX11_like_0 rfl 1 rfl ?_
  refine z_aload_n hC dX11_like_1 rfl 0 rfl ?_
  refine z_get hC lf_X11_91_11 (kX_0 hF) dX11_like_2 (fV_int rfl) ?_
  refine z_callS (rest := []) hC (ck_mk lk_X11_69 in_X11_within cd_X11_within ds_X11_within (Nat.le_of_ble_eq_true rfl) (Nat.le_of_ble_eq_true rfl)) st_X11_within (ct_X11_within hF E) rfl rfl (Nat.le_of_ble_eq_true rfl) ⟨Nat.le_refl _, Nat.le_refl _⟩ dX11_like_5 ?_
  rintro _ _ _ ⟨v2, rfl, rfl, rfl, E⟩
  refine z_if_eq (tgt := 22) hC dX11_like_8 (by decide) (fun c6 => ?_) (fun c6 => ?_)
  · replace E := E.1 c6
    refine z_iconst (v := -1) hC dX11_like_22 rfl ?_
    exact z_iret hC dX11_like_23 (Nat.le_refl _) (Nat.le_refl _) ⟨_, rfl, rfl, E⟩
  · replace E := E.2 c6
    refine z_iload_n hC dX11_like_11 rfl 2 rfl ?_
    refine z_aload_n hC dX11_like_12 rfl 0 rfl ?_
    refine z_get hC lf_X11_91_11 (kX_0 hF) dX11_like_13 (fV_int rfl) ?_
    refine z_callS (rest := []) hC (ck_mk lk_X11_69 in_X11_within cd_X11_within ds_X11_within (Nat.le_of_ble_eq_true rfl) (Nat.le_of_ble_eq_true rfl)) st_X11_within (ct_X11_within hF E) rfl rfl (Nat.le_of_ble_eq_true rfl) ⟨Nat.le_refl _, Nat.le_refl _⟩ dX11_like_16 ?_
    rintro _ _ _ ⟨v8, rfl, rfl, rfl, E⟩
    refine z_if_ne (tgt := 24) hC dX11_like_19 (by decide) (fun c12 => ?_) (fun c12 => ?_)
    · replace E := E.1 c12
      refine z_iload_n hC dX11_like_24 rfl 1 rfl ?_
      refine z_iload_n hC dX11_like_25 rfl 2 rfl ?_
      refine z_icmp_ne (tgt := 32) hC dX11_like_26 (by decide) (fun c13 => ?_) (fun c13 => ?_)
      · replace E := E.1 c13
        refine z_aload_n hC dX11_like_32 rfl 0 rfl ?_
        refine z_iload_n hC dX11_like_33 rfl 1 rfl ?_
        refine z_callV (ci := 11) (rest := []) hC (ck_mk lk_X11_181 in_X11_gatherOne cd_X11_gatherOne ds_X11_gatherOne (Nat.le_of_ble_eq_true rfl) (Nat.le_of_ble_eq_true rfl)) iy_X11_gatherOne sy_X11_gatherOne cf_11 (by decide) (kX_0 hF) (ct_X11_gatherOne hF E) rfl rfl (Nat.le_of_ble_eq_true rfl) ⟨Nat.le_refl _, Nat.le_refl _⟩ dX11_like_34 ?_
        rintro _ _ D19 ⟨rfl, rfl, E⟩
        refine z_aload_n hC dX11_like_37 rfl 0 rfl ?_
        refine z_iload_n hC dX11_like_38 rfl 2 rfl ?_
        refine z_callV (ci := 11) (rest := []) hC (ck_mk lk_X11_192 in_X11_gatherMore cd_X11_gatherMore ds_X11_gatherMore (Nat.le_of_ble_eq_true rfl) (Nat.le_of_ble_eq_true rfl)) iy_X11_gatherMore sy_X11_gatherMore cf_11 (by decide) (kX_0 hF) (ct_X11_gatherMore hF E) rfl rfl (Nat.le_of_ble_eq_true rfl) ⟨Nat.le_refl _, Nat.le_refl _⟩ dX11_like_39 ?_
        rintro _ _ D25 ⟨rfl, rfl, E⟩
        refine z_aload_n hC dX11_like_42 rfl 0 rfl ?_
        refine z_get hC lf_X11_44_11 (kX_0 hF) dX11_like_43 (fV_ref rfl (rX_0_9 hF)) ?_
        refine z_callV (ci := 6) (rest := []) hC (ck_mk lk_X11_185 in_X6_countAgreeing cd_X6_countAgreeing ds_X6_countAgreeing (Nat.le_of_ble_eq_true rfl) (Nat.le_of_ble_eq_true rfl)) iy_X6_countAgreeing sy_X6_countAgreeing cf_6 (by decide) (kX_14 hF) (ct_X6_countAgreeing hF E) rfl rfl (Nat.le_of_ble_eq_true rfl) ⟨Nat.le_refl _, Nat.le_refl _⟩ dX11_like_46 ?_
        rintro _ _ D31 ⟨v26, rfl, rfl, E⟩
        refine z_if_le (tgt := 56) hC dX11_like_49 (by decide) (fun c32 => ?_) (fun c32 => ?_)
        · replace E := E.1 c32
          refine z_iconst (v := 0) hC dX11_like_56 rfl ?_
          exact z_iret hC dX11_like_57 (Nat.le_refl _) (Nat.le_refl _) ⟨_, rfl, rfl, E⟩
        · replace E := E.2 c32
          refine z_iconst (v := 1) hC dX11_like_52 rfl ?_
          refine z_goto (tgt := 57) hC dX11_like_53 (by decide) ?_
          exact z_iret hC dX11_like_57 (Nat.le_refl _) (Nat.le_refl _) ⟨_, rfl, rfl, E⟩
      · replace E := E.2 c13
        refine z_bipush (v := -2) hC dX11_like_29 rfl ?_
        exact z_iret hC dX11_like_31 (Nat.le_refl _) (Nat.le_refl _) ⟨_, rfl, rfl, E⟩
    · replace E := E.2 c12
      refine z_iconst (v := -1) hC dX11_like_22 rfl ?_
      exact z_iret hC dX11_like_23 (Nat.le_refl _) (Nat.le_refl _) ⟨_, rfl, rfl, E⟩
def v_isBeaten (t kd : Nat) (a1 : Int32) (D : Dy) (post : Int32 → Prop) : Prop :=
  (kd = 0 → fX4_isBeaten t 0 a1 D post) ∧ (kd = 1 → fX4_isBeaten t 1 a1 D post) ∧ (kd = 2 → fX4_isBeaten t 2 a1 D post) ∧ (kd = 3 → fX4_isBeaten t 3 a1 D post) ∧ (kd = 4 → fX4_isBeaten t 4 a1 D post) ∧ (kd = 5 → fX4_isBeaten t 5 a1 D post)
theorem v_isBeaten_0 {t : Nat} {a1 : Int32} {D : Dy} {post : Int32 → Prop} (h : fX4_isBeaten t 0 a1 D post) : v_isBeaten t 0 a1 D post := ⟨fun _ => h, fun q => absurd q (by decide), fun q => absurd q (by decide), fun q => absurd q (by decide), fun q => absurd q (by decide), fun q => absurd q (by decide)⟩
theorem v_isBeaten_1 {t : Nat} {a1 : Int32} {D : Dy} {post : Int32 → Prop} (h : fX4_isBeaten t 1 a1 D post) : v_isBeaten t 1 a1 D post := ⟨fun q => absurd q (by decide), fun _ => h, fun q => absurd q (by decide), fun q => absurd q (by decide), fun q => absurd q (by decide), fun q => absurd q (by decide)⟩
theorem v_isBeaten_2 {t : Nat} {a1 : Int32} {D : Dy} {post : Int32 → Prop} (h : fX4_isBeaten t 2 a1 D post) : v_isBeaten t 2 a1 D post := ⟨fun q => absurd q (by decide), fun q => absurd q (by decide), fun _ => h, fun q => absurd q (by decide), fun q => absurd q (by decide), fun q => absurd q (by decide)⟩
theorem v_isBeaten_3 {t : Nat} {a1 : Int32} {D : Dy} {post : Int32 → Prop} (h : fX4_isBeaten t 3 a1 D post) : v_isBeaten t 3 a1 D post := ⟨fun q => absurd q (by decide), fun q => absurd q (by decide), fun q => absurd q (by decide), fun _ => h, fun q => absurd q (by decide), fun q => absurd q (by decide)⟩
theorem v_isBeaten_4 {t : Nat} {a1 : Int32} {D : Dy} {post : Int32 → Prop} (h : fX4_isBeaten t 4 a1 D post) : v_isBeaten t 4 a1 D post := ⟨fun q => absurd q (by decide), fun q => absurd q (by decide), fun q => absurd q (by decide), fun q => absurd q (by decide), fun _ => h, fun q => absurd q (by decide)⟩
theorem v_isBeaten_5 {t : Nat} {a1 : Int32} {D : Dy} {post : Int32 → Prop} (h : fX4_isBeaten t 5 a1 D post) : v_isBeaten t 5 a1 D post := ⟨fun q => absurd q (by decide), fun q => absurd q (by decide), fun q => absurd q (by decide), fun q => absurd q (by decide), fun q => absurd q (by decide), fun _ => h⟩
theorem cu_X11_310_0 : CU RX4 RX4 ⟨"WhyChosen$Model", "isBeaten", "(I)Z"⟩ yX4_isBeaten := ⟨tw_773, tw_772, iy_X4_isBeaten, iy_X4_isBeaten, ⟨_, _, _, cd_X4_isBeaten⟩, by decide +kernel, by decide +kernel⟩
theorem cu_X11_310_1 : CU RX7 RX4 ⟨"WhyChosen$Model", "isBeaten", "(I)Z"⟩ yX4_isBeaten := ⟨tw_773, tw_777, iy_X4_isBeaten, iy_X4_isBeaten, ⟨_, _, _, cd_X4_isBeaten⟩, by decide +kernel, by decide +kernel⟩
theorem cu_X11_310_2 : CU RX5 RX4 ⟨"WhyChosen$Model", "isBeaten", "(I)Z"⟩ yX4_isBeaten := ⟨tw_773, tw_776, iy_X4_isBeaten, iy_X4_isBeaten, ⟨_, _, _, cd_X4_isBeaten⟩, by decide +kernel, by decide +kernel⟩
theorem cu_X11_310_3 : CU RX3 RX4 ⟨"WhyChosen$Model", "isBeaten", "(I)Z"⟩ yX4_isBeaten := ⟨tw_773, tw_775, iy_X4_isBeaten, iy_X4_isBeaten, ⟨_, _, _, cd_X4_isBeaten⟩, by decide +kernel, by decide +kernel⟩
theorem cu_X11_310_4 : CU RX2 RX4 ⟨"WhyChosen$Model", "isBeaten", "(I)Z"⟩ yX4_isBeaten := ⟨tw_773, tw_774, iy_X4_isBeaten, iy_X4_isBeaten, ⟨_, _, _, cd_X4_isBeaten⟩, by decide +kernel, by decide +kernel⟩
theorem cu_X11_310_5 : CU RX8 RX4 ⟨"WhyChosen$Model", "isBeaten", "(I)Z"⟩ yX4_isBeaten := ⟨tw_773, tw_778, iy_X4_isBeaten, iy_X4_isBeaten, ⟨_, _, _, cd_X4_isBeaten⟩, by decide +kernel, by decide +kernel⟩
theorem lk_X11_310 : Cond.methodLink RX11 310 ⟨"WhyChosen$Model", "isBeaten", "(I)Z"⟩ ∈ TB := tw_770
section ZVV
variable {p : Program} {l : Launch} {e : Env} {R : Room} {s : State} {m : MethodId} {args : Array Value} {below : List Frame} {meth : Method} {c : Code} {nL : Nat} {k n : Nat} {Q : State → Prop} {pc : Nat} {lv : List (Nat × Value)} {st : List Value}
variable {G : Gl} {cc : ByteArray} {own : String} {ret : Option FieldType} {A : Nat → Prop} {S S' S0 : Sh} {D D' : Dy} {a N : Nat} {Wp : Heap → List Loc → Prop}

set_option maxRecDepth 100000 in
theorem zv_X11_310 (hC : CX G cc RX11 nL ret p s m args meth c) {mdl : Nat → Option (Nat × Nat)} (hF : FX S mdl) {t kd : Nat} (hM : FMo S t kd) (hk : kd < 6) {a1 : Int32} {post : Int32 → Prop} (E : v_isBeaten t kd a1 D post) {rest : List Value} (hstk : st = List.reverse [.int a1] ++ .ref (G.1 + (t + 9)) :: rest) (hrm : (rest.map fun v => v.category).sum ≤ 8) (hR : 0 + 1 ≤ R.frames ∧ 8 + (3 + 11) + 60 * 0 ≤ R.locals) (hkn : k + 0 ≤ R.cells ∧ n + 0 ≤ R.slots) (hd : decode cc pc = .ok (.invokevirtual 310, 3)) (kz : ∀ v S1 D1, (PIr S D post) v S1 D1 → Z p l e R s m args below meth c nL (WM G s A S1 D1) (k + 0) (n + 0) Q (pc + 3) lv (v.toList ++ rest)) : Z p l e R s m args below meth c nL (WM G s A S D) k n Q pc lv st := by
  obtain rfl | rfl | rfl | rfl | rfl | rfl : kd = 0 ∨ kd = 1 ∨ kd = 2 ∨ kd = 3 ∨ kd = 4 ∨ kd = 5 := by omega
  · exact z_callU (ci := 4) (C := RX4) (owner := RX4) (x := ⟨"WhyChosen$Model", "isBeaten", "(I)Z"⟩) (av := [.int a1]) hC lk_X11_310 in_X4_isBeaten cd_X4_isBeaten dn_X4_isBeaten (by omega) cu_X11_310_0 cf_4 (by decide) (kO hM) (ct_X4_isBeaten hF hM (E.1 rfl)) rfl hstk hrm hkn hd kz
  · exact z_callU (ci := 7) (C := RX7) (owner := RX4) (x := ⟨"WhyChosen$Model", "isBeaten", "(I)Z"⟩) (av := [.int a1]) hC lk_X11_310 in_X4_isBeaten cd_X4_isBeaten dn_X4_isBeaten (by omega) cu_X11_310_1 cf_7 (by decide) (kO hM) (ct_X4_isBeaten hF hM (E.2.1 rfl)) rfl hstk hrm hkn hd kz
  · exact z_callU (ci := 5) (C := RX5) (owner := RX4) (x := ⟨"WhyChosen$Model", "isBeaten", "(I)Z"⟩) (av := [.int a1]) hC lk_X11_310 in_X4_isBeaten cd_X4_isBeaten dn_X4_isBeaten (by omega) cu_X11_310_2 cf_5 (by decide) (kO hM) (ct_X4_isBeaten hF hM (E.2.2.1 rfl)) rfl hstk hrm hkn hd kz
  · exact z_callU (ci := 3) (C := RX3) (owner := RX4) (x := ⟨"WhyChosen$Model", "isBeaten", "(I)Z"⟩) (av := [.int a1]) hC lk_X11_310 in_X4_isBeaten cd_X4_isBeaten dn_X4_isBeaten (by omega) cu_X11_310_3 cf_3 (by decide) (kO hM) (ct_X4_isBeaten hF hM (E.2.2.2.1 rfl)) rfl hstk hrm hkn hd kz
  · exact z_callU (ci := 2) (C := RX2) (owner := RX4) (x := ⟨"WhyChosen$Model", "isBeaten", "(I)Z"⟩) (av := [.int a1]) hC lk_X11_310 in_X4_isBeaten cd_X4_isBeaten dn_X4_isBeaten (by omega) cu_X11_310_4 cf_2 (by decide) (kO hM) (ct_X4_isBeaten hF hM (E.2.2.2.2.1 rfl)) rfl hstk hrm hkn hd kz
  · exact z_callU (ci := 8) (C := RX8) (owner := RX4) (x := ⟨"WhyChosen$Model", "isBeaten", "(I)Z"⟩) (av := [.int a1]) hC lk_X11_310 in_X4_isBeaten cd_X4_isBeaten dn_X4_isBeaten (by omega) cu_X11_310_5 cf_8 (by decide) (kO hM) (ct_X4_isBeaten hF hM (E.2.2.2.2.2 rfl)) rfl hstk hrm hkn hd kz
end ZVV
def fX11_missesOf (t : Nat) (kd : Nat) (a2 : Int32) (D : Dy) (post : Int32 → Dy → Prop) : Prop :=
  (v_prepare t kd D (fun (D6 : Dy) => (LP3 (fun (rec10 : Int32 → Int32 → Dy → Prop) (v7 : Int32) (v8 : Int32) (D9 : Dy) => (((D9.1 7 4) ≤ v8 → post v7 D9) ∧ (¬ (D9.1 7 4) ≤ v8 → (vp_in v8 80 ∧ (JN (fun (v13 : Int32) (D14 : Dy) => (∀ v17 : Int32, v17 = v8 + 1 → (rec10 v13 v17 D14))) (fun K15 : Int32 → Dy → Prop => ((¬ (D9.1 11 (v8).toNatClampNeg) = a2 → (K15 v7 D9)) ∧ ((D9.1 11 (v8).toNatClampNeg) = a2 → (vp_in v8 80 ∧ (vp_in v8 80 ∧ (vp_in (D9.1 8 (v8).toNatClampNeg) 16 ∧ (v_share t kd (D9.1 9 (v8).toNatClampNeg) (D9.1 5 ((D9.1 8 (v8).toNatClampNeg)).toNatClampNeg) D9 (fun (D25 : Dy) => (vp_in v8 80 ∧ (v_isBeaten t kd (D25.1 10 (v8).toNatClampNeg) D25 (fun (v27 : Int32) => (JN (fun (v31 : Int32) => (∀ v34 : Int32, v34 = (v7 + v31) → (K15 v34 D25))) (fun K32 : Int32 → Prop => ((v27 = 0 → (K32 (0 : Int32))) ∧ (¬ v27 = 0 → (K32 (1 : Int32)))))))))))))))))))))) FU (0 : Int32) (0 : Int32) D6)))
set_option maxHeartbeats 4000000 in
set_option maxRecDepth 100000 in
theorem ct_X11_missesOf {l : Launch} {G : Gl} {S : Sh} {D : Dy} {mdl : Nat → Option (Nat × Nat)} (hF : FX S mdl) {t kd : Nat} (hM : FMo S t kd) {a2 : Int32} {post : Int32 → Dy → Prop} (E : fX11_missesOf t kd a2 D post) : Ct l G yX11_missesOf cX11_missesOf 5 (some .int) 6 0 0 S D [.ref (G.1 + 0), .ref (G.1 + (t + 9)), .int a2] (PI S post) := by
  refine z_enter (lv0 := [(0, .ref (G.1 + 0)), (1, .ref (G.1 + (t + 9))), (2, .int a2)]) pl_11 (Nat.le_of_ble_eq_true rfl) rfl ?_
  intro p e s m args below meth c hC hnm
  unfold fX11_missesOf at E
  have hT := hM.ft
  refine z_aload_n hC dX11_missesOf_0 rfl 1 rfl ?_
  refine z_aload_n hC dX11_missesOf_1 rfl 0 rfl ?_
  refine z_get hC lf_X11_12_11 (kX_0 hF) dX11_missesOf_2 (fV_ref rfl (rX_0_0 hF)) ?_
  refine zv_X11_146 (rest := []) hC hF hM (by have := hM.kd; omega) E rfl (Nat.le_of_ble_eq_true rfl) ⟨Nat.le_of_ble_eq_true rfl, Nat.le_of_ble_eq_true rfl⟩ ⟨Nat.le_refl _, Nat.le_refl _⟩ dX11_missesOf_5 ?_
  rintro _ _ D6 ⟨rfl, rfl, E⟩
  refine z_iconst (v := 0) hC dX11_missesOf_8 rfl ?_
  refine z_istore_n (lv' := [(3, .int (0 : Int32)), (0, .ref (G.1 + 0)), (1, .ref (G.1 + (t + 9))), (2, .int a2)]) hC dX11_missesOf_9 rfl (Nat.le_of_ble_eq_true rfl) rfl ?_
  refine z_iconst (v := 0) hC dX11_missesOf_10 rfl ?_
  refine z_istore (lv' := [(4, .int (0 : Int32)), (3, .int (0 : Int32)), (0, .ref (G.1 + 0)), (1, .ref (G.1 + (t + 9))), (2, .int a2)]) hC dX11_missesOf_11 (Nat.le_of_ble_eq_true rfl) rfl ?_
  refine z_sub [2, 3, 4, 1, 0] rfl ?_
  refine LP3_use (fun (v7 : Int32) (v8 : Int32) (D9 : Dy) => ZM l G p e s m args below meth c 5 6 S (PI S post) S D9 13 [(0, .ref (G.1 + 0)), (1, .ref (G.1 + (t + 9))), (2, .int a2), (3, .int v7), (4, .int v8)] []) ?_ FU (0 : Int32) (0 : Int32) D6 E
  intro rec10 hrec11 v7 v8 D9 E
  refine z_iload hC dX11_missesOf_13 4 rfl ?_
  refine z_aload_n hC dX11_missesOf_15 rfl 0 rfl ?_
  refine z_get hC lf_X11_28_11 (kX_0 hF) dX11_missesOf_16 (fV_ref rfl (rX_0_4 hF)) ?_
  refine z_get hC lf_X11_73_0 (kX_7 hF) dX11_missesOf_19 (fV_int rfl) ?_
  refine z_icmp_ge (tgt := 103) hC dX11_missesOf_22 (by decide) (fun c12 => ?_) (fun c12 => ?_)
  · replace E := E.1 c12
    refine z_iload_n hC dX11_missesOf_103 rfl 3 rfl ?_
    exact z_iret hC dX11_missesOf_104 (Nat.le_refl _) (Nat.le_refl _) ⟨_, rfl, rfl, E⟩
  · replace E := E.2 c12
    refine z_aload_n hC dX11_missesOf_25 rfl 0 rfl ?_
    refine z_get hC lf_X11_28_11 (kX_0 hF) dX11_missesOf_26 (fV_ref rfl (rX_0_4 hF)) ?_
    refine z_get hC lf_X11_97_0 (kX_7 hF) dX11_missesOf_29 (fV_ref rfl (rX_7_3 hF)) ?_
    refine z_iload hC dX11_missesOf_32 4 rfl ?_
    refine z_iald hC (kX_11 hF) (nX_11 hF) E.1 dX11_missesOf_34 ?_
    replace E := E.2
    refine z_iload_n hC dX11_missesOf_35 rfl 2 rfl ?_
    obtain ⟨K15, hK16, EE⟩ := JN_use E (fun K15 : Int32 → Dy → Prop => ∀ (v13 : Int32) (D14 : Dy), K15 v13 D14 → ZM l G p e s m args below meth c 5 6 S (PI S post) S D14 97 [(0, .ref (G.1 + 0)), (1, .ref (G.1 + (t + 9))), (2, .int a2), (3, .int v13), (4, .int v8)] []) (by
      intro v13 D14 E
      obtain ⟨v17, h18⟩ : ∃ y : Int32, y = v8 + 1 := ⟨_, rfl⟩
      replace E := E v17 h18
      refine z_iinc (q := 4) (v := v17) (lv' := [(4, .int v17), (0, .ref (G.1 + 0)), (1, .ref (G.1 + (t + 9))), (2, .int a2), (3, .int v13)]) hC dX11_missesOf_97 rfl (by rw [h18]; rfl) (Nat.le_of_ble_eq_true rfl) rfl ?_
      refine z_goto (tgt := 13) hC dX11_missesOf_100 (by decide) ?_
      refine z_sub [1, 2, 3, 4, 0] rfl ?_
      exact hrec11 v13 v17 D14 E)
    replace E := EE
    clear EE
    refine z_icmp_ne (tgt := 97) hC dX11_missesOf_36 (by decide) (fun c19 => ?_) (fun c19 => ?_)
    · replace E := E.1 c19
      exact hK16 v7 D9 E
    · replace E := E.2 c19
      refine z_aload_n hC dX11_missesOf_39 rfl 1 rfl ?_
      refine z_aload_n hC dX11_missesOf_40 rfl 0 rfl ?_
      refine z_get hC lf_X11_12_11 (kX_0 hF) dX11_missesOf_41 (fV_ref rfl (rX_0_0 hF)) ?_
      refine z_aload_n hC dX11_missesOf_44 rfl 0 rfl ?_
      refine z_get hC lf_X11_28_11 (kX_0 hF) dX11_missesOf_45 (fV_ref rfl (rX_0_4 hF)) ?_
      refine z_get hC lf_X11_102_0 (kX_7 hF) dX11_missesOf_48 (fV_ref rfl (rX_7_1 hF)) ?_
      refine z_iload hC dX11_missesOf_51 4 rfl ?_
      refine z_iald hC (kX_9 hF) (nX_9 hF) E.1 dX11_missesOf_53 ?_
      replace E := E.2
      refine z_aload_n hC dX11_missesOf_54 rfl 0 rfl ?_
      refine z_get hC lf_X11_18_11 (kX_0 hF) dX11_missesOf_55 (fV_ref rfl (rX_0_1 hF)) ?_
      refine z_aload_n hC dX11_missesOf_58 rfl 0 rfl ?_
      refine z_get hC lf_X11_28_11 (kX_0 hF) dX11_missesOf_59 (fV_ref rfl (rX_0_4 hF)) ?_
      refine z_get hC lf_X11_100_0 (kX_7 hF) dX11_missesOf_62 (fV_ref rfl (rX_7_0 hF)) ?_
      refine z_iload hC dX11_missesOf_65 4 rfl ?_
      refine z_iald hC (kX_8 hF) (nX_8 hF) E.1 dX11_missesOf_67 ?_
      replace E := E.2
      refine z_iald hC (kX_5 hF) (nX_5 hF) E.1 dX11_missesOf_68 ?_
      replace E := E.2
      refine zv_X11_150 (rest := []) hC hF hM (by have := hM.kd; omega) E rfl (Nat.le_of_ble_eq_true rfl) ⟨Nat.le_of_ble_eq_true rfl, Nat.le_of_ble_eq_true rfl⟩ ⟨Nat.le_refl _, Nat.le_refl _⟩ dX11_missesOf_69 ?_
      rintro _ _ D25 ⟨rfl, rfl, E⟩
      refine z_iload_n hC dX11_missesOf_72 rfl 3 rfl ?_
      refine z_aload_n hC dX11_missesOf_73 rfl 1 rfl ?_
      refine z_aload_n hC dX11_missesOf_74 rfl 0 rfl ?_
      refine z_get hC lf_X11_28_11 (kX_0 hF) dX11_missesOf_75 (fV_ref rfl (rX_0_4 hF)) ?_
      refine z_get hC lf_X11_105_0 (kX_7 hF) dX11_missesOf_78 (fV_ref rfl (rX_7_2 hF)) ?_
      refine z_iload hC dX11_missesOf_81 4 rfl ?_
      refine z_iald hC (kX_10 hF) (nX_10 hF) E.1 dX11_missesOf_83 ?_
      replace E := E.2
      refine zv_X11_310 (rest := [.int v7]) hC hF hM (by have := hM.kd; omega) E rfl (Nat.le_of_ble_eq_true rfl) ⟨Nat.le_of_ble_eq_true rfl, Nat.le_of_ble_eq_true rfl⟩ ⟨Nat.le_refl _, Nat.le_refl _⟩ dX11_missesOf_84 ?_
      rintro _ _ _ ⟨v27, rfl, rfl, rfl, E⟩
      obtain ⟨K32, hK33, EE⟩ := JN_use E (fun K32 : Int32 → Prop => ∀ (v31 : Int32), K32 v31 → ZM l G p e s m args below meth c 5 6 S (PI S post) S D25 95 [(0, .ref (G.1 + 0)), (1, .ref (G.1 + (t + 9))), (2, .int a2), (4, .int v8)] [.int v31, .int v7]) (by
        intro v31 E
        refine z_iadd hC dX11_missesOf_95 ?_
        refine z_topi (fun v34 h35 => ?_)
        replace E := E v34 h35
        refine z_istore_n (lv' := [(3, .int v34), (0, .ref (G.1 + 0)), (1, .ref (G.1 + (t + 9))), (2, .int a2), (4, .int v8)]) hC dX11_missesOf_96 rfl (Nat.le_of_ble_eq_true rfl) rfl ?_
        refine z_sub [1, 2, 3, 0, 4] rfl ?_
        exact hK16 v34 D25 E)
      replace E := EE
      clear EE
      refine z_if_eq (tgt := 94) hC dX11_missesOf_87 (by decide) (fun c36 => ?_) (fun c36 => ?_)
      · replace E := E.1 c36
        refine z_iconst (v := 0) hC dX11_missesOf_94 rfl ?_
        refine z_sub [0, 1, 2, 4] rfl ?_
        exact hK33 (0 : Int32) E
      · replace E := E.2 c36
        refine z_iconst (v := 1) hC dX11_missesOf_90 rfl ?_
        refine z_goto (tgt := 95) hC dX11_missesOf_91 (by decide) ?_
        refine z_sub [0, 1, 2, 4] rfl ?_
        exact hK33 (1 : Int32) E
def fX11_misses (mdl : Nat → Option (Nat × Nat)) (a1 : Int32) (a2 : Int32) (D : Dy) (post : Int32 → Dy → Prop) : Prop :=
  (fX11_modelAt mdl a1 D (fun (r4 : Option (Nat × Nat)) => (JN (post (-1 : Int32) D) (fun K6 : Prop => ((r4 = none → K6) ∧ (∀ t kd : Nat, r4 = some (t, kd) → (fX11_isScored a2 (fun (v10 : Int32) => ((¬ v10 = 0 → (fX11_missesOf t kd a2 D (fun (v15 : Int32) (D20 : Dy) => post v15 D20))) ∧ (v10 = 0 → K6))))))))))
set_option maxHeartbeats 4000000 in
set_option maxRecDepth 100000 in
theorem ct_X11_misses {l : Launch} {G : Gl} {S : Sh} {D : Dy} {mdl : Nat → Option (Nat × Nat)} (hF : FX S mdl) {a1 : Int32} {a2 : Int32} {post : Int32 → Dy → Prop} (E : fX11_misses mdl a1 a2 D post) : Ct l G yX11_misses cX11_misses 4 (some .int) 7 0 0 S D [.ref (G.1 + 0), .int a1, .int a2] (PI S post) := by
  refine z_enter (lv0 := [(0, .ref (G.1 + 0)), (1, .int a1), (2, .int a2)]) pl_11 (Nat.le_of_ble_eq_true rfl) rfl ?_
  intro p e s m args below meth c hC hnm
  unfold fX11_misses at E
  refine z_aload_n hC dX11_misses_0 rfl 0 rfl ?_
  refine z_iload_n hC dX11_misses_1 rfl 1 rfl ?_
  refine z_callV (ci := 11) (rest := []) hC (ck_mk lk_X11_130 in_X11_modelAt cd_X11_modelAt ds_X11_modelAt (Nat.le_of_ble_eq_true rfl) (Nat.le_of_ble_eq_true rfl)) iy_X11_modelAt sy_X11_modelAt cf_11 (by decide) (kX_0 hF) (ct_X11_modelAt hF E) rfl rfl (Nat.le_of_ble_eq_true rfl) ⟨Nat.le_refl _, Nat.le_refl _⟩ dX11_misses_2 ?_
  rintro _ _ _ ⟨r4, rfl, rfl, rfl, hq_r4, E⟩
  refine z_astoreq_n (lv' := [(3, va_rf (mq G r4)), (0, .ref (G.1 + 0)), (1, .int a1), (2, .int a2)]) hC dX11_misses_5 rfl (Nat.le_of_ble_eq_true rfl) rfl ?_
  refine z_aloadq_n hC dX11_misses_6 rfl 0 rfl ?_
  obtain ⟨K6, hK7, EE⟩ := JN_use E (fun K6 : Prop => K6 → ZM l G p e s m args below meth c 4 7 S (PI S post) S D 17 [] []) (by
    intro E
    refine z_iconst (v := -1) hC dX11_misses_17 rfl ?_
    refine z_goto (tgt := 27) hC dX11_misses_18 (by decide) ?_
    exact z_iret hC dX11_misses_27 (Nat.le_refl _) (Nat.le_refl _) ⟨_, rfl, rfl, E⟩)
  replace E := EE
  clear EE
  refine z_ifnullM (tgt := 17) hC hq_r4 dX11_misses_7 (by decide) ?_ ?_
  · intro c8
    replace E := E.1 c8
    refine z_sub [] rfl ?_
    exact hK7  E
  · intro t kd hM c8
    replace E := E.2 t kd c8
    subst c8
    have hT := hM.ft
    refine z_iload_n hC dX11_misses_10 rfl 3 rfl ?_
    refine z_callS (rest := []) hC (ck_mk lk_X11_165 in_X11_isScored cd_X11_isScored ds_X11_isScored (Nat.le_of_ble_eq_true rfl) (Nat.le_of_ble_eq_true rfl)) st_X11_isScored (ct_X11_isScored hF E) rfl rfl (Nat.le_of_ble_eq_true rfl) ⟨Nat.le_refl _, Nat.le_refl _⟩ dX11_misses_11 ?_
    rintro _ _ _ ⟨v10, rfl, rfl, rfl, E⟩
    refine z_if_ne (tgt := 21) hC dX11_misses_14 (by decide) (fun c14 => ?_) (fun c14 => ?_)
    · replace E := E.1 c14
      refine z_aload_n hC dX11_misses_21 rfl 1 rfl ?_
      refine z_aload_n hC dX11_misses_22 rfl 0 rfl ?_
      refine z_iload_n hC dX11_misses_23 rfl 3 rfl ?_
      refine z_callV (ci := 11) (rest := []) hC (ck_mk lk_X11_172 in_X11_missesOf cd_X11_missesOf ds_X11_missesOf (Nat.le_of_ble_eq_true rfl) (Nat.le_of_ble_eq_true rfl)) iy_X11_missesOf sy_X11_missesOf cf_11 (by decide) (kX_0 hF) (ct_X11_missesOf hF hM E) rfl rfl (Nat.le_of_ble_eq_true rfl) ⟨Nat.le_refl _, Nat.le_refl _⟩ dX11_misses_24 ?_
      rintro _ _ D20 ⟨v15, rfl, rfl, E⟩
      exact z_iret hC dX11_misses_27 (Nat.le_refl _) (Nat.le_refl _) ⟨_, rfl, rfl, E⟩
    · replace E := E.2 c14
      refine z_sub [] rfl ?_
      exact hK7  E
def fX11_must (a1 : Int32) (a2 : Int32) (a3 : Int32) (D : Dy) (post : Int32 → Dy → Prop) : Prop :=
  (fX1_has a1 D (fun (v2 : Int32) => ((v2 = 0 → post (-1 : Int32) D) ∧ (¬ v2 = 0 → (fX11_within a3 (2 : Int32) (fun (v8 : Int32) => ((¬ v8 = 0 → (fX1_hasSome a2 D (fun (v14 : Int32) => ((v14 = 0 → post (-2 : Int32) D) ∧ (¬ v14 = 0 → (fX11_isIn a1 a2 (fun (v20 : Int32) => ((¬ v20 = 0 → (LP3 (fun (rec28 : Int32 → Int32 → Dy → Prop) (v25 : Int32) (v26 : Int32) (D27 : Dy) => (((D27.1 0 3) ≤ v26 → post v25 D27) ∧ (¬ (D27.1 0 3) ≤ v26 → (fX11_couldTake v26 a2 D27 (fun (v31 : Int32) (D36 : Dy) => (JN (fun (v37 : Int32) => (∀ v40 : Int32, v40 = v26 + 1 → (rec28 v37 v40 D36))) (fun K38 : Int32 → Prop => (JN ((∀ v44 : Int32, v44 = v25 + 1 → (K38 v44))) (fun K42 : Prop => ((¬ a3 = 0 → (fX11_isIn a1 v31 (fun (v48 : Int32) => ((v48 = 0 → (K38 v25)) ∧ (¬ v48 = 0 → K42))))) ∧ (a3 = 0 → ((¬ v31 = ((1 : Int32) <<< (a1 &&& 31)) → (K38 v25)) ∧ (v31 = ((1 : Int32) <<< (a1 &&& 31)) → K42))))))))))))) FU (0 : Int32) (0 : Int32) D)) ∧ (v20 = 0 → post (-2 : Int32) D))))))))) ∧ (v8 = 0 → post (-1 : Int32) D))))))))
set_option maxHeartbeats 4000000 in
set_option maxRecDepth 100000 in
theorem ct_X11_must {l : Launch} {G : Gl} {S : Sh} {D : Dy} {mdl : Nat → Option (Nat × Nat)} (hF : FX S mdl) {a1 : Int32} {a2 : Int32} {a3 : Int32} {post : Int32 → Dy → Prop} (E : fX11_must a1 a2 a3 D post) : Ct l G yX11_must cX11_must 7 (some .int) 5 0 0 S D [.ref (G.1 + 0), .int a1, .int a2, .int a3] (PI S post) := by
  refine z_enter (lv0 := [(0, .ref (G.1 + 0)), (1, .int a1), (2, .int a2), (3, .int a3)]) pl_11 (Nat.le_of_ble_eq_true rfl) rfl ?_
  intro p e s m args below meth c hC hnm
  unfold fX11_must at E
  refine z_aload_n hC dX11_must_0 rfl 0 rfl ?_
  refine z_get hC lf_X11_12_11 (kX_0 hF) dX11_must_1 (fV_ref rfl (rX_0_0 hF)) ?_
  refine z_iload_n hC dX11_must_4 rfl 1 rfl ?_
  refine z_callV (ci := 1) (rest := []) hC (ck_mk lk_X11_84 in_X1_has cd_X1_has ds_X1_has (Nat.le_of_ble_eq_true rfl) (Nat.le_of_ble_eq_true rfl)) iy_X1_has sy_X1_has cf_1 (by decide) (kX_1 hF) (ct_X1_has hF E) rfl rfl (Nat.le_of_ble_eq_true rfl) ⟨Nat.le_refl _, Nat.le_refl _⟩ dX11_must_5 ?_
  rintro _ _ _ ⟨v2, rfl, rfl, rfl, E⟩
  refine z_if_eq (tgt := 19) hC dX11_must_8 (by decide) (fun c6 => ?_) (fun c6 => ?_)
  · replace E := E.1 c6
    refine z_iconst (v := -1) hC dX11_must_19 rfl ?_
    exact z_iret hC dX11_must_20 (Nat.le_refl _) (Nat.le_refl _) ⟨_, rfl, rfl, E⟩
  · replace E := E.2 c6
    refine z_iload_n hC dX11_must_11 rfl 3 rfl ?_
    refine z_iconst (v := 2) hC dX11_must_12 rfl ?_
    refine z_callS (rest := []) hC (ck_mk lk_X11_69 in_X11_within cd_X11_within ds_X11_within (Nat.le_of_ble_eq_true rfl) (Nat.le_of_ble_eq_true rfl)) st_X11_within (ct_X11_within hF E) rfl rfl (Nat.le_of_ble_eq_true rfl) ⟨Nat.le_refl _, Nat.le_refl _⟩ dX11_must_13 ?_
    rintro _ _ _ ⟨v8, rfl, rfl, rfl, E⟩
    refine z_if_ne (tgt := 21) hC dX11_must_16 (by decide) (fun c12 => ?_) (fun c12 => ?_)
    · replace E := E.1 c12
      refine z_aload_n hC dX11_must_21 rfl 0 rfl ?_
      refine z_get hC lf_X11_12_11 (kX_0 hF) dX11_must_22 (fV_ref rfl (rX_0_0 hF)) ?_
      refine z_iload_n hC dX11_must_25 rfl 2 rfl ?_
      refine z_callV (ci := 1) (rest := []) hC (ck_mk lk_X11_143 in_X1_hasSome cd_X1_hasSome ds_X1_hasSome (Nat.le_of_ble_eq_true rfl) (Nat.le_of_ble_eq_true rfl)) iy_X1_hasSome sy_X1_hasSome cf_1 (by decide) (kX_1 hF) (ct_X1_hasSome hF E) rfl rfl (Nat.le_of_ble_eq_true rfl) ⟨Nat.le_refl _, Nat.le_refl _⟩ dX11_must_26 ?_
      rintro _ _ _ ⟨v14, rfl, rfl, rfl, E⟩
      refine z_if_eq (tgt := 40) hC dX11_must_29 (by decide) (fun c18 => ?_) (fun c18 => ?_)
      · replace E := E.1 c18
        refine z_bipush (v := -2) hC dX11_must_40 rfl ?_
        exact z_iret hC dX11_must_42 (Nat.le_refl _) (Nat.le_refl _) ⟨_, rfl, rfl, E⟩
      · replace E := E.2 c18
        refine z_iload_n hC dX11_must_32 rfl 1 rfl ?_
        refine z_iload_n hC dX11_must_33 rfl 2 rfl ?_
        refine z_callS (rest := []) hC (ck_mk lk_X11_199 in_X11_isIn cd_X11_isIn ds_X11_isIn (Nat.le_of_ble_eq_true rfl) (Nat.le_of_ble_eq_true rfl)) st_X11_isIn (ct_X11_isIn hF E) rfl rfl (Nat.le_of_ble_eq_true rfl) ⟨Nat.le_refl _, Nat.le_refl _⟩ dX11_must_34 ?_
        rintro _ _ _ ⟨v20, rfl, rfl, rfl, E⟩
        refine z_if_ne (tgt := 43) hC dX11_must_37 (by decide) (fun c24 => ?_) (fun c24 => ?_)
        · replace E := E.1 c24
          refine z_iconst (v := 0) hC dX11_must_43 rfl ?_
          refine z_istore (lv' := [(4, .int (0 : Int32)), (0, .ref (G.1 + 0)), (1, .int a1), (2, .int a2), (3, .int a3)]) hC dX11_must_44 (Nat.le_of_ble_eq_true rfl) rfl ?_
          refine z_iconst (v := 0) hC dX11_must_46 rfl ?_
          refine z_istore (lv' := [(5, .int (0 : Int32)), (4, .int (0 : Int32)), (0, .ref (G.1 + 0)), (1, .int a1), (2, .int a2), (3, .int a3)]) hC dX11_must_47 (Nat.le_of_ble_eq_true rfl) rfl ?_
          refine z_sub [2, 3, 4, 5, 1, 0] rfl ?_
          refine LP3_use (fun (v25 : Int32) (v26 : Int32) (D27 : Dy) => ZM l G p e s m args below meth c 7 5 S (PI S post) S D27 49 [(0, .ref (G.1 + 0)), (1, .int a1), (2, .int a2), (3, .int a3), (4, .int v25), (5, .int v26)] []) ?_ FU (0 : Int32) (0 : Int32) D E
          intro rec28 hrec29 v25 v26 D27 E
          refine z_iload hC dX11_must_49 5 rfl ?_
          refine z_aload_n hC dX11_must_51 rfl 0 rfl ?_
          refine z_get hC lf_X11_91_11 (kX_0 hF) dX11_must_52 (fV_int rfl) ?_
          refine z_icmp_ge (tgt := 100) hC dX11_must_55 (by decide) (fun c30 => ?_) (fun c30 => ?_)
          · replace E := E.1 c30
            refine z_iload hC dX11_must_100 4 rfl ?_
            exact z_iret hC dX11_must_102 (Nat.le_refl _) (Nat.le_refl _) ⟨_, rfl, rfl, E⟩
          · replace E := E.2 c30
            refine z_aload_n hC dX11_must_58 rfl 0 rfl ?_
            refine z_iload hC dX11_must_59 5 rfl ?_
            refine z_iload_n hC dX11_must_61 rfl 2 rfl ?_
            refine z_callV (ci := 11) (rest := []) hC (ck_mk lk_X11_195 in_X11_couldTake cd_X11_couldTake ds_X11_couldTake (Nat.le_of_ble_eq_true rfl) (Nat.le_of_ble_eq_true rfl)) iy_X11_couldTake sy_X11_couldTake cf_11 (by decide) (kX_0 hF) (ct_X11_couldTake hF E) rfl rfl (Nat.le_of_ble_eq_true rfl) ⟨Nat.le_refl _, Nat.le_refl _⟩ dX11_must_62 ?_
            rintro _ _ D36 ⟨v31, rfl, rfl, E⟩
            refine z_istore (lv' := [(6, .int v31), (0, .ref (G.1 + 0)), (1, .int a1), (2, .int a2), (3, .int a3), (4, .int v25), (5, .int v26)]) hC dX11_must_65 (Nat.le_of_ble_eq_true rfl) rfl ?_
            refine z_iload_n hC dX11_must_67 rfl 4 rfl ?_
            obtain ⟨K38, hK39, EE⟩ := JN_use E (fun K38 : Int32 → Prop => ∀ (v37 : Int32), K38 v37 → ZM l G p e s m args below meth c 7 5 S (PI S post) S D36 94 [(0, .ref (G.1 + 0)), (1, .int a1), (2, .int a2), (3, .int a3), (4, .int v37), (5, .int v26)] []) (by
              intro v37 E
              obtain ⟨v40, h41⟩ : ∃ y : Int32, y = v26 + 1 := ⟨_, rfl⟩
              replace E := E v40 h41
              refine z_iinc (q := 5) (v := v40) (lv' := [(5, .int v40), (0, .ref (G.1 + 0)), (1, .int a1), (2, .int a2), (3, .int a3), (4, .int v37)]) hC dX11_must_94 rfl (by rw [h41]; rfl) (Nat.le_of_ble_eq_true rfl) rfl ?_
              refine z_goto (tgt := 49) hC dX11_must_97 (by decide) ?_
              refine z_sub [1, 2, 3, 4, 5, 0] rfl ?_
              exact hrec29 v37 v40 D36 E)
            replace E := EE
            clear EE
            obtain ⟨K42, hK43, EE⟩ := JN_use E (fun K42 : Prop => K42 → ZM l G p e s m args below meth c 7 5 S (PI S post) S D36 91 [(0, .ref (G.1 + 0)), (1, .int a1), (2, .int a2), (3, .int a3), (4, .int v25), (5, .int v26)] []) (by
              intro E
              obtain ⟨v44, h45⟩ : ∃ y : Int32, y = v25 + 1 := ⟨_, rfl⟩
              replace E := E v44 h45
              refine z_iinc (q := 4) (v := v44) (lv' := [(4, .int v44), (0, .ref (G.1 + 0)), (1, .int a1), (2, .int a2), (3, .int a3), (5, .int v26)]) hC dX11_must_91 rfl (by rw [h45]; rfl) (Nat.le_of_ble_eq_true rfl) rfl ?_
              refine z_sub [1, 2, 3, 4, 0, 5] rfl ?_
              exact hK39 v44 E)
            replace E := EE
            clear EE
            refine z_if_ne (tgt := 82) hC dX11_must_68 (by decide) (fun c46 => ?_) (fun c46 => ?_)
            · replace E := E.1 c46
              refine z_iload_n hC dX11_must_82 rfl 2 rfl ?_
              refine z_iload hC dX11_must_83 0 rfl ?_
              refine z_callS (rest := []) hC (ck_mk lk_X11_199 in_X11_isIn cd_X11_isIn ds_X11_isIn (Nat.le_of_ble_eq_true rfl) (Nat.le_of_ble_eq_true rfl)) st_X11_isIn (ct_X11_isIn hF E) rfl rfl (Nat.le_of_ble_eq_true rfl) ⟨Nat.le_refl _, Nat.le_refl _⟩ dX11_must_85 ?_
              rintro _ _ _ ⟨v48, rfl, rfl, rfl, E⟩
              refine z_if_eq (tgt := 94) hC dX11_must_88 (by decide) (fun c52 => ?_) (fun c52 => ?_)
              · replace E := E.1 c52
                refine z_sub [1, 2, 3, 4, 5, 6] rfl ?_
                exact hK39 v25 E
              · replace E := E.2 c52
                refine z_sub [1, 2, 3, 4, 5, 6] rfl ?_
                exact hK43  E
            · replace E := E.2 c46
              refine z_iload hC dX11_must_71 0 rfl ?_
              refine z_iconst (v := 1) hC dX11_must_73 rfl ?_
              refine z_iload_n hC dX11_must_74 rfl 2 rfl ?_
              refine z_ishl hC dX11_must_75 ?_
              refine z_icmp_ne (tgt := 94) hC dX11_must_76 (by decide) (fun c53 => ?_) (fun c53 => ?_)
              · replace E := E.1 c53
                refine z_sub [1, 2, 3, 4, 5, 6] rfl ?_
                exact hK39 v25 E
              · replace E := E.2 c53
                refine z_goto (tgt := 91) hC dX11_must_79 (by decide) ?_
                refine z_sub [1, 2, 3, 4, 5, 6] rfl ?_
                exact hK43  E
        · replace E := E.2 c24
          refine z_bipush (v := -2) hC dX11_must_40 rfl ?_
          exact z_iret hC dX11_must_42 (Nat.le_refl _) (Nat.le_refl _) ⟨_, rfl, rfl, E⟩
    · replace E := E.2 c12
      refine z_iconst (v := -1) hC dX11_must_19 rfl ?_
      exact z_iret hC dX11_must_20 (Nat.le_refl _) (Nat.le_refl _) ⟨_, rfl, rfl, E⟩
def fX11_next (a1 : Int32) (D : Dy) (post : Int32 → Dy → Prop) : Prop :=
  (fX11_within a1 (D.1 0 3) (fun (v2 : Int32) => ((¬ v2 = 0 → (fX11_gatherOne a1 D (fun (D12 : Dy) => (fX6_countAgreeing D12 (fun (v13 : Int32) (D18 : Dy) => ((¬ v13 = 0 → (LP4 (fun (rec24 : Int32 → Int32 → Int32 → Dy → Prop) (v20 : Int32) (v21 : Int32) (v22 : Int32) (D23 : Dy) => (((D23.1 0 11) ≤ v22 → post v20 D23) ∧ (¬ (D23.1 0 11) ≤ v22 → (vp_in v22 10 ∧ (fX6_countTakes (D23.1 21 (v22).toNatClampNeg) D23 (fun (D32 : Dy) => (fX6_mostTakes D32 (fun (v33 : Int32) => (JN (fun (v38 : Int32) (v39 : Int32) => (∀ v42 : Int32, v42 = v22 + 1 → (rec24 v38 v39 v42 D32))) (fun K40 : Int32 → Int32 → Prop => (JN ((K40 v22 v33)) (fun K44 : Prop => ((v20 = (-5 : Int32) → K44) ∧ (¬ v20 = (-5 : Int32) → ((v21 ≤ v33 → (K40 v20 v21)) ∧ (¬ v21 ≤ v33 → K44)))))))))))))))) FU (-5 : Int32) (0 : Int32) (0 : Int32) D18)) ∧ (v13 = 0 → post (-5 : Int32) D18))))))) ∧ (v2 = 0 → post (-1 : Int32) D))))
set_option maxHeartbeats 4000000 in
set_option maxRecDepth 100000 in
theorem ct_X11_next {l : Launch} {G : Gl} {S : Sh} {D : Dy} {mdl : Nat → Option (Nat × Nat)} (hF : FX S mdl) {a1 : Int32} {post : Int32 → Dy → Prop} (E : fX11_next a1 D post) : Ct l G yX11_next cX11_next 6 (some .int) 4 0 0 S D [.ref (G.1 + 0), .int a1] (PI S post) := by
  refine z_enter (lv0 := [(0, .ref (G.1 + 0)), (1, .int a1)]) pl_11 (Nat.le_of_ble_eq_true rfl) rfl ?_
  intro p e s m args below meth c hC hnm
  unfold fX11_next at E
  refine z_iload_n hC dX11_next_0 rfl 1 rfl ?_
  refine z_aload_n hC dX11_next_1 rfl 0 rfl ?_
  refine z_get hC lf_X11_91_11 (kX_0 hF) dX11_next_2 (fV_int rfl) ?_
  refine z_callS (rest := []) hC (ck_mk lk_X11_69 in_X11_within cd_X11_within ds_X11_within (Nat.le_of_ble_eq_true rfl) (Nat.le_of_ble_eq_true rfl)) st_X11_within (ct_X11_within hF E) rfl rfl (Nat.le_of_ble_eq_true rfl) ⟨Nat.le_refl _, Nat.le_refl _⟩ dX11_next_5 ?_
  rintro _ _ _ ⟨v2, rfl, rfl, rfl, E⟩
  refine z_if_ne (tgt := 13) hC dX11_next_8 (by decide) (fun c6 => ?_) (fun c6 => ?_)
  · replace E := E.1 c6
    refine z_aload_n hC dX11_next_13 rfl 0 rfl ?_
    refine z_iload_n hC dX11_next_14 rfl 1 rfl ?_
    refine z_callV (ci := 11) (rest := []) hC (ck_mk lk_X11_181 in_X11_gatherOne cd_X11_gatherOne ds_X11_gatherOne (Nat.le_of_ble_eq_true rfl) (Nat.le_of_ble_eq_true rfl)) iy_X11_gatherOne sy_X11_gatherOne cf_11 (by decide) (kX_0 hF) (ct_X11_gatherOne hF E) rfl rfl (Nat.le_of_ble_eq_true rfl) ⟨Nat.le_refl _, Nat.le_refl _⟩ dX11_next_15 ?_
    rintro _ _ D12 ⟨rfl, rfl, E⟩
    refine z_aload_n hC dX11_next_18 rfl 0 rfl ?_
    refine z_get hC lf_X11_44_11 (kX_0 hF) dX11_next_19 (fV_ref rfl (rX_0_9 hF)) ?_
    refine z_callV (ci := 6) (rest := []) hC (ck_mk lk_X11_185 in_X6_countAgreeing cd_X6_countAgreeing ds_X6_countAgreeing (Nat.le_of_ble_eq_true rfl) (Nat.le_of_ble_eq_true rfl)) iy_X6_countAgreeing sy_X6_countAgreeing cf_6 (by decide) (kX_14 hF) (ct_X6_countAgreeing hF E) rfl rfl (Nat.le_of_ble_eq_true rfl) ⟨Nat.le_refl _, Nat.le_refl _⟩ dX11_next_22 ?_
    rintro _ _ D18 ⟨v13, rfl, rfl, E⟩
    refine z_if_ne (tgt := 31) hC dX11_next_25 (by decide) (fun c19 => ?_) (fun c19 => ?_)
    · replace E := E.1 c19
      refine z_bipush (v := -5) hC dX11_next_31 rfl ?_
      refine z_istore_n (lv' := [(2, .int (-5 : Int32)), (0, .ref (G.1 + 0)), (1, .int a1)]) hC dX11_next_33 rfl (Nat.le_of_ble_eq_true rfl) rfl ?_
      refine z_iconst (v := 0) hC dX11_next_34 rfl ?_
      refine z_istore_n (lv' := [(3, .int (0 : Int32)), (2, .int (-5 : Int32)), (0, .ref (G.1 + 0)), (1, .int a1)]) hC dX11_next_35 rfl (Nat.le_of_ble_eq_true rfl) rfl ?_
      refine z_iconst (v := 0) hC dX11_next_36 rfl ?_
      refine z_istore (lv' := [(4, .int (0 : Int32)), (3, .int (0 : Int32)), (2, .int (-5 : Int32)), (0, .ref (G.1 + 0)), (1, .int a1)]) hC dX11_next_37 (Nat.le_of_ble_eq_true rfl) rfl ?_
      refine z_sub [3, 2, 1, 0] rfl ?_
      refine LP4_use (fun (v20 : Int32) (v21 : Int32) (v22 : Int32) (D23 : Dy) => ZM l G p e s m args below meth c 6 4 S (PI S post) S D23 39 [(0, .ref (G.1 + 0)), (2, .int v20), (3, .int v21), (4, .int v22)] []) ?_ FU (-5 : Int32) (0 : Int32) (0 : Int32) D18 E
      intro rec24 hrec25 v20 v21 v22 D23 E
      refine z_iload hC dX11_next_39 3 rfl ?_
      refine z_aload_n hC dX11_next_41 rfl 0 rfl ?_
      refine z_get hC lf_X11_77_11 (kX_0 hF) dX11_next_42 (fV_int rfl) ?_
      refine z_icmp_ge (tgt := 95) hC dX11_next_45 (by decide) (fun c26 => ?_) (fun c26 => ?_)
      · replace E := E.1 c26
        refine z_iload_n hC dX11_next_95 rfl 1 rfl ?_
        exact z_iret hC dX11_next_96 (Nat.le_refl _) (Nat.le_refl _) ⟨_, rfl, rfl, E⟩
      · replace E := E.2 c26
        refine z_aload_n hC dX11_next_48 rfl 0 rfl ?_
        refine z_get hC lf_X11_44_11 (kX_0 hF) dX11_next_49 (fV_ref rfl (rX_0_9 hF)) ?_
        refine z_aload_n hC dX11_next_52 rfl 0 rfl ?_
        refine z_get hC lf_X11_48_11 (kX_0 hF) dX11_next_53 (fV_ref rfl (rX_0_10 hF)) ?_
        refine z_iload hC dX11_next_56 3 rfl ?_
        refine z_iald hC (kX_21 hF) (nX_21 hF) E.1 dX11_next_58 ?_
        replace E := E.2
        refine z_callV (ci := 6) (rest := []) hC (ck_mk lk_X11_202 in_X6_countTakes cd_X6_countTakes ds_X6_countTakes (Nat.le_of_ble_eq_true rfl) (Nat.le_of_ble_eq_true rfl)) iy_X6_countTakes sy_X6_countTakes cf_6 (by decide) (kX_14 hF) (ct_X6_countTakes hF E) rfl rfl (Nat.le_of_ble_eq_true rfl) ⟨Nat.le_refl _, Nat.le_refl _⟩ dX11_next_59 ?_
        rintro _ _ D32 ⟨rfl, rfl, E⟩
        refine z_aload_n hC dX11_next_62 rfl 0 rfl ?_
        refine z_get hC lf_X11_44_11 (kX_0 hF) dX11_next_63 (fV_ref rfl (rX_0_9 hF)) ?_
        refine z_callV (ci := 6) (rest := []) hC (ck_mk lk_X11_205 in_X6_mostTakes cd_X6_mostTakes ds_X6_mostTakes (Nat.le_of_ble_eq_true rfl) (Nat.le_of_ble_eq_true rfl)) iy_X6_mostTakes sy_X6_mostTakes cf_6 (by decide) (kX_14 hF) (ct_X6_mostTakes hF E) rfl rfl (Nat.le_of_ble_eq_true rfl) ⟨Nat.le_refl _, Nat.le_refl _⟩ dX11_next_66 ?_
        rintro _ _ _ ⟨v33, rfl, rfl, rfl, E⟩
        refine z_istore (lv' := [(5, .int v33), (0, .ref (G.1 + 0)), (2, .int v20), (3, .int v21), (4, .int v22)]) hC dX11_next_69 (Nat.le_of_ble_eq_true rfl) rfl ?_
        refine z_iload_n hC dX11_next_71 rfl 2 rfl ?_
        refine z_bipush (v := -5) hC dX11_next_72 rfl ?_
        obtain ⟨K40, hK41, EE⟩ := JN_use E (fun K40 : Int32 → Int32 → Prop => ∀ (v38 : Int32) (v39 : Int32), K40 v38 v39 → ZM l G p e s m args below meth c 6 4 S (PI S post) S D32 89 [(0, .ref (G.1 + 0)), (2, .int v38), (3, .int v39), (4, .int v22)] []) (by
          intro v38 v39 E
          obtain ⟨v42, h43⟩ : ∃ y : Int32, y = v22 + 1 := ⟨_, rfl⟩
          replace E := E v42 h43
          refine z_iinc (q := 3) (v := v42) (lv' := [(4, .int v42), (0, .ref (G.1 + 0)), (2, .int v38), (3, .int v39)]) hC dX11_next_89 rfl (by rw [h43]; rfl) (Nat.le_of_ble_eq_true rfl) rfl ?_
          refine z_goto (tgt := 39) hC dX11_next_92 (by decide) ?_
          refine z_sub [1, 2, 3, 0] rfl ?_
          exact hrec25 v38 v39 v42 D32 E)
        replace E := EE
        clear EE
        obtain ⟨K44, hK45, EE⟩ := JN_use E (fun K44 : Prop => K44 → ZM l G p e s m args below meth c 6 4 S (PI S post) S D32 83 [(0, .ref (G.1 + 0)), (4, .int v22), (5, .int v33)] []) (by
          intro E
          refine z_iload hC dX11_next_83 1 rfl ?_
          refine z_istore_n (lv' := [(2, .int v22), (0, .ref (G.1 + 0)), (4, .int v22), (5, .int v33)]) hC dX11_next_85 rfl (Nat.le_of_ble_eq_true rfl) rfl ?_
          refine z_iload hC dX11_next_86 3 rfl ?_
          refine z_istore_n (lv' := [(3, .int v33), (2, .int v22), (0, .ref (G.1 + 0)), (4, .int v22), (5, .int v33)]) hC dX11_next_88 rfl (Nat.le_of_ble_eq_true rfl) rfl ?_
          refine z_sub [2, 1, 0, 3] rfl ?_
          exact hK41 v22 v33 E)
        replace E := EE
        clear EE
        refine z_icmp_eq (tgt := 83) hC dX11_next_74 (by decide) (fun c46 => ?_) (fun c46 => ?_)
        · replace E := E.1 c46
          refine z_sub [1, 4, 0] rfl ?_
          exact hK45  E
        · replace E := E.2 c46
          refine z_iload hC dX11_next_77 0 rfl ?_
          refine z_iload_n hC dX11_next_79 rfl 3 rfl ?_
          refine z_icmp_ge (tgt := 89) hC dX11_next_80 (by decide) (fun c47 => ?_) (fun c47 => ?_)
          · replace E := E.1 c47
            refine z_sub [1, 2, 3, 4] rfl ?_
            exact hK41 v20 v21 E
          · replace E := E.2 c47
            refine z_sub [1, 4, 0] rfl ?_
            exact hK45  E
    · replace E := E.2 c19
      refine z_bipush (v := -5) hC dX11_next_28 rfl ?_
      exact z_iret hC dX11_next_30 (Nat.le_refl _) (Nat.le_refl _) ⟨_, rfl, rfl, E⟩
  · replace E := E.2 c6
    refine z_iconst (v := -1) hC dX11_next_11 rfl ?_
    exact z_iret hC dX11_next_12 (Nat.le_refl _) (Nat.le_refl _) ⟨_, rfl, rfl, E⟩
def fX11_odds (mdl : Nat → Option (Nat × Nat)) (a1 : Int32) (a2 : Int32) (a3 : Int32) (a4 : Int32) (a5 : Int32) (D : Dy) (post : Int64 → Dy → Prop) : Prop :=
  (fX11_modelAt mdl a1 D (fun (r4 : Option (Nat × Nat)) => ((r4 = none → post (-9223372036854775808 : Int64) D) ∧ (∀ t kd : Nat, r4 = some (t, kd) → (fX11_isOption a2 D (fun (v8 : Int32) => ((v8 = 0 → post (-9223372036854775808 : Int64) D) ∧ (¬ v8 = 0 → (fX11_within a4 (3 : Int32) (fun (v14 : Int32) => ((v14 = 0 → post (-9223372036854775808 : Int64) D) ∧ (¬ v14 = 0 → (fX11_within a5 (2 : Int32) (fun (v20 : Int32) => ((¬ v20 = 0 → (fX1_hasSome a3 D (fun (v26 : Int32) => ((¬ v26 = 0 → (v_prepare t kd D (fun (D36 : Dy) => (v_share t kd a3 a4 D36 (fun (D42 : Dy) => (vp_in a2 8 ∧ (vp_in a2 8 ∧ (fX11_greatestCommon (D42.2 (t + 11) (a2).toNatClampNeg) (D42.2 (t + 12) (a2).toNatClampNeg) (fun (w45 : Int64) => ((¬ a5 = 0 → (vp_in a2 8 ∧ (¬ w45 = 0 ∧ post ((D42.2 (t + 12) (a2).toNatClampNeg) / w45) D42))) ∧ (a5 = 0 → (vp_in a2 8 ∧ (¬ w45 = 0 ∧ post ((D42.2 (t + 11) (a2).toNatClampNeg) / w45) D42))))))))))))) ∧ (v26 = 0 → post (-9223372036854775808 : Int64) D))))) ∧ (v20 = 0 → post (-9223372036854775808 : Int64) D))))))))))))))))
set_option maxHeartbeats 4000000 in
set_option maxRecDepth 100000 in
theorem ct_X11_odds {l : Launch} {G : Gl} {S : Sh} {D : Dy} {mdl : Nat → Option (Nat × Nat)} (hF : FX S mdl) {a1 : Int32} {a2 : Int32} {a3 : Int32} {a4 : Int32} {a5 : Int32} {post : Int64 → Dy → Prop} (E : fX11_odds mdl a1 a2 a3 a4 a5 D post) : Ct l G yX11_odds cX11_odds 9 (some .long) 6 0 0 S D [.ref (G.1 + 0), .int a1, .int a2, .int a3, .int a4, .int a5] (PL S post) := by
  refine z_enter (lv0 := [(0, .ref (G.1 + 0)), (1, .int a1), (2, .int a2), (3, .int a3), (4, .int a4), (5, .int a5)]) pl_11 (Nat.le_of_ble_eq_true rfl) rfl ?_
  intro p e s m args below meth c hC hnm
  unfold fX11_odds at E
  refine z_aload_n hC dX11_odds_0 rfl 0 rfl ?_
  refine z_iload_n hC dX11_odds_1 rfl 1 rfl ?_
  refine z_callV (ci := 11) (rest := []) hC (ck_mk lk_X11_130 in_X11_modelAt cd_X11_modelAt ds_X11_modelAt (Nat.le_of_ble_eq_true rfl) (Nat.le_of_ble_eq_true rfl)) iy_X11_modelAt sy_X11_modelAt cf_11 (by decide) (kX_0 hF) (ct_X11_modelAt hF E) rfl rfl (Nat.le_of_ble_eq_true rfl) ⟨Nat.le_refl _, Nat.le_refl _⟩ dX11_odds_2 ?_
  rintro _ _ _ ⟨r4, rfl, rfl, rfl, hq_r4, E⟩
  refine z_astoreq (lv' := [(6, va_rf (mq G r4)), (0, .ref (G.1 + 0)), (1, .int a1), (2, .int a2), (3, .int a3), (4, .int a4), (5, .int a5)]) hC dX11_odds_5 (Nat.le_of_ble_eq_true rfl) rfl ?_
  refine z_aloadq hC dX11_odds_7 0 rfl ?_
  refine z_ifnullM (tgt := 38) hC hq_r4 dX11_odds_9 (by decide) ?_ ?_
  · intro c6
    replace E := E.1 c6
    refine z_ldc2 hC kl_X11_141 dX11_odds_38 ?_
    exact z_lret hC dX11_odds_41 (Nat.le_refl _) (Nat.le_refl _) ⟨_, rfl, rfl, E⟩
  · intro t kd hM c6
    replace E := E.2 t kd c6
    subst c6
    have hT := hM.ft
    refine z_aload_n hC dX11_odds_12 rfl 1 rfl ?_
    refine z_iload_n hC dX11_odds_13 rfl 3 rfl ?_
    refine z_callV (ci := 11) (rest := []) hC (ck_mk lk_X11_134 in_X11_isOption cd_X11_isOption ds_X11_isOption (Nat.le_of_ble_eq_true rfl) (Nat.le_of_ble_eq_true rfl)) iy_X11_isOption sy_X11_isOption cf_11 (by decide) (kX_0 hF) (ct_X11_isOption hF E) rfl rfl (Nat.le_of_ble_eq_true rfl) ⟨Nat.le_refl _, Nat.le_refl _⟩ dX11_odds_14 ?_
    rintro _ _ _ ⟨v8, rfl, rfl, rfl, E⟩
    refine z_if_eq (tgt := 38) hC dX11_odds_17 (by decide) (fun c12 => ?_) (fun c12 => ?_)
    · replace E := E.1 c12
      refine z_ldc2 hC kl_X11_141 dX11_odds_38 ?_
      exact z_lret hC dX11_odds_41 (Nat.le_refl _) (Nat.le_refl _) ⟨_, rfl, rfl, E⟩
    · replace E := E.2 c12
      refine z_iload hC dX11_odds_20 5 rfl ?_
      refine z_iconst (v := 3) hC dX11_odds_22 rfl ?_
      refine z_callS (rest := []) hC (ck_mk lk_X11_69 in_X11_within cd_X11_within ds_X11_within (Nat.le_of_ble_eq_true rfl) (Nat.le_of_ble_eq_true rfl)) st_X11_within (ct_X11_within hF E) rfl rfl (Nat.le_of_ble_eq_true rfl) ⟨Nat.le_refl _, Nat.le_refl _⟩ dX11_odds_23 ?_
      rintro _ _ _ ⟨v14, rfl, rfl, rfl, E⟩
      refine z_if_eq (tgt := 38) hC dX11_odds_26 (by decide) (fun c18 => ?_) (fun c18 => ?_)
      · replace E := E.1 c18
        refine z_ldc2 hC kl_X11_141 dX11_odds_38 ?_
        exact z_lret hC dX11_odds_41 (Nat.le_refl _) (Nat.le_refl _) ⟨_, rfl, rfl, E⟩
      · replace E := E.2 c18
        refine z_iload hC dX11_odds_29 6 rfl ?_
        refine z_iconst (v := 2) hC dX11_odds_31 rfl ?_
        refine z_callS (rest := []) hC (ck_mk lk_X11_69 in_X11_within cd_X11_within ds_X11_within (Nat.le_of_ble_eq_true rfl) (Nat.le_of_ble_eq_true rfl)) st_X11_within (ct_X11_within hF E) rfl rfl (Nat.le_of_ble_eq_true rfl) ⟨Nat.le_refl _, Nat.le_refl _⟩ dX11_odds_32 ?_
        rintro _ _ _ ⟨v20, rfl, rfl, rfl, E⟩
        refine z_if_ne (tgt := 42) hC dX11_odds_35 (by decide) (fun c24 => ?_) (fun c24 => ?_)
        · replace E := E.1 c24
          refine z_aload_n hC dX11_odds_42 rfl 1 rfl ?_
          refine z_get hC lf_X11_12_11 (kX_0 hF) dX11_odds_43 (fV_ref rfl (rX_0_0 hF)) ?_
          refine z_iload_n hC dX11_odds_46 rfl 4 rfl ?_
          refine z_callV (ci := 1) (rest := []) hC (ck_mk lk_X11_143 in_X1_hasSome cd_X1_hasSome ds_X1_hasSome (Nat.le_of_ble_eq_true rfl) (Nat.le_of_ble_eq_true rfl)) iy_X1_hasSome sy_X1_hasSome cf_1 (by decide) (kX_1 hF) (ct_X1_hasSome hF E) rfl rfl (Nat.le_of_ble_eq_true rfl) ⟨Nat.le_refl _, Nat.le_refl _⟩ dX11_odds_47 ?_
          rintro _ _ _ ⟨v26, rfl, rfl, rfl, E⟩
          refine z_if_ne (tgt := 57) hC dX11_odds_50 (by decide) (fun c30 => ?_) (fun c30 => ?_)
          · replace E := E.1 c30
            refine z_aload hC dX11_odds_57 0 rfl ?_
            refine z_aload_n hC dX11_odds_59 rfl 1 rfl ?_
            refine z_get hC lf_X11_12_11 (kX_0 hF) dX11_odds_60 (fV_ref rfl (rX_0_0 hF)) ?_
            refine zv_X11_146 (rest := []) hC hF hM (by have := hM.kd; omega) E rfl (Nat.le_of_ble_eq_true rfl) ⟨Nat.le_of_ble_eq_true rfl, Nat.le_of_ble_eq_true rfl⟩ ⟨Nat.le_refl _, Nat.le_refl _⟩ dX11_odds_63 ?_
            rintro _ _ D36 ⟨rfl, rfl, E⟩
            refine z_aload hC dX11_odds_66 0 rfl ?_
            refine z_aload_n hC dX11_odds_68 rfl 1 rfl ?_
            refine z_get hC lf_X11_12_11 (kX_0 hF) dX11_odds_69 (fV_ref rfl (rX_0_0 hF)) ?_
            refine z_iload_n hC dX11_odds_72 rfl 4 rfl ?_
            refine z_iload hC dX11_odds_73 5 rfl ?_
            refine zv_X11_150 (rest := []) hC hF hM (by have := hM.kd; omega) E rfl (Nat.le_of_ble_eq_true rfl) ⟨Nat.le_of_ble_eq_true rfl, Nat.le_of_ble_eq_true rfl⟩ ⟨Nat.le_refl _, Nat.le_refl _⟩ dX11_odds_75 ?_
            rintro _ _ D42 ⟨rfl, rfl, E⟩
            refine z_aload hC dX11_odds_78 0 rfl ?_
            refine z_get hC (lfm_X11_154 hM.kd) (kO hM) dX11_odds_80 (fVm_4 hM) ?_
            refine z_iload_n hC dX11_odds_83 rfl 3 rfl ?_
            refine z_lald hC (kO_11 hM) (nO_11 hM) E.1 dX11_odds_84 ?_
            replace E := E.2
            refine z_aload hC dX11_odds_85 0 rfl ?_
            refine z_get hC (lfm_X11_158 hM.kd) (kO hM) dX11_odds_87 (fVm_5 hM) ?_
            refine z_iload_n hC dX11_odds_90 rfl 3 rfl ?_
            refine z_lald hC (kO_12 hM) (nO_12 hM) E.1 dX11_odds_91 ?_
            replace E := E.2
            refine z_callS (rest := []) hC (ck_mk lk_X11_161 in_X11_greatestCommon cd_X11_greatestCommon ds_X11_greatestCommon (Nat.le_of_ble_eq_true rfl) (Nat.le_of_ble_eq_true rfl)) st_X11_greatestCommon (ct_X11_greatestCommon hF E) rfl rfl (Nat.le_of_ble_eq_true rfl) ⟨Nat.le_refl _, Nat.le_refl _⟩ dX11_odds_92 ?_
            rintro _ _ _ ⟨w45, rfl, rfl, rfl, E⟩
            refine z_lstore (lv' := [(7, .long w45), (6, .ref (G.1 + (t + 9))), (0, .ref (G.1 + 0)), (1, .int a1), (2, .int a2), (3, .int a3), (4, .int a4), (5, .int a5)]) hC dX11_odds_95 (Nat.le_of_ble_eq_true rfl) rfl ?_
            refine z_iload hC dX11_odds_97 7 rfl ?_
            refine z_if_ne (tgt := 112) hC dX11_odds_99 (by decide) (fun c48 => ?_) (fun c48 => ?_)
            · replace E := E.1 c48
              refine z_aload hC dX11_odds_112 1 rfl ?_
              refine z_get hC (lfm_X11_158 hM.kd) (kO hM) dX11_odds_114 (fVm_5 hM) ?_
              refine z_iload_n hC dX11_odds_117 rfl 4 rfl ?_
              refine z_lald hC (kO_12 hM) (nO_12 hM) E.1 dX11_odds_118 ?_
              replace E := E.2
              refine z_lload hC dX11_odds_119 0 rfl ?_
              have q0 := E.1
              replace E := E.2
              refine z_ldiv hC dX11_odds_121 q0 ?_
              exact z_lret hC dX11_odds_122 (Nat.le_refl _) (Nat.le_refl _) ⟨_, rfl, rfl, E⟩
            · replace E := E.2 c48
              refine z_aload hC dX11_odds_102 1 rfl ?_
              refine z_get hC (lfm_X11_154 hM.kd) (kO hM) dX11_odds_104 (fVm_4 hM) ?_
              refine z_iload_n hC dX11_odds_107 rfl 4 rfl ?_
              refine z_lald hC (kO_11 hM) (nO_11 hM) E.1 dX11_odds_108 ?_
              replace E := E.2
              refine z_goto (tgt := 119) hC dX11_odds_109 (by decide) ?_
              refine z_lload hC dX11_odds_119 0 rfl ?_
              have q0 := E.1
              replace E := E.2
              refine z_ldiv hC dX11_odds_121 q0 ?_
              exact z_lret hC dX11_odds_122 (Nat.le_refl _) (Nat.le_refl _) ⟨_, rfl, rfl, E⟩
          · replace E := E.2 c30
            refine z_ldc2 hC kl_X11_141 dX11_odds_53 ?_
            exact z_lret hC dX11_odds_56 (Nat.le_refl _) (Nat.le_refl _) ⟨_, rfl, rfl, E⟩
        · replace E := E.2 c24
          refine z_ldc2 hC kl_X11_141 dX11_odds_38 ?_
          exact z_lret hC dX11_odds_41 (Nat.le_refl _) (Nat.le_refl _) ⟨_, rfl, rfl, E⟩
def fX11_of (a1 : Int32) (a2 : Int32) (D : Dy) (post : Int32 → Prop) : Prop :=
  (fX11_within a1 (D.1 7 4) (fun (v2 : Int32) => ((¬ v2 = 0 → ((a2 = (0 : Int32) → (vp_in a1 80 ∧ post (D.1 8 (a1).toNatClampNeg))) ∧ (¬ a2 = (0 : Int32) → ((a2 = (1 : Int32) → (vp_in a1 80 ∧ post (D.1 9 (a1).toNatClampNeg))) ∧ (¬ a2 = (1 : Int32) → ((a2 = (2 : Int32) → (vp_in a1 80 ∧ ((¬ (D.1 10 (a1).toNatClampNeg) = (7 : Int32) → (vp_in a1 80 ∧ post (D.1 10 (a1).toNatClampNeg))) ∧ ((D.1 10 (a1).toNatClampNeg) = (7 : Int32) → post (-5 : Int32))))) ∧ (¬ a2 = (2 : Int32) → ((a2 = (3 : Int32) → (vp_in a1 80 ∧ post (D.1 11 (a1).toNatClampNeg))) ∧ (¬ a2 = (3 : Int32) → post (-1 : Int32)))))))))) ∧ (v2 = 0 → post (-1 : Int32)))))
set_option maxHeartbeats 4000000 in
set_option maxRecDepth 100000 in
theorem ct_X11_of {l : Launch} {G : Gl} {S : Sh} {D : Dy} {mdl : Nat → Option (Nat × Nat)} (hF : FX S mdl) {a1 : Int32} {a2 : Int32} {post : Int32 → Prop} (E : fX11_of a1 a2 D post) : Ct l G yX11_of cX11_of 3 (some .int) 1 0 0 S D [.ref (G.1 + 0), .int a1, .int a2] (PIr S D post) := by
  refine z_enter (lv0 := [(0, .ref (G.1 + 0)), (1, .int a1), (2, .int a2)]) pl_11 (Nat.le_of_ble_eq_true rfl) rfl ?_
  intro p e s m args below meth c hC hnm
  unfold fX11_of at E
  refine z_iload_n hC dX11_of_0 rfl 1 rfl ?_
  refine z_aload_n hC dX11_of_1 rfl 0 rfl ?_
  refine z_get hC lf_X11_28_11 (kX_0 hF) dX11_of_2 (fV_ref rfl (rX_0_4 hF)) ?_
  refine z_get hC lf_X11_73_0 (kX_7 hF) dX11_of_5 (fV_int rfl) ?_
  refine z_callS (rest := []) hC (ck_mk lk_X11_69 in_X11_within cd_X11_within ds_X11_within (Nat.le_of_ble_eq_true rfl) (Nat.le_of_ble_eq_true rfl)) st_X11_within (ct_X11_within hF E) rfl rfl (Nat.le_of_ble_eq_true rfl) ⟨Nat.le_refl _, Nat.le_refl _⟩ dX11_of_8 ?_
  rintro _ _ _ ⟨v2, rfl, rfl, rfl, E⟩
  refine z_if_ne (tgt := 16) hC dX11_of_11 (by decide) (fun c6 => ?_) (fun c6 => ?_)
  · replace E := E.1 c6
    refine z_iload_n hC dX11_of_16 rfl 2 rfl ?_
    by_cases c7 : a2 = (0 : Int32)
    · replace E := E.1 c7
      refine z_tableIn (tgt := 48) (off := 31) hC dX11_of_17 c7 (by decide) (by decide) ?_
      refine z_aload_n hC dX11_of_48 rfl 0 rfl ?_
      refine z_get hC lf_X11_28_11 (kX_0 hF) dX11_of_49 (fV_ref rfl (rX_0_4 hF)) ?_
      refine z_get hC lf_X11_100_0 (kX_7 hF) dX11_of_52 (fV_ref rfl (rX_7_0 hF)) ?_
      refine z_iload_n hC dX11_of_55 rfl 1 rfl ?_
      refine z_iald hC (kX_8 hF) (nX_8 hF) E.1 dX11_of_56 ?_
      replace E := E.2
      exact z_iret hC dX11_of_57 (Nat.le_refl _) (Nat.le_refl _) ⟨_, rfl, rfl, rfl, E⟩
    replace E := E.2 c7
    by_cases c8 : a2 = (1 : Int32)
    · replace E := E.1 c8
      refine z_tableIn (tgt := 58) (off := 41) hC dX11_of_17 c8 (by decide) (by decide) ?_
      refine z_aload_n hC dX11_of_58 rfl 0 rfl ?_
      refine z_get hC lf_X11_28_11 (kX_0 hF) dX11_of_59 (fV_ref rfl (rX_0_4 hF)) ?_
      refine z_get hC lf_X11_102_0 (kX_7 hF) dX11_of_62 (fV_ref rfl (rX_7_1 hF)) ?_
      refine z_iload_n hC dX11_of_65 rfl 1 rfl ?_
      refine z_iald hC (kX_9 hF) (nX_9 hF) E.1 dX11_of_66 ?_
      replace E := E.2
      exact z_iret hC dX11_of_67 (Nat.le_refl _) (Nat.le_refl _) ⟨_, rfl, rfl, rfl, E⟩
    replace E := E.2 c8
    by_cases c9 : a2 = (2 : Int32)
    · replace E := E.1 c9
      refine z_tableIn (tgt := 68) (off := 51) hC dX11_of_17 c9 (by decide) (by decide) ?_
      refine z_aload_n hC dX11_of_68 rfl 0 rfl ?_
      refine z_get hC lf_X11_28_11 (kX_0 hF) dX11_of_69 (fV_ref rfl (rX_0_4 hF)) ?_
      refine z_get hC lf_X11_105_0 (kX_7 hF) dX11_of_72 (fV_ref rfl (rX_7_2 hF)) ?_
      refine z_iload_n hC dX11_of_75 rfl 1 rfl ?_
      refine z_iald hC (kX_10 hF) (nX_10 hF) E.1 dX11_of_76 ?_
      replace E := E.2
      refine z_bipush (v := 7) hC dX11_of_77 rfl ?_
      refine z_icmp_ne (tgt := 87) hC dX11_of_79 (by decide) (fun c10 => ?_) (fun c10 => ?_)
      · replace E := E.1 c10
        refine z_aload_n hC dX11_of_87 rfl 0 rfl ?_
        refine z_get hC lf_X11_28_11 (kX_0 hF) dX11_of_88 (fV_ref rfl (rX_0_4 hF)) ?_
        refine z_get hC lf_X11_105_0 (kX_7 hF) dX11_of_91 (fV_ref rfl (rX_7_2 hF)) ?_
        refine z_iload_n hC dX11_of_94 rfl 1 rfl ?_
        refine z_iald hC (kX_10 hF) (nX_10 hF) E.1 dX11_of_95 ?_
        replace E := E.2
        exact z_iret hC dX11_of_96 (Nat.le_refl _) (Nat.le_refl _) ⟨_, rfl, rfl, rfl, E⟩
      · replace E := E.2 c10
        refine z_bipush (v := -5) hC dX11_of_82 rfl ?_
        refine z_goto (tgt := 96) hC dX11_of_84 (by decide) ?_
        exact z_iret hC dX11_of_96 (Nat.le_refl _) (Nat.le_refl _) ⟨_, rfl, rfl, rfl, E⟩
    replace E := E.2 c9
    by_cases c11 : a2 = (3 : Int32)
    · replace E := E.1 c11
      refine z_tableIn (tgt := 97) (off := 80) hC dX11_of_17 c11 (by decide) (by decide) ?_
      refine z_aload_n hC dX11_of_97 rfl 0 rfl ?_
      refine z_get hC lf_X11_28_11 (kX_0 hF) dX11_of_98 (fV_ref rfl (rX_0_4 hF)) ?_
      refine z_get hC lf_X11_97_0 (kX_7 hF) dX11_of_101 (fV_ref rfl (rX_7_3 hF)) ?_
      refine z_iload_n hC dX11_of_104 rfl 1 rfl ?_
      refine z_iald hC (kX_11 hF) (nX_11 hF) E.1 dX11_of_105 ?_
      replace E := E.2
      exact z_iret hC dX11_of_106 (Nat.le_refl _) (Nat.le_refl _) ⟨_, rfl, rfl, rfl, E⟩
    replace E := E.2 c11
    refine z_tableOut (tgt := 107) hC dX11_of_17 (by have zc7 := sw_ne c7 (show (0 : Int32).toInt = 0 by decide); have zc8 := sw_ne c8 (show (1 : Int32).toInt = 1 by decide); have zc9 := sw_ne c9 (show (2 : Int32).toInt = 2 by decide); have zc11 := sw_ne c11 (show (3 : Int32).toInt = 3 by decide); omega) (by decide) ?_
    refine z_iconst (v := -1) hC dX11_of_107 rfl ?_
    exact z_iret hC dX11_of_108 (Nat.le_refl _) (Nat.le_refl _) ⟨_, rfl, rfl, rfl, E⟩
  · replace E := E.2 c6
    refine z_iconst (v := -1) hC dX11_of_14 rfl ?_
    exact z_iret hC dX11_of_15 (Nat.le_refl _) (Nat.le_refl _) ⟨_, rfl, rfl, rfl, E⟩
def fX11_price (a1 : Int32) (a2 : Int32) (D : Dy) (post : Int32 → Dy → Prop) : Prop :=
  (fX1_has a1 D (fun (v2 : Int32) => ((¬ v2 = 0 → (fX11_within a2 (100 : Int32) (fun (v8 : Int32) => ((¬ v8 = 0 → (vp_in a1 6 ∧ (∀ v13 : Int32, v13 = (D.1 3 (a1).toNatClampNeg) → (vp_in a1 6 ∧ (∀ D15 : Dy, D15 = sI D 3 (a1).toNatClampNeg a2 → post v13 D15))))) ∧ (v8 = 0 → post (-2 : Int32) D))))) ∧ (v2 = 0 → post (-1 : Int32) D))))
set_option maxHeartbeats 4000000 in
set_option maxRecDepth 100000 in
theorem ct_X11_price {l : Launch} {G : Gl} {S : Sh} {D : Dy} {mdl : Nat → Option (Nat × Nat)} (hF : FX S mdl) {a1 : Int32} {a2 : Int32} {post : Int32 → Dy → Prop} (E : fX11_price a1 a2 D post) : Ct l G yX11_price cX11_price 4 (some .int) 2 0 0 S D [.ref (G.1 + 0), .int a1, .int a2] (PI S post) := by
  refine z_enter (lv0 := [(0, .ref (G.1 + 0)), (1, .int a1), (2, .int a2)]) pl_11 (Nat.le_of_ble_eq_true rfl) rfl ?_
  intro p e s m args below meth c hC hnm
  unfold fX11_price at E
  refine z_aload_n hC dX11_price_0 rfl 0 rfl ?_
  refine z_get hC lf_X11_12_11 (kX_0 hF) dX11_price_1 (fV_ref rfl (rX_0_0 hF)) ?_
  refine z_iload_n hC dX11_price_4 rfl 1 rfl ?_
  refine z_callV (ci := 1) (rest := []) hC (ck_mk lk_X11_84 in_X1_has cd_X1_has ds_X1_has (Nat.le_of_ble_eq_true rfl) (Nat.le_of_ble_eq_true rfl)) iy_X1_has sy_X1_has cf_1 (by decide) (kX_1 hF) (ct_X1_has hF E) rfl rfl (Nat.le_of_ble_eq_true rfl) ⟨Nat.le_refl _, Nat.le_refl _⟩ dX11_price_5 ?_
  rintro _ _ _ ⟨v2, rfl, rfl, rfl, E⟩
  refine z_if_ne (tgt := 13) hC dX11_price_8 (by decide) (fun c6 => ?_) (fun c6 => ?_)
  · replace E := E.1 c6
    refine z_iload_n hC dX11_price_13 rfl 2 rfl ?_
    refine z_bipush (v := 100) hC dX11_price_14 rfl ?_
    refine z_callS (rest := []) hC (ck_mk lk_X11_69 in_X11_within cd_X11_within ds_X11_within (Nat.le_of_ble_eq_true rfl) (Nat.le_of_ble_eq_true rfl)) st_X11_within (ct_X11_within hF E) rfl rfl (Nat.le_of_ble_eq_true rfl) ⟨Nat.le_refl _, Nat.le_refl _⟩ dX11_price_16 ?_
    rintro _ _ _ ⟨v8, rfl, rfl, rfl, E⟩
    refine z_if_ne (tgt := 25) hC dX11_price_19 (by decide) (fun c12 => ?_) (fun c12 => ?_)
    · replace E := E.1 c12
      refine z_aload_n hC dX11_price_25 rfl 0 rfl ?_
      refine z_get hC lf_X11_12_11 (kX_0 hF) dX11_price_26 (fV_ref rfl (rX_0_0 hF)) ?_
      refine z_get hC lf_X11_88_1 (kX_1 hF) dX11_price_29 (fV_ref rfl (rX_1_1 hF)) ?_
      refine z_iload_n hC dX11_price_32 rfl 1 rfl ?_
      refine z_iald hC (kX_3 hF) (nX_3 hF) E.1 dX11_price_33 ?_
      replace E := E.2
      refine z_topi (fun v13 h14 => ?_)
      replace E := E v13 h14
      refine z_istore_n (lv' := [(3, .int v13), (0, .ref (G.1 + 0)), (1, .int a1), (2, .int a2)]) hC dX11_price_34 rfl (Nat.le_of_ble_eq_true rfl) rfl ?_
      refine z_aload_n hC dX11_price_35 rfl 1 rfl ?_
      refine z_get hC lf_X11_12_11 (kX_0 hF) dX11_price_36 (fV_ref rfl (rX_0_0 hF)) ?_
      refine z_get hC lf_X11_88_1 (kX_1 hF) dX11_price_39 (fV_ref rfl (rX_1_1 hF)) ?_
      refine z_iload_n hC dX11_price_42 rfl 2 rfl ?_
      refine z_iload_n hC dX11_price_43 rfl 3 rfl ?_
      refine z_iast hC (kX_3 hF) (nX_3 hF) E.1 dX11_price_44 ?_
      replace E := E.2
      refine z_topD (fun D15 h16 => ?_)
      replace E := E D15 h16
      refine z_iload_n hC dX11_price_45 rfl 0 rfl ?_
      exact z_iret hC dX11_price_46 (Nat.le_refl _) (Nat.le_refl _) ⟨_, rfl, rfl, E⟩
    · replace E := E.2 c12
      refine z_bipush (v := -2) hC dX11_price_22 rfl ?_
      exact z_iret hC dX11_price_24 (Nat.le_refl _) (Nat.le_refl _) ⟨_, rfl, rfl, E⟩
  · replace E := E.2 c6
    refine z_iconst (v := -1) hC dX11_price_11 rfl ?_
    exact z_iret hC dX11_price_12 (Nat.le_refl _) (Nat.le_refl _) ⟨_, rfl, rfl, E⟩
def fX11_put (a1 : Int32) (a2 : Int32) (D : Dy) (post : Int32 → Dy → Prop) : Prop :=
  (fX11_within a1 (D.1 7 4) (fun (v2 : Int32) => ((¬ v2 = 0 → ((a2 < 0 → post (-2 : Int32) D) ∧ (¬ a2 < 0 → ((a2 ≤ (2 : Int32) → (vp_in a1 80 ∧ (∀ v9 : Int32, v9 = (D.1 11 (a1).toNatClampNeg) → (vp_in a1 80 ∧ (∀ D11 : Dy, D11 = sI D 11 (a1).toNatClampNeg a2 → post v9 D11))))) ∧ (¬ a2 ≤ (2 : Int32) → post (-2 : Int32) D))))) ∧ (v2 = 0 → post (-1 : Int32) D))))
set_option maxHeartbeats 4000000 in
set_option maxRecDepth 100000 in
theorem ct_X11_put {l : Launch} {G : Gl} {S : Sh} {D : Dy} {mdl : Nat → Option (Nat × Nat)} (hF : FX S mdl) {a1 : Int32} {a2 : Int32} {post : Int32 → Dy → Prop} (E : fX11_put a1 a2 D post) : Ct l G yX11_put cX11_put 4 (some .int) 1 0 0 S D [.ref (G.1 + 0), .int a1, .int a2] (PI S post) := by
  refine z_enter (lv0 := [(0, .ref (G.1 + 0)), (1, .int a1), (2, .int a2)]) pl_11 (Nat.le_of_ble_eq_true rfl) rfl ?_
  intro p e s m args below meth c hC hnm
  unfold fX11_put at E
  refine z_iload_n hC dX11_put_0 rfl 1 rfl ?_
  refine z_aload_n hC dX11_put_1 rfl 0 rfl ?_
  refine z_get hC lf_X11_28_11 (kX_0 hF) dX11_put_2 (fV_ref rfl (rX_0_4 hF)) ?_
  refine z_get hC lf_X11_73_0 (kX_7 hF) dX11_put_5 (fV_int rfl) ?_
  refine z_callS (rest := []) hC (ck_mk lk_X11_69 in_X11_within cd_X11_within ds_X11_within (Nat.le_of_ble_eq_true rfl) (Nat.le_of_ble_eq_true rfl)) st_X11_within (ct_X11_within hF E) rfl rfl (Nat.le_of_ble_eq_true rfl) ⟨Nat.le_refl _, Nat.le_refl _⟩ dX11_put_8 ?_
  rintro _ _ _ ⟨v2, rfl, rfl, rfl, E⟩
  refine z_if_ne (tgt := 16) hC dX11_put_11 (by decide) (fun c6 => ?_) (fun c6 => ?_)
  · replace E := E.1 c6
    refine z_iload_n hC dX11_put_16 rfl 2 rfl ?_
    refine z_if_lt (tgt := 25) hC dX11_put_17 (by decide) (fun c7 => ?_) (fun c7 => ?_)
    · replace E := E.1 c7
      refine z_bipush (v := -2) hC dX11_put_25 rfl ?_
      exact z_iret hC dX11_put_27 (Nat.le_refl _) (Nat.le_refl _) ⟨_, rfl, rfl, E⟩
    · replace E := E.2 c7
      refine z_iload_n hC dX11_put_20 rfl 2 rfl ?_
      refine z_iconst (v := 2) hC dX11_put_21 rfl ?_
      refine z_icmp_le (tgt := 28) hC dX11_put_22 (by decide) (fun c8 => ?_) (fun c8 => ?_)
      · replace E := E.1 c8
        refine z_aload_n hC dX11_put_28 rfl 0 rfl ?_
        refine z_get hC lf_X11_28_11 (kX_0 hF) dX11_put_29 (fV_ref rfl (rX_0_4 hF)) ?_
        refine z_get hC lf_X11_97_0 (kX_7 hF) dX11_put_32 (fV_ref rfl (rX_7_3 hF)) ?_
        refine z_iload_n hC dX11_put_35 rfl 1 rfl ?_
        refine z_iald hC (kX_11 hF) (nX_11 hF) E.1 dX11_put_36 ?_
        replace E := E.2
        refine z_topi (fun v9 h10 => ?_)
        replace E := E v9 h10
        refine z_istore_n (lv' := [(3, .int v9), (0, .ref (G.1 + 0)), (1, .int a1), (2, .int a2)]) hC dX11_put_37 rfl (Nat.le_of_ble_eq_true rfl) rfl ?_
        refine z_aload_n hC dX11_put_38 rfl 1 rfl ?_
        refine z_get hC lf_X11_28_11 (kX_0 hF) dX11_put_39 (fV_ref rfl (rX_0_4 hF)) ?_
        refine z_get hC lf_X11_97_0 (kX_7 hF) dX11_put_42 (fV_ref rfl (rX_7_3 hF)) ?_
        refine z_iload_n hC dX11_put_45 rfl 2 rfl ?_
        refine z_iload_n hC dX11_put_46 rfl 3 rfl ?_
        refine z_iast hC (kX_11 hF) (nX_11 hF) E.1 dX11_put_47 ?_
        replace E := E.2
        refine z_topD (fun D11 h12 => ?_)
        replace E := E D11 h12
        refine z_iload_n hC dX11_put_48 rfl 0 rfl ?_
        exact z_iret hC dX11_put_49 (Nat.le_refl _) (Nat.le_refl _) ⟨_, rfl, rfl, E⟩
      · replace E := E.2 c8
        refine z_bipush (v := -2) hC dX11_put_25 rfl ?_
        exact z_iret hC dX11_put_27 (Nat.le_refl _) (Nat.le_refl _) ⟨_, rfl, rfl, E⟩
  · replace E := E.2 c6
    refine z_iconst (v := -1) hC dX11_put_14 rfl ?_
    exact z_iret hC dX11_put_15 (Nat.le_refl _) (Nat.le_refl _) ⟨_, rfl, rfl, E⟩
def fX11_read (mdl : Nat → Option (Nat × Nat)) (a1 : Int32) (a2 : Int32) (D : Dy) (post : Int64 → Prop) : Prop :=
  (fX11_within a1 (6 : Int32) (fun (v2 : Int32) => ((v2 = 0 → post (-9223372036854775808 : Int64)) ∧ (¬ v2 = 0 → (vp_in a1 6 ∧ (fX11_within a2 (D.1 25 (a1).toNatClampNeg) (fun (v8 : Int32) => ((¬ v8 = 0 → (vp_in a1 6 ∧ (vp_in a2 60 ∧ post (D.2 (27 + (a1).toNatClampNeg) (a2).toNatClampNeg)))) ∧ (v8 = 0 → post (-9223372036854775808 : Int64))))))))))
set_option maxHeartbeats 4000000 in
set_option maxRecDepth 100000 in
theorem ct_X11_read {l : Launch} {G : Gl} {S : Sh} {D : Dy} {mdl : Nat → Option (Nat × Nat)} (hF : FX S mdl) {a1 : Int32} {a2 : Int32} {post : Int64 → Prop} (E : fX11_read mdl a1 a2 D post) : Ct l G yX11_read cX11_read 3 (some .long) 1 0 0 S D [.ref (G.1 + 0), .int a1, .int a2] (PLr S D post) := by
  refine z_enter (lv0 := [(0, .ref (G.1 + 0)), (1, .int a1), (2, .int a2)]) pl_11 (Nat.le_of_ble_eq_true rfl) rfl ?_
  intro p e s m args below meth c hC hnm
  unfold fX11_read at E
  refine z_iload_n hC dX11_read_0 rfl 1 rfl ?_
  refine z_bipush (v := 6) hC dX11_read_1 rfl ?_
  refine z_callS (rest := []) hC (ck_mk lk_X11_69 in_X11_within cd_X11_within ds_X11_within (Nat.le_of_ble_eq_true rfl) (Nat.le_of_ble_eq_true rfl)) st_X11_within (ct_X11_within hF E) rfl rfl (Nat.le_of_ble_eq_true rfl) ⟨Nat.le_refl _, Nat.le_refl _⟩ dX11_read_3 ?_
  rintro _ _ _ ⟨v2, rfl, rfl, rfl, E⟩
  refine z_if_eq (tgt := 22) hC dX11_read_6 (by decide) (fun c6 => ?_) (fun c6 => ?_)
  · replace E := E.1 c6
    refine z_ldc2 hC kl_X11_141 dX11_read_22 ?_
    exact z_lret hC dX11_read_25 (Nat.le_refl _) (Nat.le_refl _) ⟨_, rfl, rfl, rfl, E⟩
  · replace E := E.2 c6
    refine z_iload_n hC dX11_read_9 rfl 2 rfl ?_
    refine z_aload_n hC dX11_read_10 rfl 0 rfl ?_
    refine z_get hC lf_X11_61_11 (kX_0 hF) dX11_read_11 (fV_ref rfl (rX_0_14 hF)) ?_
    refine z_iload_n hC dX11_read_14 rfl 1 rfl ?_
    refine z_iald hC (kX_25 hF) (nX_25 hF) E.1 dX11_read_15 ?_
    replace E := E.2
    refine z_callS (rest := []) hC (ck_mk lk_X11_69 in_X11_within cd_X11_within ds_X11_within (Nat.le_of_ble_eq_true rfl) (Nat.le_of_ble_eq_true rfl)) st_X11_within (ct_X11_within hF E) rfl rfl (Nat.le_of_ble_eq_true rfl) ⟨Nat.le_refl _, Nat.le_refl _⟩ dX11_read_16 ?_
    rintro _ _ _ ⟨v8, rfl, rfl, rfl, E⟩
    refine z_if_ne (tgt := 26) hC dX11_read_19 (by decide) (fun c12 => ?_) (fun c12 => ?_)
    · replace E := E.1 c12
      refine z_aload_n hC dX11_read_26 rfl 0 rfl ?_
      refine z_get hC lf_X11_66_11 (kX_0 hF) dX11_read_27 (fV_ref rfl (rX_0_15 hF)) ?_
      refine z_iload_n hC dX11_read_30 rfl 1 rfl ?_
      have b13 := E.1
      refine z_aldRow hC hF b13 dX11_read_31 ?_
      replace E := E.2
      refine z_iload_n hC dX11_read_32 rfl 2 rfl ?_
      refine z_lald hC (kRow hF b13) (nRow hF b13) E.1 dX11_read_33 ?_
      replace E := E.2
      exact z_lret hC dX11_read_34 (Nat.le_refl _) (Nat.le_refl _) ⟨_, rfl, rfl, rfl, E⟩
    · replace E := E.2 c12
      refine z_ldc2 hC kl_X11_141 dX11_read_22 ?_
      exact z_lret hC dX11_read_25 (Nat.le_refl _) (Nat.le_refl _) ⟨_, rfl, rfl, rfl, E⟩
def fX11_score (mdl : Nat → Option (Nat × Nat)) (a1 : Int32) (a2 : Int32) (D : Dy) (post : Int32 → Dy → Prop) : Prop :=
  (fX11_modelAt mdl a1 D (fun (r4 : Option (Nat × Nat)) => (JN (post (-1 : Int32) D) (fun K6 : Prop => ((r4 = none → K6) ∧ (∀ t kd : Nat, r4 = some (t, kd) → (fX11_isScored a2 (fun (v10 : Int32) => ((¬ v10 = 0 → (fX11_scoreOf t kd a2 D (fun (v15 : Int32) (D20 : Dy) => post v15 D20))) ∧ (v10 = 0 → K6))))))))))
set_option maxHeartbeats 4000000 in
set_option maxRecDepth 100000 in
theorem ct_X11_score {l : Launch} {G : Gl} {S : Sh} {D : Dy} {mdl : Nat → Option (Nat × Nat)} (hF : FX S mdl) {a1 : Int32} {a2 : Int32} {post : Int32 → Dy → Prop} (E : fX11_score mdl a1 a2 D post) : Ct l G yX11_score cX11_score 4 (some .int) 7 0 0 S D [.ref (G.1 + 0), .int a1, .int a2] (PI S post) := by
  refine z_enter (lv0 := [(0, .ref (G.1 + 0)), (1, .int a1), (2, .int a2)]) pl_11 (Nat.le_of_ble_eq_true rfl) rfl ?_
  intro p e s m args below meth c hC hnm
  unfold fX11_score at E
  refine z_aload_n hC dX11_score_0 rfl 0 rfl ?_
  refine z_iload_n hC dX11_score_1 rfl 1 rfl ?_
  refine z_callV (ci := 11) (rest := []) hC (ck_mk lk_X11_130 in_X11_modelAt cd_X11_modelAt ds_X11_modelAt (Nat.le_of_ble_eq_true rfl) (Nat.le_of_ble_eq_true rfl)) iy_X11_modelAt sy_X11_modelAt cf_11 (by decide) (kX_0 hF) (ct_X11_modelAt hF E) rfl rfl (Nat.le_of_ble_eq_true rfl) ⟨Nat.le_refl _, Nat.le_refl _⟩ dX11_score_2 ?_
  rintro _ _ _ ⟨r4, rfl, rfl, rfl, hq_r4, E⟩
  refine z_astoreq_n (lv' := [(3, va_rf (mq G r4)), (0, .ref (G.1 + 0)), (1, .int a1), (2, .int a2)]) hC dX11_score_5 rfl (Nat.le_of_ble_eq_true rfl) rfl ?_
  refine z_aloadq_n hC dX11_score_6 rfl 0 rfl ?_
  obtain ⟨K6, hK7, EE⟩ := JN_use E (fun K6 : Prop => K6 → ZM l G p e s m args below meth c 4 7 S (PI S post) S D 17 [] []) (by
    intro E
    refine z_iconst (v := -1) hC dX11_score_17 rfl ?_
    refine z_goto (tgt := 27) hC dX11_score_18 (by decide) ?_
    exact z_iret hC dX11_score_27 (Nat.le_refl _) (Nat.le_refl _) ⟨_, rfl, rfl, E⟩)
  replace E := EE
  clear EE
  refine z_ifnullM (tgt := 17) hC hq_r4 dX11_score_7 (by decide) ?_ ?_
  · intro c8
    replace E := E.1 c8
    refine z_sub [] rfl ?_
    exact hK7  E
  · intro t kd hM c8
    replace E := E.2 t kd c8
    subst c8
    have hT := hM.ft
    refine z_iload_n hC dX11_score_10 rfl 3 rfl ?_
    refine z_callS (rest := []) hC (ck_mk lk_X11_165 in_X11_isScored cd_X11_isScored ds_X11_isScored (Nat.le_of_ble_eq_true rfl) (Nat.le_of_ble_eq_true rfl)) st_X11_isScored (ct_X11_isScored hF E) rfl rfl (Nat.le_of_ble_eq_true rfl) ⟨Nat.le_refl _, Nat.le_refl _⟩ dX11_score_11 ?_
    rintro _ _ _ ⟨v10, rfl, rfl, rfl, E⟩
    refine z_if_ne (tgt := 21) hC dX11_score_14 (by decide) (fun c14 => ?_) (fun c14 => ?_)
    · replace E := E.1 c14
      refine z_aload_n hC dX11_score_21 rfl 1 rfl ?_
      refine z_aload_n hC dX11_score_22 rfl 0 rfl ?_
      refine z_iload_n hC dX11_score_23 rfl 3 rfl ?_
      refine z_callV (ci := 11) (rest := []) hC (ck_mk lk_X11_168 in_X11_scoreOf cd_X11_scoreOf ds_X11_scoreOf (Nat.le_of_ble_eq_true rfl) (Nat.le_of_ble_eq_true rfl)) iy_X11_scoreOf sy_X11_scoreOf cf_11 (by decide) (kX_0 hF) (ct_X11_scoreOf hF hM E) rfl rfl (Nat.le_of_ble_eq_true rfl) ⟨Nat.le_refl _, Nat.le_refl _⟩ dX11_score_24 ?_
      rintro _ _ D20 ⟨v15, rfl, rfl, E⟩
      exact z_iret hC dX11_score_27 (Nat.le_refl _) (Nat.le_refl _) ⟨_, rfl, rfl, E⟩
    · replace E := E.2 c14
      refine z_sub [] rfl ?_
      exact hK7  E
def fX11_tellLine (a1 : Int32) (a2 : Int64) (D : Dy) (post : Int32 → Dy → Prop) : Prop :=
  (∀ w1 : Int64, w1 = (a2 / (100 : Int64)) → (((lg_cmp a2 (0 : Int64)) < 0 → post (-2 : Int32) D) ∧ (¬ (lg_cmp a2 (0 : Int64)) < 0 → (((lg_cmp w1 (64 : Int64)) < 0 → (fX11_tellChoice a1 (w1).toInt32 (((a2 - a2 / (100 : Int64) * (100 : Int64))).toInt32 - (1 : Int32)) D (fun (v5 : Int32) (D10 : Dy) => post v5 D10))) ∧ (¬ (lg_cmp w1 (64 : Int64)) < 0 → post (-2 : Int32) D)))))
set_option maxHeartbeats 4000000 in
set_option maxRecDepth 100000 in
theorem ct_X11_tellLine {l : Launch} {G : Gl} {S : Sh} {D : Dy} {mdl : Nat → Option (Nat × Nat)} (hF : FX S mdl) {a1 : Int32} {a2 : Int64} {post : Int32 → Dy → Prop} (E : fX11_tellLine a1 a2 D post) : Ct l G yX11_tellLine cX11_tellLine 6 (some .int) 3 0 0 S D [.ref (G.1 + 0), .int a1, .long a2] (PI S post) := by
  refine z_enter (lv0 := [(0, .ref (G.1 + 0)), (1, .int a1), (2, .long a2)]) pl_11 (Nat.le_of_ble_eq_true rfl) rfl ?_
  intro p e s m args below meth c hC hnm
  unfold fX11_tellLine at E
  refine z_lload_n hC dX11_tellLine_0 rfl 2 rfl ?_
  refine z_ldc2 hC kl_X11_303 dX11_tellLine_1 ?_
  refine z_ldiv hC dX11_tellLine_4 (by decide) ?_
  refine z_topl (fun w1 h2 => ?_)
  replace E := E w1 h2
  refine z_lstore (lv' := [(4, .long w1), (0, .ref (G.1 + 0)), (1, .int a1), (2, .long a2)]) hC dX11_tellLine_5 (Nat.le_of_ble_eq_true rfl) rfl ?_
  refine z_lload_n hC dX11_tellLine_7 rfl 3 rfl ?_
  refine z_lconst (v := 0) hC dX11_tellLine_8 rfl ?_
  refine z_lcmp hC dX11_tellLine_9 ?_
  refine z_if_lt (tgt := 22) hC dX11_tellLine_10 (by decide) (fun c3 => ?_) (fun c3 => ?_)
  · replace E := E.1 c3
    refine z_bipush (v := -2) hC dX11_tellLine_22 rfl ?_
    exact z_iret hC dX11_tellLine_24 (Nat.le_refl _) (Nat.le_refl _) ⟨_, rfl, rfl, E⟩
  · replace E := E.2 c3
    refine z_lload hC dX11_tellLine_13 0 rfl ?_
    refine z_ldc2 hC kl_X11_305 dX11_tellLine_15 ?_
    refine z_lcmp hC dX11_tellLine_18 ?_
    refine z_if_lt (tgt := 25) hC dX11_tellLine_19 (by decide) (fun c4 => ?_) (fun c4 => ?_)
    · replace E := E.1 c4
      refine z_aload_n hC dX11_tellLine_25 rfl 1 rfl ?_
      refine z_iload_n hC dX11_tellLine_26 rfl 2 rfl ?_
      refine z_lload hC dX11_tellLine_27 0 rfl ?_
      refine z_l2i hC dX11_tellLine_29 ?_
      refine z_lload_n hC dX11_tellLine_30 rfl 3 rfl ?_
      refine z_ldc2 hC kl_X11_303 dX11_tellLine_31 ?_
      refine z_lrem hC dX11_tellLine_34 (by decide) ?_
      refine z_l2i hC dX11_tellLine_35 ?_
      refine z_iconst (v := 1) hC dX11_tellLine_36 rfl ?_
      refine z_isub hC dX11_tellLine_37 ?_
      refine z_callV (ci := 11) (rest := []) hC (ck_mk lk_X11_94 in_X11_tellChoice cd_X11_tellChoice ds_X11_tellChoice (Nat.le_of_ble_eq_true rfl) (Nat.le_of_ble_eq_true rfl)) iy_X11_tellChoice sy_X11_tellChoice cf_11 (by decide) (kX_0 hF) (ct_X11_tellChoice hF E) rfl rfl (Nat.le_of_ble_eq_true rfl) ⟨Nat.le_refl _, Nat.le_refl _⟩ dX11_tellLine_38 ?_
      rintro _ _ D10 ⟨v5, rfl, rfl, E⟩
      exact z_iret hC dX11_tellLine_41 (Nat.le_refl _) (Nat.le_refl _) ⟨_, rfl, rfl, E⟩
    · replace E := E.2 c4
      refine z_bipush (v := -2) hC dX11_tellLine_22 rfl ?_
      exact z_iret hC dX11_tellLine_24 (Nat.le_refl _) (Nat.le_refl _) ⟨_, rfl, rfl, E⟩
def fX11_sheet (mdl : Nat → Option (Nat × Nat)) (a1 : Int32) (a2 : Int32) (a3 : Int32) (a4 : Int32) (D : Dy) (post : Int32 → Dy → Prop) : Prop :=
  (fX11_within a1 (6 : Int32) (fun (v2 : Int32) => ((v2 = 0 → post (-1 : Int32) D) ∧ (¬ v2 = 0 → (fX11_within a4 (D.1 0 3) (fun (v8 : Int32) => ((¬ v8 = 0 → ((a3 < (1 : Int32) → post (-2 : Int32) D) ∧ (¬ a3 < (1 : Int32) → ((a3 ≤ (20 : Int32) → (vp_in a1 6 ∧ (JN ((LP3 (fun (rec20 : Int32 → Int32 → Dy → Prop) (v17 : Int32) (v18 : Int32) (D19 : Dy) => (JN (post (((100 : Int32) * v17) + (a3 - v17)) D19) (fun K22 : Prop => ((a3 ≤ v18 → K22) ∧ (¬ a3 ≤ v18 → ((a2 < 0 → K22) ∧ (¬ a2 < 0 → (vp_in a1 6 ∧ ((((D19.1 25 (a1).toNatClampNeg) - a2) ≤ v18 → K22) ∧ (¬ ((D19.1 25 (a1).toNatClampNeg) - a2) ≤ v18 → (vp_in a1 6 ∧ (vp_in (a2 + v18) 60 ∧ (fX11_tellLine a4 (D19.2 (27 + (a1).toNatClampNeg) ((a2 + v18)).toNatClampNeg) D19 (fun (v28 : Int32) (D33 : Dy) => (JN (fun (v34 : Int32) => (∀ v37 : Int32, v37 = v18 + 1 → (rec20 v34 v37 D33))) (fun K35 : Int32 → Prop => ((v28 < 0 → (K35 v17)) ∧ (¬ v28 < 0 → (∀ v40 : Int32, v40 = v17 + 1 → (K35 v40)))))))))))))))))))) FU (0 : Int32) (0 : Int32) D)) (fun K15 : Prop => (((D.1 24 (a1).toNatClampNeg) < 0 → K15) ∧ (¬ (D.1 24 (a1).toNatClampNeg) < 0 → (vp_in a1 6 ∧ (((D.1 24 (a1).toNatClampNeg) = (3 : Int32) → K15) ∧ (¬ (D.1 24 (a1).toNatClampNeg) = (3 : Int32) → post (-12 : Int32) D))))))))) ∧ (¬ a3 ≤ (20 : Int32) → post (-2 : Int32) D))))) ∧ (v8 = 0 → post (-1 : Int32) D))))))))
set_option maxHeartbeats 4000000 in
set_option maxRecDepth 100000 in
theorem ct_X11_sheet {l : Launch} {G : Gl} {S : Sh} {D : Dy} {mdl : Nat → Option (Nat × Nat)} (hF : FX S mdl) {a1 : Int32} {a2 : Int32} {a3 : Int32} {a4 : Int32} {post : Int32 → Dy → Prop} (E : fX11_sheet mdl a1 a2 a3 a4 D post) : Ct l G yX11_sheet cX11_sheet 7 (some .int) 4 0 0 S D [.ref (G.1 + 0), .int a1, .int a2, .int a3, .int a4] (PI S post) := by
  refine z_enter (lv0 := [(0, .ref (G.1 + 0)), (1, .int a1), (2, .int a2), (3, .int a3), (4, .int a4)]) pl_11 (Nat.le_of_ble_eq_true rfl) rfl ?_
  intro p e s m args below meth c hC hnm
  unfold fX11_sheet at E
  refine z_iload_n hC dX11_sheet_0 rfl 1 rfl ?_
  refine z_bipush (v := 6) hC dX11_sheet_1 rfl ?_
  refine z_callS (rest := []) hC (ck_mk lk_X11_69 in_X11_within cd_X11_within ds_X11_within (Nat.le_of_ble_eq_true rfl) (Nat.le_of_ble_eq_true rfl)) st_X11_within (ct_X11_within hF E) rfl rfl (Nat.le_of_ble_eq_true rfl) ⟨Nat.le_refl _, Nat.le_refl _⟩ dX11_sheet_3 ?_
  rintro _ _ _ ⟨v2, rfl, rfl, rfl, E⟩
  refine z_if_eq (tgt := 21) hC dX11_sheet_6 (by decide) (fun c6 => ?_) (fun c6 => ?_)
  · replace E := E.1 c6
    refine z_iconst (v := -1) hC dX11_sheet_21 rfl ?_
    exact z_iret hC dX11_sheet_22 (Nat.le_refl _) (Nat.le_refl _) ⟨_, rfl, rfl, E⟩
  · replace E := E.2 c6
    refine z_iload hC dX11_sheet_9 4 rfl ?_
    refine z_aload_n hC dX11_sheet_11 rfl 0 rfl ?_
    refine z_get hC lf_X11_91_11 (kX_0 hF) dX11_sheet_12 (fV_int rfl) ?_
    refine z_callS (rest := []) hC (ck_mk lk_X11_69 in_X11_within cd_X11_within ds_X11_within (Nat.le_of_ble_eq_true rfl) (Nat.le_of_ble_eq_true rfl)) st_X11_within (ct_X11_within hF E) rfl rfl (Nat.le_of_ble_eq_true rfl) ⟨Nat.le_refl _, Nat.le_refl _⟩ dX11_sheet_15 ?_
    rintro _ _ _ ⟨v8, rfl, rfl, rfl, E⟩
    refine z_if_ne (tgt := 23) hC dX11_sheet_18 (by decide) (fun c12 => ?_) (fun c12 => ?_)
    · replace E := E.1 c12
      refine z_iload_n hC dX11_sheet_23 rfl 3 rfl ?_
      refine z_iconst (v := 1) hC dX11_sheet_24 rfl ?_
      refine z_icmp_lt (tgt := 34) hC dX11_sheet_25 (by decide) (fun c13 => ?_) (fun c13 => ?_)
      · replace E := E.1 c13
        refine z_bipush (v := -2) hC dX11_sheet_34 rfl ?_
        exact z_iret hC dX11_sheet_36 (Nat.le_refl _) (Nat.le_refl _) ⟨_, rfl, rfl, E⟩
      · replace E := E.2 c13
        refine z_iload_n hC dX11_sheet_28 rfl 3 rfl ?_
        refine z_bipush (v := 20) hC dX11_sheet_29 rfl ?_
        refine z_icmp_le (tgt := 37) hC dX11_sheet_31 (by decide) (fun c14 => ?_) (fun c14 => ?_)
        · replace E := E.1 c14
          refine z_aload_n hC dX11_sheet_37 rfl 0 rfl ?_
          refine z_get hC lf_X11_58_11 (kX_0 hF) dX11_sheet_38 (fV_ref rfl (rX_0_13 hF)) ?_
          refine z_iload_n hC dX11_sheet_41 rfl 1 rfl ?_
          refine z_iald hC (kX_24 hF) (nX_24 hF) E.1 dX11_sheet_42 ?_
          replace E := E.2
          obtain ⟨K15, hK16, EE⟩ := JN_use E (fun K15 : Prop => K15 → ZM l G p e s m args below meth c 7 4 S (PI S post) S D 59 [(0, .ref (G.1 + 0)), (1, .int a1), (2, .int a2), (3, .int a3), (4, .int a4)] []) (by
            intro E
            refine z_iconst (v := 0) hC dX11_sheet_59 rfl ?_
            refine z_istore (lv' := [(5, .int (0 : Int32)), (0, .ref (G.1 + 0)), (1, .int a1), (2, .int a2), (3, .int a3), (4, .int a4)]) hC dX11_sheet_60 (Nat.le_of_ble_eq_true rfl) rfl ?_
            refine z_iconst (v := 0) hC dX11_sheet_62 rfl ?_
            refine z_istore (lv' := [(6, .int (0 : Int32)), (5, .int (0 : Int32)), (0, .ref (G.1 + 0)), (1, .int a1), (2, .int a2), (3, .int a3), (4, .int a4)]) hC dX11_sheet_63 (Nat.le_of_ble_eq_true rfl) rfl ?_
            refine z_sub [2, 3, 4, 5, 6, 1, 0] rfl ?_
            refine LP3_use (fun (v17 : Int32) (v18 : Int32) (D19 : Dy) => ZM l G p e s m args below meth c 7 4 S (PI S post) S D19 65 [(0, .ref (G.1 + 0)), (1, .int a1), (2, .int a2), (3, .int a3), (4, .int a4), (5, .int v17), (6, .int v18)] []) ?_ FU (0 : Int32) (0 : Int32) D E
            intro rec20 hrec21 v17 v18 D19 E
            refine z_iload hC dX11_sheet_65 6 rfl ?_
            refine z_iload_n hC dX11_sheet_67 rfl 3 rfl ?_
            obtain ⟨K22, hK23, EE⟩ := JN_use E (fun K22 : Prop => K22 → ZM l G p e s m args below meth c 7 4 S (PI S post) S D19 117 [(3, .int a3), (5, .int v17)] []) (by
              intro E
              refine z_bipush (v := 100) hC dX11_sheet_117 rfl ?_
              refine z_iload hC dX11_sheet_119 1 rfl ?_
              refine z_imul hC dX11_sheet_121 ?_
              refine z_iload_n hC dX11_sheet_122 rfl 0 rfl ?_
              refine z_iload hC dX11_sheet_123 1 rfl ?_
              refine z_isub hC dX11_sheet_125 ?_
              refine z_iadd hC dX11_sheet_126 ?_
              exact z_iret hC dX11_sheet_127 (Nat.le_refl _) (Nat.le_refl _) ⟨_, rfl, rfl, E⟩)
            replace E := EE
            clear EE
            refine z_icmp_ge (tgt := 117) hC dX11_sheet_68 (by decide) (fun c24 => ?_) (fun c24 => ?_)
            · replace E := E.1 c24
              refine z_sub [3, 5] rfl ?_
              exact hK23  E
            · replace E := E.2 c24
              refine z_iload_n hC dX11_sheet_71 rfl 2 rfl ?_
              refine z_if_lt (tgt := 117) hC dX11_sheet_72 (by decide) (fun c25 => ?_) (fun c25 => ?_)
              · replace E := E.1 c25
                refine z_sub [3, 5] rfl ?_
                exact hK23  E
              · replace E := E.2 c25
                refine z_iload hC dX11_sheet_75 6 rfl ?_
                refine z_aload_n hC dX11_sheet_77 rfl 0 rfl ?_
                refine z_get hC lf_X11_61_11 (kX_0 hF) dX11_sheet_78 (fV_ref rfl (rX_0_14 hF)) ?_
                refine z_iload_n hC dX11_sheet_81 rfl 1 rfl ?_
                refine z_iald hC (kX_25 hF) (nX_25 hF) E.1 dX11_sheet_82 ?_
                replace E := E.2
                refine z_iload_n hC dX11_sheet_83 rfl 2 rfl ?_
                refine z_isub hC dX11_sheet_84 ?_
                refine z_icmp_ge (tgt := 117) hC dX11_sheet_85 (by decide) (fun c26 => ?_) (fun c26 => ?_)
                · replace E := E.1 c26
                  refine z_sub [3, 5] rfl ?_
                  exact hK23  E
                · replace E := E.2 c26
                  refine z_aload_n hC dX11_sheet_88 rfl 0 rfl ?_
                  refine z_iload hC dX11_sheet_89 4 rfl ?_
                  refine z_aload_n hC dX11_sheet_91 rfl 0 rfl ?_
                  refine z_get hC lf_X11_66_11 (kX_0 hF) dX11_sheet_92 (fV_ref rfl (rX_0_15 hF)) ?_
                  refine z_iload_n hC dX11_sheet_95 rfl 1 rfl ?_
                  have b27 := E.1
                  refine z_aldRow hC hF b27 dX11_sheet_96 ?_
                  replace E := E.2
                  refine z_iload_n hC dX11_sheet_97 rfl 2 rfl ?_
                  refine z_iload hC dX11_sheet_98 6 rfl ?_
                  refine z_iadd hC dX11_sheet_100 ?_
                  refine z_lald hC (kRow hF b27) (nRow hF b27) E.1 dX11_sheet_101 ?_
                  replace E := E.2
                  refine z_callV (ci := 11) (rest := []) hC (ck_mk lk_X11_260 in_X11_tellLine cd_X11_tellLine ds_X11_tellLine (Nat.le_of_ble_eq_true rfl) (Nat.le_of_ble_eq_true rfl)) iy_X11_tellLine sy_X11_tellLine cf_11 (by decide) (kX_0 hF) (ct_X11_tellLine hF E) rfl rfl (Nat.le_of_ble_eq_true rfl) ⟨Nat.le_refl _, Nat.le_refl _⟩ dX11_sheet_102 ?_
                  rintro _ _ D33 ⟨v28, rfl, rfl, E⟩
                  obtain ⟨K35, hK36, EE⟩ := JN_use E (fun K35 : Int32 → Prop => ∀ (v34 : Int32), K35 v34 → ZM l G p e s m args below meth c 7 4 S (PI S post) S D33 111 [(0, .ref (G.1 + 0)), (1, .int a1), (2, .int a2), (3, .int a3), (4, .int a4), (5, .int v34), (6, .int v18)] []) (by
                    intro v34 E
                    obtain ⟨v37, h38⟩ : ∃ y : Int32, y = v18 + 1 := ⟨_, rfl⟩
                    replace E := E v37 h38
                    refine z_iinc (q := 6) (v := v37) (lv' := [(6, .int v37), (0, .ref (G.1 + 0)), (1, .int a1), (2, .int a2), (3, .int a3), (4, .int a4), (5, .int v34)]) hC dX11_sheet_111 rfl (by rw [h38]; rfl) (Nat.le_of_ble_eq_true rfl) rfl ?_
                    refine z_goto (tgt := 65) hC dX11_sheet_114 (by decide) ?_
                    refine z_sub [1, 2, 3, 4, 5, 6, 0] rfl ?_
                    exact hrec21 v34 v37 D33 E)
                  replace E := EE
                  clear EE
                  refine z_if_lt (tgt := 111) hC dX11_sheet_105 (by decide) (fun c39 => ?_) (fun c39 => ?_)
                  · replace E := E.1 c39
                    exact hK36 v17 E
                  · replace E := E.2 c39
                    obtain ⟨v40, h41⟩ : ∃ y : Int32, y = v17 + 1 := ⟨_, rfl⟩
                    replace E := E v40 h41
                    refine z_iinc (q := 5) (v := v40) (lv' := [(5, .int v40), (0, .ref (G.1 + 0)), (1, .int a1), (2, .int a2), (3, .int a3), (4, .int a4), (6, .int v18)]) hC dX11_sheet_108 rfl (by rw [h41]; rfl) (Nat.le_of_ble_eq_true rfl) rfl ?_
                    refine z_sub [1, 2, 3, 4, 5, 0, 6] rfl ?_
                    exact hK36 v40 E)
          replace E := EE
          clear EE
          refine z_if_lt (tgt := 59) hC dX11_sheet_43 (by decide) (fun c42 => ?_) (fun c42 => ?_)
          · replace E := E.1 c42
            exact hK16  E
          · replace E := E.2 c42
            refine z_aload_n hC dX11_sheet_46 rfl 0 rfl ?_
            refine z_get hC lf_X11_58_11 (kX_0 hF) dX11_sheet_47 (fV_ref rfl (rX_0_13 hF)) ?_
            refine z_iload_n hC dX11_sheet_50 rfl 1 rfl ?_
            refine z_iald hC (kX_24 hF) (nX_24 hF) E.1 dX11_sheet_51 ?_
            replace E := E.2
            refine z_iconst (v := 3) hC dX11_sheet_52 rfl ?_
            refine z_icmp_eq (tgt := 59) hC dX11_sheet_53 (by decide) (fun c43 => ?_) (fun c43 => ?_)
            · replace E := E.1 c43
              exact hK16  E
            · replace E := E.2 c43
              refine z_bipush (v := -12) hC dX11_sheet_56 rfl ?_
              exact z_iret hC dX11_sheet_58 (Nat.le_refl _) (Nat.le_refl _) ⟨_, rfl, rfl, E⟩
        · replace E := E.2 c14
          refine z_bipush (v := -2) hC dX11_sheet_34 rfl ?_
          exact z_iret hC dX11_sheet_36 (Nat.le_refl _) (Nat.le_refl _) ⟨_, rfl, rfl, E⟩
    · replace E := E.2 c12
      refine z_iconst (v := -1) hC dX11_sheet_21 rfl ?_
      exact z_iret hC dX11_sheet_22 (Nat.le_refl _) (Nat.le_refl _) ⟨_, rfl, rfl, E⟩
def fX11_shift (mdl : Nat → Option (Nat × Nat)) (a1 : Int32) (a2 : Int32) (a3 : Int32) (a4 : Int32) (a5 : Int32) (D : Dy) (post : Int32 → Dy → Prop) : Prop :=
  (fX11_within a1 (6 : Int32) (fun (v2 : Int32) => ((v2 = 0 → post (-1 : Int32) D) ∧ (¬ v2 = 0 → (fX11_within a3 (6 : Int32) (fun (v8 : Int32) => ((¬ v8 = 0 → (vp_in a1 6 ∧ (((D.1 24 (a1).toNatClampNeg) < 0 → post (-11 : Int32) D) ∧ (¬ (D.1 24 (a1).toNatClampNeg) < 0 → (vp_in a3 6 ∧ ((0 ≤ (D.1 24 (a3).toNatClampNeg) → (vp_in a1 6 ∧ (vp_in a3 6 ∧ (((D.1 24 (a1).toNatClampNeg) = (D.1 24 (a3).toNatClampNeg) → (vp_in a1 6 ∧ (fX11_fits a2 a5 (D.1 25 (a1).toNatClampNeg) (fun (v17 : Int32) => ((v17 = 0 → post (-13 : Int32) D) ∧ (¬ v17 = 0 → (vp_in a3 6 ∧ (fX11_fits a4 a5 (D.1 25 (a3).toNatClampNeg) (fun (v23 : Int32) => ((¬ v23 = 0 → (vp_in a1 6 ∧ (vp_in a3 6 ∧ ((¬ a2 < 0 ∧ ¬ a4 < 0 ∧ ¬ a5 < 0 ∧ (a2).toNatClampNeg + (a5).toNatClampNeg ≤ 60 ∧ (a4).toNatClampNeg + (a5).toNatClampNeg ≤ 60) ∧ (∀ D30 : Dy, D30 = sLA D (27 + (a3).toNatClampNeg) (va_cpy (D.2 (27 + (a1).toNatClampNeg)) (D.2 (27 + (a3).toNatClampNeg)) (a2).toNatClampNeg (a4).toNatClampNeg (a5).toNatClampNeg) → post a5 D30))))) ∧ (v23 = 0 → post (-13 : Int32) D))))))))))) ∧ (¬ (D.1 24 (a1).toNatClampNeg) = (D.1 24 (a3).toNatClampNeg) → post (-12 : Int32) D))))) ∧ (¬ 0 ≤ (D.1 24 (a3).toNatClampNeg) → post (-11 : Int32) D))))))) ∧ (v8 = 0 → post (-1 : Int32) D))))))))
set_option maxHeartbeats 4000000 in
set_option maxRecDepth 100000 in
theorem ct_X11_shift {l : Launch} {G : Gl} {S : Sh} {D : Dy} {mdl : Nat → Option (Nat × Nat)} (hF : FX S mdl) {a1 : Int32} {a2 : Int32} {a3 : Int32} {a4 : Int32} {a5 : Int32} {post : Int32 → Dy → Prop} (E : fX11_shift mdl a1 a2 a3 a4 a5 D post) : Ct l G yX11_shift cX11_shift 6 (some .int) 1 0 0 S D [.ref (G.1 + 0), .int a1, .int a2, .int a3, .int a4, .int a5] (PI S post) := by
  refine z_enter (lv0 := [(0, .ref (G.1 + 0)), (1, .int a1), (2, .int a2), (3, .int a3), (4, .int a4), (5, .int a5)]) pl_11 (Nat.le_of_ble_eq_true rfl) rfl ?_
  intro p e s m args below meth c hC hnm
  unfold fX11_shift at E
  refine z_iload_n hC dX11_shift_0 rfl 1 rfl ?_
  refine z_bipush (v := 6) hC dX11_shift_1 rfl ?_
  refine z_callS (rest := []) hC (ck_mk lk_X11_69 in_X11_within cd_X11_within ds_X11_within (Nat.le_of_ble_eq_true rfl) (Nat.le_of_ble_eq_true rfl)) st_X11_within (ct_X11_within hF E) rfl rfl (Nat.le_of_ble_eq_true rfl) ⟨Nat.le_refl _, Nat.le_refl _⟩ dX11_shift_3 ?_
  rintro _ _ _ ⟨v2, rfl, rfl, rfl, E⟩
  refine z_if_eq (tgt := 18) hC dX11_shift_6 (by decide) (fun c6 => ?_) (fun c6 => ?_)
  · replace E := E.1 c6
    refine z_iconst (v := -1) hC dX11_shift_18 rfl ?_
    exact z_iret hC dX11_shift_19 (Nat.le_refl _) (Nat.le_refl _) ⟨_, rfl, rfl, E⟩
  · replace E := E.2 c6
    refine z_iload_n hC dX11_shift_9 rfl 3 rfl ?_
    refine z_bipush (v := 6) hC dX11_shift_10 rfl ?_
    refine z_callS (rest := []) hC (ck_mk lk_X11_69 in_X11_within cd_X11_within ds_X11_within (Nat.le_of_ble_eq_true rfl) (Nat.le_of_ble_eq_true rfl)) st_X11_within (ct_X11_within hF E) rfl rfl (Nat.le_of_ble_eq_true rfl) ⟨Nat.le_refl _, Nat.le_refl _⟩ dX11_shift_12 ?_
    rintro _ _ _ ⟨v8, rfl, rfl, rfl, E⟩
    refine z_if_ne (tgt := 20) hC dX11_shift_15 (by decide) (fun c12 => ?_) (fun c12 => ?_)
    · replace E := E.1 c12
      refine z_aload_n hC dX11_shift_20 rfl 0 rfl ?_
      refine z_get hC lf_X11_58_11 (kX_0 hF) dX11_shift_21 (fV_ref rfl (rX_0_13 hF)) ?_
      refine z_iload_n hC dX11_shift_24 rfl 1 rfl ?_
      refine z_iald hC (kX_24 hF) (nX_24 hF) E.1 dX11_shift_25 ?_
      replace E := E.2
      refine z_if_lt (tgt := 38) hC dX11_shift_26 (by decide) (fun c13 => ?_) (fun c13 => ?_)
      · replace E := E.1 c13
        refine z_bipush (v := -11) hC dX11_shift_38 rfl ?_
        exact z_iret hC dX11_shift_40 (Nat.le_refl _) (Nat.le_refl _) ⟨_, rfl, rfl, E⟩
      · replace E := E.2 c13
        refine z_aload_n hC dX11_shift_29 rfl 0 rfl ?_
        refine z_get hC lf_X11_58_11 (kX_0 hF) dX11_shift_30 (fV_ref rfl (rX_0_13 hF)) ?_
        refine z_iload_n hC dX11_shift_33 rfl 3 rfl ?_
        refine z_iald hC (kX_24 hF) (nX_24 hF) E.1 dX11_shift_34 ?_
        replace E := E.2
        refine z_if_ge (tgt := 41) hC dX11_shift_35 (by decide) (fun c14 => ?_) (fun c14 => ?_)
        · replace E := E.1 c14
          refine z_aload_n hC dX11_shift_41 rfl 0 rfl ?_
          refine z_get hC lf_X11_58_11 (kX_0 hF) dX11_shift_42 (fV_ref rfl (rX_0_13 hF)) ?_
          refine z_iload_n hC dX11_shift_45 rfl 1 rfl ?_
          refine z_iald hC (kX_24 hF) (nX_24 hF) E.1 dX11_shift_46 ?_
          replace E := E.2
          refine z_aload_n hC dX11_shift_47 rfl 0 rfl ?_
          refine z_get hC lf_X11_58_11 (kX_0 hF) dX11_shift_48 (fV_ref rfl (rX_0_13 hF)) ?_
          refine z_iload_n hC dX11_shift_51 rfl 3 rfl ?_
          refine z_iald hC (kX_24 hF) (nX_24 hF) E.1 dX11_shift_52 ?_
          replace E := E.2
          refine z_icmp_eq (tgt := 59) hC dX11_shift_53 (by decide) (fun c15 => ?_) (fun c15 => ?_)
          · replace E := E.1 c15
            refine z_iload_n hC dX11_shift_59 rfl 2 rfl ?_
            refine z_iload hC dX11_shift_60 5 rfl ?_
            refine z_aload_n hC dX11_shift_62 rfl 0 rfl ?_
            refine z_get hC lf_X11_61_11 (kX_0 hF) dX11_shift_63 (fV_ref rfl (rX_0_14 hF)) ?_
            refine z_iload_n hC dX11_shift_66 rfl 1 rfl ?_
            refine z_iald hC (kX_25 hF) (nX_25 hF) E.1 dX11_shift_67 ?_
            replace E := E.2
            refine z_callS (rest := []) hC (ck_mk lk_X11_274 in_X11_fits cd_X11_fits ds_X11_fits (Nat.le_of_ble_eq_true rfl) (Nat.le_of_ble_eq_true rfl)) st_X11_fits (ct_X11_fits hF E) rfl rfl (Nat.le_of_ble_eq_true rfl) ⟨Nat.le_refl _, Nat.le_refl _⟩ dX11_shift_68 ?_
            rintro _ _ _ ⟨v17, rfl, rfl, rfl, E⟩
            refine z_if_eq (tgt := 90) hC dX11_shift_71 (by decide) (fun c21 => ?_) (fun c21 => ?_)
            · replace E := E.1 c21
              refine z_bipush (v := -13) hC dX11_shift_90 rfl ?_
              exact z_iret hC dX11_shift_92 (Nat.le_refl _) (Nat.le_refl _) ⟨_, rfl, rfl, E⟩
            · replace E := E.2 c21
              refine z_iload hC dX11_shift_74 4 rfl ?_
              refine z_iload hC dX11_shift_76 5 rfl ?_
              refine z_aload_n hC dX11_shift_78 rfl 0 rfl ?_
              refine z_get hC lf_X11_61_11 (kX_0 hF) dX11_shift_79 (fV_ref rfl (rX_0_14 hF)) ?_
              refine z_iload_n hC dX11_shift_82 rfl 3 rfl ?_
              refine z_iald hC (kX_25 hF) (nX_25 hF) E.1 dX11_shift_83 ?_
              replace E := E.2
              refine z_callS (rest := []) hC (ck_mk lk_X11_274 in_X11_fits cd_X11_fits ds_X11_fits (Nat.le_of_ble_eq_true rfl) (Nat.le_of_ble_eq_true rfl)) st_X11_fits (ct_X11_fits hF E) rfl rfl (Nat.le_of_ble_eq_true rfl) ⟨Nat.le_refl _, Nat.le_refl _⟩ dX11_shift_84 ?_
              rintro _ _ _ ⟨v23, rfl, rfl, rfl, E⟩
              refine z_if_ne (tgt := 93) hC dX11_shift_87 (by decide) (fun c27 => ?_) (fun c27 => ?_)
              · replace E := E.1 c27
                refine z_aload_n hC dX11_shift_93 rfl 0 rfl ?_
                refine z_get hC lf_X11_66_11 (kX_0 hF) dX11_shift_94 (fV_ref rfl (rX_0_15 hF)) ?_
                refine z_iload_n hC dX11_shift_97 rfl 1 rfl ?_
                have b28 := E.1
                refine z_aldRow hC hF b28 dX11_shift_98 ?_
                replace E := E.2
                refine z_iload_n hC dX11_shift_99 rfl 2 rfl ?_
                refine z_aload_n hC dX11_shift_100 rfl 0 rfl ?_
                refine z_get hC lf_X11_66_11 (kX_0 hF) dX11_shift_101 (fV_ref rfl (rX_0_15 hF)) ?_
                refine z_iload_n hC dX11_shift_104 rfl 3 rfl ?_
                have b29 := E.1
                refine z_aldRow hC hF b29 dX11_shift_105 ?_
                replace E := E.2
                refine z_iload hC dX11_shift_106 4 rfl ?_
                refine z_iload hC dX11_shift_108 5 rfl ?_
                refine z_copyl hC lk_X11_278 nt_copy st_copy im_System (kRow hF b28) (nRow hF b28) (kRow hF b29) (nRow hF b29) E.1.1 E.1.2.1 E.1.2.2.1 E.1.2.2.2.1 E.1.2.2.2.2 ⟨Nat.le_of_ble_eq_true rfl, Nat.le_of_ble_eq_true rfl⟩ (Nat.le_of_ble_eq_true rfl) dX11_shift_110 ?_
                replace E := E.2
                refine z_topD (fun D30 h31 => ?_)
                replace E := E D30 h31
                refine z_iload hC dX11_shift_113 5 rfl ?_
                exact z_iret hC dX11_shift_115 (Nat.le_refl _) (Nat.le_refl _) ⟨_, rfl, rfl, E⟩
              · replace E := E.2 c27
                refine z_bipush (v := -13) hC dX11_shift_90 rfl ?_
                exact z_iret hC dX11_shift_92 (Nat.le_refl _) (Nat.le_refl _) ⟨_, rfl, rfl, E⟩
          · replace E := E.2 c15
            refine z_bipush (v := -12) hC dX11_shift_56 rfl ?_
            exact z_iret hC dX11_shift_58 (Nat.le_refl _) (Nat.le_refl _) ⟨_, rfl, rfl, E⟩
        · replace E := E.2 c14
          refine z_bipush (v := -11) hC dX11_shift_38 rfl ?_
          exact z_iret hC dX11_shift_40 (Nat.le_refl _) (Nat.le_refl _) ⟨_, rfl, rfl, E⟩
    · replace E := E.2 c12
      refine z_iconst (v := -1) hC dX11_shift_18 rfl ?_
      exact z_iret hC dX11_shift_19 (Nat.le_refl _) (Nat.le_refl _) ⟨_, rfl, rfl, E⟩
def fX11_silly (a1 : Int32) (D : Dy) (post : Int32 → Prop) : Prop :=
  (fX1_hasAll a1 D (fun (v2 : Int32) => ((¬ v2 = 0 → (fX1_isSilly a1 D (fun (v8 : Int32) => ((v8 = 0 → post (0 : Int32)) ∧ (¬ v8 = 0 → post (1 : Int32)))))) ∧ (v2 = 0 → post (-2 : Int32)))))
set_option maxHeartbeats 4000000 in
set_option maxRecDepth 100000 in
theorem ct_X11_silly {l : Launch} {G : Gl} {S : Sh} {D : Dy} {mdl : Nat → Option (Nat × Nat)} (hF : FX S mdl) {a1 : Int32} {post : Int32 → Prop} (E : fX11_silly a1 D post) : Ct l G yX11_silly cX11_silly 2 (some .int) 3 0 0 S D [.ref (G.1 + 0), .int a1] (PIr S D post) := by
  refine z_enter (lv0 := [(0, .ref (G.1 + 0)), (1, .int a1)]) pl_11 (Nat.le_of_ble_eq_true rfl) rfl ?_
  intro p e s m args below meth c hC hnm
  unfold fX11_silly at E
  refine z_aload_n hC dX11_silly_0 rfl 0 rfl ?_
  refine z_get hC lf_X11_12_11 (kX_0 hF) dX11_silly_1 (fV_ref rfl (rX_0_0 hF)) ?_
  refine z_iload_n hC dX11_silly_4 rfl 1 rfl ?_
  refine z_callV (ci := 1) (rest := []) hC (ck_mk lk_X11_208 in_X1_hasAll cd_X1_hasAll ds_X1_hasAll (Nat.le_of_ble_eq_true rfl) (Nat.le_of_ble_eq_true rfl)) iy_X1_hasAll sy_X1_hasAll cf_1 (by decide) (kX_1 hF) (ct_X1_hasAll hF E) rfl rfl (Nat.le_of_ble_eq_true rfl) ⟨Nat.le_refl _, Nat.le_refl _⟩ dX11_silly_5 ?_
  rintro _ _ _ ⟨v2, rfl, rfl, rfl, E⟩
  refine z_if_ne (tgt := 14) hC dX11_silly_8 (by decide) (fun c6 => ?_) (fun c6 => ?_)
  · replace E := E.1 c6
    refine z_aload_n hC dX11_silly_14 rfl 0 rfl ?_
    refine z_get hC lf_X11_12_11 (kX_0 hF) dX11_silly_15 (fV_ref rfl (rX_0_0 hF)) ?_
    refine z_iload_n hC dX11_silly_18 rfl 1 rfl ?_
    refine z_callV (ci := 1) (rest := []) hC (ck_mk lk_X11_211 in_X1_isSilly cd_X1_isSilly ds_X1_isSilly (Nat.le_of_ble_eq_true rfl) (Nat.le_of_ble_eq_true rfl)) iy_X1_isSilly sy_X1_isSilly cf_1 (by decide) (kX_1 hF) (ct_X1_isSilly hF E) rfl rfl (Nat.le_of_ble_eq_true rfl) ⟨Nat.le_refl _, Nat.le_refl _⟩ dX11_silly_19 ?_
    rintro _ _ _ ⟨v8, rfl, rfl, rfl, E⟩
    refine z_if_eq (tgt := 29) hC dX11_silly_22 (by decide) (fun c12 => ?_) (fun c12 => ?_)
    · replace E := E.1 c12
      refine z_iconst (v := 0) hC dX11_silly_29 rfl ?_
      exact z_iret hC dX11_silly_30 (Nat.le_refl _) (Nat.le_refl _) ⟨_, rfl, rfl, rfl, E⟩
    · replace E := E.2 c12
      refine z_iconst (v := 1) hC dX11_silly_25 rfl ?_
      refine z_goto (tgt := 30) hC dX11_silly_26 (by decide) ?_
      exact z_iret hC dX11_silly_30 (Nat.le_refl _) (Nat.le_refl _) ⟨_, rfl, rfl, rfl, E⟩
  · replace E := E.2 c6
    refine z_bipush (v := -2) hC dX11_silly_11 rfl ?_
    exact z_iret hC dX11_silly_13 (Nat.le_refl _) (Nat.le_refl _) ⟨_, rfl, rfl, rfl, E⟩
def fX11_taken (mdl : Nat → Option (Nat × Nat)) (a1 : Int32) (a2 : Int32) (D : Dy) (post : Int32 → Prop) : Prop :=
  (fX11_within a2 (6 : Int32) (fun (v2 : Int32) => ((¬ v2 = 0 → (fX11_modelAt mdl a1 D (fun (r10 : Option (Nat × Nat)) => ((r10 = none → post (-11 : Int32)) ∧ (∀ t kd : Nat, r10 = some (t, kd) → (fX11_isOfKind t kd a2 (fun (v14 : Int32) => ((v14 = 0 → post (-12 : Int32)) ∧ (¬ v14 = 0 → post (D.1 (t + 9) 0)))))))))) ∧ (v2 = 0 → post (-2 : Int32)))))
set_option maxHeartbeats 4000000 in
set_option maxRecDepth 100000 in
theorem ct_X11_taken {l : Launch} {G : Gl} {S : Sh} {D : Dy} {mdl : Nat → Option (Nat × Nat)} (hF : FX S mdl) {a1 : Int32} {a2 : Int32} {post : Int32 → Prop} (E : fX11_taken mdl a1 a2 D post) : Ct l G yX11_taken cX11_taken 4 (some .int) 2 0 0 S D [.ref (G.1 + 0), .int a1, .int a2] (PIr S D post) := by
  refine z_enter (lv0 := [(0, .ref (G.1 + 0)), (1, .int a1), (2, .int a2)]) pl_11 (Nat.le_of_ble_eq_true rfl) rfl ?_
  intro p e s m args below meth c hC hnm
  unfold fX11_taken at E
  refine z_iload_n hC dX11_taken_0 rfl 2 rfl ?_
  refine z_bipush (v := 6) hC dX11_taken_1 rfl ?_
  refine z_callS (rest := []) hC (ck_mk lk_X11_69 in_X11_within cd_X11_within ds_X11_within (Nat.le_of_ble_eq_true rfl) (Nat.le_of_ble_eq_true rfl)) st_X11_within (ct_X11_within hF E) rfl rfl (Nat.le_of_ble_eq_true rfl) ⟨Nat.le_refl _, Nat.le_refl _⟩ dX11_taken_3 ?_
  rintro _ _ _ ⟨v2, rfl, rfl, rfl, E⟩
  refine z_if_ne (tgt := 12) hC dX11_taken_6 (by decide) (fun c6 => ?_) (fun c6 => ?_)
  · replace E := E.1 c6
    refine z_aload_n hC dX11_taken_12 rfl 0 rfl ?_
    refine z_iload_n hC dX11_taken_13 rfl 1 rfl ?_
    refine z_callV (ci := 11) (rest := []) hC (ck_mk lk_X11_130 in_X11_modelAt cd_X11_modelAt ds_X11_modelAt (Nat.le_of_ble_eq_true rfl) (Nat.le_of_ble_eq_true rfl)) iy_X11_modelAt sy_X11_modelAt cf_11 (by decide) (kX_0 hF) (ct_X11_modelAt hF E) rfl rfl (Nat.le_of_ble_eq_true rfl) ⟨Nat.le_refl _, Nat.le_refl _⟩ dX11_taken_14 ?_
    rintro _ _ _ ⟨r10, rfl, rfl, rfl, hq_r10, E⟩
    refine z_astoreq_n (lv' := [(3, va_rf (mq G r10)), (0, .ref (G.1 + 0)), (1, .int a1), (2, .int a2)]) hC dX11_taken_17 rfl (Nat.le_of_ble_eq_true rfl) rfl ?_
    refine z_aloadq_n hC dX11_taken_18 rfl 0 rfl ?_
    refine z_ifnonnullM (tgt := 25) hC hq_r10 dX11_taken_19 (by decide) ?_ ?_
    · intro t kd hM c12
      replace E := E.2 t kd c12
      subst c12
      have hT := hM.ft
      refine z_aload_n hC dX11_taken_25 rfl 0 rfl ?_
      refine z_iload_n hC dX11_taken_26 rfl 3 rfl ?_
      refine z_callS (rest := []) hC (ck_mk lk_X11_253 in_X11_isOfKind cd_X11_isOfKind ds_X11_isOfKind (Nat.le_of_ble_eq_true rfl) (Nat.le_of_ble_eq_true rfl)) st_X11_isOfKind (ct_X11_isOfKind hF hM E) rfl rfl (Nat.le_of_ble_eq_true rfl) ⟨Nat.le_refl _, Nat.le_refl _⟩ dX11_taken_27 ?_
      rintro _ _ _ ⟨v14, rfl, rfl, rfl, E⟩
      refine z_if_eq (tgt := 40) hC dX11_taken_30 (by decide) (fun c18 => ?_) (fun c18 => ?_)
      · replace E := E.1 c18
        refine z_bipush (v := -12) hC dX11_taken_40 rfl ?_
        exact z_iret hC dX11_taken_42 (Nat.le_refl _) (Nat.le_refl _) ⟨_, rfl, rfl, rfl, E⟩
      · replace E := E.2 c18
        refine z_aload_n hC dX11_taken_33 rfl 0 rfl ?_
        refine z_get hC (lfm_X11_257 hM.kd) (kO hM) dX11_taken_34 (fVm_0 hM) ?_
        refine z_goto (tgt := 42) hC dX11_taken_37 (by decide) ?_
        exact z_iret hC dX11_taken_42 (Nat.le_refl _) (Nat.le_refl _) ⟨_, rfl, rfl, rfl, E⟩
    · intro c12
      replace E := E.1 c12
      refine z_bipush (v := -11) hC dX11_taken_22 rfl ?_
      exact z_iret hC dX11_taken_24 (Nat.le_refl _) (Nat.le_refl _) ⟨_, rfl, rfl, rfl, E⟩
  · replace E := E.2 c6
    refine z_bipush (v := -2) hC dX11_taken_9 rfl ?_
    exact z_iret hC dX11_taken_11 (Nat.le_refl _) (Nat.le_refl _) ⟨_, rfl, rfl, rfl, E⟩
def fX11_taker (a1 : Int32) (D : Dy) (post : Int32 → Dy → Prop) : Prop :=
  (fX11_within a1 (3 : Int32) (fun (v2 : Int32) => ((¬ v2 = 0 → (((D.1 0 3) < (16 : Int32) → (vp_in (D.1 0 3) 16 ∧ (∀ D8 : Dy, D8 = sI D 5 ((D.1 0 3)).toNatClampNeg a1 → (vp_in a1 3 ∧ (vp_in a1 3 ∧ (∀ D10 : Dy, D10 = sI D8 6 (a1).toNatClampNeg ((D8.1 6 (a1).toNatClampNeg) + (1 : Int32)) → (∀ v12 : Int32, v12 = (D10.1 0 3) → (∀ D14 : Dy, D14 = sI D10 0 3 (v12 + (1 : Int32)) → post v12 D14)))))))) ∧ (¬ (D.1 0 3) < (16 : Int32) → post (-4 : Int32) D))) ∧ (v2 = 0 → post (-2 : Int32) D))))
set_option maxHeartbeats 4000000 in
set_option maxRecDepth 100000 in
theorem ct_X11_taker {l : Launch} {G : Gl} {S : Sh} {D : Dy} {mdl : Nat → Option (Nat × Nat)} (hF : FX S mdl) {a1 : Int32} {post : Int32 → Dy → Prop} (E : fX11_taker a1 D post) : Ct l G yX11_taker cX11_taker 2 (some .int) 1 0 0 S D [.ref (G.1 + 0), .int a1] (PI S post) := by
  refine z_enter (lv0 := [(0, .ref (G.1 + 0)), (1, .int a1)]) pl_11 (Nat.le_of_ble_eq_true rfl) rfl ?_
  intro p e s m args below meth c hC hnm
  unfold fX11_taker at E
  refine z_iload_n hC dX11_taker_0 rfl 1 rfl ?_
  refine z_iconst (v := 3) hC dX11_taker_1 rfl ?_
  refine z_callS (rest := []) hC (ck_mk lk_X11_69 in_X11_within cd_X11_within ds_X11_within (Nat.le_of_ble_eq_true rfl) (Nat.le_of_ble_eq_true rfl)) st_X11_within (ct_X11_within hF E) rfl rfl (Nat.le_of_ble_eq_true rfl) ⟨Nat.le_refl _, Nat.le_refl _⟩ dX11_taker_2 ?_
  rintro _ _ _ ⟨v2, rfl, rfl, rfl, E⟩
  refine z_if_ne (tgt := 11) hC dX11_taker_5 (by decide) (fun c6 => ?_) (fun c6 => ?_)
  · replace E := E.1 c6
    refine z_aload_n hC dX11_taker_11 rfl 0 rfl ?_
    refine z_get hC lf_X11_91_11 (kX_0 hF) dX11_taker_12 (fV_int rfl) ?_
    refine z_bipush (v := 16) hC dX11_taker_15 rfl ?_
    refine z_icmp_lt (tgt := 23) hC dX11_taker_17 (by decide) (fun c7 => ?_) (fun c7 => ?_)
    · replace E := E.1 c7
      refine z_aload_n hC dX11_taker_23 rfl 0 rfl ?_
      refine z_get hC lf_X11_18_11 (kX_0 hF) dX11_taker_24 (fV_ref rfl (rX_0_1 hF)) ?_
      refine z_aload_n hC dX11_taker_27 rfl 0 rfl ?_
      refine z_get hC lf_X11_91_11 (kX_0 hF) dX11_taker_28 (fV_int rfl) ?_
      refine z_iload_n hC dX11_taker_31 rfl 1 rfl ?_
      refine z_iast hC (kX_5 hF) (nX_5 hF) E.1 dX11_taker_32 ?_
      replace E := E.2
      refine z_topD (fun D8 h9 => ?_)
      replace E := E D8 h9
      refine z_aload_n hC dX11_taker_33 rfl 0 rfl ?_
      refine z_get hC lf_X11_22_11 (kX_0 hF) dX11_taker_34 (fV_ref rfl (rX_0_2 hF)) ?_
      refine z_iload_n hC dX11_taker_37 rfl 1 rfl ?_
      refine z_dup2 hC dX11_taker_38 rfl rfl ?_
      refine z_iald hC (kX_6 hF) (nX_6 hF) E.1 dX11_taker_39 ?_
      replace E := E.2
      refine z_iconst (v := 1) hC dX11_taker_40 rfl ?_
      refine z_iadd hC dX11_taker_41 ?_
      refine z_iast hC (kX_6 hF) (nX_6 hF) E.1 dX11_taker_42 ?_
      replace E := E.2
      refine z_topD (fun D10 h11 => ?_)
      replace E := E D10 h11
      refine z_aload_n hC dX11_taker_43 rfl 0 rfl ?_
      refine z_dup hC dX11_taker_44 rfl ?_
      refine z_get hC lf_X11_91_11 (kX_0 hF) dX11_taker_45 (fV_int rfl) ?_
      refine z_topi (fun v12 h13 => ?_)
      replace E := E v12 h13
      refine z_dup_x1 hC dX11_taker_48 rfl rfl ?_
      refine z_iconst (v := 1) hC dX11_taker_49 rfl ?_
      refine z_iadd hC dX11_taker_50 ?_
      refine z_puti hC lf_X11_91_11 rfl (kX_0 hF) dX11_taker_51 ?_
      refine z_topD (fun D14 h15 => ?_)
      replace E := E D14 h15
      exact z_iret hC dX11_taker_54 (Nat.le_refl _) (Nat.le_refl _) ⟨_, rfl, rfl, E⟩
    · replace E := E.2 c7
      refine z_bipush (v := -4) hC dX11_taker_20 rfl ?_
      exact z_iret hC dX11_taker_22 (Nat.le_refl _) (Nat.le_refl _) ⟨_, rfl, rfl, E⟩
  · replace E := E.2 c6
    refine z_bipush (v := -2) hC dX11_taker_8 rfl ?_
    exact z_iret hC dX11_taker_10 (Nat.le_refl _) (Nat.le_refl _) ⟨_, rfl, rfl, E⟩
def fX11_tape (mdl : Nat → Option (Nat × Nat)) (a1 : Int32) (a2 : Int32) (a3 : Int32) (D : Dy) (post : Int32 → Dy → Prop) : Prop :=
  (fX11_within a1 (6 : Int32) (fun (v2 : Int32) => ((¬ v2 = 0 → ((a2 < (-1 : Int32) → post (-2 : Int32) D) ∧ (¬ a2 < (-1 : Int32) → ((a2 < (5 : Int32) → (JN (fun (v9 : Int32) => ((v9 ≤ (60 : Int32) → ((0 ≤ v9 → (vp_in a1 6 ∧ (∀ D14 : Dy, D14 = sI D 24 (a1).toNatClampNeg a2 → (vp_in a1 6 ∧ (∀ D16 : Dy, D16 = sI D14 25 (a1).toNatClampNeg v9 → (LP2 (fun (rec20 : Int32 → Dy → Prop) (v18 : Int32) (D19 : Dy) => ((v9 ≤ v18 → post (1 : Int32) D19) ∧ (¬ v9 ≤ v18 → (vp_in a1 6 ∧ (vp_in v18 60 ∧ (∀ D24 : Dy, D24 = sL D19 (27 + (a1).toNatClampNeg) (v18).toNatClampNeg (0 : Int64) → (∀ v26 : Int32, v26 = v18 + 1 → (rec20 v26 D24)))))))) FU (0 : Int32) D16)))))) ∧ (¬ 0 ≤ v9 → post (-14 : Int32) D))) ∧ (¬ v9 ≤ (60 : Int32) → post (-2 : Int32) D))) (fun K10 : Int32 → Prop => ((0 ≤ a2 → (K10 a3)) ∧ (¬ 0 ≤ a2 → (K10 (0 : Int32))))))) ∧ (¬ a2 < (5 : Int32) → post (-2 : Int32) D))))) ∧ (v2 = 0 → post (-1 : Int32) D))))
set_option maxHeartbeats 4000000 in
set_option maxRecDepth 100000 in
theorem ct_X11_tape {l : Launch} {G : Gl} {S : Sh} {D : Dy} {mdl : Nat → Option (Nat × Nat)} (hF : FX S mdl) {a1 : Int32} {a2 : Int32} {a3 : Int32} {post : Int32 → Dy → Prop} (E : fX11_tape mdl a1 a2 a3 D post) : Ct l G yX11_tape cX11_tape 6 (some .int) 1 0 0 S D [.ref (G.1 + 0), .int a1, .int a2, .int a3] (PI S post) := by
  refine z_enter (lv0 := [(0, .ref (G.1 + 0)), (1, .int a1), (2, .int a2), (3, .int a3)]) pl_11 (Nat.le_of_ble_eq_true rfl) rfl ?_
  intro p e s m args below meth c hC hnm
  unfold fX11_tape at E
  refine z_iload_n hC dX11_tape_0 rfl 1 rfl ?_
  refine z_bipush (v := 6) hC dX11_tape_1 rfl ?_
  refine z_callS (rest := []) hC (ck_mk lk_X11_69 in_X11_within cd_X11_within ds_X11_within (Nat.le_of_ble_eq_true rfl) (Nat.le_of_ble_eq_true rfl)) st_X11_within (ct_X11_within hF E) rfl rfl (Nat.le_of_ble_eq_true rfl) ⟨Nat.le_refl _, Nat.le_refl _⟩ dX11_tape_3 ?_
  rintro _ _ _ ⟨v2, rfl, rfl, rfl, E⟩
  refine z_if_ne (tgt := 11) hC dX11_tape_6 (by decide) (fun c6 => ?_) (fun c6 => ?_)
  · replace E := E.1 c6
    refine z_iload_n hC dX11_tape_11 rfl 2 rfl ?_
    refine z_iconst (v := -1) hC dX11_tape_12 rfl ?_
    refine z_icmp_lt (tgt := 21) hC dX11_tape_13 (by decide) (fun c7 => ?_) (fun c7 => ?_)
    · replace E := E.1 c7
      refine z_bipush (v := -2) hC dX11_tape_21 rfl ?_
      exact z_iret hC dX11_tape_23 (Nat.le_refl _) (Nat.le_refl _) ⟨_, rfl, rfl, E⟩
    · replace E := E.2 c7
      refine z_iload_n hC dX11_tape_16 rfl 2 rfl ?_
      refine z_iconst (v := 5) hC dX11_tape_17 rfl ?_
      refine z_icmp_lt (tgt := 24) hC dX11_tape_18 (by decide) (fun c8 => ?_) (fun c8 => ?_)
      · replace E := E.1 c8
        refine z_iload_n hC dX11_tape_24 rfl 2 rfl ?_
        obtain ⟨K10, hK11, EE⟩ := JN_use E (fun K10 : Int32 → Prop => ∀ (v9 : Int32), K10 v9 → ZM l G p e s m args below meth c 6 1 S (PI S post) S D 33 [(0, .ref (G.1 + 0)), (1, .int a1), (2, .int a2)] [.int v9]) (by
          intro v9 E
          refine z_istore (lv' := [(4, .int v9), (0, .ref (G.1 + 0)), (1, .int a1), (2, .int a2)]) hC dX11_tape_33 (Nat.le_of_ble_eq_true rfl) rfl ?_
          refine z_iload hC dX11_tape_35 0 rfl ?_
          refine z_bipush (v := 60) hC dX11_tape_37 rfl ?_
          refine z_icmp_le (tgt := 45) hC dX11_tape_39 (by decide) (fun c12 => ?_) (fun c12 => ?_)
          · replace E := E.1 c12
            refine z_iload hC dX11_tape_45 0 rfl ?_
            refine z_if_ge (tgt := 53) hC dX11_tape_47 (by decide) (fun c13 => ?_) (fun c13 => ?_)
            · replace E := E.1 c13
              refine z_aload_n hC dX11_tape_53 rfl 1 rfl ?_
              refine z_get hC lf_X11_58_11 (kX_0 hF) dX11_tape_54 (fV_ref rfl (rX_0_13 hF)) ?_
              refine z_iload_n hC dX11_tape_57 rfl 2 rfl ?_
              refine z_iload_n hC dX11_tape_58 rfl 3 rfl ?_
              refine z_iast hC (kX_24 hF) (nX_24 hF) E.1 dX11_tape_59 ?_
              replace E := E.2
              refine z_topD (fun D14 h15 => ?_)
              replace E := E D14 h15
              refine z_aload_n hC dX11_tape_60 rfl 1 rfl ?_
              refine z_get hC lf_X11_61_11 (kX_0 hF) dX11_tape_61 (fV_ref rfl (rX_0_14 hF)) ?_
              refine z_iload_n hC dX11_tape_64 rfl 2 rfl ?_
              refine z_iload hC dX11_tape_65 0 rfl ?_
              refine z_iast hC (kX_25 hF) (nX_25 hF) E.1 dX11_tape_67 ?_
              replace E := E.2
              refine z_topD (fun D16 h17 => ?_)
              replace E := E D16 h17
              refine z_iconst (v := 0) hC dX11_tape_68 rfl ?_
              refine z_istore (lv' := [(5, .int (0 : Int32)), (4, .int v9), (0, .ref (G.1 + 0)), (1, .int a1), (2, .int a2)]) hC dX11_tape_69 (Nat.le_of_ble_eq_true rfl) rfl ?_
              refine z_sub [2, 3, 1, 0] rfl ?_
              refine LP2_use (fun (v18 : Int32) (D19 : Dy) => ZM l G p e s m args below meth c 6 1 S (PI S post) S D19 71 [(0, .ref (G.1 + 0)), (1, .int a1), (4, .int v9), (5, .int v18)] []) ?_ FU (0 : Int32) D16 E
              intro rec20 hrec21 v18 D19 E
              refine z_iload hC dX11_tape_71 3 rfl ?_
              refine z_iload hC dX11_tape_73 2 rfl ?_
              refine z_icmp_ge (tgt := 94) hC dX11_tape_75 (by decide) (fun c22 => ?_) (fun c22 => ?_)
              · replace E := E.1 c22
                refine z_iconst (v := 1) hC dX11_tape_94 rfl ?_
                exact z_iret hC dX11_tape_95 (Nat.le_refl _) (Nat.le_refl _) ⟨_, rfl, rfl, E⟩
              · replace E := E.2 c22
                refine z_aload_n hC dX11_tape_78 rfl 0 rfl ?_
                refine z_get hC lf_X11_66_11 (kX_0 hF) dX11_tape_79 (fV_ref rfl (rX_0_15 hF)) ?_
                refine z_iload_n hC dX11_tape_82 rfl 1 rfl ?_
                have b23 := E.1
                refine z_aldRow hC hF b23 dX11_tape_83 ?_
                replace E := E.2
                refine z_iload hC dX11_tape_84 3 rfl ?_
                refine z_lconst (v := 0) hC dX11_tape_86 rfl ?_
                refine z_last hC (kRow hF b23) (nRow hF b23) E.1 dX11_tape_87 ?_
                replace E := E.2
                refine z_topD (fun D24 h25 => ?_)
                replace E := E D24 h25
                obtain ⟨v26, h27⟩ : ∃ y : Int32, y = v18 + 1 := ⟨_, rfl⟩
                replace E := E v26 h27
                refine z_iinc (q := 3) (v := v26) (lv' := [(5, .int v26), (0, .ref (G.1 + 0)), (1, .int a1), (4, .int v9)]) hC dX11_tape_88 rfl (by rw [h27]; rfl) (Nat.le_of_ble_eq_true rfl) rfl ?_
                refine z_goto (tgt := 71) hC dX11_tape_91 (by decide) ?_
                refine z_sub [1, 2, 3, 0] rfl ?_
                exact hrec21 v26 D24 E
            · replace E := E.2 c13
              refine z_bipush (v := -14) hC dX11_tape_50 rfl ?_
              exact z_iret hC dX11_tape_52 (Nat.le_refl _) (Nat.le_refl _) ⟨_, rfl, rfl, E⟩
          · replace E := E.2 c12
            refine z_bipush (v := -2) hC dX11_tape_42 rfl ?_
            exact z_iret hC dX11_tape_44 (Nat.le_refl _) (Nat.le_refl _) ⟨_, rfl, rfl, E⟩)
        replace E := EE
        clear EE
        refine z_if_ge (tgt := 32) hC dX11_tape_25 (by decide) (fun c28 => ?_) (fun c28 => ?_)
        · replace E := E.1 c28
          refine z_iload_n hC dX11_tape_32 rfl 3 rfl ?_
          refine z_sub [0, 1, 2] rfl ?_
          exact hK11 a3 E
        · replace E := E.2 c28
          refine z_iconst (v := 0) hC dX11_tape_28 rfl ?_
          refine z_goto (tgt := 33) hC dX11_tape_29 (by decide) ?_
          refine z_sub [0, 1, 2] rfl ?_
          exact hK11 (0 : Int32) E
      · replace E := E.2 c8
        refine z_bipush (v := -2) hC dX11_tape_21 rfl ?_
        exact z_iret hC dX11_tape_23 (Nat.le_refl _) (Nat.le_refl _) ⟨_, rfl, rfl, E⟩
  · replace E := E.2 c6
    refine z_iconst (v := -1) hC dX11_tape_9 rfl ?_
    exact z_iret hC dX11_tape_10 (Nat.le_refl _) (Nat.le_refl _) ⟨_, rfl, rfl, E⟩
def fX11_thing (a1 : Int32) (a2 : Int32) (a3 : Int32) (D : Dy) (post : Int32 → Dy → Prop) : Prop :=
  (fX11_within a1 (256 : Int32) (fun (v2 : Int32) => ((v2 = 0 → post (-2 : Int32) D) ∧ (¬ v2 = 0 → (fX11_within a2 (100 : Int32) (fun (v8 : Int32) => ((v8 = 0 → post (-2 : Int32) D) ∧ (¬ v8 = 0 → (fX11_within a3 (4 : Int32) (fun (v14 : Int32) => ((¬ v14 = 0 → ((0 < (D.1 7 4) → post (-3 : Int32) D) ∧ (¬ 0 < (D.1 7 4) → (((D.1 0 11) ≤ 0 → (fX1_add a1 a2 a3 D (fun (v21 : Int32) (D26 : Dy) => post v21 D26))) ∧ (¬ (D.1 0 11) ≤ 0 → post (-3 : Int32) D))))) ∧ (v14 = 0 → post (-2 : Int32) D))))))))))))
set_option maxHeartbeats 4000000 in
set_option maxRecDepth 100000 in
theorem ct_X11_thing {l : Launch} {G : Gl} {S : Sh} {D : Dy} {mdl : Nat → Option (Nat × Nat)} (hF : FX S mdl) {a1 : Int32} {a2 : Int32} {a3 : Int32} {post : Int32 → Dy → Prop} (E : fX11_thing a1 a2 a3 D post) : Ct l G yX11_thing cX11_thing 4 (some .int) 1 0 0 S D [.ref (G.1 + 0), .int a1, .int a2, .int a3] (PI S post) := by
  refine z_enter (lv0 := [(0, .ref (G.1 + 0)), (1, .int a1), (2, .int a2), (3, .int a3)]) pl_11 (Nat.le_of_ble_eq_true rfl) rfl ?_
  intro p e s m args below meth c hC hnm
  unfold fX11_thing at E
  refine z_iload_n hC dX11_thing_0 rfl 1 rfl ?_
  refine z_sipush (v := 256) hC dX11_thing_1 rfl ?_
  refine z_callS (rest := []) hC (ck_mk lk_X11_69 in_X11_within cd_X11_within ds_X11_within (Nat.le_of_ble_eq_true rfl) (Nat.le_of_ble_eq_true rfl)) st_X11_within (ct_X11_within hF E) rfl rfl (Nat.le_of_ble_eq_true rfl) ⟨Nat.le_refl _, Nat.le_refl _⟩ dX11_thing_4 ?_
  rintro _ _ _ ⟨v2, rfl, rfl, rfl, E⟩
  refine z_if_eq (tgt := 27) hC dX11_thing_7 (by decide) (fun c6 => ?_) (fun c6 => ?_)
  · replace E := E.1 c6
    refine z_bipush (v := -2) hC dX11_thing_27 rfl ?_
    exact z_iret hC dX11_thing_29 (Nat.le_refl _) (Nat.le_refl _) ⟨_, rfl, rfl, E⟩
  · replace E := E.2 c6
    refine z_iload_n hC dX11_thing_10 rfl 2 rfl ?_
    refine z_bipush (v := 100) hC dX11_thing_11 rfl ?_
    refine z_callS (rest := []) hC (ck_mk lk_X11_69 in_X11_within cd_X11_within ds_X11_within (Nat.le_of_ble_eq_true rfl) (Nat.le_of_ble_eq_true rfl)) st_X11_within (ct_X11_within hF E) rfl rfl (Nat.le_of_ble_eq_true rfl) ⟨Nat.le_refl _, Nat.le_refl _⟩ dX11_thing_13 ?_
    rintro _ _ _ ⟨v8, rfl, rfl, rfl, E⟩
    refine z_if_eq (tgt := 27) hC dX11_thing_16 (by decide) (fun c12 => ?_) (fun c12 => ?_)
    · replace E := E.1 c12
      refine z_bipush (v := -2) hC dX11_thing_27 rfl ?_
      exact z_iret hC dX11_thing_29 (Nat.le_refl _) (Nat.le_refl _) ⟨_, rfl, rfl, E⟩
    · replace E := E.2 c12
      refine z_iload_n hC dX11_thing_19 rfl 3 rfl ?_
      refine z_iconst (v := 4) hC dX11_thing_20 rfl ?_
      refine z_callS (rest := []) hC (ck_mk lk_X11_69 in_X11_within cd_X11_within ds_X11_within (Nat.le_of_ble_eq_true rfl) (Nat.le_of_ble_eq_true rfl)) st_X11_within (ct_X11_within hF E) rfl rfl (Nat.le_of_ble_eq_true rfl) ⟨Nat.le_refl _, Nat.le_refl _⟩ dX11_thing_21 ?_
      rintro _ _ _ ⟨v14, rfl, rfl, rfl, E⟩
      refine z_if_ne (tgt := 30) hC dX11_thing_24 (by decide) (fun c18 => ?_) (fun c18 => ?_)
      · replace E := E.1 c18
        refine z_aload_n hC dX11_thing_30 rfl 0 rfl ?_
        refine z_get hC lf_X11_28_11 (kX_0 hF) dX11_thing_31 (fV_ref rfl (rX_0_4 hF)) ?_
        refine z_get hC lf_X11_73_0 (kX_7 hF) dX11_thing_34 (fV_int rfl) ?_
        refine z_if_gt (tgt := 47) hC dX11_thing_37 (by decide) (fun c19 => ?_) (fun c19 => ?_)
        · replace E := E.1 c19
          refine z_bipush (v := -3) hC dX11_thing_47 rfl ?_
          exact z_iret hC dX11_thing_49 (Nat.le_refl _) (Nat.le_refl _) ⟨_, rfl, rfl, E⟩
        · replace E := E.2 c19
          refine z_aload_n hC dX11_thing_40 rfl 0 rfl ?_
          refine z_get hC lf_X11_77_11 (kX_0 hF) dX11_thing_41 (fV_int rfl) ?_
          refine z_if_le (tgt := 50) hC dX11_thing_44 (by decide) (fun c20 => ?_) (fun c20 => ?_)
          · replace E := E.1 c20
            refine z_aload_n hC dX11_thing_50 rfl 0 rfl ?_
            refine z_get hC lf_X11_12_11 (kX_0 hF) dX11_thing_51 (fV_ref rfl (rX_0_0 hF)) ?_
            refine z_iload_n hC dX11_thing_54 rfl 1 rfl ?_
            refine z_iload_n hC dX11_thing_55 rfl 2 rfl ?_
            refine z_iload_n hC dX11_thing_56 rfl 3 rfl ?_
            refine z_callV (ci := 1) (rest := []) hC (ck_mk lk_X11_80 in_X1_add cd_X1_add ds_X1_add (Nat.le_of_ble_eq_true rfl) (Nat.le_of_ble_eq_true rfl)) iy_X1_add sy_X1_add cf_1 (by decide) (kX_1 hF) (ct_X1_add hF E) rfl rfl (Nat.le_of_ble_eq_true rfl) ⟨Nat.le_refl _, Nat.le_refl _⟩ dX11_thing_57 ?_
            rintro _ _ D26 ⟨v21, rfl, rfl, E⟩
            exact z_iret hC dX11_thing_60 (Nat.le_refl _) (Nat.le_refl _) ⟨_, rfl, rfl, E⟩
          · replace E := E.2 c20
            refine z_bipush (v := -3) hC dX11_thing_47 rfl ?_
            exact z_iret hC dX11_thing_49 (Nat.le_refl _) (Nat.le_refl _) ⟨_, rfl, rfl, E⟩
      · replace E := E.2 c18
        refine z_bipush (v := -2) hC dX11_thing_27 rfl ?_
        exact z_iret hC dX11_thing_29 (Nat.le_refl _) (Nat.le_refl _) ⟨_, rfl, rfl, E⟩
def fX11_trace (a1 : Int32) (D : Dy) (post : Int32 → Prop) : Prop :=
  (fX10_kept D (fun (v1 : Int32) => (fX11_within a1 v1 (fun (v7 : Int32) => ((v7 = 0 → post (-1 : Int32)) ∧ (¬ v7 = 0 → (vp_in a1 20 ∧ post (D.1 23 (a1).toNatClampNeg))))))))
set_option maxHeartbeats 4000000 in
set_option maxRecDepth 100000 in
theorem ct_X11_trace {l : Launch} {G : Gl} {S : Sh} {D : Dy} {mdl : Nat → Option (Nat × Nat)} (hF : FX S mdl) {a1 : Int32} {post : Int32 → Prop} (E : fX11_trace a1 D post) : Ct l G yX11_trace cX11_trace 2 (some .int) 2 0 0 S D [.ref (G.1 + 0), .int a1] (PIr S D post) := by
  refine z_enter (lv0 := [(0, .ref (G.1 + 0)), (1, .int a1)]) pl_11 (Nat.le_of_ble_eq_true rfl) rfl ?_
  intro p e s m args below meth c hC hnm
  unfold fX11_trace at E
  refine z_iload_n hC dX11_trace_0 rfl 1 rfl ?_
  refine z_aload_n hC dX11_trace_1 rfl 0 rfl ?_
  refine z_get hC lf_X11_54_11 (kX_0 hF) dX11_trace_2 (fV_ref rfl (rX_0_12 hF)) ?_
  refine z_callV (ci := 10) (rest := [.int a1]) hC (ck_mk lk_X11_247 in_X10_kept cd_X10_kept ds_X10_kept (Nat.le_of_ble_eq_true rfl) (Nat.le_of_ble_eq_true rfl)) iy_X10_kept sy_X10_kept cf_10 (by decide) (kX_22 hF) (ct_X10_kept hF E) rfl rfl (Nat.le_of_ble_eq_true rfl) ⟨Nat.le_refl _, Nat.le_refl _⟩ dX11_trace_5 ?_
  rintro _ _ _ ⟨v1, rfl, rfl, rfl, E⟩
  refine z_callS (rest := []) hC (ck_mk lk_X11_69 in_X11_within cd_X11_within ds_X11_within (Nat.le_of_ble_eq_true rfl) (Nat.le_of_ble_eq_true rfl)) st_X11_within (ct_X11_within hF E) rfl rfl (Nat.le_of_ble_eq_true rfl) ⟨Nat.le_refl _, Nat.le_refl _⟩ dX11_trace_8 ?_
  rintro _ _ _ ⟨v7, rfl, rfl, rfl, E⟩
  refine z_if_eq (tgt := 26) hC dX11_trace_11 (by decide) (fun c11 => ?_) (fun c11 => ?_)
  · replace E := E.1 c11
    refine z_iconst (v := -1) hC dX11_trace_26 rfl ?_
    exact z_iret hC dX11_trace_27 (Nat.le_refl _) (Nat.le_refl _) ⟨_, rfl, rfl, rfl, E⟩
  · replace E := E.2 c11
    refine z_aload_n hC dX11_trace_14 rfl 0 rfl ?_
    refine z_get hC lf_X11_54_11 (kX_0 hF) dX11_trace_15 (fV_ref rfl (rX_0_12 hF)) ?_
    refine z_get hC lf_X11_250_10 (kX_22 hF) dX11_trace_18 (fV_ref rfl (rX_22_0 hF)) ?_
    refine z_iload_n hC dX11_trace_21 rfl 1 rfl ?_
    refine z_iald hC (kX_23 hF) (nX_23 hF) E.1 dX11_trace_22 ?_
    replace E := E.2
    refine z_goto (tgt := 27) hC dX11_trace_23 (by decide) ?_
    exact z_iret hC dX11_trace_27 (Nat.le_refl _) (Nat.le_refl _) ⟨_, rfl, rfl, rfl, E⟩
