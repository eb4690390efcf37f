/-! the constructors -/
def sNa (S : Sh) (a kd ln : Nat) : Sh := (a + 1, fun b => if b = a then kd else S.2.1 b, fun b => if b = a then ln else S.2.2.1 b, fun b j => if b = a then none else S.2.2.2 b j)
theorem sNa_eq {S : Sh} {a kd ln : Nat} (h : S.1 = a) : sN S kd ln = sNa S a kd ln := by subst h; rfl
def SQ_0 : Sh := (0, fun _ => 0, fun _ => 0, fun _ _ => none)
def SQ_1 : Sh := sNa SQ_0 0 12 0
def SQ_2 : Sh := sNa SQ_1 1 2 0
def SQ_3 : Sh := sNa SQ_2 2 20 6
def SQ_4 : Sh := sR SQ_3 1 0 (some 2)
def SQ_5 : Sh := sNa SQ_4 3 20 6
def SQ_6 : Sh := sR SQ_5 1 1 (some 3)
def SQ_7 : Sh := sNa SQ_6 4 20 6
def SQ_8 : Sh := sR SQ_7 1 2 (some 4)
def SQ_9 : Sh := sR SQ_8 0 0 (some 1)
def SQ_10 : Sh := sNa SQ_9 5 20 16
def SQ_11 : Sh := sR SQ_10 0 1 (some 5)
def SQ_12 : Sh := sNa SQ_11 6 20 3
def SQ_13 : Sh := sR SQ_12 0 2 (some 6)
def SQ_14 : Sh := sNa SQ_13 7 1 0
def SQ_15 : Sh := sNa SQ_14 8 20 80
def SQ_16 : Sh := sR SQ_15 7 0 (some 8)
def SQ_17 : Sh := sNa SQ_16 9 20 80
def SQ_18 : Sh := sR SQ_17 7 1 (some 9)
def SQ_19 : Sh := sNa SQ_18 10 20 80
def SQ_20 : Sh := sR SQ_19 7 2 (some 10)
def SQ_21 : Sh := sNa SQ_20 11 20 80
def SQ_22 : Sh := sR SQ_21 7 3 (some 11)
def SQ_23 : Sh := sR SQ_22 0 4 (some 7)
def SQ_24 : Sh := sNa SQ_23 12 20 120
def SQ_25 : Sh := sR SQ_24 0 5 (some 12)
def SQ_26 : Sh := sNa SQ_25 13 23 10
def SQ_27 : Sh := sR SQ_26 0 7 (some 13)
def SQ_28 : Sh := sNa SQ_27 14 7 0
def SQ_29 : Sh := sNa SQ_28 15 20 7
def SQ_30 : Sh := sR SQ_29 14 1 (some 15)
def SQ_31 : Sh := sNa SQ_30 16 20 80
def SQ_32 : Sh := sR SQ_31 14 2 (some 16)
def SQ_33 : Sh := sNa SQ_32 17 20 80
def SQ_34 : Sh := sR SQ_33 14 3 (some 17)
def SQ_35 : Sh := sNa SQ_34 18 20 128
def SQ_36 : Sh := sR SQ_35 14 5 (some 18)
def SQ_37 : Sh := sNa SQ_36 19 20 128
def SQ_38 : Sh := sR SQ_37 14 6 (some 19)
def SQ_39 : Sh := sNa SQ_38 20 20 7
def SQ_40 : Sh := sR SQ_39 14 7 (some 20)
def SQ_41 : Sh := sR SQ_40 0 9 (some 14)
def SQ_42 : Sh := sNa SQ_41 21 20 10
def SQ_43 : Sh := sR SQ_42 0 10 (some 21)
def SQ_44 : Sh := sNa SQ_43 22 11 0
def SQ_45 : Sh := sNa SQ_44 23 20 20
def SQ_46 : Sh := sR SQ_45 22 0 (some 23)
def SQ_47 : Sh := sR SQ_46 0 12 (some 22)
def SQ_48 : Sh := sNa SQ_47 24 20 6
def SQ_49 : Sh := sR SQ_48 0 13 (some 24)
def SQ_50 : Sh := sNa SQ_49 25 20 6
def SQ_51 : Sh := sR SQ_50 0 14 (some 25)
def SQ_52 : Sh := sM SQ_51 6 60
def SQ_53 : Sh := sR SQ_52 0 15 (some 26)
def SQ_54 : Sh := sNa SQ_53 33 13 0
def SQ_55 : Sh := sNa SQ_54 34 20 6
def SQ_56 : Sh := sR SQ_55 33 4 (some 34)
def SQ_57 : Sh := sNa SQ_56 35 20 6
def SQ_58 : Sh := sR SQ_57 33 5 (some 35)
def SQ_59 : Sh := sNa SQ_58 36 20 6
def SQ_60 : Sh := sR SQ_59 33 6 (some 36)
def SQ_61 : Sh := sNa SQ_60 37 20 16
def SQ_62 : Sh := sR SQ_61 33 7 (some 37)
def SQ_63 : Sh := sNa SQ_62 38 20 80
def SQ_64 : Sh := sR SQ_63 33 8 (some 38)
def SQ_65 : Sh := sNa SQ_64 39 20 80
def SQ_66 : Sh := sR SQ_65 33 9 (some 39)
def SQ_67 : Sh := sNa SQ_66 40 20 80
def SQ_68 : Sh := sR SQ_67 33 10 (some 40)
def SQ_69 : Sh := sNa SQ_68 41 20 80
def SQ_70 : Sh := sR SQ_69 33 11 (some 41)
def SQ_71 : Sh := sNa SQ_70 42 20 10
def SQ_72 : Sh := sR SQ_71 33 12 (some 42)
def SQ_73 : Sh := sNa SQ_72 43 20 10
def SQ_74 : Sh := sR SQ_73 33 15 (some 43)
def SQ_75 : Sh := sNa SQ_74 44 20 1320
def SQ_76 : Sh := sR SQ_75 33 16 (some 44)
def SQ_77 : Sh := sNa SQ_76 45 20 11
def SQ_78 : Sh := sR SQ_77 33 17 (some 45)
def SQ_79 : Sh := sNa SQ_78 46 20 10
def SQ_80 : Sh := sR SQ_79 33 18 (some 46)
def SQ_81 : Sh := sNa SQ_80 47 20 6
def SQ_82 : Sh := sR SQ_81 33 24 (some 47)
def SQ_83 : Sh := sNa SQ_82 48 20 8
def SQ_84 : Sh := sR SQ_83 33 25 (some 48)
def SQ_85 : Sh := sNa SQ_84 49 20 3
def SQ_86 : Sh := sR SQ_85 33 26 (some 49)
def SQ_87 : Sh := sNa SQ_86 50 20 3
def SQ_88 : Sh := sR SQ_87 33 27 (some 50)
def SQ_89 : Sh := sNa SQ_88 51 22 60
def SQ_90 : Sh := sR SQ_89 33 32 (some 51)
def SQ_91 : Sh := sNa SQ_90 52 20 121
def SQ_92 : Sh := sR SQ_91 33 34 (some 52)
def SQ_93 : Sh := sNa SQ_92 53 22 121
def SQ_94 : Sh := sR SQ_93 33 35 (some 53)
def SQ_95 : Sh := sNa SQ_94 54 20 8
def SQ_96 : Sh := sR SQ_95 33 41 (some 54)
def SQ_97 : Sh := sNa SQ_96 55 20 7
def SQ_98 : Sh := sR SQ_97 33 42 (some 55)
def SQ_99 : Sh := sNa SQ_98 56 20 40320
def SQ_100 : Sh := sR SQ_99 33 43 (some 56)
def SQ_101 : Sh := sNa SQ_100 57 22 80640
def SQ_102 : Sh := sR SQ_101 33 44 (some 57)
def SQ_103 : Sh := sNa SQ_102 58 22 16
def SQ_104 : Sh := sR SQ_103 33 45 (some 58)
def SQ_105 : Sh := sNa SQ_104 59 20 80
def SQ_106 : Sh := sR SQ_105 33 47 (some 59)
def SQ_107 : Sh := sNa SQ_106 60 20 20
def SQ_108 : Sh := sR SQ_107 33 49 (some 60)
def SQ_109 : Sh := sNa SQ_108 61 20 6
def SQ_110 : Sh := sR SQ_109 33 50 (some 61)
def SQ_111 : Sh := sNa SQ_110 62 20 6
def SQ_112 : Sh := sR SQ_111 33 51 (some 62)
def SQ_113 : Sh := sNa SQ_112 63 21 360
def SQ_114 : Sh := sR SQ_113 33 52 (some 63)
def SQ_115 : Sh := sNa SQ_114 64 21 60
def SQ_116 : Sh := sR SQ_115 33 53 (some 64)

def fX1_init (D : Dy) (post : Dy → Prop) : Prop :=
  (∀ D1 : Dy, D1 = dN D 2 → (∀ D3 : Dy, D3 = dN D1 3 → (∀ D5 : Dy, D5 = dN D3 4 → post D5)))
set_option maxHeartbeats 4000000 in
set_option maxRecDepth 100000 in
theorem ct_X1_init {l : Launch} {G : Gl} {D : Dy} {post : Dy → Prop} (E : fX1_init D post) : Ct l G yX1_init cX1_init 1 none 1 3 18 SQ_2 D [.ref (G.1 + 1)] (PV SQ_8 post) := by
  refine z_enter (lv0 := [(0, .ref (G.1 + 1))]) pl_1 (Nat.le_of_ble_eq_true rfl) rfl ?_
  intro p e s m args below meth c hC hnm
  unfold fX1_init at E
  refine z_aload_n hC dX1_init_0 rfl 0 rfl ?_
  refine z_objInit hC lko_X1_3 io_Object co_Object ⟨Nat.le_of_ble_eq_true rfl, Nat.le_of_ble_eq_true rfl⟩ (Nat.le_of_ble_eq_true rfl) dX1_init_1 ?_
  refine z_aload_n hC dX1_init_4 rfl 0 rfl ?_
  refine z_bipush (v := 6) hC dX1_init_5 rfl ?_
  refine z_newaQ (a := 2) (at_ := .int) (N := 6) (t := 20) hC rfl (Or.inl ⟨rfl, rfl⟩) ac_int (by decide) rfl (by decide) rfl (Nat.le_of_ble_eq_true rfl) (Nat.le_of_ble_eq_true rfl) dX1_init_7 ?_
  rintro S' hS' D1 h2
  obtain rfl : S' = SQ_3 := hS'.trans rfl
  replace E := E D1 h2
  clear hS'
  refine z_putr (a := 1) (b := 2) hC lf_X1_9_1 (Or.inr ⟨hnm, cft cf_1 rfl⟩) rfl rfl dX1_init_9 ?_
  rintro S' hS'
  obtain rfl : S' = SQ_4 := hS'
  refine z_aload_n hC dX1_init_12 rfl 0 rfl ?_
  refine z_bipush (v := 6) hC dX1_init_13 rfl ?_
  refine z_newaQ (a := 3) (at_ := .int) (N := 6) (t := 20) hC rfl (Or.inl ⟨rfl, rfl⟩) ac_int (by decide) rfl (by decide) rfl (Nat.le_of_ble_eq_true rfl) (Nat.le_of_ble_eq_true rfl) dX1_init_15 ?_
  rintro S' hS' D3 h4
  obtain rfl : S' = SQ_5 := hS'.trans rfl
  replace E := E D3 h4
  clear hS'
  refine z_putr (a := 1) (b := 3) hC lf_X1_15_1 (Or.inr ⟨hnm, cft cf_1 rfl⟩) rfl rfl dX1_init_17 ?_
  rintro S' hS'
  obtain rfl : S' = SQ_6 := hS'
  refine z_aload_n hC dX1_init_20 rfl 0 rfl ?_
  refine z_bipush (v := 6) hC dX1_init_21 rfl ?_
  refine z_newaQ (a := 4) (at_ := .int) (N := 6) (t := 20) hC rfl (Or.inl ⟨rfl, rfl⟩) ac_int (by decide) rfl (by decide) rfl (Nat.le_of_ble_eq_true rfl) (Nat.le_of_ble_eq_true rfl) dX1_init_23 ?_
  rintro S' hS' D5 h6
  obtain rfl : S' = SQ_7 := hS'.trans rfl
  replace E := E D5 h6
  clear hS'
  refine z_putr (a := 1) (b := 4) hC lf_X1_18_1 (Or.inr ⟨hnm, cft cf_1 rfl⟩) rfl rfl dX1_init_25 ?_
  rintro S' hS'
  obtain rfl : S' = SQ_8 := hS'
  exact z_vret hC dX1_init_28 (Nat.le_of_ble_eq_true rfl) (Nat.le_of_ble_eq_true rfl) ⟨rfl, rfl, E⟩

def fX0_init (D : Dy) (post : Dy → Prop) : Prop :=
  (∀ D1 : Dy, D1 = dN D 8 → (∀ D3 : Dy, D3 = dN D1 9 → (∀ D5 : Dy, D5 = dN D3 10 → (∀ D7 : Dy, D7 = dN D5 11 → post D7))))
set_option maxHeartbeats 4000000 in
set_option maxRecDepth 100000 in
theorem ct_X0_init {l : Launch} {G : Gl} {D : Dy} {post : Dy → Prop} (E : fX0_init D post) : Ct l G yX0_init cX0_init 1 none 1 4 320 SQ_14 D [.ref (G.1 + 7)] (PV SQ_22 post) := by
  refine z_enter (lv0 := [(0, .ref (G.1 + 7))]) pl_0 (Nat.le_of_ble_eq_true rfl) rfl ?_
  intro p e s m args below meth c hC hnm
  unfold fX0_init at E
  refine z_aload_n hC dX0_init_0 rfl 0 rfl ?_
  refine z_objInit hC lko_X0_3 io_Object co_Object ⟨Nat.le_of_ble_eq_true rfl, Nat.le_of_ble_eq_true rfl⟩ (Nat.le_of_ble_eq_true rfl) dX0_init_1 ?_
  refine z_aload_n hC dX0_init_4 rfl 0 rfl ?_
  refine z_bipush (v := 80) hC dX0_init_5 rfl ?_
  refine z_newaQ (a := 8) (at_ := .int) (N := 80) (t := 20) hC rfl (Or.inl ⟨rfl, rfl⟩) ac_int (by decide) rfl (by decide) rfl (Nat.le_of_ble_eq_true rfl) (Nat.le_of_ble_eq_true rfl) dX0_init_7 ?_
  rintro S' hS' D1 h2
  obtain rfl : S' = SQ_15 := hS'.trans rfl
  replace E := E D1 h2
  clear hS'
  refine z_putr (a := 7) (b := 8) hC lf_X0_9_0 (Or.inr ⟨hnm, cft cf_0 rfl⟩) rfl rfl dX0_init_9 ?_
  rintro S' hS'
  obtain rfl : S' = SQ_16 := hS'
  refine z_aload_n hC dX0_init_12 rfl 0 rfl ?_
  refine z_bipush (v := 80) hC dX0_init_13 rfl ?_
  refine z_newaQ (a := 9) (at_ := .int) (N := 80) (t := 20) hC rfl (Or.inl ⟨rfl, rfl⟩) ac_int (by decide) rfl (by decide) rfl (Nat.le_of_ble_eq_true rfl) (Nat.le_of_ble_eq_true rfl) dX0_init_15 ?_
  rintro S' hS' D3 h4
  obtain rfl : S' = SQ_17 := hS'.trans rfl
  replace E := E D3 h4
  clear hS'
  refine z_putr (a := 7) (b := 9) hC lf_X0_15_0 (Or.inr ⟨hnm, cft cf_0 rfl⟩) rfl rfl dX0_init_17 ?_
  rintro S' hS'
  obtain rfl : S' = SQ_18 := hS'
  refine z_aload_n hC dX0_init_20 rfl 0 rfl ?_
  refine z_bipush (v := 80) hC dX0_init_21 rfl ?_
  refine z_newaQ (a := 10) (at_ := .int) (N := 80) (t := 20) hC rfl (Or.inl ⟨rfl, rfl⟩) ac_int (by decide) rfl (by decide) rfl (Nat.le_of_ble_eq_true rfl) (Nat.le_of_ble_eq_true rfl) dX0_init_23 ?_
  rintro S' hS' D5 h6
  obtain rfl : S' = SQ_19 := hS'.trans rfl
  replace E := E D5 h6
  clear hS'
  refine z_putr (a := 7) (b := 10) hC lf_X0_18_0 (Or.inr ⟨hnm, cft cf_0 rfl⟩) rfl rfl dX0_init_25 ?_
  rintro S' hS'
  obtain rfl : S' = SQ_20 := hS'
  refine z_aload_n hC dX0_init_28 rfl 0 rfl ?_
  refine z_bipush (v := 80) hC dX0_init_29 rfl ?_
  refine z_newaQ (a := 11) (at_ := .int) (N := 80) (t := 20) hC rfl (Or.inl ⟨rfl, rfl⟩) ac_int (by decide) rfl (by decide) rfl (Nat.le_of_ble_eq_true rfl) (Nat.le_of_ble_eq_true rfl) dX0_init_31 ?_
  rintro S' hS' D7 h8
  obtain rfl : S' = SQ_21 := hS'.trans rfl
  replace E := E D7 h8
  clear hS'
  refine z_putr (a := 7) (b := 11) hC lf_X0_21_0 (Or.inr ⟨hnm, cft cf_0 rfl⟩) rfl rfl dX0_init_33 ?_
  rintro S' hS'
  obtain rfl : S' = SQ_22 := hS'
  exact z_vret hC dX0_init_36 (Nat.le_of_ble_eq_true rfl) (Nat.le_of_ble_eq_true rfl) ⟨rfl, rfl, E⟩

def fX6_init (D : Dy) (post : Dy → Prop) : Prop :=
  (∀ D1 : Dy, D1 = sI D 14 0 (1 : Int32) → (∀ D3 : Dy, D3 = dN D1 15 → (∀ D5 : Dy, D5 = dN D3 16 → (∀ D7 : Dy, D7 = dN D5 17 → (∀ D9 : Dy, D9 = dN D7 18 → (∀ D11 : Dy, D11 = dN D9 19 → (∀ D13 : Dy, D13 = dN D11 20 → post D13)))))))
set_option maxHeartbeats 4000000 in
set_option maxRecDepth 100000 in
theorem ct_X6_init {l : Launch} {G : Gl} {D : Dy} {post : Dy → Prop} (E : fX6_init D post) : Ct l G yX6_init cX6_init 1 none 1 6 430 SQ_28 D [.ref (G.1 + 14)] (PV SQ_40 post) := by
  refine z_enter (lv0 := [(0, .ref (G.1 + 14))]) pl_6 (Nat.le_of_ble_eq_true rfl) rfl ?_
  intro p e s m args below meth c hC hnm
  unfold fX6_init at E
  refine z_aload_n hC dX6_init_0 rfl 0 rfl ?_
  refine z_objInit hC lko_X6_3 io_Object co_Object ⟨Nat.le_of_ble_eq_true rfl, Nat.le_of_ble_eq_true rfl⟩ (Nat.le_of_ble_eq_true rfl) dX6_init_1 ?_
  refine z_aload_n hC dX6_init_4 rfl 0 rfl ?_
  refine z_iconst (v := 1) hC dX6_init_5 rfl ?_
  refine z_putiQ (a := 14) hC lf_X6_9_6 (Or.inl rfl) rfl rfl dX6_init_6 ?_
  intro D1 h2
  replace E := E D1 h2
  refine z_aload_n hC dX6_init_9 rfl 0 rfl ?_
  refine z_bipush (v := 7) hC dX6_init_10 rfl ?_
  refine z_newaQ (a := 15) (at_ := .int) (N := 7) (t := 20) hC rfl (Or.inl ⟨rfl, rfl⟩) ac_int (by decide) rfl (by decide) rfl (Nat.le_of_ble_eq_true rfl) (Nat.le_of_ble_eq_true rfl) dX6_init_12 ?_
  rintro S' hS' D3 h4
  obtain rfl : S' = SQ_29 := hS'.trans rfl
  replace E := E D3 h4
  clear hS'
  refine z_putr (a := 14) (b := 15) hC lf_X6_15_6 (Or.inr ⟨hnm, cft cf_6 rfl⟩) rfl rfl dX6_init_14 ?_
  rintro S' hS'
  obtain rfl : S' = SQ_30 := hS'
  refine z_aload_n hC dX6_init_17 rfl 0 rfl ?_
  refine z_bipush (v := 80) hC dX6_init_18 rfl ?_
  refine z_newaQ (a := 16) (at_ := .int) (N := 80) (t := 20) hC rfl (Or.inl ⟨rfl, rfl⟩) ac_int (by decide) rfl (by decide) rfl (Nat.le_of_ble_eq_true rfl) (Nat.le_of_ble_eq_true rfl) dX6_init_20 ?_
  rintro S' hS' D5 h6
  obtain rfl : S' = SQ_31 := hS'.trans rfl
  replace E := E D5 h6
  clear hS'
  refine z_putr (a := 14) (b := 16) hC lf_X6_19_6 (Or.inr ⟨hnm, cft cf_6 rfl⟩) rfl rfl dX6_init_22 ?_
  rintro S' hS'
  obtain rfl : S' = SQ_32 := hS'
  refine z_aload_n hC dX6_init_25 rfl 0 rfl ?_
  refine z_bipush (v := 80) hC dX6_init_26 rfl ?_
  refine z_newaQ (a := 17) (at_ := .int) (N := 80) (t := 20) hC rfl (Or.inl ⟨rfl, rfl⟩) ac_int (by decide) rfl (by decide) rfl (Nat.le_of_ble_eq_true rfl) (Nat.le_of_ble_eq_true rfl) dX6_init_28 ?_
  rintro S' hS' D7 h8
  obtain rfl : S' = SQ_33 := hS'.trans rfl
  replace E := E D7 h8
  clear hS'
  refine z_putr (a := 14) (b := 17) hC lf_X6_22_6 (Or.inr ⟨hnm, cft cf_6 rfl⟩) rfl rfl dX6_init_30 ?_
  rintro S' hS'
  obtain rfl : S' = SQ_34 := hS'
  refine z_aload_n hC dX6_init_33 rfl 0 rfl ?_
  refine z_sipush (v := 128) hC dX6_init_34 rfl ?_
  refine z_newaQ (a := 18) (at_ := .int) (N := 128) (t := 20) hC rfl (Or.inl ⟨rfl, rfl⟩) ac_int (by decide) rfl (by decide) rfl (Nat.le_of_ble_eq_true rfl) (Nat.le_of_ble_eq_true rfl) dX6_init_37 ?_
  rintro S' hS' D9 h10
  obtain rfl : S' = SQ_35 := hS'.trans rfl
  replace E := E D9 h10
  clear hS'
  refine z_putr (a := 14) (b := 18) hC lf_X6_25_6 (Or.inr ⟨hnm, cft cf_6 rfl⟩) rfl rfl dX6_init_39 ?_
  rintro S' hS'
  obtain rfl : S' = SQ_36 := hS'
  refine z_aload_n hC dX6_init_42 rfl 0 rfl ?_
  refine z_sipush (v := 128) hC dX6_init_43 rfl ?_
  refine z_newaQ (a := 19) (at_ := .int) (N := 128) (t := 20) hC rfl (Or.inl ⟨rfl, rfl⟩) ac_int (by decide) rfl (by decide) rfl (Nat.le_of_ble_eq_true rfl) (Nat.le_of_ble_eq_true rfl) dX6_init_46 ?_
  rintro S' hS' D11 h12
  obtain rfl : S' = SQ_37 := hS'.trans rfl
  replace E := E D11 h12
  clear hS'
  refine z_putr (a := 14) (b := 19) hC lf_X6_28_6 (Or.inr ⟨hnm, cft cf_6 rfl⟩) rfl rfl dX6_init_48 ?_
  rintro S' hS'
  obtain rfl : S' = SQ_38 := hS'
  refine z_aload_n hC dX6_init_51 rfl 0 rfl ?_
  refine z_bipush (v := 7) hC dX6_init_52 rfl ?_
  refine z_newaQ (a := 20) (at_ := .int) (N := 7) (t := 20) hC rfl (Or.inl ⟨rfl, rfl⟩) ac_int (by decide) rfl (by decide) rfl (Nat.le_of_ble_eq_true rfl) (Nat.le_of_ble_eq_true rfl) dX6_init_54 ?_
  rintro S' hS' D13 h14
  obtain rfl : S' = SQ_39 := hS'.trans rfl
  replace E := E D13 h14
  clear hS'
  refine z_putr (a := 14) (b := 20) hC lf_X6_31_6 (Or.inr ⟨hnm, cft cf_6 rfl⟩) rfl rfl dX6_init_56 ?_
  rintro S' hS'
  obtain rfl : S' = SQ_40 := hS'
  exact z_vret hC dX6_init_59 (Nat.le_of_ble_eq_true rfl) (Nat.le_of_ble_eq_true rfl) ⟨rfl, rfl, E⟩

def fX10_init (D : Dy) (post : Dy → Prop) : Prop :=
  (∀ D1 : Dy, D1 = dN D 23 → post D1)
set_option maxHeartbeats 4000000 in
set_option maxRecDepth 100000 in
theorem ct_X10_init {l : Launch} {G : Gl} {D : Dy} {post : Dy → Prop} (E : fX10_init D post) : Ct l G yX10_init cX10_init 1 none 1 1 20 SQ_44 D [.ref (G.1 + 22)] (PV SQ_46 post) := by
  refine z_enter (lv0 := [(0, .ref (G.1 + 22))]) pl_10 (Nat.le_of_ble_eq_true rfl) rfl ?_
  intro p e s m args below meth c hC hnm
  unfold fX10_init at E
  refine z_aload_n hC dX10_init_0 rfl 0 rfl ?_
  refine z_objInit hC lko_X10_1 io_Object co_Object ⟨Nat.le_of_ble_eq_true rfl, Nat.le_of_ble_eq_true rfl⟩ (Nat.le_of_ble_eq_true rfl) dX10_init_1 ?_
  refine z_aload_n hC dX10_init_4 rfl 0 rfl ?_
  refine z_bipush (v := 20) hC dX10_init_5 rfl ?_
  refine z_newaQ (a := 23) (at_ := .int) (N := 20) (t := 20) hC rfl (Or.inl ⟨rfl, rfl⟩) ac_int (by decide) rfl (by decide) rfl (Nat.le_of_ble_eq_true rfl) (Nat.le_of_ble_eq_true rfl) dX10_init_7 ?_
  rintro S' hS' D1 h2
  obtain rfl : S' = SQ_45 := hS'.trans rfl
  replace E := E D1 h2
  clear hS'
  refine z_putr (a := 22) (b := 23) hC lf_X10_9_10 (Or.inr ⟨hnm, cft cf_10 rfl⟩) rfl rfl dX10_init_9 ?_
  rintro S' hS'
  obtain rfl : S' = SQ_46 := hS'
  exact z_vret hC dX10_init_12 (Nat.le_of_ble_eq_true rfl) (Nat.le_of_ble_eq_true rfl) ⟨rfl, rfl, E⟩

def fX11_init (D : Dy) (post : Dy → Prop) : Prop :=
  (∀ D1 : Dy, D1 = dN D 1 → (fX1_init D1 (fun D3 : Dy => (∀ D4 : Dy, D4 = dN D3 5 → (∀ D6 : Dy, D6 = dN D4 6 → (∀ D8 : Dy, D8 = dN D6 7 → (fX0_init D8 (fun D10 : Dy => (∀ D11 : Dy, D11 = dN D10 12 → (∀ D13 : Dy, D13 = dN D11 13 → (∀ D15 : Dy, D15 = dN D13 14 → (fX6_init D15 (fun D17 : Dy => (∀ D18 : Dy, D18 = dN D17 21 → (∀ D20 : Dy, D20 = dN D18 22 → (fX10_init D20 (fun D22 : Dy => (∀ D23 : Dy, D23 = dN D22 24 → (∀ D25 : Dy, D25 = dN D23 25 → (∀ D27 : Dy, D27 = dM D25 26 6 → (LP2 (fun (rec31 : Int32 → Dy → Prop) (v29 : Int32) (D30 : Dy) => (((6 : Int32) ≤ v29 → post D30) ∧ (¬ (6 : Int32) ≤ v29 → (vp_in v29 6 ∧ (∀ D34 : Dy, D34 = sI D30 24 (v29).toNatClampNeg (-1 : Int32) → (∀ v36 : Int32, v36 = v29 + 1 → (rec31 v36 D34))))))) FU (0 : Int32) D27)))))))))))))))))))))
set_option maxHeartbeats 4000000 in
set_option maxRecDepth 100000 in
theorem ct_X11_init {l : Launch} {G : Gl} {D : Dy} {post : Dy → Prop} (E : fX11_init D post) : Ct l G yX11_init cX11_init 2 none 2 32 1344 SQ_1 D [.ref (G.1 + 0)] (PV SQ_53 post) := by
  refine z_enter (lv0 := [(0, .ref (G.1 + 0))]) pl_11 (Nat.le_of_ble_eq_true rfl) rfl ?_
  intro p e s m args below meth c hC hnm
  unfold fX11_init at E
  refine z_aload_n hC dX11_init_0 rfl 0 rfl ?_
  refine z_objInit hC lko_X11_3 io_Object co_Object ⟨Nat.le_of_ble_eq_true rfl, Nat.le_of_ble_eq_true rfl⟩ (Nat.le_of_ble_eq_true rfl) dX11_init_1 ?_
  refine z_aload_n hC dX11_init_4 rfl 0 rfl ?_
  refine z_newQ (a := 1) hC cf_1 (by decide) cl_X11_9 rfl (Nat.le_of_ble_eq_true rfl) (Nat.le_of_ble_eq_true rfl) dX11_init_5 ?_
  rintro S' hS' D1 h2
  obtain rfl : S' = SQ_2 := hS'.trans rfl
  replace E := E D1 h2
  clear hS'
  refine z_dup hC dX11_init_8 rfl ?_
  refine z_callI (mc := 3) (ms := 18) (rest := [.ref (G.1 + 1), .ref (G.1 + 0)]) (av := []) hC (ck_mk lk_X11_11 in_X1_init cd_X1_init ds_X1_init (Nat.le_of_ble_eq_true rfl) (Nat.le_of_ble_eq_true rfl)) rfl iy_X1_init (ct_X1_init E) rfl rfl (Nat.le_of_ble_eq_true rfl) ⟨Nat.le_of_ble_eq_true rfl, Nat.le_of_ble_eq_true rfl⟩ dX11_init_9 ?_
  rintro _ _ D3 ⟨rfl, rfl, E⟩
  refine z_putr (a := 0) (b := 1) hC lf_X11_12_11 (Or.inr ⟨hnm, cft cf_11 rfl⟩) rfl rfl dX11_init_12 ?_
  rintro S' hS'
  obtain rfl : S' = SQ_9 := hS'
  refine z_aload_n hC dX11_init_15 rfl 0 rfl ?_
  refine z_bipush (v := 16) hC dX11_init_16 rfl ?_
  refine z_newaQ (a := 5) (at_ := .int) (N := 16) (t := 20) hC rfl (Or.inl ⟨rfl, rfl⟩) ac_int (by decide) rfl (by decide) rfl (Nat.le_of_ble_eq_true rfl) (Nat.le_of_ble_eq_true rfl) dX11_init_18 ?_
  rintro S' hS' D4 h5
  obtain rfl : S' = SQ_10 := hS'.trans rfl
  replace E := E D4 h5
  clear hS'
  refine z_putr (a := 0) (b := 5) hC lf_X11_18_11 (Or.inr ⟨hnm, cft cf_11 rfl⟩) rfl rfl dX11_init_20 ?_
  rintro S' hS'
  obtain rfl : S' = SQ_11 := hS'
  refine z_aload_n hC dX11_init_23 rfl 0 rfl ?_
  refine z_iconst (v := 3) hC dX11_init_24 rfl ?_
  refine z_newaQ (a := 6) (at_ := .int) (N := 3) (t := 20) hC rfl (Or.inl ⟨rfl, rfl⟩) ac_int (by decide) rfl (by decide) rfl (Nat.le_of_ble_eq_true rfl) (Nat.le_of_ble_eq_true rfl) dX11_init_25 ?_
  rintro S' hS' D6 h7
  obtain rfl : S' = SQ_12 := hS'.trans rfl
  replace E := E D6 h7
  clear hS'
  refine z_putr (a := 0) (b := 6) hC lf_X11_22_11 (Or.inr ⟨hnm, cft cf_11 rfl⟩) rfl rfl dX11_init_27 ?_
  rintro S' hS'
  obtain rfl : S' = SQ_13 := hS'
  refine z_aload_n hC dX11_init_30 rfl 0 rfl ?_
  refine z_newQ (a := 7) hC cf_0 (by decide) cl_X11_25 rfl (Nat.le_of_ble_eq_true rfl) (Nat.le_of_ble_eq_true rfl) dX11_init_31 ?_
  rintro S' hS' D8 h9
  obtain rfl : S' = SQ_14 := hS'.trans rfl
  replace E := E D8 h9
  clear hS'
  refine z_dup hC dX11_init_34 rfl ?_
  refine z_callI (mc := 4) (ms := 320) (rest := [.ref (G.1 + 7), .ref (G.1 + 0)]) (av := []) hC (ck_mk lk_X11_27 in_X0_init cd_X0_init ds_X0_init (Nat.le_of_ble_eq_true rfl) (Nat.le_of_ble_eq_true rfl)) rfl iy_X0_init (ct_X0_init E) rfl rfl (Nat.le_of_ble_eq_true rfl) ⟨Nat.le_of_ble_eq_true rfl, Nat.le_of_ble_eq_true rfl⟩ dX11_init_35 ?_
  rintro _ _ D10 ⟨rfl, rfl, E⟩
  refine z_putr (a := 0) (b := 7) hC lf_X11_28_11 (Or.inr ⟨hnm, cft cf_11 rfl⟩) rfl rfl dX11_init_38 ?_
  rintro S' hS'
  obtain rfl : S' = SQ_23 := hS'
  refine z_aload_n hC dX11_init_41 rfl 0 rfl ?_
  refine z_bipush (v := 120) hC dX11_init_42 rfl ?_
  refine z_newaQ (a := 12) (at_ := .int) (N := 120) (t := 20) hC rfl (Or.inl ⟨rfl, rfl⟩) ac_int (by decide) rfl (by decide) rfl (Nat.le_of_ble_eq_true rfl) (Nat.le_of_ble_eq_true rfl) dX11_init_44 ?_
  rintro S' hS' D11 h12
  obtain rfl : S' = SQ_24 := hS'.trans rfl
  replace E := E D11 h12
  clear hS'
  refine z_putr (a := 0) (b := 12) hC lf_X11_32_11 (Or.inr ⟨hnm, cft cf_11 rfl⟩) rfl rfl dX11_init_46 ?_
  rintro S' hS'
  obtain rfl : S' = SQ_25 := hS'
  refine z_aload_n hC dX11_init_49 rfl 0 rfl ?_
  refine z_bipush (v := 10) hC dX11_init_50 rfl ?_
  refine z_anewQ (a := 13) (N := 10) hC cl_X11_35 (by decide) rfl (by decide) rfl (Nat.le_of_ble_eq_true rfl) (Nat.le_of_ble_eq_true rfl) dX11_init_52 ?_
  rintro S' hS' D13 h14
  obtain rfl : S' = SQ_26 := hS'.trans rfl
  replace E := E D13 h14
  clear hS'
  refine z_putr (a := 0) (b := 13) hC lf_X11_37_11 (Or.inr ⟨hnm, cft cf_11 rfl⟩) rfl rfl dX11_init_55 ?_
  rintro S' hS'
  obtain rfl : S' = SQ_27 := hS'
  refine z_aload_n hC dX11_init_58 rfl 0 rfl ?_
  refine z_newQ (a := 14) hC cf_6 (by decide) cl_X11_41 rfl (Nat.le_of_ble_eq_true rfl) (Nat.le_of_ble_eq_true rfl) dX11_init_59 ?_
  rintro S' hS' D15 h16
  obtain rfl : S' = SQ_28 := hS'.trans rfl
  replace E := E D15 h16
  clear hS'
  refine z_dup hC dX11_init_62 rfl ?_
  refine z_callI (mc := 6) (ms := 430) (rest := [.ref (G.1 + 14), .ref (G.1 + 0)]) (av := []) hC (ck_mk lk_X11_43 in_X6_init cd_X6_init ds_X6_init (Nat.le_of_ble_eq_true rfl) (Nat.le_of_ble_eq_true rfl)) rfl iy_X6_init (ct_X6_init E) rfl rfl (Nat.le_of_ble_eq_true rfl) ⟨Nat.le_of_ble_eq_true rfl, Nat.le_of_ble_eq_true rfl⟩ dX11_init_63 ?_
  rintro _ _ D17 ⟨rfl, rfl, E⟩
  refine z_putr (a := 0) (b := 14) hC lf_X11_44_11 (Or.inr ⟨hnm, cft cf_11 rfl⟩) rfl rfl dX11_init_66 ?_
  rintro S' hS'
  obtain rfl : S' = SQ_41 := hS'
  refine z_aload_n hC dX11_init_69 rfl 0 rfl ?_
  refine z_bipush (v := 10) hC dX11_init_70 rfl ?_
  refine z_newaQ (a := 21) (at_ := .int) (N := 10) (t := 20) hC rfl (Or.inl ⟨rfl, rfl⟩) ac_int (by decide) rfl (by decide) rfl (Nat.le_of_ble_eq_true rfl) (Nat.le_of_ble_eq_true rfl) dX11_init_72 ?_
  rintro S' hS' D18 h19
  obtain rfl : S' = SQ_42 := hS'.trans rfl
  replace E := E D18 h19
  clear hS'
  refine z_putr (a := 0) (b := 21) hC lf_X11_48_11 (Or.inr ⟨hnm, cft cf_11 rfl⟩) rfl rfl dX11_init_74 ?_
  rintro S' hS'
  obtain rfl : S' = SQ_43 := hS'
  refine z_aload_n hC dX11_init_77 rfl 0 rfl ?_
  refine z_newQ (a := 22) hC cf_10 (by decide) cl_X11_51 rfl (Nat.le_of_ble_eq_true rfl) (Nat.le_of_ble_eq_true rfl) dX11_init_78 ?_
  rintro S' hS' D20 h21
  obtain rfl : S' = SQ_44 := hS'.trans rfl
  replace E := E D20 h21
  clear hS'
  refine z_dup hC dX11_init_81 rfl ?_
  refine z_callI (mc := 1) (ms := 20) (rest := [.ref (G.1 + 22), .ref (G.1 + 0)]) (av := []) hC (ck_mk lk_X11_53 in_X10_init cd_X10_init ds_X10_init (Nat.le_of_ble_eq_true rfl) (Nat.le_of_ble_eq_true rfl)) rfl iy_X10_init (ct_X10_init E) rfl rfl (Nat.le_of_ble_eq_true rfl) ⟨Nat.le_of_ble_eq_true rfl, Nat.le_of_ble_eq_true rfl⟩ dX11_init_82 ?_
  rintro _ _ D22 ⟨rfl, rfl, E⟩
  refine z_putr (a := 0) (b := 22) hC lf_X11_54_11 (Or.inr ⟨hnm, cft cf_11 rfl⟩) rfl rfl dX11_init_85 ?_
  rintro S' hS'
  obtain rfl : S' = SQ_47 := hS'
  refine z_aload_n hC dX11_init_88 rfl 0 rfl ?_
  refine z_bipush (v := 6) hC dX11_init_89 rfl ?_
  refine z_newaQ (a := 24) (at_ := .int) (N := 6) (t := 20) hC rfl (Or.inl ⟨rfl, rfl⟩) ac_int (by decide) rfl (by decide) rfl (Nat.le_of_ble_eq_true rfl) (Nat.le_of_ble_eq_true rfl) dX11_init_91 ?_
  rintro S' hS' D23 h24
  obtain rfl : S' = SQ_48 := hS'.trans rfl
  replace E := E D23 h24
  clear hS'
  refine z_putr (a := 0) (b := 24) hC lf_X11_58_11 (Or.inr ⟨hnm, cft cf_11 rfl⟩) rfl rfl dX11_init_93 ?_
  rintro S' hS'
  obtain rfl : S' = SQ_49 := hS'
  refine z_aload_n hC dX11_init_96 rfl 0 rfl ?_
  refine z_bipush (v := 6) hC dX11_init_97 rfl ?_
  refine z_newaQ (a := 25) (at_ := .int) (N := 6) (t := 20) hC rfl (Or.inl ⟨rfl, rfl⟩) ac_int (by decide) rfl (by decide) rfl (Nat.le_of_ble_eq_true rfl) (Nat.le_of_ble_eq_true rfl) dX11_init_99 ?_
  rintro S' hS' D25 h26
  obtain rfl : S' = SQ_50 := hS'.trans rfl
  replace E := E D25 h26
  clear hS'
  refine z_putr (a := 0) (b := 25) hC lf_X11_61_11 (Or.inr ⟨hnm, cft cf_11 rfl⟩) rfl rfl dX11_init_101 ?_
  rintro S' hS'
  obtain rfl : S' = SQ_51 := hS'
  refine z_aload_n hC dX11_init_104 rfl 0 rfl ?_
  refine z_bipush (v := 6) hC dX11_init_105 rfl ?_
  refine z_bipush (v := 60) hC dX11_init_107 rfl ?_
  refine z_multi (a := 26) (N := 6) (K := 60) hC cl_X11_64 ac_long (by decide) (by decide) rfl rfl (by decide) rfl (Nat.le_of_ble_eq_true rfl) (Nat.le_of_ble_eq_true rfl) dX11_init_109 ?_
  rintro S' hS' D27 h28
  obtain rfl : S' = SQ_52 := hS'
  replace E := E D27 h28
  refine z_putr (a := 0) (b := 26) hC lf_X11_66_11 (Or.inr ⟨hnm, cft cf_11 rfl⟩) rfl rfl dX11_init_113 ?_
  rintro S' hS'
  obtain rfl : S' = SQ_53 := hS'
  refine z_iconst (v := 0) hC dX11_init_116 rfl ?_
  refine z_istore_n (lv' := [(1, .int (0 : Int32)), (0, .ref (G.1 + 0))]) hC dX11_init_117 rfl (Nat.le_of_ble_eq_true rfl) rfl ?_
  refine z_sub [1, 0] rfl ?_
  refine LP2_use (fun (v29 : Int32) (D30 : Dy) => ZMA l G p e s m args below meth c 2 2 32 1344 32 1344 SQ_1 (PV SQ_53 post) SQ_53 D30 118 [(0, .ref (G.1 + 0)), (1, .int v29)] []) ?_ FU (0 : Int32) D27 E
  intro rec31 hrec32 v29 D30 E
  refine z_iload_n hC dX11_init_118 rfl 1 rfl ?_
  refine z_bipush (v := 6) hC dX11_init_119 rfl ?_
  refine z_icmp_ge (tgt := 137) hC dX11_init_121 (by decide) (fun c33 => ?_) (fun c33 => ?_)
  · replace E := E.1 c33
    exact z_vret hC dX11_init_137 (Nat.le_of_ble_eq_true rfl) (Nat.le_of_ble_eq_true rfl) ⟨rfl, rfl, E⟩
  · replace E := E.2 c33
    refine z_aload_n hC dX11_init_124 rfl 0 rfl ?_
    refine z_get (a := 0) hC lf_X11_58_11 rfl dX11_init_125 (fV_ref rfl rfl : fV G.1 _ _ 11 0 13 = .ref (G.1 + 24)) ?_
    refine z_iload_n hC dX11_init_128 rfl 1 rfl ?_
    refine z_iconst (v := -1) hC dX11_init_129 rfl ?_
    refine z_iast hC rfl rfl E.1 dX11_init_130 ?_
    replace E := E.2
    refine z_topD (fun D34 h35 => ?_)
    replace E := E D34 h35
    obtain ⟨v36, h37⟩ : ∃ y : Int32, y = v29 + 1 := ⟨_, rfl⟩
    replace E := E v36 h37
    refine z_iinc (q := 1) (v := v36) (lv' := [(1, .int v36), (0, .ref (G.1 + 0))]) hC dX11_init_131 rfl (by rw [h37]; rfl) (Nat.le_of_ble_eq_true rfl) rfl ?_
    refine z_goto (tgt := 118) hC dX11_init_134 (by decide) ?_
    refine z_sub [1, 0] rfl ?_
    exact hrec32 v36 D34 E

def fX12_init (D : Dy) (post : Dy → Prop) : Prop :=
  (∀ D1 : Dy, D1 = sI D 33 0 (0 : Int32) → (∀ D3 : Dy, D3 = sI D1 33 1 (0 : Int32) → (∀ D5 : Dy, D5 = sI D3 33 2 (0 : Int32) → (∀ D7 : Dy, D7 = sI D5 33 3 (0 : Int32) → (∀ D9 : Dy, D9 = dN D7 34 → (∀ D11 : Dy, D11 = dN D9 35 → (∀ D13 : Dy, D13 = dN D11 36 → (∀ D15 : Dy, D15 = dN D13 37 → (∀ D17 : Dy, D17 = dN D15 38 → (∀ D19 : Dy, D19 = dN D17 39 → (∀ D21 : Dy, D21 = dN D19 40 → (∀ D23 : Dy, D23 = dN D21 41 → (∀ D25 : Dy, D25 = dN D23 42 → (∀ D27 : Dy, D27 = sI D25 33 13 (0 : Int32) → (∀ D29 : Dy, D29 = sI D27 33 14 (0 : Int32) → (∀ D31 : Dy, D31 = dN D29 43 → (∀ D33 : Dy, D33 = dN D31 44 → (∀ D35 : Dy, D35 = dN D33 45 → (∀ D37 : Dy, D37 = dN D35 46 → (∀ D39 : Dy, D39 = sI D37 33 19 (0 : Int32) → (∀ D41 : Dy, D41 = sI D39 33 20 (0 : Int32) → (∀ D43 : Dy, D43 = sI D41 33 21 (0 : Int32) → (∀ D45 : Dy, D45 = sI D43 33 22 (0 : Int32) → (∀ D47 : Dy, D47 = sI D45 33 23 (0 : Int32) → (∀ D49 : Dy, D49 = dN D47 47 → (∀ D51 : Dy, D51 = dN D49 48 → (∀ D53 : Dy, D53 = dN D51 49 → (∀ D55 : Dy, D55 = dN D53 50 → (∀ D57 : Dy, D57 = sI D55 33 28 (0 : Int32) → (∀ D59 : Dy, D59 = sI D57 33 29 (0 : Int32) → (∀ D61 : Dy, D61 = sI D59 33 30 (0 : Int32) → (∀ D63 : Dy, D63 = sI D61 33 31 (0 : Int32) → (∀ D65 : Dy, D65 = dN D63 51 → (∀ D67 : Dy, D67 = sI D65 33 33 (0 : Int32) → (∀ D69 : Dy, D69 = dN D67 52 → (∀ D71 : Dy, D71 = dN D69 53 → (∀ D73 : Dy, D73 = sI D71 33 36 (0 : Int32) → (∀ D75 : Dy, D75 = sI D73 33 37 (0 : Int32) → (∀ D77 : Dy, D77 = sI D75 33 38 (0 : Int32) → (∀ D79 : Dy, D79 = sL D77 33 39 (0 : Int64) → (∀ D81 : Dy, D81 = sL D79 33 40 (1 : Int64) → (∀ D83 : Dy, D83 = dN D81 54 → (∀ D85 : Dy, D85 = dN D83 55 → (∀ D87 : Dy, D87 = dN D85 56 → (∀ D89 : Dy, D89 = dN D87 57 → (∀ D91 : Dy, D91 = dN D89 58 → (∀ D93 : Dy, D93 = sI D91 33 46 (-1 : Int32) → (∀ D95 : Dy, D95 = dN D93 59 → (∀ D97 : Dy, D97 = sI D95 33 48 (0 : Int32) → (∀ D99 : Dy, D99 = dN D97 60 → (∀ D101 : Dy, D101 = dN D99 61 → (vp_in (0 : Int32) 6 ∧ (∀ D103 : Dy, D103 = sI D101 61 ((0 : Int32)).toNatClampNeg (-1 : Int32) → (vp_in (1 : Int32) 6 ∧ (∀ D105 : Dy, D105 = sI D103 61 ((1 : Int32)).toNatClampNeg (-1 : Int32) → (vp_in (2 : Int32) 6 ∧ (∀ D107 : Dy, D107 = sI D105 61 ((2 : Int32)).toNatClampNeg (-1 : Int32) → (vp_in (3 : Int32) 6 ∧ (∀ D109 : Dy, D109 = sI D107 61 ((3 : Int32)).toNatClampNeg (-1 : Int32) → (vp_in (4 : Int32) 6 ∧ (∀ D111 : Dy, D111 = sI D109 61 ((4 : Int32)).toNatClampNeg (-1 : Int32) → (vp_in (5 : Int32) 6 ∧ (∀ D113 : Dy, D113 = sI D111 61 ((5 : Int32)).toNatClampNeg (-1 : Int32) → (∀ D115 : Dy, D115 = dN D113 62 → (∀ D117 : Dy, D117 = dN D115 63 → (∀ D119 : Dy, D119 = dN D117 64 → post D119))))))))))))))))))))))))))))))))))))))))))))))))))))))))))))))))))
set_option maxHeartbeats 4000000 in
set_option maxRecDepth 100000 in
theorem ct_X12_init {l : Launch} {G : Gl} {D : Dy} {post : Dy → Prop} (E : fX12_init D post) : Ct l G yX12_init cX12_init 1 none 1 31 123560 SQ_54 D [.ref (G.1 + 33)] (PV SQ_116 post) := by
  refine z_enter (lv0 := [(0, .ref (G.1 + 33))]) pl_12 (Nat.le_of_ble_eq_true rfl) rfl ?_
  intro p e s m args below meth c hC hnm
  unfold fX12_init at E
  refine z_aload_n hC dX12_init_0 rfl 0 rfl ?_
  refine z_objInit hC lko_X12_1 io_Object co_Object ⟨Nat.le_of_ble_eq_true rfl, Nat.le_of_ble_eq_true rfl⟩ (Nat.le_of_ble_eq_true rfl) dX12_init_1 ?_
  refine z_aload_n hC dX12_init_4 rfl 0 rfl ?_
  refine z_iconst (v := 0) hC dX12_init_5 rfl ?_
  refine z_putiQ (a := 33) hC lf_X12_7_12 (Or.inl rfl) rfl rfl dX12_init_6 ?_
  intro D1 h2
  replace E := E D1 h2
  refine z_aload_n hC dX12_init_9 rfl 0 rfl ?_
  refine z_iconst (v := 0) hC dX12_init_10 rfl ?_
  refine z_putiQ (a := 33) hC lf_X12_13_12 (Or.inl rfl) rfl rfl dX12_init_11 ?_
  intro D3 h4
  replace E := E D3 h4
  refine z_aload_n hC dX12_init_14 rfl 0 rfl ?_
  refine z_iconst (v := 0) hC dX12_init_15 rfl ?_
  refine z_putiQ (a := 33) hC lf_X12_16_12 (Or.inl rfl) rfl rfl dX12_init_16 ?_
  intro D5 h6
  replace E := E D5 h6
  refine z_aload_n hC dX12_init_19 rfl 0 rfl ?_
  refine z_iconst (v := 0) hC dX12_init_20 rfl ?_
  refine z_putiQ (a := 33) hC lf_X12_19_12 (Or.inl rfl) rfl rfl dX12_init_21 ?_
  intro D7 h8
  replace E := E D7 h8
  refine z_aload_n hC dX12_init_24 rfl 0 rfl ?_
  refine z_bipush (v := 6) hC dX12_init_25 rfl ?_
  refine z_newaQ (a := 34) (at_ := .int) (N := 6) (t := 20) hC rfl (Or.inl ⟨rfl, rfl⟩) ac_int (by decide) rfl (by decide) rfl (Nat.le_of_ble_eq_true rfl) (Nat.le_of_ble_eq_true rfl) dX12_init_27 ?_
  rintro S' hS' D9 h10
  obtain rfl : S' = SQ_55 := hS'.trans rfl
  replace E := E D9 h10
  clear hS'
  refine z_putr (a := 33) (b := 34) hC lf_X12_22_12 (Or.inr ⟨hnm, cft cf_12 rfl⟩) rfl rfl dX12_init_29 ?_
  rintro S' hS'
  obtain rfl : S' = SQ_56 := hS'
  refine z_aload_n hC dX12_init_32 rfl 0 rfl ?_
  refine z_bipush (v := 6) hC dX12_init_33 rfl ?_
  refine z_newaQ (a := 35) (at_ := .int) (N := 6) (t := 20) hC rfl (Or.inl ⟨rfl, rfl⟩) ac_int (by decide) rfl (by decide) rfl (Nat.le_of_ble_eq_true rfl) (Nat.le_of_ble_eq_true rfl) dX12_init_35 ?_
  rintro S' hS' D11 h12
  obtain rfl : S' = SQ_57 := hS'.trans rfl
  replace E := E D11 h12
  clear hS'
  refine z_putr (a := 33) (b := 35) hC lf_X12_26_12 (Or.inr ⟨hnm, cft cf_12 rfl⟩) rfl rfl dX12_init_37 ?_
  rintro S' hS'
  obtain rfl : S' = SQ_58 := hS'
  refine z_aload_n hC dX12_init_40 rfl 0 rfl ?_
  refine z_bipush (v := 6) hC dX12_init_41 rfl ?_
  refine z_newaQ (a := 36) (at_ := .int) (N := 6) (t := 20) hC rfl (Or.inl ⟨rfl, rfl⟩) ac_int (by decide) rfl (by decide) rfl (Nat.le_of_ble_eq_true rfl) (Nat.le_of_ble_eq_true rfl) dX12_init_43 ?_
  rintro S' hS' D13 h14
  obtain rfl : S' = SQ_59 := hS'.trans rfl
  replace E := E D13 h14
  clear hS'
  refine z_putr (a := 33) (b := 36) hC lf_X12_29_12 (Or.inr ⟨hnm, cft cf_12 rfl⟩) rfl rfl dX12_init_45 ?_
  rintro S' hS'
  obtain rfl : S' = SQ_60 := hS'
  refine z_aload_n hC dX12_init_48 rfl 0 rfl ?_
  refine z_bipush (v := 16) hC dX12_init_49 rfl ?_
  refine z_newaQ (a := 37) (at_ := .int) (N := 16) (t := 20) hC rfl (Or.inl ⟨rfl, rfl⟩) ac_int (by decide) rfl (by decide) rfl (Nat.le_of_ble_eq_true rfl) (Nat.le_of_ble_eq_true rfl) dX12_init_51 ?_
  rintro S' hS' D15 h16
  obtain rfl : S' = SQ_61 := hS'.trans rfl
  replace E := E D15 h16
  clear hS'
  refine z_putr (a := 33) (b := 37) hC lf_X12_32_12 (Or.inr ⟨hnm, cft cf_12 rfl⟩) rfl rfl dX12_init_53 ?_
  rintro S' hS'
  obtain rfl : S' = SQ_62 := hS'
  refine z_aload_n hC dX12_init_56 rfl 0 rfl ?_
  refine z_bipush (v := 80) hC dX12_init_57 rfl ?_
  refine z_newaQ (a := 38) (at_ := .int) (N := 80) (t := 20) hC rfl (Or.inl ⟨rfl, rfl⟩) ac_int (by decide) rfl (by decide) rfl (Nat.le_of_ble_eq_true rfl) (Nat.le_of_ble_eq_true rfl) dX12_init_59 ?_
  rintro S' hS' D17 h18
  obtain rfl : S' = SQ_63 := hS'.trans rfl
  replace E := E D17 h18
  clear hS'
  refine z_putr (a := 33) (b := 38) hC lf_X12_35_12 (Or.inr ⟨hnm, cft cf_12 rfl⟩) rfl rfl dX12_init_61 ?_
  rintro S' hS'
  obtain rfl : S' = SQ_64 := hS'
  refine z_aload_n hC dX12_init_64 rfl 0 rfl ?_
  refine z_bipush (v := 80) hC dX12_init_65 rfl ?_
  refine z_newaQ (a := 39) (at_ := .int) (N := 80) (t := 20) hC rfl (Or.inl ⟨rfl, rfl⟩) ac_int (by decide) rfl (by decide) rfl (Nat.le_of_ble_eq_true rfl) (Nat.le_of_ble_eq_true rfl) dX12_init_67 ?_
  rintro S' hS' D19 h20
  obtain rfl : S' = SQ_65 := hS'.trans rfl
  replace E := E D19 h20
  clear hS'
  refine z_putr (a := 33) (b := 39) hC lf_X12_38_12 (Or.inr ⟨hnm, cft cf_12 rfl⟩) rfl rfl dX12_init_69 ?_
  rintro S' hS'
  obtain rfl : S' = SQ_66 := hS'
  refine z_aload_n hC dX12_init_72 rfl 0 rfl ?_
  refine z_bipush (v := 80) hC dX12_init_73 rfl ?_
  refine z_newaQ (a := 40) (at_ := .int) (N := 80) (t := 20) hC rfl (Or.inl ⟨rfl, rfl⟩) ac_int (by decide) rfl (by decide) rfl (Nat.le_of_ble_eq_true rfl) (Nat.le_of_ble_eq_true rfl) dX12_init_75 ?_
  rintro S' hS' D21 h22
  obtain rfl : S' = SQ_67 := hS'.trans rfl
  replace E := E D21 h22
  clear hS'
  refine z_putr (a := 33) (b := 40) hC lf_X12_41_12 (Or.inr ⟨hnm, cft cf_12 rfl⟩) rfl rfl dX12_init_77 ?_
  rintro S' hS'
  obtain rfl : S' = SQ_68 := hS'
  refine z_aload_n hC dX12_init_80 rfl 0 rfl ?_
  refine z_bipush (v := 80) hC dX12_init_81 rfl ?_
  refine z_newaQ (a := 41) (at_ := .int) (N := 80) (t := 20) hC rfl (Or.inl ⟨rfl, rfl⟩) ac_int (by decide) rfl (by decide) rfl (Nat.le_of_ble_eq_true rfl) (Nat.le_of_ble_eq_true rfl) dX12_init_83 ?_
  rintro S' hS' D23 h24
  obtain rfl : S' = SQ_69 := hS'.trans rfl
  replace E := E D23 h24
  clear hS'
  refine z_putr (a := 33) (b := 41) hC lf_X12_44_12 (Or.inr ⟨hnm, cft cf_12 rfl⟩) rfl rfl dX12_init_85 ?_
  rintro S' hS'
  obtain rfl : S' = SQ_70 := hS'
  refine z_aload_n hC dX12_init_88 rfl 0 rfl ?_
  refine z_bipush (v := 10) hC dX12_init_89 rfl ?_
  refine z_newaQ (a := 42) (at_ := .int) (N := 10) (t := 20) hC rfl (Or.inl ⟨rfl, rfl⟩) ac_int (by decide) rfl (by decide) rfl (Nat.le_of_ble_eq_true rfl) (Nat.le_of_ble_eq_true rfl) dX12_init_91 ?_
  rintro S' hS' D25 h26
  obtain rfl : S' = SQ_71 := hS'.trans rfl
  replace E := E D25 h26
  clear hS'
  refine z_putr (a := 33) (b := 42) hC lf_X12_47_12 (Or.inr ⟨hnm, cft cf_12 rfl⟩) rfl rfl dX12_init_93 ?_
  rintro S' hS'
  obtain rfl : S' = SQ_72 := hS'
  refine z_aload_n hC dX12_init_96 rfl 0 rfl ?_
  refine z_iconst (v := 0) hC dX12_init_97 rfl ?_
  refine z_putiQ (a := 33) hC lf_X12_50_12 (Or.inl rfl) rfl rfl dX12_init_98 ?_
  intro D27 h28
  replace E := E D27 h28
  refine z_aload_n hC dX12_init_101 rfl 0 rfl ?_
  refine z_iconst (v := 0) hC dX12_init_102 rfl ?_
  refine z_putiQ (a := 33) hC lf_X12_53_12 (Or.inl rfl) rfl rfl dX12_init_103 ?_
  intro D29 h30
  replace E := E D29 h30
  refine z_aload_n hC dX12_init_106 rfl 0 rfl ?_
  refine z_bipush (v := 10) hC dX12_init_107 rfl ?_
  refine z_newaQ (a := 43) (at_ := .int) (N := 10) (t := 20) hC rfl (Or.inl ⟨rfl, rfl⟩) ac_int (by decide) rfl (by decide) rfl (Nat.le_of_ble_eq_true rfl) (Nat.le_of_ble_eq_true rfl) dX12_init_109 ?_
  rintro S' hS' D31 h32
  obtain rfl : S' = SQ_73 := hS'.trans rfl
  replace E := E D31 h32
  clear hS'
  refine z_putr (a := 33) (b := 43) hC lf_X12_56_12 (Or.inr ⟨hnm, cft cf_12 rfl⟩) rfl rfl dX12_init_111 ?_
  rintro S' hS'
  obtain rfl : S' = SQ_74 := hS'
  refine z_aload_n hC dX12_init_114 rfl 0 rfl ?_
  refine z_sipush (v := 1320) hC dX12_init_115 rfl ?_
  refine z_newaQ (a := 44) (at_ := .int) (N := 1320) (t := 20) hC rfl (Or.inl ⟨rfl, rfl⟩) ac_int (by decide) rfl (by decide) rfl (Nat.le_of_ble_eq_true rfl) (Nat.le_of_ble_eq_true rfl) dX12_init_118 ?_
  rintro S' hS' D33 h34
  obtain rfl : S' = SQ_75 := hS'.trans rfl
  replace E := E D33 h34
  clear hS'
  refine z_putr (a := 33) (b := 44) hC lf_X12_59_12 (Or.inr ⟨hnm, cft cf_12 rfl⟩) rfl rfl dX12_init_120 ?_
  rintro S' hS'
  obtain rfl : S' = SQ_76 := hS'
  refine z_aload_n hC dX12_init_123 rfl 0 rfl ?_
  refine z_bipush (v := 11) hC dX12_init_124 rfl ?_
  refine z_newaQ (a := 45) (at_ := .int) (N := 11) (t := 20) hC rfl (Or.inl ⟨rfl, rfl⟩) ac_int (by decide) rfl (by decide) rfl (Nat.le_of_ble_eq_true rfl) (Nat.le_of_ble_eq_true rfl) dX12_init_126 ?_
  rintro S' hS' D35 h36
  obtain rfl : S' = SQ_77 := hS'.trans rfl
  replace E := E D35 h36
  clear hS'
  refine z_putr (a := 33) (b := 45) hC lf_X12_62_12 (Or.inr ⟨hnm, cft cf_12 rfl⟩) rfl rfl dX12_init_128 ?_
  rintro S' hS'
  obtain rfl : S' = SQ_78 := hS'
  refine z_aload_n hC dX12_init_131 rfl 0 rfl ?_
  refine z_bipush (v := 10) hC dX12_init_132 rfl ?_
  refine z_newaQ (a := 46) (at_ := .int) (N := 10) (t := 20) hC rfl (Or.inl ⟨rfl, rfl⟩) ac_int (by decide) rfl (by decide) rfl (Nat.le_of_ble_eq_true rfl) (Nat.le_of_ble_eq_true rfl) dX12_init_134 ?_
  rintro S' hS' D37 h38
  obtain rfl : S' = SQ_79 := hS'.trans rfl
  replace E := E D37 h38
  clear hS'
  refine z_putr (a := 33) (b := 46) hC lf_X12_65_12 (Or.inr ⟨hnm, cft cf_12 rfl⟩) rfl rfl dX12_init_136 ?_
  rintro S' hS'
  obtain rfl : S' = SQ_80 := hS'
  refine z_aload_n hC dX12_init_139 rfl 0 rfl ?_
  refine z_iconst (v := 0) hC dX12_init_140 rfl ?_
  refine z_putiQ (a := 33) hC lf_X12_68_12 (Or.inl rfl) rfl rfl dX12_init_141 ?_
  intro D39 h40
  replace E := E D39 h40
  refine z_aload_n hC dX12_init_144 rfl 0 rfl ?_
  refine z_iconst (v := 0) hC dX12_init_145 rfl ?_
  refine z_putiQ (a := 33) hC lf_X12_71_12 (Or.inl rfl) rfl rfl dX12_init_146 ?_
  intro D41 h42
  replace E := E D41 h42
  refine z_aload_n hC dX12_init_149 rfl 0 rfl ?_
  refine z_iconst (v := 0) hC dX12_init_150 rfl ?_
  refine z_putiQ (a := 33) hC lf_X12_74_12 (Or.inl rfl) rfl rfl dX12_init_151 ?_
  intro D43 h44
  replace E := E D43 h44
  refine z_aload_n hC dX12_init_154 rfl 0 rfl ?_
  refine z_iconst (v := 0) hC dX12_init_155 rfl ?_
  refine z_putiQ (a := 33) hC lf_X12_77_12 (Or.inl rfl) rfl rfl dX12_init_156 ?_
  intro D45 h46
  replace E := E D45 h46
  refine z_aload_n hC dX12_init_159 rfl 0 rfl ?_
  refine z_iconst (v := 0) hC dX12_init_160 rfl ?_
  refine z_putiQ (a := 33) hC lf_X12_80_12 (Or.inl rfl) rfl rfl dX12_init_161 ?_
  intro D47 h48
  replace E := E D47 h48
  refine z_aload_n hC dX12_init_164 rfl 0 rfl ?_
  refine z_bipush (v := 6) hC dX12_init_165 rfl ?_
  refine z_newaQ (a := 47) (at_ := .int) (N := 6) (t := 20) hC rfl (Or.inl ⟨rfl, rfl⟩) ac_int (by decide) rfl (by decide) rfl (Nat.le_of_ble_eq_true rfl) (Nat.le_of_ble_eq_true rfl) dX12_init_167 ?_
  rintro S' hS' D49 h50
  obtain rfl : S' = SQ_81 := hS'.trans rfl
  replace E := E D49 h50
  clear hS'
  refine z_putr (a := 33) (b := 47) hC lf_X12_83_12 (Or.inr ⟨hnm, cft cf_12 rfl⟩) rfl rfl dX12_init_169 ?_
  rintro S' hS'
  obtain rfl : S' = SQ_82 := hS'
  refine z_aload_n hC dX12_init_172 rfl 0 rfl ?_
  refine z_bipush (v := 8) hC dX12_init_173 rfl ?_
  refine z_newaQ (a := 48) (at_ := .int) (N := 8) (t := 20) hC rfl (Or.inl ⟨rfl, rfl⟩) ac_int (by decide) rfl (by decide) rfl (Nat.le_of_ble_eq_true rfl) (Nat.le_of_ble_eq_true rfl) dX12_init_175 ?_
  rintro S' hS' D51 h52
  obtain rfl : S' = SQ_83 := hS'.trans rfl
  replace E := E D51 h52
  clear hS'
  refine z_putr (a := 33) (b := 48) hC lf_X12_86_12 (Or.inr ⟨hnm, cft cf_12 rfl⟩) rfl rfl dX12_init_177 ?_
  rintro S' hS'
  obtain rfl : S' = SQ_84 := hS'
  refine z_aload_n hC dX12_init_180 rfl 0 rfl ?_
  refine z_iconst (v := 3) hC dX12_init_181 rfl ?_
  refine z_newaQ (a := 49) (at_ := .int) (N := 3) (t := 20) hC rfl (Or.inl ⟨rfl, rfl⟩) ac_int (by decide) rfl (by decide) rfl (Nat.le_of_ble_eq_true rfl) (Nat.le_of_ble_eq_true rfl) dX12_init_182 ?_
  rintro S' hS' D53 h54
  obtain rfl : S' = SQ_85 := hS'.trans rfl
  replace E := E D53 h54
  clear hS'
  refine z_putr (a := 33) (b := 49) hC lf_X12_89_12 (Or.inr ⟨hnm, cft cf_12 rfl⟩) rfl rfl dX12_init_184 ?_
  rintro S' hS'
  obtain rfl : S' = SQ_86 := hS'
  refine z_aload_n hC dX12_init_187 rfl 0 rfl ?_
  refine z_iconst (v := 3) hC dX12_init_188 rfl ?_
  refine z_newaQ (a := 50) (at_ := .int) (N := 3) (t := 20) hC rfl (Or.inl ⟨rfl, rfl⟩) ac_int (by decide) rfl (by decide) rfl (Nat.le_of_ble_eq_true rfl) (Nat.le_of_ble_eq_true rfl) dX12_init_189 ?_
  rintro S' hS' D55 h56
  obtain rfl : S' = SQ_87 := hS'.trans rfl
  replace E := E D55 h56
  clear hS'
  refine z_putr (a := 33) (b := 50) hC lf_X12_92_12 (Or.inr ⟨hnm, cft cf_12 rfl⟩) rfl rfl dX12_init_191 ?_
  rintro S' hS'
  obtain rfl : S' = SQ_88 := hS'
  refine z_aload_n hC dX12_init_194 rfl 0 rfl ?_
  refine z_iconst (v := 0) hC dX12_init_195 rfl ?_
  refine z_putiQ (a := 33) hC lf_X12_95_12 (Or.inl rfl) rfl rfl dX12_init_196 ?_
  intro D57 h58
  replace E := E D57 h58
  refine z_aload_n hC dX12_init_199 rfl 0 rfl ?_
  refine z_iconst (v := 0) hC dX12_init_200 rfl ?_
  refine z_putiQ (a := 33) hC lf_X12_98_12 (Or.inl rfl) rfl rfl dX12_init_201 ?_
  intro D59 h60
  replace E := E D59 h60
  refine z_aload_n hC dX12_init_204 rfl 0 rfl ?_
  refine z_iconst (v := 0) hC dX12_init_205 rfl ?_
  refine z_putiQ (a := 33) hC lf_X12_101_12 (Or.inl rfl) rfl rfl dX12_init_206 ?_
  intro D61 h62
  replace E := E D61 h62
  refine z_aload_n hC dX12_init_209 rfl 0 rfl ?_
  refine z_iconst (v := 0) hC dX12_init_210 rfl ?_
  refine z_putiQ (a := 33) hC lf_X12_104_12 (Or.inl rfl) rfl rfl dX12_init_211 ?_
  intro D63 h64
  replace E := E D63 h64
  refine z_aload_n hC dX12_init_214 rfl 0 rfl ?_
  refine z_bipush (v := 60) hC dX12_init_215 rfl ?_
  refine z_newaQ (a := 51) (at_ := .boolean) (N := 60) (t := 22) hC rfl (Or.inr (Or.inr ⟨rfl, rfl⟩)) ac_boolean (by decide) rfl (by decide) rfl (Nat.le_of_ble_eq_true rfl) (Nat.le_of_ble_eq_true rfl) dX12_init_217 ?_
  rintro S' hS' D65 h66
  obtain rfl : S' = SQ_89 := hS'.trans rfl
  replace E := E D65 h66
  clear hS'
  refine z_putr (a := 33) (b := 51) hC lf_X12_107_12 (Or.inr ⟨hnm, cft cf_12 rfl⟩) rfl rfl dX12_init_219 ?_
  rintro S' hS'
  obtain rfl : S' = SQ_90 := hS'
  refine z_aload_n hC dX12_init_222 rfl 0 rfl ?_
  refine z_iconst (v := 0) hC dX12_init_223 rfl ?_
  refine z_putiQ (a := 33) hC lf_X12_111_12 (Or.inl rfl) rfl rfl dX12_init_224 ?_
  intro D67 h68
  replace E := E D67 h68
  refine z_aload_n hC dX12_init_227 rfl 0 rfl ?_
  refine z_bipush (v := 121) hC dX12_init_228 rfl ?_
  refine z_newaQ (a := 52) (at_ := .int) (N := 121) (t := 20) hC rfl (Or.inl ⟨rfl, rfl⟩) ac_int (by decide) rfl (by decide) rfl (Nat.le_of_ble_eq_true rfl) (Nat.le_of_ble_eq_true rfl) dX12_init_230 ?_
  rintro S' hS' D69 h70
  obtain rfl : S' = SQ_91 := hS'.trans rfl
  replace E := E D69 h70
  clear hS'
  refine z_putr (a := 33) (b := 52) hC lf_X12_114_12 (Or.inr ⟨hnm, cft cf_12 rfl⟩) rfl rfl dX12_init_232 ?_
  rintro S' hS'
  obtain rfl : S' = SQ_92 := hS'
  refine z_aload_n hC dX12_init_235 rfl 0 rfl ?_
  refine z_bipush (v := 121) hC dX12_init_236 rfl ?_
  refine z_newaQ (a := 53) (at_ := .boolean) (N := 121) (t := 22) hC rfl (Or.inr (Or.inr ⟨rfl, rfl⟩)) ac_boolean (by decide) rfl (by decide) rfl (Nat.le_of_ble_eq_true rfl) (Nat.le_of_ble_eq_true rfl) dX12_init_238 ?_
  rintro S' hS' D71 h72
  obtain rfl : S' = SQ_93 := hS'.trans rfl
  replace E := E D71 h72
  clear hS'
  refine z_putr (a := 33) (b := 53) hC lf_X12_117_12 (Or.inr ⟨hnm, cft cf_12 rfl⟩) rfl rfl dX12_init_240 ?_
  rintro S' hS'
  obtain rfl : S' = SQ_94 := hS'
  refine z_aload_n hC dX12_init_243 rfl 0 rfl ?_
  refine z_iconst (v := 0) hC dX12_init_244 rfl ?_
  refine z_putiQ (a := 33) hC lf_X12_120_12 (Or.inl rfl) rfl rfl dX12_init_245 ?_
  intro D73 h74
  replace E := E D73 h74
  refine z_aload_n hC dX12_init_248 rfl 0 rfl ?_
  refine z_iconst (v := 0) hC dX12_init_249 rfl ?_
  refine z_putiQ (a := 33) hC lf_X12_123_12 (Or.inl rfl) rfl rfl dX12_init_250 ?_
  intro D75 h76
  replace E := E D75 h76
  refine z_aload_n hC dX12_init_253 rfl 0 rfl ?_
  refine z_iconst (v := 0) hC dX12_init_254 rfl ?_
  refine z_putiQ (a := 33) hC lf_X12_126_12 (Or.inl rfl) rfl rfl dX12_init_255 ?_
  intro D77 h78
  replace E := E D77 h78
  refine z_aload_n hC dX12_init_258 rfl 0 rfl ?_
  refine z_lconst (v := 0) hC dX12_init_259 rfl ?_
  refine z_putlQ (a := 33) hC lf_X12_129_12 (Or.inl rfl) rfl rfl dX12_init_260 ?_
  intro D79 h80
  replace E := E D79 h80
  refine z_aload_n hC dX12_init_263 rfl 0 rfl ?_
  refine z_lconst (v := 1) hC dX12_init_264 rfl ?_
  refine z_putlQ (a := 33) hC lf_X12_133_12 (Or.inl rfl) rfl rfl dX12_init_265 ?_
  intro D81 h82
  replace E := E D81 h82
  refine z_aload_n hC dX12_init_268 rfl 0 rfl ?_
  refine z_bipush (v := 8) hC dX12_init_269 rfl ?_
  refine z_newaQ (a := 54) (at_ := .int) (N := 8) (t := 20) hC rfl (Or.inl ⟨rfl, rfl⟩) ac_int (by decide) rfl (by decide) rfl (Nat.le_of_ble_eq_true rfl) (Nat.le_of_ble_eq_true rfl) dX12_init_271 ?_
  rintro S' hS' D83 h84
  obtain rfl : S' = SQ_95 := hS'.trans rfl
  replace E := E D83 h84
  clear hS'
  refine z_putr (a := 33) (b := 54) hC lf_X12_136_12 (Or.inr ⟨hnm, cft cf_12 rfl⟩) rfl rfl dX12_init_273 ?_
  rintro S' hS'
  obtain rfl : S' = SQ_96 := hS'
  refine z_aload_n hC dX12_init_276 rfl 0 rfl ?_
  refine z_bipush (v := 7) hC dX12_init_277 rfl ?_
  refine z_newaQ (a := 55) (at_ := .int) (N := 7) (t := 20) hC rfl (Or.inl ⟨rfl, rfl⟩) ac_int (by decide) rfl (by decide) rfl (Nat.le_of_ble_eq_true rfl) (Nat.le_of_ble_eq_true rfl) dX12_init_279 ?_
  rintro S' hS' D85 h86
  obtain rfl : S' = SQ_97 := hS'.trans rfl
  replace E := E D85 h86
  clear hS'
  refine z_putr (a := 33) (b := 55) hC lf_X12_139_12 (Or.inr ⟨hnm, cft cf_12 rfl⟩) rfl rfl dX12_init_281 ?_
  rintro S' hS'
  obtain rfl : S' = SQ_98 := hS'
  refine z_aload_n hC dX12_init_284 rfl 0 rfl ?_
  refine z_ldc hC kc_X12_142 dX12_init_285 ?_
  refine z_newaQ (a := 56) (at_ := .int) (N := 40320) (t := 20) hC rfl (Or.inl ⟨rfl, rfl⟩) ac_int (by decide) rfl (by decide) rfl (Nat.le_of_ble_eq_true rfl) (Nat.le_of_ble_eq_true rfl) dX12_init_287 ?_
  rintro S' hS' D87 h88
  obtain rfl : S' = SQ_99 := hS'.trans rfl
  replace E := E D87 h88
  clear hS'
  refine z_putr (a := 33) (b := 56) hC lf_X12_143_12 (Or.inr ⟨hnm, cft cf_12 rfl⟩) rfl rfl dX12_init_289 ?_
  rintro S' hS'
  obtain rfl : S' = SQ_100 := hS'
  refine z_aload_n hC dX12_init_292 rfl 0 rfl ?_
  refine z_ldc hC kc_X12_146 dX12_init_293 ?_
  refine z_newaQ (a := 57) (at_ := .boolean) (N := 80640) (t := 22) hC rfl (Or.inr (Or.inr ⟨rfl, rfl⟩)) ac_boolean (by decide) rfl (by decide) rfl (Nat.le_of_ble_eq_true rfl) (Nat.le_of_ble_eq_true rfl) dX12_init_295 ?_
  rintro S' hS' D89 h90
  obtain rfl : S' = SQ_101 := hS'.trans rfl
  replace E := E D89 h90
  clear hS'
  refine z_putr (a := 33) (b := 57) hC lf_X12_147_12 (Or.inr ⟨hnm, cft cf_12 rfl⟩) rfl rfl dX12_init_297 ?_
  rintro S' hS'
  obtain rfl : S' = SQ_102 := hS'
  refine z_aload_n hC dX12_init_300 rfl 0 rfl ?_
  refine z_bipush (v := 16) hC dX12_init_301 rfl ?_
  refine z_newaQ (a := 58) (at_ := .boolean) (N := 16) (t := 22) hC rfl (Or.inr (Or.inr ⟨rfl, rfl⟩)) ac_boolean (by decide) rfl (by decide) rfl (Nat.le_of_ble_eq_true rfl) (Nat.le_of_ble_eq_true rfl) dX12_init_303 ?_
  rintro S' hS' D91 h92
  obtain rfl : S' = SQ_103 := hS'.trans rfl
  replace E := E D91 h92
  clear hS'
  refine z_putr (a := 33) (b := 58) hC lf_X12_150_12 (Or.inr ⟨hnm, cft cf_12 rfl⟩) rfl rfl dX12_init_305 ?_
  rintro S' hS'
  obtain rfl : S' = SQ_104 := hS'
  refine z_aload_n hC dX12_init_308 rfl 0 rfl ?_
  refine z_iconst (v := -1) hC dX12_init_309 rfl ?_
  refine z_putiQ (a := 33) hC lf_X12_153_12 (Or.inl rfl) rfl rfl dX12_init_310 ?_
  intro D93 h94
  replace E := E D93 h94
  refine z_aload_n hC dX12_init_313 rfl 0 rfl ?_
  refine z_bipush (v := 80) hC dX12_init_314 rfl ?_
  refine z_newaQ (a := 59) (at_ := .int) (N := 80) (t := 20) hC rfl (Or.inl ⟨rfl, rfl⟩) ac_int (by decide) rfl (by decide) rfl (Nat.le_of_ble_eq_true rfl) (Nat.le_of_ble_eq_true rfl) dX12_init_316 ?_
  rintro S' hS' D95 h96
  obtain rfl : S' = SQ_105 := hS'.trans rfl
  replace E := E D95 h96
  clear hS'
  refine z_putr (a := 33) (b := 59) hC lf_X12_156_12 (Or.inr ⟨hnm, cft cf_12 rfl⟩) rfl rfl dX12_init_318 ?_
  rintro S' hS'
  obtain rfl : S' = SQ_106 := hS'
  refine z_aload_n hC dX12_init_321 rfl 0 rfl ?_
  refine z_iconst (v := 0) hC dX12_init_322 rfl ?_
  refine z_putiQ (a := 33) hC lf_X12_159_12 (Or.inl rfl) rfl rfl dX12_init_323 ?_
  intro D97 h98
  replace E := E D97 h98
  refine z_aload_n hC dX12_init_326 rfl 0 rfl ?_
  refine z_bipush (v := 20) hC dX12_init_327 rfl ?_
  refine z_newaQ (a := 60) (at_ := .int) (N := 20) (t := 20) hC rfl (Or.inl ⟨rfl, rfl⟩) ac_int (by decide) rfl (by decide) rfl (Nat.le_of_ble_eq_true rfl) (Nat.le_of_ble_eq_true rfl) dX12_init_329 ?_
  rintro S' hS' D99 h100
  obtain rfl : S' = SQ_107 := hS'.trans rfl
  replace E := E D99 h100
  clear hS'
  refine z_putr (a := 33) (b := 60) hC lf_X12_162_12 (Or.inr ⟨hnm, cft cf_12 rfl⟩) rfl rfl dX12_init_331 ?_
  rintro S' hS'
  obtain rfl : S' = SQ_108 := hS'
  refine z_aload_n hC dX12_init_334 rfl 0 rfl ?_
  refine z_bipush (v := 6) hC dX12_init_335 rfl ?_
  refine z_newaQ (a := 61) (at_ := .int) (N := 6) (t := 20) hC rfl (Or.inl ⟨rfl, rfl⟩) ac_int (by decide) rfl (by decide) rfl (Nat.le_of_ble_eq_true rfl) (Nat.le_of_ble_eq_true rfl) dX12_init_337 ?_
  rintro S' hS' D101 h102
  obtain rfl : S' = SQ_109 := hS'.trans rfl
  replace E := E D101 h102
  clear hS'
  refine z_dup hC dX12_init_339 rfl ?_
  refine z_iconst (v := 0) hC dX12_init_340 rfl ?_
  refine z_iconst (v := -1) hC dX12_init_341 rfl ?_
  refine z_iast hC rfl rfl E.1 dX12_init_342 ?_
  replace E := E.2
  refine z_topD (fun D103 h104 => ?_)
  replace E := E D103 h104
  refine z_dup hC dX12_init_343 rfl ?_
  refine z_iconst (v := 1) hC dX12_init_344 rfl ?_
  refine z_iconst (v := -1) hC dX12_init_345 rfl ?_
  refine z_iast hC rfl rfl E.1 dX12_init_346 ?_
  replace E := E.2
  refine z_topD (fun D105 h106 => ?_)
  replace E := E D105 h106
  refine z_dup hC dX12_init_347 rfl ?_
  refine z_iconst (v := 2) hC dX12_init_348 rfl ?_
  refine z_iconst (v := -1) hC dX12_init_349 rfl ?_
  refine z_iast hC rfl rfl E.1 dX12_init_350 ?_
  replace E := E.2
  refine z_topD (fun D107 h108 => ?_)
  replace E := E D107 h108
  refine z_dup hC dX12_init_351 rfl ?_
  refine z_iconst (v := 3) hC dX12_init_352 rfl ?_
  refine z_iconst (v := -1) hC dX12_init_353 rfl ?_
  refine z_iast hC rfl rfl E.1 dX12_init_354 ?_
  replace E := E.2
  refine z_topD (fun D109 h110 => ?_)
  replace E := E D109 h110
  refine z_dup hC dX12_init_355 rfl ?_
  refine z_iconst (v := 4) hC dX12_init_356 rfl ?_
  refine z_iconst (v := -1) hC dX12_init_357 rfl ?_
  refine z_iast hC rfl rfl E.1 dX12_init_358 ?_
  replace E := E.2
  refine z_topD (fun D111 h112 => ?_)
  replace E := E D111 h112
  refine z_dup hC dX12_init_359 rfl ?_
  refine z_iconst (v := 5) hC dX12_init_360 rfl ?_
  refine z_iconst (v := -1) hC dX12_init_361 rfl ?_
  refine z_iast hC rfl rfl E.1 dX12_init_362 ?_
  replace E := E.2
  refine z_topD (fun D113 h114 => ?_)
  replace E := E D113 h114
  refine z_putr (a := 33) (b := 61) hC lf_X12_165_12 (Or.inr ⟨hnm, cft cf_12 rfl⟩) rfl rfl dX12_init_363 ?_
  rintro S' hS'
  obtain rfl : S' = SQ_110 := hS'
  refine z_aload_n hC dX12_init_366 rfl 0 rfl ?_
  refine z_bipush (v := 6) hC dX12_init_367 rfl ?_
  refine z_newaQ (a := 62) (at_ := .int) (N := 6) (t := 20) hC rfl (Or.inl ⟨rfl, rfl⟩) ac_int (by decide) rfl (by decide) rfl (Nat.le_of_ble_eq_true rfl) (Nat.le_of_ble_eq_true rfl) dX12_init_369 ?_
  rintro S' hS' D115 h116
  obtain rfl : S' = SQ_111 := hS'.trans rfl
  replace E := E D115 h116
  clear hS'
  refine z_putr (a := 33) (b := 62) hC lf_X12_168_12 (Or.inr ⟨hnm, cft cf_12 rfl⟩) rfl rfl dX12_init_371 ?_
  rintro S' hS'
  obtain rfl : S' = SQ_112 := hS'
  refine z_aload_n hC dX12_init_374 rfl 0 rfl ?_
  refine z_sipush (v := 360) hC dX12_init_375 rfl ?_
  refine z_newaQ (a := 63) (at_ := .long) (N := 360) (t := 21) hC rfl (Or.inr (Or.inl ⟨rfl, rfl⟩)) ac_long (by decide) rfl (by decide) rfl (Nat.le_of_ble_eq_true rfl) (Nat.le_of_ble_eq_true rfl) dX12_init_378 ?_
  rintro S' hS' D117 h118
  obtain rfl : S' = SQ_113 := hS'.trans rfl
  replace E := E D117 h118
  clear hS'
  refine z_putr (a := 33) (b := 63) hC lf_X12_171_12 (Or.inr ⟨hnm, cft cf_12 rfl⟩) rfl rfl dX12_init_380 ?_
  rintro S' hS'
  obtain rfl : S' = SQ_114 := hS'
  refine z_aload_n hC dX12_init_383 rfl 0 rfl ?_
  refine z_bipush (v := 60) hC dX12_init_384 rfl ?_
  refine z_newaQ (a := 64) (at_ := .long) (N := 60) (t := 21) hC rfl (Or.inr (Or.inl ⟨rfl, rfl⟩)) ac_long (by decide) rfl (by decide) rfl (Nat.le_of_ble_eq_true rfl) (Nat.le_of_ble_eq_true rfl) dX12_init_386 ?_
  rintro S' hS' D119 h120
  obtain rfl : S' = SQ_115 := hS'.trans rfl
  replace E := E D119 h120
  clear hS'
  refine z_putr (a := 33) (b := 64) hC lf_X12_175_12 (Or.inr ⟨hnm, cft cf_12 rfl⟩) rfl rfl dX12_init_388 ?_
  rintro S' hS'
  obtain rfl : S' = SQ_116 := hS'
  exact z_vret hC dX12_init_391 (Nat.le_of_ble_eq_true rfl) (Nat.le_of_ble_eq_true rfl) ⟨rfl, rfl, E⟩
def SX : Sh := SQ_53
def SE : Sh := SQ_116
theorem SE_FX : FX SE (fun _ => none) := ⟨by decide +kernel, by decide +kernel, by decide +kernel, fun _ _ _ _ h => by cases h⟩
theorem SE_FM : FM SE := ⟨fun a h1 h2 => (by decide +kernel : ∀ a, a < 65 → 33 ≤ a → SE.2.1 a = kTab.getD a 0 ∧ SE.2.2.1 a = nTab.getD a 0) a h2 h1, by decide +kernel⟩
theorem SE_1 : SE.1 = 65 := rfl
-- END X 53 M 116
def S9_0 (o : Nat) (S : Sh) : Sh := sNa S (o + 1) 20 6
def S9_1 (o : Nat) (S : Sh) : Sh := sR (S9_0 o S) o 4 (some (o + 1))
def S9_2 (o : Nat) (S : Sh) : Sh := sNa (S9_1 o S) (o + 2) 20 8
def S9_3 (o : Nat) (S : Sh) : Sh := sR (S9_2 o S) o 5 (some (o + 2))
def S9_4 (o : Nat) (S : Sh) : Sh := sNa (S9_3 o S) (o + 3) 20 3
def S9_5 (o : Nat) (S : Sh) : Sh := sR (S9_4 o S) o 9 (some (o + 3))
def S9_6 (o : Nat) (S : Sh) : Sh := sNa (S9_5 o S) (o + 4) 20 3
def S9_7 (o : Nat) (S : Sh) : Sh := sR (S9_6 o S) o 10 (some (o + 4))
def S9_8 (o : Nat) (S : Sh) : Sh := sNa (S9_7 o S) (o + 5) 20 10
def S9_9 (o : Nat) (S : Sh) : Sh := sR (S9_8 o S) o 13 (some (o + 5))
def S9_10 (o : Nat) (S : Sh) : Sh := sNa (S9_9 o S) (o + 6) 20 10
def S9_11 (o : Nat) (S : Sh) : Sh := sR (S9_10 o S) o 14 (some (o + 6))
def S9_12 (o : Nat) (S : Sh) : Sh := sNa (S9_11 o S) (o + 7) 20 16
def S9_13 (o : Nat) (S : Sh) : Sh := sR (S9_12 o S) o 16 (some (o + 7))
def S9_14 (o : Nat) (S : Sh) : Sh := sR (S9_13 o S) o 0 (some 12)
def S9_15 (o : Nat) (S : Sh) : Sh := sNa (S9_14 o S) (o + 8) 20 120
def S9_16 (o : Nat) (S : Sh) : Sh := sR (S9_15 o S) o 11 (some (o + 8))
def fX9_init (o : Nat) (a2 : Int32) (D : Dy) (post : Dy → Prop) : Prop :=
  (∀ D1 : Dy, D1 = dN D (o + 1) → (∀ D3 : Dy, D3 = dN D1 (o + 2) → (∀ D5 : Dy, D5 = sI D3 o 8 (6 : Int32) → (∀ D7 : Dy, D7 = dN D5 (o + 3) → (∀ D9 : Dy, D9 = dN D7 (o + 4) → (∀ D11 : Dy, D11 = dN D9 (o + 5) → (∀ D13 : Dy, D13 = dN D11 (o + 6) → (∀ D15 : Dy, D15 = dN D13 (o + 7) → (∀ D17 : Dy, D17 = sI D15 o 1 a2 → (∀ D19 : Dy, D19 = dN D17 (o + 8) → (LP2 (fun (rec23 : Int32 → Dy → Prop) (v21 : Int32) (D22 : Dy) => (((6 : Int32) ≤ v21 → (LP2 (fun (rec28 : Int32 → Dy → Prop) (v26 : Int32) (D27 : Dy) => (((3 : Int32) ≤ v26 → post D27) ∧ (¬ (3 : Int32) ≤ v26 → (vp_in v26 3 ∧ (∀ D31 : Dy, D31 = sI D27 (o + 4) (v26).toNatClampNeg (1 : Int32) → (∀ v33 : Int32, v33 = v26 + 1 → (rec28 v33 D31))))))) FU (0 : Int32) D22)) ∧ (¬ (6 : Int32) ≤ v21 → (vp_in v21 6 ∧ (∀ D35 : Dy, D35 = sI D22 (o + 1) (v21).toNatClampNeg (10 : Int32) → (∀ v37 : Int32, v37 = v21 + 1 → (rec23 v37 D35))))))) FU (0 : Int32) D19)))))))))))
set_option maxHeartbeats 4000000 in
set_option maxRecDepth 100000 in
theorem ct_X9_init {l : Launch} {G : Gl} {D : Dy} {o : Nat} {S : Sh} (hS : S.1 = o + 1) (hK : S.2.1 o = 10) {a2 : Int32} {post : Dy → Prop} (E : fX9_init o a2 D post) : Ct l G yX9_init cX9_init 4 none 1 8 176 S D [.ref (G.1 + o), .ref (G.1 + 12), .int a2] (PV (S9_16 o S) post) := by
  refine z_enter (lv0 := [(0, .ref (G.1 + o)), (1, .ref (G.1 + 12)), (2, .int a2)]) pl_9 (Nat.le_of_ble_eq_true rfl) rfl ?_
  intro p e s m args below meth c hC hnm
  unfold fX9_init at E
  refine z_aload_n hC dX9_init_0 rfl 0 rfl ?_
  refine z_objInit hC lko_X9_3 io_Object co_Object ⟨Nat.le_of_ble_eq_true rfl, Nat.le_of_ble_eq_true rfl⟩ (Nat.le_of_ble_eq_true rfl) dX9_init_1 ?_
  refine z_aload_n hC dX9_init_4 rfl 0 rfl ?_
  refine z_bipush (v := 6) hC dX9_init_5 rfl ?_
  refine z_newaQ (a := (o + 1)) (at_ := .int) (N := 6) (t := 20) hC rfl (Or.inl ⟨rfl, rfl⟩) ac_int (by decide) rfl (by decide) hS (Nat.le_of_ble_eq_true rfl) (Nat.le_of_ble_eq_true rfl) dX9_init_7 ?_
  rintro S' hS' D1 h2
  obtain rfl : S' = (S9_0 o S) := hS'.trans (sNa_eq hS)
  replace E := E D1 h2
  clear hS'
  refine z_putr (a := o) (b := (o + 1)) hC lf_X9_9_9 (Or.inr ⟨hnm, cft cf_9 rfl⟩) rfl (by simp [S9_0, sNa, sR, hS, hK]) dX9_init_9 ?_
  rintro S' hS'
  obtain rfl : S' = (S9_1 o S) := hS'
  refine z_aload_n hC dX9_init_12 rfl 0 rfl ?_
  refine z_bipush (v := 8) hC dX9_init_13 rfl ?_
  refine z_newaQ (a := (o + 2)) (at_ := .int) (N := 8) (t := 20) hC rfl (Or.inl ⟨rfl, rfl⟩) ac_int (by decide) rfl (by decide) rfl (Nat.le_of_ble_eq_true rfl) (Nat.le_of_ble_eq_true rfl) dX9_init_15 ?_
  rintro S' hS' D3 h4
  obtain rfl : S' = (S9_2 o S) := hS'.trans rfl
  replace E := E D3 h4
  clear hS'
  refine z_putr (a := o) (b := (o + 2)) hC lf_X9_15_9 (Or.inr ⟨hnm, cft cf_9 rfl⟩) rfl (by simp [S9_0, S9_1, S9_2, sNa, sR, hS, hK]) dX9_init_17 ?_
  rintro S' hS'
  obtain rfl : S' = (S9_3 o S) := hS'
  refine z_aload_n hC dX9_init_20 rfl 0 rfl ?_
  refine z_bipush (v := 6) hC dX9_init_21 rfl ?_
  refine z_putiQ (a := o) hC lf_X9_18_9 (Or.inl rfl) rfl (by simp [S9_0, S9_1, S9_2, S9_3, sNa, sR, hS, hK]) dX9_init_23 ?_
  intro D5 h6
  replace E := E D5 h6
  refine z_aload_n hC dX9_init_26 rfl 0 rfl ?_
  refine z_iconst (v := 3) hC dX9_init_27 rfl ?_
  refine z_newaQ (a := (o + 3)) (at_ := .int) (N := 3) (t := 20) hC rfl (Or.inl ⟨rfl, rfl⟩) ac_int (by decide) rfl (by decide) rfl (Nat.le_of_ble_eq_true rfl) (Nat.le_of_ble_eq_true rfl) dX9_init_28 ?_
  rintro S' hS' D7 h8
  obtain rfl : S' = (S9_4 o S) := hS'.trans rfl
  replace E := E D7 h8
  clear hS'
  refine z_putr (a := o) (b := (o + 3)) hC lf_X9_22_9 (Or.inr ⟨hnm, cft cf_9 rfl⟩) rfl (by simp [S9_0, S9_1, S9_2, S9_3, S9_4, sNa, sR, hS, hK]) dX9_init_30 ?_
  rintro S' hS'
  obtain rfl : S' = (S9_5 o S) := hS'
  refine z_aload_n hC dX9_init_33 rfl 0 rfl ?_
  refine z_iconst (v := 3) hC dX9_init_34 rfl ?_
  refine z_newaQ (a := (o + 4)) (at_ := .int) (N := 3) (t := 20) hC rfl (Or.inl ⟨rfl, rfl⟩) ac_int (by decide) rfl (by decide) rfl (Nat.le_of_ble_eq_true rfl) (Nat.le_of_ble_eq_true rfl) dX9_init_35 ?_
  rintro S' hS' D9 h10
  obtain rfl : S' = (S9_6 o S) := hS'.trans rfl
  replace E := E D9 h10
  clear hS'
  refine z_putr (a := o) (b := (o + 4)) hC lf_X9_25_9 (Or.inr ⟨hnm, cft cf_9 rfl⟩) rfl (by simp [S9_0, S9_1, S9_2, S9_3, S9_4, S9_5, S9_6, sNa, sR, hS, hK]) dX9_init_37 ?_
  rintro S' hS'
  obtain rfl : S' = (S9_7 o S) := hS'
  refine z_aload_n hC dX9_init_40 rfl 0 rfl ?_
  refine z_bipush (v := 10) hC dX9_init_41 rfl ?_
  refine z_newaQ (a := (o + 5)) (at_ := .int) (N := 10) (t := 20) hC rfl (Or.inl ⟨rfl, rfl⟩) ac_int (by decide) rfl (by decide) rfl (Nat.le_of_ble_eq_true rfl) (Nat.le_of_ble_eq_true rfl) dX9_init_43 ?_
  rintro S' hS' D11 h12
  obtain rfl : S' = (S9_8 o S) := hS'.trans rfl
  replace E := E D11 h12
  clear hS'
  refine z_putr (a := o) (b := (o + 5)) hC lf_X9_28_9 (Or.inr ⟨hnm, cft cf_9 rfl⟩) rfl (by simp [S9_0, S9_1, S9_2, S9_3, S9_4, S9_5, S9_6, S9_7, S9_8, sNa, sR, hS, hK]) dX9_init_45 ?_
  rintro S' hS'
  obtain rfl : S' = (S9_9 o S) := hS'
  refine z_aload_n hC dX9_init_48 rfl 0 rfl ?_
  refine z_bipush (v := 10) hC dX9_init_49 rfl ?_
  refine z_newaQ (a := (o + 6)) (at_ := .int) (N := 10) (t := 20) hC rfl (Or.inl ⟨rfl, rfl⟩) ac_int (by decide) rfl (by decide) rfl (Nat.le_of_ble_eq_true rfl) (Nat.le_of_ble_eq_true rfl) dX9_init_51 ?_
  rintro S' hS' D13 h14
  obtain rfl : S' = (S9_10 o S) := hS'.trans rfl
  replace E := E D13 h14
  clear hS'
  refine z_putr (a := o) (b := (o + 6)) hC lf_X9_31_9 (Or.inr ⟨hnm, cft cf_9 rfl⟩) rfl (by simp [S9_0, S9_1, S9_2, S9_3, S9_4, S9_5, S9_6, S9_7, S9_8, S9_9, S9_10, sNa, sR, hS, hK]) dX9_init_53 ?_
  rintro S' hS'
  obtain rfl : S' = (S9_11 o S) := hS'
  refine z_aload_n hC dX9_init_56 rfl 0 rfl ?_
  refine z_bipush (v := 16) hC dX9_init_57 rfl ?_
  refine z_newaQ (a := (o + 7)) (at_ := .int) (N := 16) (t := 20) hC rfl (Or.inl ⟨rfl, rfl⟩) ac_int (by decide) rfl (by decide) rfl (Nat.le_of_ble_eq_true rfl) (Nat.le_of_ble_eq_true rfl) dX9_init_59 ?_
  rintro S' hS' D15 h16
  obtain rfl : S' = (S9_12 o S) := hS'.trans rfl
  replace E := E D15 h16
  clear hS'
  refine z_putr (a := o) (b := (o + 7)) hC lf_X9_34_9 (Or.inr ⟨hnm, cft cf_9 rfl⟩) rfl (by simp [S9_0, S9_1, S9_2, S9_3, S9_4, S9_5, S9_6, S9_7, S9_8, S9_9, S9_10, S9_11, S9_12, sNa, sR, hS, hK]) dX9_init_61 ?_
  rintro S' hS'
  obtain rfl : S' = (S9_13 o S) := hS'
  refine z_aload_n hC dX9_init_64 rfl 0 rfl ?_
  refine z_aload_n hC dX9_init_65 rfl 1 rfl ?_
  refine z_putr (a := o) (b := 12) hC lf_X9_37_9 (Or.inr ⟨hnm, cft cf_9 rfl⟩) rfl (by simp [S9_0, S9_1, S9_2, S9_3, S9_4, S9_5, S9_6, S9_7, S9_8, S9_9, S9_10, S9_11, S9_12, S9_13, sNa, sR, hS, hK]) dX9_init_66 ?_
  rintro S' hS'
  obtain rfl : S' = (S9_14 o S) := hS'
  refine z_aload_n hC dX9_init_69 rfl 0 rfl ?_
  refine z_iload_n hC dX9_init_70 rfl 2 rfl ?_
  refine z_putiQ (a := o) hC lf_X9_40_9 (Or.inr ⟨hnm, cft cf_9 rfl⟩) rfl (by simp [S9_0, S9_1, S9_2, S9_3, S9_4, S9_5, S9_6, S9_7, S9_8, S9_9, S9_10, S9_11, S9_12, S9_13, S9_14, sNa, sR, hS, hK]) dX9_init_71 ?_
  intro D17 h18
  replace E := E D17 h18
  refine z_aload_n hC dX9_init_74 rfl 0 rfl ?_
  refine z_bipush (v := 120) hC dX9_init_75 rfl ?_
  refine z_newaQ (a := (o + 8)) (at_ := .int) (N := 120) (t := 20) hC rfl (Or.inl ⟨rfl, rfl⟩) ac_int (by decide) rfl (by decide) rfl (Nat.le_of_ble_eq_true rfl) (Nat.le_of_ble_eq_true rfl) dX9_init_77 ?_
  rintro S' hS' D19 h20
  obtain rfl : S' = (S9_15 o S) := hS'.trans rfl
  replace E := E D19 h20
  clear hS'
  refine z_putr (a := o) (b := (o + 8)) hC lf_X9_43_9 (Or.inr ⟨hnm, cft cf_9 rfl⟩) rfl (by simp [S9_0, S9_1, S9_2, S9_3, S9_4, S9_5, S9_6, S9_7, S9_8, S9_9, S9_10, S9_11, S9_12, S9_13, S9_14, S9_15, sNa, sR, hS, hK]) dX9_init_79 ?_
  rintro S' hS'
  obtain rfl : S' = (S9_16 o S) := hS'
  refine z_iconst (v := 0) hC dX9_init_82 rfl ?_
  refine z_istore_n (lv' := [(3, .int (0 : Int32)), (0, .ref (G.1 + o)), (1, .ref (G.1 + 12)), (2, .int a2)]) hC dX9_init_83 rfl (Nat.le_of_ble_eq_true rfl) rfl ?_
  refine z_sub [1, 0] rfl ?_
  refine LP2_use (fun (v21 : Int32) (D22 : Dy) => ZMA l G p e s m args below meth c 4 1 8 176 8 176 S (PV (S9_16 o S) post) (S9_16 o S) D22 84 [(0, .ref (G.1 + o)), (3, .int v21)] []) ?_ FU (0 : Int32) D19 E
  intro rec23 hrec24 v21 D22 E
  refine z_iload_n hC dX9_init_84 rfl 1 rfl ?_
  refine z_bipush (v := 6) hC dX9_init_85 rfl ?_
  refine z_icmp_ge (tgt := 104) hC dX9_init_87 (by decide) (fun c25 => ?_) (fun c25 => ?_)
  · replace E := E.1 c25
    refine z_iconst (v := 0) hC dX9_init_104 rfl ?_
    refine z_istore_n (lv' := [(3, .int (0 : Int32)), (0, .ref (G.1 + o))]) hC dX9_init_105 rfl (Nat.le_of_ble_eq_true rfl) rfl ?_
    refine z_sub [1, 0] rfl ?_
    refine LP2_use (fun (v26 : Int32) (D27 : Dy) => ZMA l G p e s m args below meth c 4 1 8 176 8 176 S (PV (S9_16 o S) post) (S9_16 o S) D27 106 [(0, .ref (G.1 + o)), (3, .int v26)] []) ?_ FU (0 : Int32) D22 E
    intro rec28 hrec29 v26 D27 E
    refine z_iload_n hC dX9_init_106 rfl 1 rfl ?_
    refine z_iconst (v := 3) hC dX9_init_107 rfl ?_
    refine z_icmp_ge (tgt := 124) hC dX9_init_108 (by decide) (fun c30 => ?_) (fun c30 => ?_)
    · replace E := E.1 c30
      exact z_vret hC dX9_init_124 (Nat.le_of_ble_eq_true rfl) (Nat.le_of_ble_eq_true rfl) ⟨rfl, rfl, E⟩
    · replace E := E.2 c30
      refine z_aload_n hC dX9_init_111 rfl 0 rfl ?_
      refine z_get (a := o) hC lf_X9_25_9 (by simp [S9_0, S9_1, S9_2, S9_3, S9_4, S9_5, S9_6, S9_7, S9_8, S9_9, S9_10, S9_11, S9_12, S9_13, S9_14, S9_15, S9_16, sNa, sR, hS, hK]) dX9_init_112 (fV_ref rfl (by simp [S9_0, S9_1, S9_2, S9_3, S9_4, S9_5, S9_6, S9_7, S9_8, S9_9, S9_10, S9_11, S9_12, S9_13, S9_14, S9_15, S9_16, sNa, sR, hS, hK]) : fV G.1 _ _ 9 o 10 = .ref (G.1 + (o + 4))) ?_
      refine z_iload_n hC dX9_init_115 rfl 1 rfl ?_
      refine z_iconst (v := 1) hC dX9_init_116 rfl ?_
      refine z_iast hC (by simp [S9_0, S9_1, S9_2, S9_3, S9_4, S9_5, S9_6, S9_7, S9_8, S9_9, S9_10, S9_11, S9_12, S9_13, S9_14, S9_15, S9_16, sNa, sR, hS, hK]) (by simp [S9_0, S9_1, S9_2, S9_3, S9_4, S9_5, S9_6, S9_7, S9_8, S9_9, S9_10, S9_11, S9_12, S9_13, S9_14, S9_15, S9_16, sNa, sR, hS, hK]) E.1 dX9_init_117 ?_
      replace E := E.2
      refine z_topD (fun D31 h32 => ?_)
      replace E := E D31 h32
      obtain ⟨v33, h34⟩ : ∃ y : Int32, y = v26 + 1 := ⟨_, rfl⟩
      replace E := E v33 h34
      refine z_iinc (q := 1) (v := v33) (lv' := [(3, .int v33), (0, .ref (G.1 + o))]) hC dX9_init_118 rfl (by rw [h34]; rfl) (Nat.le_of_ble_eq_true rfl) rfl ?_
      refine z_goto (tgt := 106) hC dX9_init_121 (by decide) ?_
      refine z_sub [1, 0] rfl ?_
      exact hrec29 v33 D31 E
  · replace E := E.2 c25
    refine z_aload_n hC dX9_init_90 rfl 0 rfl ?_
    refine z_get (a := o) hC lf_X9_9_9 (by simp [S9_0, S9_1, S9_2, S9_3, S9_4, S9_5, S9_6, S9_7, S9_8, S9_9, S9_10, S9_11, S9_12, S9_13, S9_14, S9_15, S9_16, sNa, sR, hS, hK]) dX9_init_91 (fV_ref rfl (by simp [S9_0, S9_1, S9_2, S9_3, S9_4, S9_5, S9_6, S9_7, S9_8, S9_9, S9_10, S9_11, S9_12, S9_13, S9_14, S9_15, S9_16, sNa, sR, hS, hK]) : fV G.1 _ _ 9 o 4 = .ref (G.1 + (o + 1))) ?_
    refine z_iload_n hC dX9_init_94 rfl 1 rfl ?_
    refine z_bipush (v := 10) hC dX9_init_95 rfl ?_
    refine z_iast hC (by simp [S9_0, S9_1, S9_2, S9_3, S9_4, S9_5, S9_6, S9_7, S9_8, S9_9, S9_10, S9_11, S9_12, S9_13, S9_14, S9_15, S9_16, sNa, sR, hS, hK]) (by simp [S9_0, S9_1, S9_2, S9_3, S9_4, S9_5, S9_6, S9_7, S9_8, S9_9, S9_10, S9_11, S9_12, S9_13, S9_14, S9_15, S9_16, sNa, sR, hS, hK]) E.1 dX9_init_97 ?_
    replace E := E.2
    refine z_topD (fun D35 h36 => ?_)
    replace E := E D35 h36
    obtain ⟨v37, h38⟩ : ∃ y : Int32, y = v21 + 1 := ⟨_, rfl⟩
    replace E := E v37 h38
    refine z_iinc (q := 1) (v := v37) (lv' := [(3, .int v37), (0, .ref (G.1 + o))]) hC dX9_init_98 rfl (by rw [h38]; rfl) (Nat.le_of_ble_eq_true rfl) rfl ?_
    refine z_goto (tgt := 84) hC dX9_init_101 (by decide) ?_
    refine z_sub [1, 0] rfl ?_
    exact hrec24 v37 D35 E
def S4_0 (o t : Nat) (S : Sh) : Sh := sNa S (o + 1) 20 24
def S4_1 (o t : Nat) (S : Sh) : Sh := sR (S4_0 o t S) o 3 (some (o + 1))
def S4_2 (o t : Nat) (S : Sh) : Sh := sNa (S4_1 o t S) (o + 2) 21 8
def S4_3 (o t : Nat) (S : Sh) : Sh := sR (S4_2 o t S) o 4 (some (o + 2))
def S4_4 (o t : Nat) (S : Sh) : Sh := sNa (S4_3 o t S) (o + 3) 21 8
def S4_5 (o t : Nat) (S : Sh) : Sh := sR (S4_4 o t S) o 5 (some (o + 3))
def S4_6 (o t : Nat) (S : Sh) : Sh := sR (S4_5 o t S) o 2 (some t)
def fX4_init (o : Nat) (a1 a2 : Int32) (D : Dy) (post : Dy → Prop) : Prop :=
  (∀ D1 : Dy, D1 = dN D (o + 1) → (∀ D3 : Dy, D3 = dN D1 (o + 2) → (∀ D5 : Dy, D5 = dN D3 (o + 3) → (∀ D7 : Dy, D7 = sI D5 o 0 a1 → (∀ D9 : Dy, D9 = sI D7 o 1 a2 → post D9)))))
set_option maxHeartbeats 4000000 in
set_option maxRecDepth 100000 in
theorem ct_X4_init {l : Launch} {G : Gl} {D : Dy} {kd : Nat} (hkd : kd < 6) {o t : Nat} {S : Sh} (hS : S.1 = o + 1) (hK : S.2.1 o = mcls kd + 1) {a1 a2 : Int32} {post : Dy → Prop} (E : fX4_init o a1 a2 D post) : Ct l G yX4_init cX4_init 4 none 1 3 40 S D [.ref (G.1 + o), .int a1, .int a2, .ref (G.1 + t)] (PV (S4_6 o t S) post) := by
  refine z_enter (lv0 := [(0, .ref (G.1 + o)), (1, .int a1), (2, .int a2), (3, .ref (G.1 + t))]) pl_4 (Nat.le_of_ble_eq_true rfl) rfl ?_
  intro p e s m args below meth c hC hnm
  unfold fX4_init at E
  refine z_aload_n hC dX4_init_0 rfl 0 rfl ?_
  refine z_objInit hC lko_X4_3 io_Object co_Object ⟨Nat.le_of_ble_eq_true rfl, Nat.le_of_ble_eq_true rfl⟩ (Nat.le_of_ble_eq_true rfl) dX4_init_1 ?_
  refine z_aload_n hC dX4_init_4 rfl 0 rfl ?_
  refine z_bipush (v := 24) hC dX4_init_5 rfl ?_
  refine z_newaQ (a := (o + 1)) (at_ := .int) (N := 24) (t := 20) hC rfl (Or.inl ⟨rfl, rfl⟩) ac_int (by decide) rfl (by decide) hS (Nat.le_of_ble_eq_true rfl) (Nat.le_of_ble_eq_true rfl) dX4_init_7 ?_
  rintro S' hS' D1 h2
  obtain rfl : S' = (S4_0 o t S) := hS'.trans (sNa_eq hS)
  replace E := E D1 h2
  clear hS'
  refine z_putr (a := o) (b := (o + 1)) hC (lfp_X4_9 hkd) (Or.inr ⟨hnm, lfo_X4_9 hkd⟩) (mcls_r3 hkd) (by simp [S4_0, sNa, sR, hS, hK]) dX4_init_9 ?_
  rintro S' hS'
  obtain rfl : S' = (S4_1 o t S) := hS'
  refine z_aload_n hC dX4_init_12 rfl 0 rfl ?_
  refine z_bipush (v := 8) hC dX4_init_13 rfl ?_
  refine z_newaQ (a := (o + 2)) (at_ := .long) (N := 8) (t := 21) hC rfl (Or.inr (Or.inl ⟨rfl, rfl⟩)) ac_long (by decide) rfl (by decide) rfl (Nat.le_of_ble_eq_true rfl) (Nat.le_of_ble_eq_true rfl) dX4_init_15 ?_
  rintro S' hS' D3 h4
  obtain rfl : S' = (S4_2 o t S) := hS'.trans rfl
  replace E := E D3 h4
  clear hS'
  refine z_putr (a := o) (b := (o + 2)) hC (lfp_X4_15 hkd) (Or.inr ⟨hnm, lfo_X4_15 hkd⟩) (mcls_r4 hkd) (by simp [S4_0, S4_1, S4_2, sNa, sR, hS, hK]) dX4_init_17 ?_
  rintro S' hS'
  obtain rfl : S' = (S4_3 o t S) := hS'
  refine z_aload_n hC dX4_init_20 rfl 0 rfl ?_
  refine z_bipush (v := 8) hC dX4_init_21 rfl ?_
  refine z_newaQ (a := (o + 3)) (at_ := .long) (N := 8) (t := 21) hC rfl (Or.inr (Or.inl ⟨rfl, rfl⟩)) ac_long (by decide) rfl (by decide) rfl (Nat.le_of_ble_eq_true rfl) (Nat.le_of_ble_eq_true rfl) dX4_init_23 ?_
  rintro S' hS' D5 h6
  obtain rfl : S' = (S4_4 o t S) := hS'.trans rfl
  replace E := E D5 h6
  clear hS'
  refine z_putr (a := o) (b := (o + 3)) hC (lfp_X4_19 hkd) (Or.inr ⟨hnm, lfo_X4_19 hkd⟩) (mcls_r5 hkd) (by simp [S4_0, S4_1, S4_2, S4_3, S4_4, sNa, sR, hS, hK]) dX4_init_25 ?_
  rintro S' hS'
  obtain rfl : S' = (S4_5 o t S) := hS'
  refine z_aload_n hC dX4_init_28 rfl 0 rfl ?_
  refine z_iload_n hC dX4_init_29 rfl 1 rfl ?_
  refine z_putiQ (a := o) hC (lfp_X4_22 hkd) (Or.inr ⟨hnm, lfo_X4_22 hkd⟩) (mcls_i0 hkd) (by simp [S4_0, S4_1, S4_2, S4_3, S4_4, S4_5, sNa, sR, hS, hK]) dX4_init_30 ?_
  intro D7 h8
  replace E := E D7 h8
  refine z_aload_n hC dX4_init_33 rfl 0 rfl ?_
  refine z_iload_n hC dX4_init_34 rfl 2 rfl ?_
  refine z_putiQ (a := o) hC (lfp_X4_26 hkd) (Or.inr ⟨hnm, lfo_X4_26 hkd⟩) (mcls_i1 hkd) (by simp [S4_0, S4_1, S4_2, S4_3, S4_4, S4_5, sNa, sR, hS, hK]) dX4_init_35 ?_
  intro D9 h10
  replace E := E D9 h10
  refine z_aload_n hC dX4_init_38 rfl 0 rfl ?_
  refine z_aload_n hC dX4_init_39 rfl 3 rfl ?_
  refine z_putr (a := o) (b := t) hC (lfp_X4_29 hkd) (Or.inr ⟨hnm, lfo_X4_29 hkd⟩) (mcls_r2 hkd) (by simp [S4_0, S4_1, S4_2, S4_3, S4_4, S4_5, sNa, sR, hS, hK]) dX4_init_40 ?_
  rintro S' hS'
  obtain rfl : S' = (S4_6 o t S) := hS'
  exact z_vret hC dX4_init_43 (Nat.le_of_ble_eq_true rfl) (Nat.le_of_ble_eq_true rfl) ⟨rfl, rfl, E⟩
def S7_0 (o t : Nat) (S : Sh) : Sh := S4_6 o t S
def fX7_init (o : Nat) (a1 a2 : Int32) (D : Dy) (post : Dy → Prop) : Prop :=
  (fX4_init o a1 a2 D (fun D1 : Dy => post D1))
set_option maxHeartbeats 4000000 in
set_option maxRecDepth 100000 in
theorem ct_X7_init {l : Launch} {G : Gl} {D : Dy} {kd : Nat} (hkd : kd < 6) {o t : Nat} {S : Sh} (hS : S.1 = o + 1) (hK : S.2.1 o = mcls kd + 1) {a1 a2 : Int32} {post : Dy → Prop} (E : fX7_init o a1 a2 D post) : Ct l G yX7_init cX7_init 4 none 2 3 40 S D [.ref (G.1 + o), .int a1, .int a2, .ref (G.1 + t)] (PV (S7_0 o t S) post) := by
  refine z_enter (lv0 := [(0, .ref (G.1 + o)), (1, .int a1), (2, .int a2), (3, .ref (G.1 + t))]) pl_7 (Nat.le_of_ble_eq_true rfl) rfl ?_
  intro p e s m args below meth c hC hnm
  unfold fX7_init at E
  refine z_aload_n hC dX7_init_0 rfl 0 rfl ?_
  refine z_iload_n hC dX7_init_1 rfl 1 rfl ?_
  refine z_iload_n hC dX7_init_2 rfl 2 rfl ?_
  refine z_aload_n hC dX7_init_3 rfl 3 rfl ?_
  refine z_callI (mc := 3) (ms := 40) (rest := []) (av := [.int a1, .int a2, .ref (G.1 + t)]) hC (ck_mk lk_X7_3 in_X4_init cd_X4_init ds_X4_init (Nat.le_of_ble_eq_true rfl) (Nat.le_of_ble_eq_true rfl)) rfl iy_X4_init (ct_X4_init (kd := kd) hkd hS hK E) rfl rfl (Nat.le_of_ble_eq_true rfl) ⟨Nat.le_of_ble_eq_true rfl, Nat.le_of_ble_eq_true rfl⟩ dX7_init_4 ?_
  rintro _ _ D1 ⟨rfl, rfl, E⟩
  exact z_vret hC dX7_init_7 (Nat.le_of_ble_eq_true rfl) (Nat.le_of_ble_eq_true rfl) ⟨rfl, rfl, E⟩
def S8_0 (o t : Nat) (S : Sh) : Sh := S4_6 o t S
def fX8_init (o : Nat) (a1 a2 : Int32) (D : Dy) (post : Dy → Prop) : Prop :=
  (fX4_init o a1 a2 D (fun D1 : Dy => post D1))
set_option maxHeartbeats 4000000 in
set_option maxRecDepth 100000 in
theorem ct_X8_init {l : Launch} {G : Gl} {D : Dy} {o t : Nat} {S : Sh} (hS : S.1 = o + 1) (hK : S.2.1 o = mcls 5 + 1) {a1 a2 : Int32} {post : Dy → Prop} (E : fX8_init o a1 a2 D post) : Ct l G yX8_init cX8_init 4 none 2 3 40 S D [.ref (G.1 + o), .int a1, .int a2, .ref (G.1 + t)] (PV (S8_0 o t S) post) := by
  refine z_enter (lv0 := [(0, .ref (G.1 + o)), (1, .int a1), (2, .int a2), (3, .ref (G.1 + t))]) pl_8 (Nat.le_of_ble_eq_true rfl) rfl ?_
  intro p e s m args below meth c hC hnm
  unfold fX8_init at E
  refine z_aload_n hC dX8_init_0 rfl 0 rfl ?_
  refine z_iload_n hC dX8_init_1 rfl 1 rfl ?_
  refine z_iload_n hC dX8_init_2 rfl 2 rfl ?_
  refine z_aload_n hC dX8_init_3 rfl 3 rfl ?_
  refine z_callI (mc := 3) (ms := 40) (rest := []) (av := [.int a1, .int a2, .ref (G.1 + t)]) hC (ck_mk lk_X8_1 in_X4_init cd_X4_init ds_X4_init (Nat.le_of_ble_eq_true rfl) (Nat.le_of_ble_eq_true rfl)) rfl iy_X4_init (ct_X4_init (kd := 5) (by decide) hS hK E) rfl rfl (Nat.le_of_ble_eq_true rfl) ⟨Nat.le_of_ble_eq_true rfl, Nat.le_of_ble_eq_true rfl⟩ dX8_init_4 ?_
  rintro _ _ D1 ⟨rfl, rfl, E⟩
  exact z_vret hC dX8_init_7 (Nat.le_of_ble_eq_true rfl) (Nat.le_of_ble_eq_true rfl) ⟨rfl, rfl, E⟩
def S3_0 (o t : Nat) (S : Sh) : Sh := S7_0 o t S
def fX3_init (o : Nat) (a1 a2 : Int32) (D : Dy) (post : Dy → Prop) : Prop :=
  (fX7_init o a1 a2 D (fun D1 : Dy => post D1))
set_option maxHeartbeats 4000000 in
set_option maxRecDepth 100000 in
theorem ct_X3_init {l : Launch} {G : Gl} {D : Dy} {o t : Nat} {S : Sh} (hS : S.1 = o + 1) (hK : S.2.1 o = mcls 3 + 1) {a1 a2 : Int32} {post : Dy → Prop} (E : fX3_init o a1 a2 D post) : Ct l G yX3_init cX3_init 4 none 3 3 40 S D [.ref (G.1 + o), .int a1, .int a2, .ref (G.1 + t)] (PV (S3_0 o t S) post) := by
  refine z_enter (lv0 := [(0, .ref (G.1 + o)), (1, .int a1), (2, .int a2), (3, .ref (G.1 + t))]) pl_3 (Nat.le_of_ble_eq_true rfl) rfl ?_
  intro p e s m args below meth c hC hnm
  unfold fX3_init at E
  refine z_aload_n hC dX3_init_0 rfl 0 rfl ?_
  refine z_iload_n hC dX3_init_1 rfl 1 rfl ?_
  refine z_iload_n hC dX3_init_2 rfl 2 rfl ?_
  refine z_aload_n hC dX3_init_3 rfl 3 rfl ?_
  refine z_callI (mc := 3) (ms := 40) (rest := []) (av := [.int a1, .int a2, .ref (G.1 + t)]) hC (ck_mk lk_X3_3 in_X7_init cd_X7_init ds_X7_init (Nat.le_of_ble_eq_true rfl) (Nat.le_of_ble_eq_true rfl)) rfl iy_X7_init (ct_X7_init (kd := 3) (by decide) hS hK E) rfl rfl (Nat.le_of_ble_eq_true rfl) ⟨Nat.le_of_ble_eq_true rfl, Nat.le_of_ble_eq_true rfl⟩ dX3_init_4 ?_
  rintro _ _ D1 ⟨rfl, rfl, E⟩
  exact z_vret hC dX3_init_7 (Nat.le_of_ble_eq_true rfl) (Nat.le_of_ble_eq_true rfl) ⟨rfl, rfl, E⟩
def S2_0 (o t : Nat) (S : Sh) : Sh := S7_0 o t S
def fX2_init (o : Nat) (a1 a2 : Int32) (D : Dy) (post : Dy → Prop) : Prop :=
  (fX7_init o a1 a2 D (fun D1 : Dy => post D1))
set_option maxHeartbeats 4000000 in
set_option maxRecDepth 100000 in
theorem ct_X2_init {l : Launch} {G : Gl} {D : Dy} {o t : Nat} {S : Sh} (hS : S.1 = o + 1) (hK : S.2.1 o = mcls 4 + 1) {a1 a2 : Int32} {post : Dy → Prop} (E : fX2_init o a1 a2 D post) : Ct l G yX2_init cX2_init 4 none 3 3 40 S D [.ref (G.1 + o), .int a1, .int a2, .ref (G.1 + t)] (PV (S2_0 o t S) post) := by
  refine z_enter (lv0 := [(0, .ref (G.1 + o)), (1, .int a1), (2, .int a2), (3, .ref (G.1 + t))]) pl_2 (Nat.le_of_ble_eq_true rfl) rfl ?_
  intro p e s m args below meth c hC hnm
  unfold fX2_init at E
  refine z_aload_n hC dX2_init_0 rfl 0 rfl ?_
  refine z_iload_n hC dX2_init_1 rfl 1 rfl ?_
  refine z_iload_n hC dX2_init_2 rfl 2 rfl ?_
  refine z_aload_n hC dX2_init_3 rfl 3 rfl ?_
  refine z_callI (mc := 3) (ms := 40) (rest := []) (av := [.int a1, .int a2, .ref (G.1 + t)]) hC (ck_mk lk_X2_1 in_X7_init cd_X7_init ds_X7_init (Nat.le_of_ble_eq_true rfl) (Nat.le_of_ble_eq_true rfl)) rfl iy_X7_init (ct_X7_init (kd := 4) (by decide) hS hK E) rfl rfl (Nat.le_of_ble_eq_true rfl) ⟨Nat.le_of_ble_eq_true rfl, Nat.le_of_ble_eq_true rfl⟩ dX2_init_4 ?_
  rintro _ _ D1 ⟨rfl, rfl, E⟩
  exact z_vret hC dX2_init_7 (Nat.le_of_ble_eq_true rfl) (Nat.le_of_ble_eq_true rfl) ⟨rfl, rfl, E⟩
def S5_0 (o t : Nat) (S : Sh) : Sh := S7_0 o t S
def S5_1 (o t : Nat) (S : Sh) : Sh := sNa (S5_0 o t S) (o + 4) 20 4
def S5_2 (o t : Nat) (S : Sh) : Sh := sR (S5_1 o t S) o 6 (some (o + 4))
def S5_3 (o t : Nat) (S : Sh) : Sh := sNa (S5_2 o t S) (o + 5) 20 4
def S5_4 (o t : Nat) (S : Sh) : Sh := sR (S5_3 o t S) o 7 (some (o + 5))
def fX5_init (o : Nat) (a1 a2 : Int32) (D : Dy) (post : Dy → Prop) : Prop :=
  (fX7_init o a1 a2 D (fun D1 : Dy => (∀ D2 : Dy, D2 = dN D1 (o + 4) → (∀ D4 : Dy, D4 = dN D2 (o + 5) → post D4))))
set_option maxHeartbeats 4000000 in
set_option maxRecDepth 100000 in
theorem ct_X5_init {l : Launch} {G : Gl} {D : Dy} {o t : Nat} {S : Sh} (hS : S.1 = o + 1) (hK : S.2.1 o = mcls 2 + 1) {a1 a2 : Int32} {post : Dy → Prop} (E : fX5_init o a1 a2 D post) : Ct l G yX5_init cX5_init 4 none 3 5 48 S D [.ref (G.1 + o), .int a1, .int a2, .ref (G.1 + t)] (PV (S5_4 o t S) post) := by
  refine z_enter (lv0 := [(0, .ref (G.1 + o)), (1, .int a1), (2, .int a2), (3, .ref (G.1 + t))]) pl_5 (Nat.le_of_ble_eq_true rfl) rfl ?_
  intro p e s m args below meth c hC hnm
  unfold fX5_init at E
  refine z_aload_n hC dX5_init_0 rfl 0 rfl ?_
  refine z_iload_n hC dX5_init_1 rfl 1 rfl ?_
  refine z_iload_n hC dX5_init_2 rfl 2 rfl ?_
  refine z_aload_n hC dX5_init_3 rfl 3 rfl ?_
  refine z_callI (mc := 3) (ms := 40) (rest := []) (av := [.int a1, .int a2, .ref (G.1 + t)]) hC (ck_mk lk_X5_3 in_X7_init cd_X7_init ds_X7_init (Nat.le_of_ble_eq_true rfl) (Nat.le_of_ble_eq_true rfl)) rfl iy_X7_init (ct_X7_init (kd := 2) (by decide) hS hK E) rfl rfl (Nat.le_of_ble_eq_true rfl) ⟨Nat.le_of_ble_eq_true rfl, Nat.le_of_ble_eq_true rfl⟩ dX5_init_4 ?_
  rintro _ _ D1 ⟨rfl, rfl, E⟩
  refine z_aload_n hC dX5_init_7 rfl 0 rfl ?_
  refine z_iconst (v := 4) hC dX5_init_8 rfl ?_
  refine z_newaQ (a := (o + 4)) (at_ := .int) (N := 4) (t := 20) hC rfl (Or.inl ⟨rfl, rfl⟩) ac_int (by decide) rfl (by decide) rfl (Nat.le_of_ble_eq_true rfl) (Nat.le_of_ble_eq_true rfl) dX5_init_9 ?_
  rintro S' hS' D2 h3
  obtain rfl : S' = (S5_1 o t S) := hS'.trans rfl
  replace E := E D2 h3
  clear hS'
  refine z_putr (a := o) (b := (o + 4)) hC lf_X5_9_5 (Or.inr ⟨hnm, cft cf_5 rfl⟩) rfl (by simp [S4_0, S4_1, S4_2, S4_3, S4_4, S4_5, S4_6, S7_0, S5_0, S5_1, sNa, sR, hS, hK, mcls]) dX5_init_11 ?_
  rintro S' hS'
  obtain rfl : S' = (S5_2 o t S) := hS'
  refine z_aload_n hC dX5_init_14 rfl 0 rfl ?_
  refine z_iconst (v := 4) hC dX5_init_15 rfl ?_
  refine z_newaQ (a := (o + 5)) (at_ := .int) (N := 4) (t := 20) hC rfl (Or.inl ⟨rfl, rfl⟩) ac_int (by decide) rfl (by decide) rfl (Nat.le_of_ble_eq_true rfl) (Nat.le_of_ble_eq_true rfl) dX5_init_16 ?_
  rintro S' hS' D4 h5
  obtain rfl : S' = (S5_3 o t S) := hS'.trans rfl
  replace E := E D4 h5
  clear hS'
  refine z_putr (a := o) (b := (o + 5)) hC lf_X5_15_5 (Or.inr ⟨hnm, cft cf_5 rfl⟩) rfl (by simp [S4_0, S4_1, S4_2, S4_3, S4_4, S4_5, S4_6, S7_0, S5_0, S5_1, S5_2, S5_3, sNa, sR, hS, hK, mcls]) dX5_init_18 ?_
  rintro S' hS'
  obtain rfl : S' = (S5_4 o t S) := hS'
  exact z_vret hC dX5_init_21 (Nat.le_of_ble_eq_true rfl) (Nat.le_of_ble_eq_true rfl) ⟨rfl, rfl, E⟩
