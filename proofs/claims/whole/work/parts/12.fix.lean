/-! THE TWO WORLDS: where everything lies (laid by program out of the constructors) -/
def kTab : List Nat := [12, 2, 20, 20, 20, 20, 20, 1, 20, 20, 20, 20, 20, 23, 7, 20, 20, 20, 20, 20, 20, 20, 11, 20, 20, 20, 24, 21, 21, 21, 21, 21, 21, 13, 20, 20, 20, 20, 20, 20, 20, 20, 20, 20, 20, 20, 20, 20, 20, 20, 20, 22, 20, 22, 20, 20, 20, 22, 22, 20, 20, 20, 20, 21, 21]
def nTab : List Nat := [0, 0, 6, 6, 6, 16, 3, 0, 80, 80, 80, 80, 120, 10, 0, 7, 80, 80, 128, 128, 7, 10, 0, 20, 6, 6, 6, 60, 60, 60, 60, 60, 60, 0, 6, 6, 6, 16, 80, 80, 80, 80, 10, 10, 1320, 11, 10, 6, 8, 3, 3, 60, 121, 121, 8, 7, 40320, 80640, 16, 80, 20, 6, 6, 360, 60]
def rTabX : List (Nat × Nat × Nat) := [(0, 0, 1), (0, 1, 5), (0, 2, 6), (0, 4, 7), (0, 5, 12), (0, 7, 13), (0, 9, 14), (0, 10, 21), (0, 12, 22), (0, 13, 24), (0, 14, 25), (0, 15, 26), (1, 0, 2), (1, 1, 3), (1, 2, 4), (7, 0, 8), (7, 1, 9), (7, 2, 10), (7, 3, 11), (14, 1, 15), (14, 2, 16), (14, 3, 17), (14, 5, 18), (14, 6, 19), (14, 7, 20), (22, 0, 23), (26, 0, 27), (26, 1, 28), (26, 2, 29), (26, 3, 30), (26, 4, 31), (26, 5, 32)]
def rTabM : List (Nat × Nat × Nat) := [(33, 4, 34), (33, 5, 35), (33, 6, 36), (33, 7, 37), (33, 8, 38), (33, 9, 39), (33, 10, 40), (33, 11, 41), (33, 12, 42), (33, 15, 43), (33, 16, 44), (33, 17, 45), (33, 18, 46), (33, 24, 47), (33, 25, 48), (33, 26, 49), (33, 27, 50), (33, 32, 51), (33, 34, 52), (33, 35, 53), (33, 41, 54), (33, 42, 55), (33, 43, 56), (33, 44, 57), (33, 45, 58), (33, 47, 59), (33, 49, 60), (33, 50, 61), (33, 51, 62), (33, 52, 63), (33, 53, 64)]
def FX (S : Sh) (mdl : Nat → Option (Nat × Nat)) : Prop := (∀ a, a < 33 → S.2.1 a = kTab.getD a 0 ∧ S.2.2.1 a = nTab.getD a 0) ∧ (∀ q ∈ rTabX, S.2.2.2 q.1 q.2.1 = some q.2.2) ∧ (∀ i, i < 10 → S.2.2.2 13 i = (mdl i).map (fun q => q.1 + 9)) ∧ ∀ i, i < 10 → ∀ t kd, mdl i = some (t, kd) → FMo S t kd
def FM (S : Sh) : Prop := (∀ a, 33 ≤ a → a < 65 → S.2.1 a = kTab.getD a 0 ∧ S.2.2.1 a = nTab.getD a 0) ∧ ∀ q ∈ rTabM, S.2.2.2 q.1 q.2.1 = some q.2.2
theorem FX.mo {S : Sh} {mdl : Nat → Option (Nat × Nat)} (h : FX S mdl) {i t kd : Nat} (hi : i < 10) (hm : mdl i = some (t, kd)) : FMo S t kd := h.2.2.2 i hi t kd hm
theorem kX_0 {S : Sh} {mdl : Nat → Option (Nat × Nat)} (h : FX S mdl) : S.2.1 0 = 12 := (h.1 0 (by decide)).1
theorem kX_1 {S : Sh} {mdl : Nat → Option (Nat × Nat)} (h : FX S mdl) : S.2.1 1 = 2 := (h.1 1 (by decide)).1
theorem kX_2 {S : Sh} {mdl : Nat → Option (Nat × Nat)} (h : FX S mdl) : S.2.1 2 = 20 := (h.1 2 (by decide)).1
theorem nX_2 {S : Sh} {mdl : Nat → Option (Nat × Nat)} (h : FX S mdl) : S.2.2.1 2 = 6 := (h.1 2 (by decide)).2
theorem kX_3 {S : Sh} {mdl : Nat → Option (Nat × Nat)} (h : FX S mdl) : S.2.1 3 = 20 := (h.1 3 (by decide)).1
theorem nX_3 {S : Sh} {mdl : Nat → Option (Nat × Nat)} (h : FX S mdl) : S.2.2.1 3 = 6 := (h.1 3 (by decide)).2
theorem kX_4 {S : Sh} {mdl : Nat → Option (Nat × Nat)} (h : FX S mdl) : S.2.1 4 = 20 := (h.1 4 (by decide)).1
theorem nX_4 {S : Sh} {mdl : Nat → Option (Nat × Nat)} (h : FX S mdl) : S.2.2.1 4 = 6 := (h.1 4 (by decide)).2
theorem kX_5 {S : Sh} {mdl : Nat → Option (Nat × Nat)} (h : FX S mdl) : S.2.1 5 = 20 := (h.1 5 (by decide)).1
theorem nX_5 {S : Sh} {mdl : Nat → Option (Nat × Nat)} (h : FX S mdl) : S.2.2.1 5 = 16 := (h.1 5 (by decide)).2
theorem kX_6 {S : Sh} {mdl : Nat → Option (Nat × Nat)} (h : FX S mdl) : S.2.1 6 = 20 := (h.1 6 (by decide)).1
theorem nX_6 {S : Sh} {mdl : Nat → Option (Nat × Nat)} (h : FX S mdl) : S.2.2.1 6 = 3 := (h.1 6 (by decide)).2
theorem kX_7 {S : Sh} {mdl : Nat → Option (Nat × Nat)} (h : FX S mdl) : S.2.1 7 = 1 := (h.1 7 (by decide)).1
theorem kX_8 {S : Sh} {mdl : Nat → Option (Nat × Nat)} (h : FX S mdl) : S.2.1 8 = 20 := (h.1 8 (by decide)).1
theorem nX_8 {S : Sh} {mdl : Nat → Option (Nat × Nat)} (h : FX S mdl) : S.2.2.1 8 = 80 := (h.1 8 (by decide)).2
theorem kX_9 {S : Sh} {mdl : Nat → Option (Nat × Nat)} (h : FX S mdl) : S.2.1 9 = 20 := (h.1 9 (by decide)).1
theorem nX_9 {S : Sh} {mdl : Nat → Option (Nat × Nat)} (h : FX S mdl) : S.2.2.1 9 = 80 := (h.1 9 (by decide)).2
theorem kX_10 {S : Sh} {mdl : Nat → Option (Nat × Nat)} (h : FX S mdl) : S.2.1 10 = 20 := (h.1 10 (by decide)).1
theorem nX_10 {S : Sh} {mdl : Nat → Option (Nat × Nat)} (h : FX S mdl) : S.2.2.1 10 = 80 := (h.1 10 (by decide)).2
theorem kX_11 {S : Sh} {mdl : Nat → Option (Nat × Nat)} (h : FX S mdl) : S.2.1 11 = 20 := (h.1 11 (by decide)).1
theorem nX_11 {S : Sh} {mdl : Nat → Option (Nat × Nat)} (h : FX S mdl) : S.2.2.1 11 = 80 := (h.1 11 (by decide)).2
theorem kX_12 {S : Sh} {mdl : Nat → Option (Nat × Nat)} (h : FX S mdl) : S.2.1 12 = 20 := (h.1 12 (by decide)).1
theorem nX_12 {S : Sh} {mdl : Nat → Option (Nat × Nat)} (h : FX S mdl) : S.2.2.1 12 = 120 := (h.1 12 (by decide)).2
theorem kX_13 {S : Sh} {mdl : Nat → Option (Nat × Nat)} (h : FX S mdl) : S.2.1 13 = 23 := (h.1 13 (by decide)).1
theorem nX_13 {S : Sh} {mdl : Nat → Option (Nat × Nat)} (h : FX S mdl) : S.2.2.1 13 = 10 := (h.1 13 (by decide)).2
theorem kX_14 {S : Sh} {mdl : Nat → Option (Nat × Nat)} (h : FX S mdl) : S.2.1 14 = 7 := (h.1 14 (by decide)).1
theorem kX_15 {S : Sh} {mdl : Nat → Option (Nat × Nat)} (h : FX S mdl) : S.2.1 15 = 20 := (h.1 15 (by decide)).1
theorem nX_15 {S : Sh} {mdl : Nat → Option (Nat × Nat)} (h : FX S mdl) : S.2.2.1 15 = 7 := (h.1 15 (by decide)).2
theorem kX_16 {S : Sh} {mdl : Nat → Option (Nat × Nat)} (h : FX S mdl) : S.2.1 16 = 20 := (h.1 16 (by decide)).1
theorem nX_16 {S : Sh} {mdl : Nat → Option (Nat × Nat)} (h : FX S mdl) : S.2.2.1 16 = 80 := (h.1 16 (by decide)).2
theorem kX_17 {S : Sh} {mdl : Nat → Option (Nat × Nat)} (h : FX S mdl) : S.2.1 17 = 20 := (h.1 17 (by decide)).1
theorem nX_17 {S : Sh} {mdl : Nat → Option (Nat × Nat)} (h : FX S mdl) : S.2.2.1 17 = 80 := (h.1 17 (by decide)).2
theorem kX_18 {S : Sh} {mdl : Nat → Option (Nat × Nat)} (h : FX S mdl) : S.2.1 18 = 20 := (h.1 18 (by decide)).1
theorem nX_18 {S : Sh} {mdl : Nat → Option (Nat × Nat)} (h : FX S mdl) : S.2.2.1 18 = 128 := (h.1 18 (by decide)).2
theorem kX_19 {S : Sh} {mdl : Nat → Option (Nat × Nat)} (h : FX S mdl) : S.2.1 19 = 20 := (h.1 19 (by decide)).1
theorem nX_19 {S : Sh} {mdl : Nat → Option (Nat × Nat)} (h : FX S mdl) : S.2.2.1 19 = 128 := (h.1 19 (by decide)).2
theorem kX_20 {S : Sh} {mdl : Nat → Option (Nat × Nat)} (h : FX S mdl) : S.2.1 20 = 20 := (h.1 20 (by decide)).1
theorem nX_20 {S : Sh} {mdl : Nat → Option (Nat × Nat)} (h : FX S mdl) : S.2.2.1 20 = 7 := (h.1 20 (by decide)).2
theorem kX_21 {S : Sh} {mdl : Nat → Option (Nat × Nat)} (h : FX S mdl) : S.2.1 21 = 20 := (h.1 21 (by decide)).1
theorem nX_21 {S : Sh} {mdl : Nat → Option (Nat × Nat)} (h : FX S mdl) : S.2.2.1 21 = 10 := (h.1 21 (by decide)).2
theorem kX_22 {S : Sh} {mdl : Nat → Option (Nat × Nat)} (h : FX S mdl) : S.2.1 22 = 11 := (h.1 22 (by decide)).1
theorem kX_23 {S : Sh} {mdl : Nat → Option (Nat × Nat)} (h : FX S mdl) : S.2.1 23 = 20 := (h.1 23 (by decide)).1
theorem nX_23 {S : Sh} {mdl : Nat → Option (Nat × Nat)} (h : FX S mdl) : S.2.2.1 23 = 20 := (h.1 23 (by decide)).2
theorem kX_24 {S : Sh} {mdl : Nat → Option (Nat × Nat)} (h : FX S mdl) : S.2.1 24 = 20 := (h.1 24 (by decide)).1
theorem nX_24 {S : Sh} {mdl : Nat → Option (Nat × Nat)} (h : FX S mdl) : S.2.2.1 24 = 6 := (h.1 24 (by decide)).2
theorem kX_25 {S : Sh} {mdl : Nat → Option (Nat × Nat)} (h : FX S mdl) : S.2.1 25 = 20 := (h.1 25 (by decide)).1
theorem nX_25 {S : Sh} {mdl : Nat → Option (Nat × Nat)} (h : FX S mdl) : S.2.2.1 25 = 6 := (h.1 25 (by decide)).2
theorem kX_26 {S : Sh} {mdl : Nat → Option (Nat × Nat)} (h : FX S mdl) : S.2.1 26 = 24 := (h.1 26 (by decide)).1
theorem nX_26 {S : Sh} {mdl : Nat → Option (Nat × Nat)} (h : FX S mdl) : S.2.2.1 26 = 6 := (h.1 26 (by decide)).2
theorem kX_27 {S : Sh} {mdl : Nat → Option (Nat × Nat)} (h : FX S mdl) : S.2.1 27 = 21 := (h.1 27 (by decide)).1
theorem nX_27 {S : Sh} {mdl : Nat → Option (Nat × Nat)} (h : FX S mdl) : S.2.2.1 27 = 60 := (h.1 27 (by decide)).2
theorem kX_28 {S : Sh} {mdl : Nat → Option (Nat × Nat)} (h : FX S mdl) : S.2.1 28 = 21 := (h.1 28 (by decide)).1
theorem nX_28 {S : Sh} {mdl : Nat → Option (Nat × Nat)} (h : FX S mdl) : S.2.2.1 28 = 60 := (h.1 28 (by decide)).2
theorem kX_29 {S : Sh} {mdl : Nat → Option (Nat × Nat)} (h : FX S mdl) : S.2.1 29 = 21 := (h.1 29 (by decide)).1
theorem nX_29 {S : Sh} {mdl : Nat → Option (Nat × Nat)} (h : FX S mdl) : S.2.2.1 29 = 60 := (h.1 29 (by decide)).2
theorem kX_30 {S : Sh} {mdl : Nat → Option (Nat × Nat)} (h : FX S mdl) : S.2.1 30 = 21 := (h.1 30 (by decide)).1
theorem nX_30 {S : Sh} {mdl : Nat → Option (Nat × Nat)} (h : FX S mdl) : S.2.2.1 30 = 60 := (h.1 30 (by decide)).2
theorem kX_31 {S : Sh} {mdl : Nat → Option (Nat × Nat)} (h : FX S mdl) : S.2.1 31 = 21 := (h.1 31 (by decide)).1
theorem nX_31 {S : Sh} {mdl : Nat → Option (Nat × Nat)} (h : FX S mdl) : S.2.2.1 31 = 60 := (h.1 31 (by decide)).2
theorem kX_32 {S : Sh} {mdl : Nat → Option (Nat × Nat)} (h : FX S mdl) : S.2.1 32 = 21 := (h.1 32 (by decide)).1
theorem nX_32 {S : Sh} {mdl : Nat → Option (Nat × Nat)} (h : FX S mdl) : S.2.2.1 32 = 60 := (h.1 32 (by decide)).2
theorem kM_33 {S : Sh} (h : FM S) : S.2.1 33 = 13 := (h.1 33 (by decide) (by decide)).1
theorem kM_34 {S : Sh} (h : FM S) : S.2.1 34 = 20 := (h.1 34 (by decide) (by decide)).1
theorem nM_34 {S : Sh} (h : FM S) : S.2.2.1 34 = 6 := (h.1 34 (by decide) (by decide)).2
theorem kM_35 {S : Sh} (h : FM S) : S.2.1 35 = 20 := (h.1 35 (by decide) (by decide)).1
theorem nM_35 {S : Sh} (h : FM S) : S.2.2.1 35 = 6 := (h.1 35 (by decide) (by decide)).2
theorem kM_36 {S : Sh} (h : FM S) : S.2.1 36 = 20 := (h.1 36 (by decide) (by decide)).1
theorem nM_36 {S : Sh} (h : FM S) : S.2.2.1 36 = 6 := (h.1 36 (by decide) (by decide)).2
theorem kM_37 {S : Sh} (h : FM S) : S.2.1 37 = 20 := (h.1 37 (by decide) (by decide)).1
theorem nM_37 {S : Sh} (h : FM S) : S.2.2.1 37 = 16 := (h.1 37 (by decide) (by decide)).2
theorem kM_38 {S : Sh} (h : FM S) : S.2.1 38 = 20 := (h.1 38 (by decide) (by decide)).1
theorem nM_38 {S : Sh} (h : FM S) : S.2.2.1 38 = 80 := (h.1 38 (by decide) (by decide)).2
theorem kM_39 {S : Sh} (h : FM S) : S.2.1 39 = 20 := (h.1 39 (by decide) (by decide)).1
theorem nM_39 {S : Sh} (h : FM S) : S.2.2.1 39 = 80 := (h.1 39 (by decide) (by decide)).2
theorem kM_40 {S : Sh} (h : FM S) : S.2.1 40 = 20 := (h.1 40 (by decide) (by decide)).1
theorem nM_40 {S : Sh} (h : FM S) : S.2.2.1 40 = 80 := (h.1 40 (by decide) (by decide)).2
theorem kM_41 {S : Sh} (h : FM S) : S.2.1 41 = 20 := (h.1 41 (by decide) (by decide)).1
theorem nM_41 {S : Sh} (h : FM S) : S.2.2.1 41 = 80 := (h.1 41 (by decide) (by decide)).2
theorem kM_42 {S : Sh} (h : FM S) : S.2.1 42 = 20 := (h.1 42 (by decide) (by decide)).1
theorem nM_42 {S : Sh} (h : FM S) : S.2.2.1 42 = 10 := (h.1 42 (by decide) (by decide)).2
theorem kM_43 {S : Sh} (h : FM S) : S.2.1 43 = 20 := (h.1 43 (by decide) (by decide)).1
theorem nM_43 {S : Sh} (h : FM S) : S.2.2.1 43 = 10 := (h.1 43 (by decide) (by decide)).2
theorem kM_44 {S : Sh} (h : FM S) : S.2.1 44 = 20 := (h.1 44 (by decide) (by decide)).1
theorem nM_44 {S : Sh} (h : FM S) : S.2.2.1 44 = 1320 := (h.1 44 (by decide) (by decide)).2
theorem kM_45 {S : Sh} (h : FM S) : S.2.1 45 = 20 := (h.1 45 (by decide) (by decide)).1
theorem nM_45 {S : Sh} (h : FM S) : S.2.2.1 45 = 11 := (h.1 45 (by decide) (by decide)).2
theorem kM_46 {S : Sh} (h : FM S) : S.2.1 46 = 20 := (h.1 46 (by decide) (by decide)).1
theorem nM_46 {S : Sh} (h : FM S) : S.2.2.1 46 = 10 := (h.1 46 (by decide) (by decide)).2
theorem kM_47 {S : Sh} (h : FM S) : S.2.1 47 = 20 := (h.1 47 (by decide) (by decide)).1
theorem nM_47 {S : Sh} (h : FM S) : S.2.2.1 47 = 6 := (h.1 47 (by decide) (by decide)).2
theorem kM_48 {S : Sh} (h : FM S) : S.2.1 48 = 20 := (h.1 48 (by decide) (by decide)).1
theorem nM_48 {S : Sh} (h : FM S) : S.2.2.1 48 = 8 := (h.1 48 (by decide) (by decide)).2
theorem kM_49 {S : Sh} (h : FM S) : S.2.1 49 = 20 := (h.1 49 (by decide) (by decide)).1
theorem nM_49 {S : Sh} (h : FM S) : S.2.2.1 49 = 3 := (h.1 49 (by decide) (by decide)).2
theorem kM_50 {S : Sh} (h : FM S) : S.2.1 50 = 20 := (h.1 50 (by decide) (by decide)).1
theorem nM_50 {S : Sh} (h : FM S) : S.2.2.1 50 = 3 := (h.1 50 (by decide) (by decide)).2
theorem kM_51 {S : Sh} (h : FM S) : S.2.1 51 = 22 := (h.1 51 (by decide) (by decide)).1
theorem nM_51 {S : Sh} (h : FM S) : S.2.2.1 51 = 60 := (h.1 51 (by decide) (by decide)).2
theorem kM_52 {S : Sh} (h : FM S) : S.2.1 52 = 20 := (h.1 52 (by decide) (by decide)).1
theorem nM_52 {S : Sh} (h : FM S) : S.2.2.1 52 = 121 := (h.1 52 (by decide) (by decide)).2
theorem kM_53 {S : Sh} (h : FM S) : S.2.1 53 = 22 := (h.1 53 (by decide) (by decide)).1
theorem nM_53 {S : Sh} (h : FM S) : S.2.2.1 53 = 121 := (h.1 53 (by decide) (by decide)).2
theorem kM_54 {S : Sh} (h : FM S) : S.2.1 54 = 20 := (h.1 54 (by decide) (by decide)).1
theorem nM_54 {S : Sh} (h : FM S) : S.2.2.1 54 = 8 := (h.1 54 (by decide) (by decide)).2
theorem kM_55 {S : Sh} (h : FM S) : S.2.1 55 = 20 := (h.1 55 (by decide) (by decide)).1
theorem nM_55 {S : Sh} (h : FM S) : S.2.2.1 55 = 7 := (h.1 55 (by decide) (by decide)).2
theorem kM_56 {S : Sh} (h : FM S) : S.2.1 56 = 20 := (h.1 56 (by decide) (by decide)).1
theorem nM_56 {S : Sh} (h : FM S) : S.2.2.1 56 = 40320 := (h.1 56 (by decide) (by decide)).2
theorem kM_57 {S : Sh} (h : FM S) : S.2.1 57 = 22 := (h.1 57 (by decide) (by decide)).1
theorem nM_57 {S : Sh} (h : FM S) : S.2.2.1 57 = 80640 := (h.1 57 (by decide) (by decide)).2
theorem kM_58 {S : Sh} (h : FM S) : S.2.1 58 = 22 := (h.1 58 (by decide) (by decide)).1
theorem nM_58 {S : Sh} (h : FM S) : S.2.2.1 58 = 16 := (h.1 58 (by decide) (by decide)).2
theorem kM_59 {S : Sh} (h : FM S) : S.2.1 59 = 20 := (h.1 59 (by decide) (by decide)).1
theorem nM_59 {S : Sh} (h : FM S) : S.2.2.1 59 = 80 := (h.1 59 (by decide) (by decide)).2
theorem kM_60 {S : Sh} (h : FM S) : S.2.1 60 = 20 := (h.1 60 (by decide) (by decide)).1
theorem nM_60 {S : Sh} (h : FM S) : S.2.2.1 60 = 20 := (h.1 60 (by decide) (by decide)).2
theorem kM_61 {S : Sh} (h : FM S) : S.2.1 61 = 20 := (h.1 61 (by decide) (by decide)).1
theorem nM_61 {S : Sh} (h : FM S) : S.2.2.1 61 = 6 := (h.1 61 (by decide) (by decide)).2
theorem kM_62 {S : Sh} (h : FM S) : S.2.1 62 = 20 := (h.1 62 (by decide) (by decide)).1
theorem nM_62 {S : Sh} (h : FM S) : S.2.2.1 62 = 6 := (h.1 62 (by decide) (by decide)).2
theorem kM_63 {S : Sh} (h : FM S) : S.2.1 63 = 21 := (h.1 63 (by decide) (by decide)).1
theorem nM_63 {S : Sh} (h : FM S) : S.2.2.1 63 = 360 := (h.1 63 (by decide) (by decide)).2
theorem kM_64 {S : Sh} (h : FM S) : S.2.1 64 = 21 := (h.1 64 (by decide) (by decide)).1
theorem nM_64 {S : Sh} (h : FM S) : S.2.2.1 64 = 60 := (h.1 64 (by decide) (by decide)).2
theorem rX_0_0 {S : Sh} {mdl : Nat → Option (Nat × Nat)} (h : FX S mdl) : S.2.2.2 0 0 = some 1 := h.2.1 (0, 0, 1) (List.mem_of_getElem? (i := 0) rfl)
theorem rX_0_1 {S : Sh} {mdl : Nat → Option (Nat × Nat)} (h : FX S mdl) : S.2.2.2 0 1 = some 5 := h.2.1 (0, 1, 5) (List.mem_of_getElem? (i := 1) rfl)
theorem rX_0_2 {S : Sh} {mdl : Nat → Option (Nat × Nat)} (h : FX S mdl) : S.2.2.2 0 2 = some 6 := h.2.1 (0, 2, 6) (List.mem_of_getElem? (i := 2) rfl)
theorem rX_0_4 {S : Sh} {mdl : Nat → Option (Nat × Nat)} (h : FX S mdl) : S.2.2.2 0 4 = some 7 := h.2.1 (0, 4, 7) (List.mem_of_getElem? (i := 3) rfl)
theorem rX_0_5 {S : Sh} {mdl : Nat → Option (Nat × Nat)} (h : FX S mdl) : S.2.2.2 0 5 = some 12 := h.2.1 (0, 5, 12) (List.mem_of_getElem? (i := 4) rfl)
theorem rX_0_7 {S : Sh} {mdl : Nat → Option (Nat × Nat)} (h : FX S mdl) : S.2.2.2 0 7 = some 13 := h.2.1 (0, 7, 13) (List.mem_of_getElem? (i := 5) rfl)
theorem rX_0_9 {S : Sh} {mdl : Nat → Option (Nat × Nat)} (h : FX S mdl) : S.2.2.2 0 9 = some 14 := h.2.1 (0, 9, 14) (List.mem_of_getElem? (i := 6) rfl)
theorem rX_0_10 {S : Sh} {mdl : Nat → Option (Nat × Nat)} (h : FX S mdl) : S.2.2.2 0 10 = some 21 := h.2.1 (0, 10, 21) (List.mem_of_getElem? (i := 7) rfl)
theorem rX_0_12 {S : Sh} {mdl : Nat → Option (Nat × Nat)} (h : FX S mdl) : S.2.2.2 0 12 = some 22 := h.2.1 (0, 12, 22) (List.mem_of_getElem? (i := 8) rfl)
theorem rX_0_13 {S : Sh} {mdl : Nat → Option (Nat × Nat)} (h : FX S mdl) : S.2.2.2 0 13 = some 24 := h.2.1 (0, 13, 24) (List.mem_of_getElem? (i := 9) rfl)
theorem rX_0_14 {S : Sh} {mdl : Nat → Option (Nat × Nat)} (h : FX S mdl) : S.2.2.2 0 14 = some 25 := h.2.1 (0, 14, 25) (List.mem_of_getElem? (i := 10) rfl)
theorem rX_0_15 {S : Sh} {mdl : Nat → Option (Nat × Nat)} (h : FX S mdl) : S.2.2.2 0 15 = some 26 := h.2.1 (0, 15, 26) (List.mem_of_getElem? (i := 11) rfl)
theorem rX_1_0 {S : Sh} {mdl : Nat → Option (Nat × Nat)} (h : FX S mdl) : S.2.2.2 1 0 = some 2 := h.2.1 (1, 0, 2) (List.mem_of_getElem? (i := 12) rfl)
theorem rX_1_1 {S : Sh} {mdl : Nat → Option (Nat × Nat)} (h : FX S mdl) : S.2.2.2 1 1 = some 3 := h.2.1 (1, 1, 3) (List.mem_of_getElem? (i := 13) rfl)
theorem rX_1_2 {S : Sh} {mdl : Nat → Option (Nat × Nat)} (h : FX S mdl) : S.2.2.2 1 2 = some 4 := h.2.1 (1, 2, 4) (List.mem_of_getElem? (i := 14) rfl)
theorem rX_7_0 {S : Sh} {mdl : Nat → Option (Nat × Nat)} (h : FX S mdl) : S.2.2.2 7 0 = some 8 := h.2.1 (7, 0, 8) (List.mem_of_getElem? (i := 15) rfl)
theorem rX_7_1 {S : Sh} {mdl : Nat → Option (Nat × Nat)} (h : FX S mdl) : S.2.2.2 7 1 = some 9 := h.2.1 (7, 1, 9) (List.mem_of_getElem? (i := 16) rfl)
theorem rX_7_2 {S : Sh} {mdl : Nat → Option (Nat × Nat)} (h : FX S mdl) : S.2.2.2 7 2 = some 10 := h.2.1 (7, 2, 10) (List.mem_of_getElem? (i := 17) rfl)
theorem rX_7_3 {S : Sh} {mdl : Nat → Option (Nat × Nat)} (h : FX S mdl) : S.2.2.2 7 3 = some 11 := h.2.1 (7, 3, 11) (List.mem_of_getElem? (i := 18) rfl)
theorem rX_14_1 {S : Sh} {mdl : Nat → Option (Nat × Nat)} (h : FX S mdl) : S.2.2.2 14 1 = some 15 := h.2.1 (14, 1, 15) (List.mem_of_getElem? (i := 19) rfl)
theorem rX_14_2 {S : Sh} {mdl : Nat → Option (Nat × Nat)} (h : FX S mdl) : S.2.2.2 14 2 = some 16 := h.2.1 (14, 2, 16) (List.mem_of_getElem? (i := 20) rfl)
theorem rX_14_3 {S : Sh} {mdl : Nat → Option (Nat × Nat)} (h : FX S mdl) : S.2.2.2 14 3 = some 17 := h.2.1 (14, 3, 17) (List.mem_of_getElem? (i := 21) rfl)
theorem rX_14_5 {S : Sh} {mdl : Nat → Option (Nat × Nat)} (h : FX S mdl) : S.2.2.2 14 5 = some 18 := h.2.1 (14, 5, 18) (List.mem_of_getElem? (i := 22) rfl)
theorem rX_14_6 {S : Sh} {mdl : Nat → Option (Nat × Nat)} (h : FX S mdl) : S.2.2.2 14 6 = some 19 := h.2.1 (14, 6, 19) (List.mem_of_getElem? (i := 23) rfl)
theorem rX_14_7 {S : Sh} {mdl : Nat → Option (Nat × Nat)} (h : FX S mdl) : S.2.2.2 14 7 = some 20 := h.2.1 (14, 7, 20) (List.mem_of_getElem? (i := 24) rfl)
theorem rX_22_0 {S : Sh} {mdl : Nat → Option (Nat × Nat)} (h : FX S mdl) : S.2.2.2 22 0 = some 23 := h.2.1 (22, 0, 23) (List.mem_of_getElem? (i := 25) rfl)
theorem rX_26_0 {S : Sh} {mdl : Nat → Option (Nat × Nat)} (h : FX S mdl) : S.2.2.2 26 0 = some 27 := h.2.1 (26, 0, 27) (List.mem_of_getElem? (i := 26) rfl)
theorem rX_26_1 {S : Sh} {mdl : Nat → Option (Nat × Nat)} (h : FX S mdl) : S.2.2.2 26 1 = some 28 := h.2.1 (26, 1, 28) (List.mem_of_getElem? (i := 27) rfl)
theorem rX_26_2 {S : Sh} {mdl : Nat → Option (Nat × Nat)} (h : FX S mdl) : S.2.2.2 26 2 = some 29 := h.2.1 (26, 2, 29) (List.mem_of_getElem? (i := 28) rfl)
theorem rX_26_3 {S : Sh} {mdl : Nat → Option (Nat × Nat)} (h : FX S mdl) : S.2.2.2 26 3 = some 30 := h.2.1 (26, 3, 30) (List.mem_of_getElem? (i := 29) rfl)
theorem rX_26_4 {S : Sh} {mdl : Nat → Option (Nat × Nat)} (h : FX S mdl) : S.2.2.2 26 4 = some 31 := h.2.1 (26, 4, 31) (List.mem_of_getElem? (i := 30) rfl)
theorem rX_26_5 {S : Sh} {mdl : Nat → Option (Nat × Nat)} (h : FX S mdl) : S.2.2.2 26 5 = some 32 := h.2.1 (26, 5, 32) (List.mem_of_getElem? (i := 31) rfl)
theorem rM_33_4 {S : Sh} (h : FM S) : S.2.2.2 33 4 = some 34 := h.2 (33, 4, 34) (List.mem_of_getElem? (i := 0) rfl)
theorem rM_33_5 {S : Sh} (h : FM S) : S.2.2.2 33 5 = some 35 := h.2 (33, 5, 35) (List.mem_of_getElem? (i := 1) rfl)
theorem rM_33_6 {S : Sh} (h : FM S) : S.2.2.2 33 6 = some 36 := h.2 (33, 6, 36) (List.mem_of_getElem? (i := 2) rfl)
theorem rM_33_7 {S : Sh} (h : FM S) : S.2.2.2 33 7 = some 37 := h.2 (33, 7, 37) (List.mem_of_getElem? (i := 3) rfl)
theorem rM_33_8 {S : Sh} (h : FM S) : S.2.2.2 33 8 = some 38 := h.2 (33, 8, 38) (List.mem_of_getElem? (i := 4) rfl)
theorem rM_33_9 {S : Sh} (h : FM S) : S.2.2.2 33 9 = some 39 := h.2 (33, 9, 39) (List.mem_of_getElem? (i := 5) rfl)
theorem rM_33_10 {S : Sh} (h : FM S) : S.2.2.2 33 10 = some 40 := h.2 (33, 10, 40) (List.mem_of_getElem? (i := 6) rfl)
theorem rM_33_11 {S : Sh} (h : FM S) : S.2.2.2 33 11 = some 41 := h.2 (33, 11, 41) (List.mem_of_getElem? (i := 7) rfl)
theorem rM_33_12 {S : Sh} (h : FM S) : S.2.2.2 33 12 = some 42 := h.2 (33, 12, 42) (List.mem_of_getElem? (i := 8) rfl)
theorem rM_33_15 {S : Sh} (h : FM S) : S.2.2.2 33 15 = some 43 := h.2 (33, 15, 43) (List.mem_of_getElem? (i := 9) rfl)
theorem rM_33_16 {S : Sh} (h : FM S) : S.2.2.2 33 16 = some 44 := h.2 (33, 16, 44) (List.mem_of_getElem? (i := 10) rfl)
theorem rM_33_17 {S : Sh} (h : FM S) : S.2.2.2 33 17 = some 45 := h.2 (33, 17, 45) (List.mem_of_getElem? (i := 11) rfl)
theorem rM_33_18 {S : Sh} (h : FM S) : S.2.2.2 33 18 = some 46 := h.2 (33, 18, 46) (List.mem_of_getElem? (i := 12) rfl)
theorem rM_33_24 {S : Sh} (h : FM S) : S.2.2.2 33 24 = some 47 := h.2 (33, 24, 47) (List.mem_of_getElem? (i := 13) rfl)
theorem rM_33_25 {S : Sh} (h : FM S) : S.2.2.2 33 25 = some 48 := h.2 (33, 25, 48) (List.mem_of_getElem? (i := 14) rfl)
theorem rM_33_26 {S : Sh} (h : FM S) : S.2.2.2 33 26 = some 49 := h.2 (33, 26, 49) (List.mem_of_getElem? (i := 15) rfl)
theorem rM_33_27 {S : Sh} (h : FM S) : S.2.2.2 33 27 = some 50 := h.2 (33, 27, 50) (List.mem_of_getElem? (i := 16) rfl)
theorem rM_33_32 {S : Sh} (h : FM S) : S.2.2.2 33 32 = some 51 := h.2 (33, 32, 51) (List.mem_of_getElem? (i := 17) rfl)
theorem rM_33_34 {S : Sh} (h : FM S) : S.2.2.2 33 34 = some 52 := h.2 (33, 34, 52) (List.mem_of_getElem? (i := 18) rfl)
theorem rM_33_35 {S : Sh} (h : FM S) : S.2.2.2 33 35 = some 53 := h.2 (33, 35, 53) (List.mem_of_getElem? (i := 19) rfl)
theorem rM_33_41 {S : Sh} (h : FM S) : S.2.2.2 33 41 = some 54 := h.2 (33, 41, 54) (List.mem_of_getElem? (i := 20) rfl)
theorem rM_33_42 {S : Sh} (h : FM S) : S.2.2.2 33 42 = some 55 := h.2 (33, 42, 55) (List.mem_of_getElem? (i := 21) rfl)
theorem rM_33_43 {S : Sh} (h : FM S) : S.2.2.2 33 43 = some 56 := h.2 (33, 43, 56) (List.mem_of_getElem? (i := 22) rfl)
theorem rM_33_44 {S : Sh} (h : FM S) : S.2.2.2 33 44 = some 57 := h.2 (33, 44, 57) (List.mem_of_getElem? (i := 23) rfl)
theorem rM_33_45 {S : Sh} (h : FM S) : S.2.2.2 33 45 = some 58 := h.2 (33, 45, 58) (List.mem_of_getElem? (i := 24) rfl)
theorem rM_33_47 {S : Sh} (h : FM S) : S.2.2.2 33 47 = some 59 := h.2 (33, 47, 59) (List.mem_of_getElem? (i := 25) rfl)
theorem rM_33_49 {S : Sh} (h : FM S) : S.2.2.2 33 49 = some 60 := h.2 (33, 49, 60) (List.mem_of_getElem? (i := 26) rfl)
theorem rM_33_50 {S : Sh} (h : FM S) : S.2.2.2 33 50 = some 61 := h.2 (33, 50, 61) (List.mem_of_getElem? (i := 27) rfl)
theorem rM_33_51 {S : Sh} (h : FM S) : S.2.2.2 33 51 = some 62 := h.2 (33, 51, 62) (List.mem_of_getElem? (i := 28) rfl)
theorem rM_33_52 {S : Sh} (h : FM S) : S.2.2.2 33 52 = some 63 := h.2 (33, 52, 63) (List.mem_of_getElem? (i := 29) rfl)
theorem rM_33_53 {S : Sh} (h : FM S) : S.2.2.2 33 53 = some 64 := h.2 (33, 53, 64) (List.mem_of_getElem? (i := 30) rfl)
theorem kRow {S : Sh} {mdl : Nat → Option (Nat × Nat)} (h : FX S mdl) {i : Int32} (hi : vp_in i 6) : S.2.1 (27 + i.toNatClampNeg) = 21 := by
  have hl := vp_lt hi
  rw [(h.1 (27 + i.toNatClampNeg) (by omega)).1]
  obtain h0 | h0 | h0 | h0 | h0 | h0 : i.toNatClampNeg = 0 ∨ i.toNatClampNeg = 1 ∨ i.toNatClampNeg = 2 ∨ i.toNatClampNeg = 3 ∨ i.toNatClampNeg = 4 ∨ i.toNatClampNeg = 5 := by omega
  all_goals rw [h0]; rfl
theorem nRow {S : Sh} {mdl : Nat → Option (Nat × Nat)} (h : FX S mdl) {i : Int32} (hi : vp_in i 6) : S.2.2.1 (27 + i.toNatClampNeg) = 60 := by
  have hl := vp_lt hi
  rw [(h.1 (27 + i.toNatClampNeg) (by omega)).2]
  obtain h0 | h0 | h0 | h0 | h0 | h0 : i.toNatClampNeg = 0 ∨ i.toNatClampNeg = 1 ∨ i.toNatClampNeg = 2 ∨ i.toNatClampNeg = 3 ∨ i.toNatClampNeg = 4 ∨ i.toNatClampNeg = 5 := by omega
  all_goals rw [h0]; rfl
theorem z_cut {a b : Prop} (ha : a) (f : a → b) : b := f ha
section ZF
variable {p : Program} {l : Launch} {e : Env} {R : Room} {s : State} {m : MethodId} {args : Array Value} {below : List Frame} {meth : Method} {c : Code} {nL : Nat} {k n : Nat} {Q : State → Prop} {pc : Nat} {lv : List (Nat × Value)} {st : List Value}
variable {G : Gl} {cc : ByteArray} {own : String} {ret : Option FieldType} {A : Nat → Prop} {S S' S0 : Sh} {D D' : Dy} {a N : Nat} {Wp : Heap → List Loc → Prop}

theorem z_aldRow (hC : CX G cc own nL ret p s m args meth c) {mdl : Nat → Option (Nat × Nat)} (hF : FX S mdl) {i : Int32} (hin : vp_in i 6) (hd : decode cc pc = .ok (.aaload, 1)) (kz : Z p l e R s m args below meth c nL (WM G s A S D) k n Q (pc + 1) lv (.ref (G.1 + (27 + i.toNatClampNeg)) :: st)) : Z p l e R s m args below meth c nL (WM G s A S D) k n Q pc lv (.int i :: .ref (G.1 + 26) :: st) := by
  refine z_aald hC (kX_26 hF) (Or.inr rfl) (nX_26 hF) hin hd ?_
  have hl := vp_lt hin
  have hr : S.2.2.2 26 i.toNatClampNeg = some (27 + i.toNatClampNeg) := by
    obtain h0 | h0 | h0 | h0 | h0 | h0 : i.toNatClampNeg = 0 ∨ i.toNatClampNeg = 1 ∨ i.toNatClampNeg = 2 ∨ i.toNatClampNeg = 3 ∨ i.toNatClampNeg = 4 ∨ i.toNatClampNeg = 5 := by omega
    all_goals rw [h0]
    · exact rX_26_0 hF
    · exact rX_26_1 hF
    · exact rX_26_2 hF
    · exact rX_26_3 hF
    · exact rX_26_4 hF
    · exact rX_26_5 hF
  rw [hr]; exact kz
theorem z_aldMdl (hC : CX G cc own nL ret p s m args meth c) {mdl : Nat → Option (Nat × Nat)} (hF : FX S mdl) {i : Int32} (hin : vp_in i 10) (hd : decode cc pc = .ok (.aaload, 1)) (kz : Z p l e R s m args below meth c nL (WM G s A S D) k n Q (pc + 1) lv (va_rf (mq G (mdl i.toNatClampNeg)) :: st)) : Z p l e R s m args below meth c nL (WM G s A S D) k n Q pc lv (.int i :: .ref (G.1 + 13) :: st) := by
  refine z_aald hC (kX_13 hF) (Or.inl rfl) (nX_13 hF) hin hd ?_
  rw [hF.2.2.1 _ (vp_lt hin)]
  have e1 : ((mdl i.toNatClampNeg).map (fun q => q.1 + 9)).map (G.1 + ·) = mq G (mdl i.toNatClampNeg) := by
    unfold mq; cases mdl i.toNatClampNeg <;> rfl
  rw [e1]; exact kz
end ZF
