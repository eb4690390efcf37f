/-! the tables at the law's entry -/
theorem arr_of {s : State} {cA comp : ClassId} {kA : Class} {ty : FieldType} (h1 : s.vm.classes[cA]? = some kA) (h2 : kA.kind = .array comp ty) : ArrOfT s cA ty := fun N9 z9 => ⟨(fun q hq => by cases hq), kA, h1, comp, h2⟩
def tmS (i : Nat) : Term := .string "WhyChosen$Text" (wIdx i)
set_option maxHeartbeats 4000000 in
set_option maxRecDepth 100000 in
theorem gk_start {p : Program} {s : State} {m : MethodId} {meth : Method} {c : Code} {b L : Nat} {xs : Nat → Int32} (C0 : lw_At p s m meth c b L xs) : ∃ G : Gl, G.1 = s.heap.size ∧ Gk G s := by
  obtain ⟨-, -, -, -, -, hts, -, -, -, hgv⟩ := C0
  have hT : ∀ w ∈ TB, w.before #[Value.ref b] s = true := fun w hw => hts w (List.mem_filter.mp hw).1
  have ht1 : ∀ (i : Nat) (w : Cond), tables_1[i]? = some w → w.before #[Value.ref b] s = true := fun i w h => hts w (List.mem_append_right _ (List.mem_of_getElem? h))
  have hfl := flat_of_before _ hgv
  have kn : ∀ ci (C : String) (T : u_T), CF ci C T → ∃ (cC : ClassId) (iS : Nat → Nat), u_Kn s C T (nF ci) cC iS := fun ci C T h => u_known hT h.2.1 (hT _ h.2.2.2.2.1)
  obtain ⟨k0, i0, n0⟩ := kn 0 _ _ cf_0
  obtain ⟨k1, i1, n1⟩ := kn 1 _ _ cf_1
  obtain ⟨k2, i2, n2⟩ := kn 2 _ _ cf_2
  obtain ⟨k3, i3, n3⟩ := kn 3 _ _ cf_3
  obtain ⟨k4, i4, n4⟩ := kn 4 _ _ cf_4
  obtain ⟨k5, i5, n5⟩ := kn 5 _ _ cf_5
  obtain ⟨k6, i6, n6⟩ := kn 6 _ _ cf_6
  obtain ⟨k7, i7, n7⟩ := kn 7 _ _ cf_7
  obtain ⟨k8, i8, n8⟩ := kn 8 _ _ cf_8
  obtain ⟨k9, i9, n9⟩ := kn 9 _ _ cf_9
  obtain ⟨k10, i10, n10⟩ := kn 10 _ _ cf_10
  obtain ⟨k11, i11, n11⟩ := kn 11 _ _ cf_11
  obtain ⟨k12, i12, n12⟩ := kn 12 _ _ cf_12
  have a1 := ht1 56 (Cond.arrayClass .int) rfl
  have a2 := ht1 183 (Cond.arrayClass .long) rfl
  have a3 := ht1 1256 (Cond.arrayClass .boolean) rfl
  have a4 := ht1 85 (Cond.arrayOver (.object "WhyChosen$Model")) rfl
  have a5 := ht1 133 (Cond.arrayOver (.array .long)) rfl
  obtain ⟨c20, k20, p20, f20, g20, h20⟩ := Cond.arrayClass_spec a1
  obtain ⟨c21, k21, p21, f21, g21, h21⟩ := Cond.arrayClass_spec a2
  obtain ⟨c22, k22, p22, f22, g22, h22⟩ := Cond.arrayClass_spec a3
  obtain ⟨p23, c23, k23, f23, -, g23, h23, e23⟩ := Cond.arrayOver_spec a4
  obtain ⟨p24, c24, k24, -, -, g24, h24, e24⟩ := Jvm.Stand.arrayOver_specB a5
  obtain ⟨adK, adV, hS, hev⟩ := vk_Sof (s := s) (args := #[Value.ref b]) (N := 7) (tm := tmS) (len := wLen) (byt := wByt) (A := fun q => s.heap.size ≤ q) (by decide) (fun i hi => hfl _ ((by decide +kernel : ∀ i, i < 7 → Cond.exactly (tmS i) "java/lang/String" ∈ flatC (Jvm.Cond.and given_1 narrow_1)) i hi)) (fun i hi => hfl _ ((by decide +kernel : ∀ i, i < 7 → Cond.eq (.field (tmS i) "java/lang/String" "coder" "B") (.int 0) ∈ flatC (Jvm.Cond.and given_1 narrow_1)) i hi))
    (fun i hi => hfl _ ((by decide +kernel : ∀ i, i < 7 → Cond.arrayOf (.field (tmS i) "java/lang/String" "value" "[B") .byte ∈ flatC (Jvm.Cond.and given_1 narrow_1)) i hi)) (fun i hi => hfl _ ((by decide +kernel : ∀ i, i < 7 → Cond.eq (.length (.field (tmS i) "java/lang/String" "value" "[B")) (.int (Int32.ofNat (wLen.getD i 0))) ∈ flatC (Jvm.Cond.and given_1 narrow_1)) i hi))
    (fun i hi j hj => hfl _ ((by decide +kernel : ∀ i, i < 7 → ∀ j, j < wLen.getD i 0 → Cond.eq (.elem (.field (tmS i) "java/lang/String" "value" "[B") (.int (Int32.ofNat j))) (.int ((wByt.getD i []).getD j 0)) ∈ flatC (Jvm.Cond.and given_1 narrow_1)) i hi j hj))
    (fun i j hi hj hij => ((by decide +kernel : ∀ i, i < 7 → ∀ j, j < 7 → i ≠ j → Cond.not (Cond.eq (tmS i) (tmS j)) ∈ flatC (Jvm.Cond.and given_1 narrow_1) ∨ Cond.not (Cond.eq (tmS j) (tmS i)) ∈ flatC (Jvm.Cond.and given_1 narrow_1)) i hi j hj hij).imp (hfl _) (hfl _)) (fun a h1 h2 => absurd h2 (Nat.not_le.mpr h1))
  refine ⟨(s.heap.size, (fun c => [k0, k1, k2, k3, k4, k5, k6, k7, k8, k9, k10, k11, k12].getD c k0, fun c => [i0, i1, i2, i3, i4, i5, i6, i7, i8, i9, i10, i11, i12].getD c i0), fun t => if t = 20 then c20 else if t = 21 then c21 else if t = 22 then c22 else if t = 23 then c23 else c24, adK, adV), rfl, ⟨fun c q hc => ?_, fun c q hc => ?_⟩, hS, fun i hi => ?_, fun q hq => ?_, fun q hq => ?_, fun q hq => ?_, ?_, ?_, fun ty hty => ?_⟩
  · have hlt : c < 13 := (List.getElem?_eq_some_iff.mp hc).1
    obtain rfl | rfl | rfl | rfl | rfl | rfl | rfl | rfl | rfl | rfl | rfl | rfl | rfl : c = 0 ∨ c = 1 ∨ c = 2 ∨ c = 3 ∨ c = 4 ∨ c = 5 ∨ c = 6 ∨ c = 7 ∨ c = 8 ∨ c = 9 ∨ c = 10 ∨ c = 11 ∨ c = 12 := by omega
    all_goals cases hc
    · exact n0
    · exact n1
    · exact n2
    · exact n3
    · exact n4
    · exact n5
    · exact n6
    · exact n7
    · exact n8
    · exact n9
    · exact n10
    · exact n11
    · exact n12
  · have hlt : c < 5 := (List.getElem?_eq_some_iff.mp hc).1
    obtain rfl | rfl | rfl | rfl | rfl : c = 0 ∨ c = 1 ∨ c = 2 ∨ c = 3 ∨ c = 4 := by omega
    all_goals cases hc
    · exact ⟨arr_of g20 h20, f20⟩
    · exact ⟨arr_of g21 h21, f21⟩
    · exact ⟨arr_of g22 h22, f22⟩
    · exact ⟨arr_of g23 h23, k23, p23, g23, h23, f23, e23⟩
    · exact ⟨arr_of g24 h24, e24⟩
  · have h1 : ∀ i, i < 7 → (Cond.stringRef "WhyChosen$Text" (wIdx i) (wTx i)).before #[Value.ref b] s = true := fun i hi => by
      obtain rfl | rfl | rfl | rfl | rfl | rfl | rfl : i = 0 ∨ i = 1 ∨ i = 2 ∨ i = 3 ∨ i = 4 ∨ i = 5 ∨ i = 6 := by omega
      · exact ht1 331 _ rfl
      · exact ht1 332 _ rfl
      · exact ht1 333 _ rfl
      · exact ht1 334 _ rfl
      · exact ht1 335 _ rfl
      · exact ht1 336 _ rfl
      · exact ht1 337 _ rfl
    exact vk_R.of (h1 i hi) (hev i hi)
  · exact va_Nc.of (args := #[Value.ref b]) (hfl _ ((by decide +kernel : ∀ q ∈ ncL, Cond.not (.castable q.1 q.2) ∈ flatC (Jvm.Cond.and given_1 narrow_1)) q hq))
  · have hN : ∀ q ∈ nestT, (Cond.methodLinkNest q.1 q.2.1 q.2.2.1 q.2.2.2).before #[Value.ref b] s = true := by
      exact (List.forall_mem_cons.mpr ⟨ht1 900 _ rfl, (List.forall_mem_cons.mpr ⟨ht1 203 _ rfl, (List.forall_mem_cons.mpr ⟨ht1 634 _ rfl, (List.forall_mem_cons.mpr ⟨ht1 703 _ rfl, (List.forall_mem_cons.mpr ⟨ht1 599 _ rfl, (List.forall_mem_cons.mpr ⟨ht1 714 _ rfl, (List.forall_mem_cons.mpr ⟨ht1 812 _ rfl, (List.forall_mem_cons.mpr ⟨ht1 689 _ rfl, fun _ h => by cases h⟩)⟩)⟩)⟩)⟩)⟩)⟩)⟩)
    exact va_tabs rfl rfl (hN q hq)
  · have hN : ∀ q ∈ cyL, (Cond.castable q.1 q.2).before #[Value.ref b] s = true := by
      exact (List.forall_mem_cons.mpr ⟨ht1 1659 _ rfl, (List.forall_mem_cons.mpr ⟨ht1 1660 _ rfl, (List.forall_mem_cons.mpr ⟨ht1 1661 _ rfl, (List.forall_mem_cons.mpr ⟨ht1 1662 _ rfl, (List.forall_mem_cons.mpr ⟨ht1 1663 _ rfl, (List.forall_mem_cons.mpr ⟨ht1 1664 _ rfl, (List.forall_mem_cons.mpr ⟨ht1 1665 _ rfl, (List.forall_mem_cons.mpr ⟨ht1 1666 _ rfl, fun _ h => by cases h⟩)⟩)⟩)⟩)⟩)⟩)⟩)⟩)
    exact va_tabs rfl rfl (hN q hq)
  · exact va_Zof (args := #[Value.ref b]) (ht1 351 _ rfl) (ht1 8 _ rfl) (va_eqt (hfl (Cond.eq (.static "java/lang/String" "COMPACT_STRINGS" "Z") (.int 1)) (by decide +kernel))) (fun a h1 h2 => absurd h2 (Nat.not_le.mpr h1))
  · exact va_Zqof (args := #[Value.ref b]) (ht1 367 _ rfl) (ht1 10 _ rfl) (hfl (Cond.isRef (.static "jdk/internal/util/Preconditions" "SIOOBE_FORMATTER" "Ljava/util/function/BiFunction;")) (by decide +kernel)) (fun a h1 h2 => absurd h2 (Nat.not_le.mpr h1))
  · have hN : ∀ ty ∈ aoL, (Cond.arrayOver ty).before #[Value.ref b] s = true := List.forall_mem_cons.mpr ⟨a4, List.forall_mem_cons.mpr ⟨a5, fun _ h => by cases h⟩⟩
    exact hN ty hty
