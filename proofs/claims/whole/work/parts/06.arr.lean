/-! ARRAYS over Z -/
theorem aE_i {B : Nat} {S : Sh} {D : Dy} {a t : Nat} (hK : S.2.1 a = t) (ht : t = 20 ∨ t = 22) : aE B S D a = (S.2.2.1 a, .inl (D.1 a)) := by
  unfold aE; rw [if_neg (by omega), if_pos (by omega)]
theorem aE_l {B : Nat} {S : Sh} {D : Dy} {a : Nat} (hK : S.2.1 a = 21) : aE B S D a = (S.2.2.1 a, .inr (.inl (D.2 a))) := by
  unfold aE; rw [if_pos hK]
theorem aE_r {B : Nat} {S : Sh} {D : Dy} {a : Nat} (hK : 22 < S.2.1 a) : aE B S D a = (S.2.2.1 a, .inr (.inr (.inr (.inr fun j => (S.2.2.2 a j).map (B + ·))))) := by
  unfold aE; rw [if_neg (by omega), if_neg (by omega)]
section ZA
variable {p : Program} {l : Launch} {e : Env} {R : Room} {s : State} {m : MethodId} {args : Array Value} {below : List Frame} {meth : Method} {c : Code} {nL : Nat} {k n : Nat} {Q : State → Prop} {pc : Nat} {lv : List (Nat × Value)} {st : List Value}
variable {G : Gl} {cc : ByteArray} {own : String} {ret : Option FieldType} {A : Nat → Prop} {S S' : Sh} {D D' : Dy} {a N : Nat}
theorem ty20 (h : Gk G s) : ArrOfT s (G.2.2.1 20) .int := (h.1.2 0 _ rfl).1
theorem ty21 (h : Gk G s) : ArrOfT s (G.2.2.1 21) .long := (h.1.2 1 _ rfl).1
theorem ty22 (h : Gk G s) : ArrOfT s (G.2.2.1 22) .boolean := (h.1.2 2 _ rfl).1
theorem ty23 (h : Gk G s) : ArrOfT s (G.2.2.1 23) (.object "WhyChosen$Model") := (h.1.2 3 _ rfl).1
theorem ty24 (h : Gk G s) : ArrOfT s (G.2.2.1 24) (.array .long) := (h.1.2 4 _ rfl).1
theorem z_iald (hC : CX G cc own nL ret p s m args meth c) (hK : S.2.1 a = 20) (hN : S.2.2.1 a = N) {i : Int32} (hin : vp_in i N) (hd : decode cc pc = .ok (.iaload, 1))
    (kz : Z p l e R s m args below meth c nL (WM G s A S D) k n Q (pc + 1) lv (.int (D.1 a i.toNatClampNeg) :: st)) : Z p l e R s m args below meth c nL (WM G s A S D) k n Q pc lv (.int i :: .ref (G.1 + a) :: st) := by
  intro H locs hW ls hl
  have hc := Wa_arr hW.1 hK (by omega)
  rw [aE_i hK (Or.inl rfl), vp_cell_i, hN] at hc
  have hlt : i.toNatClampNeg < N := Nat.not_le.mp fun q => hin (Or.inr q)
  exact W.iald (v := .int (D.1 a i.toNatClampNeg)) hC.1 hC.2.1 hc (ty20 hC.2.2.2.2.2.2.2 N _) (fun q => by cases q) (by rw [arrV_size]; exact hin) (by rw [arrV_read _ _ hlt]) rfl rfl hd (kz H locs hW ls hl)
theorem z_zald (hC : CX G cc own nL ret p s m args meth c) (hK : S.2.1 a = 22) (hN : S.2.2.1 a = N) {i : Int32} (hin : vp_in i N) (hd : decode cc pc = .ok (.baload, 1))
    (kz : Z p l e R s m args below meth c nL (WM G s A S D) k n Q (pc + 1) lv (.int (D.1 a i.toNatClampNeg) :: st)) : Z p l e R s m args below meth c nL (WM G s A S D) k n Q pc lv (.int i :: .ref (G.1 + a) :: st) := by
  intro H locs hW ls hl
  have hc := Wa_arr hW.1 hK (by omega)
  rw [aE_i hK (Or.inr rfl), vp_cell_i, hN] at hc
  have hlt : i.toNatClampNeg < N := Nat.not_le.mp fun q => hin (Or.inr q)
  exact W.zald (v := .int (D.1 a i.toNatClampNeg)) hC.1 hC.2.1 hc (ty22 hC.2.2.2.2.2.2.2 N _) (fun q => by cases q) (by rw [arrV_size]; exact hin) (by rw [arrV_read _ _ hlt]) rfl rfl hd (kz H locs hW ls hl)
theorem z_lald (hC : CX G cc own nL ret p s m args meth c) (hK : S.2.1 a = 21) (hN : S.2.2.1 a = N) {i : Int32} (hin : vp_in i N) (hd : decode cc pc = .ok (.laload, 1))
    (kz : Z p l e R s m args below meth c nL (WM G s A S D) k n Q (pc + 1) lv (.long (D.2 a i.toNatClampNeg) :: st)) : Z p l e R s m args below meth c nL (WM G s A S D) k n Q pc lv (.int i :: .ref (G.1 + a) :: st) := by
  intro H locs hW ls hl
  have hc := Wa_arr hW.1 hK (by omega)
  rw [aE_l hK, vp_cell_l, hN] at hc
  have hlt : i.toNatClampNeg < N := Nat.not_le.mp fun q => hin (Or.inr q)
  exact W.lald (v := .long (D.2 a i.toNatClampNeg)) hC.1 hC.2.1 hc (ty21 hC.2.2.2.2.2.2.2 N _) (fun q => by cases q) (by rw [arrV_size]; exact hin) (by rw [arrV_read _ _ hlt]) rfl rfl hd (kz H locs hW ls hl)
theorem z_aald (hC : CX G cc own nL ret p s m args meth c) {t : Nat} (hK : S.2.1 a = t) (ht : t = 23 ∨ t = 24) (hN : S.2.2.1 a = N) {i : Int32} (hin : vp_in i N) (hd : decode cc pc = .ok (.aaload, 1))
    (kz : Z p l e R s m args below meth c nL (WM G s A S D) k n Q (pc + 1) lv (va_rf ((S.2.2.2 a i.toNatClampNeg).map (G.1 + ·)) :: st)) : Z p l e R s m args below meth c nL (WM G s A S D) k n Q pc lv (.int i :: .ref (G.1 + a) :: st) := by
  intro H locs hW ls hl
  have hc := Wa_arr hW.1 hK (by omega)
  rw [aE_r (by omega), vp_cell_q, hN] at hc
  have hlt : i.toNatClampNeg < N := Nat.not_le.mp fun q => hin (Or.inr q)
  rcases ht with rfl | rfl
  · exact W.aald (v := va_rf ((S.2.2.2 a i.toNatClampNeg).map (G.1 + ·))) (ty := .object "WhyChosen$Model") hC.1 hC.2.1 hc (ty23 hC.2.2.2.2.2.2.2 N _) rfl (fun q => by cases q) (by rw [arrV_size]; exact hin) (by rw [arrV_read _ _ hlt]) rfl rfl hd (kz H locs hW ls hl)
  · exact W.aald (v := va_rf ((S.2.2.2 a i.toNatClampNeg).map (G.1 + ·))) (ty := .array .long) hC.1 hC.2.1 hc (ty24 hC.2.2.2.2.2.2.2 N _) rfl (fun q => by cases q) (by rw [arrV_size]; exact hin) (by rw [arrV_read _ _ hlt]) rfl rfl hd (kz H locs hW ls hl)
theorem z_alen (hC : CX G cc own nL ret p s m args meth c) (hK : S.2.1 a = 20) (hN : S.2.2.1 a = N) (hd : decode cc pc = .ok (.arraylength, 1))
    (kz : Z p l e R s m args below meth c nL (WM G s A S D) k n Q (pc + 1) lv (.int (Int32.ofNat N) :: st)) : Z p l e R s m args below meth c nL (WM G s A S D) k n Q pc lv (.ref (G.1 + a) :: st) := by
  intro H locs hW ls hl
  have hc := Wa_arr hW.1 hK (by omega)
  rw [aE_i hK (Or.inl rfl), vp_cell_i, hN] at hc
  exact W.alen (n := Int32.ofNat N) hC.1 hC.2.1 hc (ty20 hC.2.2.2.2.2.2.2 N _) (by rw [arrV_size] <;> rfl) rfl rfl hd (kz H locs hW ls hl)
theorem z_alenq (hC : CX G cc own nL ret p s m args meth c) (hK : S.2.1 a = 23) (hN : S.2.2.1 a = N) (hd : decode cc pc = .ok (.arraylength, 1))
    (kz : Z p l e R s m args below meth c nL (WM G s A S D) k n Q (pc + 1) lv (.int (Int32.ofNat N) :: st)) : Z p l e R s m args below meth c nL (WM G s A S D) k n Q pc lv (.ref (G.1 + a) :: st) := by
  intro H locs hW ls hl
  have hc := Wa_arr hW.1 hK (by omega)
  rw [aE_r (by omega), vp_cell_q, hN] at hc
  exact W.alen (n := Int32.ofNat N) hC.1 hC.2.1 hc (ty23 hC.2.2.2.2.2.2.2 N _) (by rw [arrV_size] <;> rfl) rfl rfl hd (kz H locs hW ls hl)
theorem Wa_of_i {H1 : Heap} {t : Nat} (hK : S'.2.1 a = t) (ht : t = 20 ∨ t = 22) (h : H1[G.1 + a]? = some (arrV (G.2.2.1 t) (S'.2.2.1 a) (fun j => .int (D'.1 a j)))) : Wa G S' D' H1 a := by
  unfold Wa; rw [if_neg (by omega), if_neg (by omega), aE_i hK ht, vp_cell_i, hK]; exact h
theorem Wa_of_l {H1 : Heap} (hK : S'.2.1 a = 21) (h : H1[G.1 + a]? = some (arrV (G.2.2.1 21) (S'.2.2.1 a) (fun j => .long (D'.2 a j)))) : Wa G S' D' H1 a := by
  unfold Wa; rw [if_neg (by omega), if_neg (by omega), aE_l hK, vp_cell_l, hK]; exact h
theorem Wa_of_r {H1 : Heap} {t : Nat} (hK : S'.2.1 a = t) (ht : 22 < t) (h : H1[G.1 + a]? = some (arrV (G.2.2.1 t) (S'.2.2.1 a) (fun j => va_rf ((S'.2.2.2 a j).map (G.1 + ·))))) : Wa G S' D' H1 a := by
  unfold Wa; rw [if_neg (by omega), if_neg (by omega), aE_r (by omega), vp_cell_q, hK]; exact h
theorem z_iast (hC : CX G cc own nL ret p s m args meth c) (hK : S.2.1 a = 20) (hN : S.2.2.1 a = N) {i x : Int32} (hin : vp_in i N) (hd : decode cc pc = .ok (.iastore, 1))
    (kz : Z p l e R s m args below meth c nL (WM G s A S (sI D a i.toNatClampNeg x)) k n Q (pc + 1) lv st) : Z p l e R s m args below meth c nL (WM G s A S D) k n Q pc lv (.int x :: .int i :: .ref (G.1 + a) :: st) := by
  intro H locs hW ls hl
  have hc := Wa_arr hW.1 hK (by omega)
  rw [aE_i hK (Or.inl rfl), vp_cell_i, hN] at hc
  refine W.iast hC.1 hC.2.1 hc (ty20 hC.2.2.2.2.2.2.2 N _) (fun q => by cases q) (by rw [arrV_size]; exact hin) rfl rfl hd fun H1 e1 z1 oq => ?_
  refine kz H1 _ (Wd_set (a := a) (S' := S) (D' := sI D a i.toNatClampNeg x) hW rfl rfl rfl (fun _ _ => rfl) (fun b hb => by funext j; simp [sI, hb]) (fun _ _ => rfl) (by omega) (Wa_of_i hK (Or.inl rfl) ?_) z1 oq) ls hl
  rw [e1, arrV_store, hN]
  congr 2; funext j
  by_cases h : j = i.toNatClampNeg <;> simp [updV, sI, h]
theorem z_zast (hC : CX G cc own nL ret p s m args meth c) (hK : S.2.1 a = 22) (hN : S.2.2.1 a = N) {i x : Int32} (hx : x = 0 ∨ x = 1) (hin : vp_in i N) (hd : decode cc pc = .ok (.bastore, 1))
    (kz : Z p l e R s m args below meth c nL (WM G s A S (sI D a i.toNatClampNeg x)) k n Q (pc + 1) lv st) : Z p l e R s m args below meth c nL (WM G s A S D) k n Q pc lv (.int x :: .int i :: .ref (G.1 + a) :: st) := by
  intro H locs hW ls hl
  have hc := Wa_arr hW.1 hK (by omega)
  rw [aE_i hK (Or.inr rfl), vp_cell_i, hN] at hc
  refine W.zast hC.1 hC.2.1 hc (ty22 hC.2.2.2.2.2.2.2 N _) (fun q => by cases q) (by rw [arrV_size]; exact hin) rfl rfl hd fun H1 e1 z1 oq => ?_
  refine kz H1 _ (Wd_set (a := a) (S' := S) (D' := sI D a i.toNatClampNeg x) hW rfl rfl rfl (fun _ _ => rfl) (fun b hb => by funext j; simp [sI, hb]) (fun _ _ => rfl) (by omega) (Wa_of_i hK (Or.inr rfl) ?_) z1 oq) ls hl
  rw [e1, arrV_store, hN]
  congr 2; funext j
  have hn : narrow .boolean (.int x) = .int x := by rcases hx with rfl | rfl <;> rfl
  by_cases h : j = i.toNatClampNeg
  · simp [updV, sI, h]; try exact hn
  · simp [updV, sI, h]
theorem z_last (hC : CX G cc own nL ret p s m args meth c) (hK : S.2.1 a = 21) (hN : S.2.2.1 a = N) {i : Int32} {x : Int64} (hin : vp_in i N) (hd : decode cc pc = .ok (.lastore, 1))
    (kz : Z p l e R s m args below meth c nL (WM G s A S (sL D a i.toNatClampNeg x)) k n Q (pc + 1) lv st) : Z p l e R s m args below meth c nL (WM G s A S D) k n Q pc lv (.long x :: .int i :: .ref (G.1 + a) :: st) := by
  intro H locs hW ls hl
  have hc := Wa_arr hW.1 hK (by omega)
  rw [aE_l hK, vp_cell_l, hN] at hc
  refine W.last hC.1 hC.2.1 hc (ty21 hC.2.2.2.2.2.2.2 N _) (fun q => by cases q) (by rw [arrV_size]; exact hin) rfl rfl hd fun H1 e1 z1 oq => ?_
  refine kz H1 _ (Wd_set (a := a) (S' := S) (D' := sL D a i.toNatClampNeg x) hW rfl rfl rfl (fun _ _ => rfl) (fun _ _ => rfl) (fun b hb => by funext j; simp [sL, hb]) (by omega) (Wa_of_l hK ?_) z1 oq) ls hl
  rw [e1, arrV_store, hN]
  congr 2; funext j
  by_cases h : j = i.toNatClampNeg <;> simp [updV, sL, h]
/-- a store of an object of ours in the row of models; cv: its kind's number -/
theorem z_aast (hC : CX G cc own nL ret p s m args meth c) (hK : S.2.1 a = 23) (hN : S.2.2.1 a = N) {i : Int32} {v ci : Nat} {C : String} {T : u_T} (hKv : S.2.1 v = ci + 1) (hci : CF ci C T) (h13 : ci < 13) (hcast : (C, "WhyChosen$Model") ∈ cyL ∨ C = "WhyChosen$Model") (hin : vp_in i N) (hd : decode cc pc = .ok (.aastore, 1))
    (kz : Z p l e R s m args below meth c nL (WM G s A (sR S a i.toNatClampNeg (some v)) D) k n Q (pc + 1) lv st) : Z p l e R s m args below meth c nL (WM G s A S D) k n Q pc lv (.ref (G.1 + v) :: .int i :: .ref (G.1 + a) :: st) := by
  intro H locs hW ls hl
  have hc := Wa_arr hW.1 hK (by omega)
  rw [aE_r (by omega), vp_cell_q, hN] at hc
  have hlt : i.toNatClampNeg < N := Nat.not_le.mp fun q => hin (Or.inr q)
  have h0 : ¬ i < 0 := fun q => hin (Or.inl q)
  obtain ⟨hx, hb, hml, hown, hts, hre, hlk, hG⟩ := hC
  obtain ⟨cellV, g1, g2, g3, -⟩ := Wa_obj hW.1 hKv h13
  have hcls := (hG.1.1 ci _ hci.1).2
  obtain ⟨kA, comp, k1, k2, k3, -⟩ := (hG.1.2 3 _ rfl).2
  obtain ⟨kC, hkC, -⟩ := hcls.2
  have hkM : ∃ kM, s.vm.classes[comp]? = some kM := by
    obtain ⟨kM, hkM, -⟩ := Vm.findClass_spec k3
    exact ⟨kM, hkM⟩
  obtain ⟨kM, hkM⟩ := hkM
  have hasg : s.vm.assignable (G.2.1.1 ci) comp = true := by
    rcases hcast with h | h
    · obtain ⟨c0, t0, f1, f2, f3⟩ := Cond.castable_spec (va_Nw.use (A := args) rfl (hG.2.2.2.2.2.1 _ h))
      cases hcls.1.symm.trans f1
      cases k3.symm.trans f2
      exact f3
    · have e1 := hcls.1
      rw [show C = "WhyChosen$Model" from h] at e1
      cases k3.symm.trans e1
      exact va_assign (C := C) hcls
  refine W.aast hx hb hc (fun q h => by cases h) (fun h => by cases h) k1 k2 rfl hkM ⟨h0, by rw [arrV_size]; exact hlt⟩ g1 (fun q h => by rw [g3] at h; cases h) (by rw [g2]; exact hkC) (by rw [g2]; exact hasg) rfl rfl hd fun H1 e1 z1 oq => ?_
  refine kz H1 _ (Wd_set (a := a) (S' := sR S a i.toNatClampNeg (some v)) (D' := D) hW rfl rfl rfl (fun b hb => by funext j; simp [sR, hb]) (fun _ _ => rfl) (fun _ _ => rfl) (by omega) (Wa_of_r (t := 23) hK (by omega) ?_) z1 oq) ls hl
  rw [e1, arrV_store]
  show some (arrV _ N _) = some (arrV _ (S.2.2.1 a) _)
  rw [hN]
  congr 2; funext j
  by_cases h : j = i.toNatClampNeg <;> simp [updV, sR, h, va_rf]
end ZA
