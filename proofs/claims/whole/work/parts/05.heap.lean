/-! THE HEAP ROWS over Z -/
def sI (D : Dy) (a k : Nat) (v : Int32) : Dy := (fun b j => if b = a ∧ j = k then v else D.1 b j, D.2)
def sL (D : Dy) (a k : Nat) (v : Int64) : Dy := (D.1, fun b j => if b = a ∧ j = k then v else D.2 b j)
def sLA (D : Dy) (a : Nat) (f : Nat → Int64) : Dy := (D.1, fun b j => if b = a then f j else D.2 b j)
def sR (S : Sh) (a k : Nat) (r : Option Nat) : Sh := (S.1, S.2.1, S.2.2.1, fun b j => if b = a ∧ j = k then r else S.2.2.2 b j)
def sN (S : Sh) (kd ln : Nat) : Sh := (S.1 + 1, fun a => if a = S.1 then kd else S.2.1 a, fun a => if a = S.1 then ln else S.2.2.1 a, fun a j => if a = S.1 then none else S.2.2.2 a j)
def dN (D : Dy) (a : Nat) : Dy := (fun b j => if b = a then 0 else D.1 b j, fun b j => if b = a then 0 else D.2 b j)
theorem Wa_congr {G : Gl} {S S' : Sh} {D D' : Dy} {H H1 : Heap} {b : Nat} (hk : S'.2.1 b = S.2.1 b) (hn : S'.2.2.1 b = S.2.2.1 b) (hr : S'.2.2.2 b = S.2.2.2 b) (h1 : D'.1 b = D.1 b) (h2 : D'.2 b = D.2 b) (hq : S.2.1 b ≠ 0 → H1[G.1 + b]? = H[G.1 + b]?) (h : Wa G S D H b) : Wa G S' D' H1 b := by
  have e1 : ∀ c, fV G.1 S' D' c b = fV G.1 S D c b := fun c => by funext k; unfold fV; rw [hr, h1, h2]
  have e2 : aE G.1 S' D' b = aE G.1 S D b := by unfold aE; rw [hk, hn, hr, h1, h2]
  unfold Wa at h ⊢
  rw [hk, e1, e2]
  by_cases q0 : S.2.1 b = 0
  · rw [if_pos q0]; trivial
  · rw [if_neg q0] at h ⊢
    by_cases q1 : S.2.1 b ≤ 13
    · rw [if_pos q1] at h ⊢; exact h.kept (hq q0)
    · rw [if_neg q1] at h ⊢; rw [hq q0]; exact h
theorem Wa_obj {G : Gl} {S : Sh} {D : Dy} {H : Heap} {a c : Nat} (hW : Wd G S D H) (hK : S.2.1 a = c + 1) (hc : c < 13) : t_OB (G.1 + a) (G.2.1.1 c) (nF c) (G.2.1.2 c) H (fV G.1 S D c a) := by
  have h := hW.2.2 a
  unfold Wa at h
  rw [if_neg (by omega), if_pos (by omega), hK] at h
  exact h
theorem Wa_arr {G : Gl} {S : Sh} {D : Dy} {H : Heap} {a t : Nat} (hW : Wd G S D H) (hK : S.2.1 a = t) (ht : 13 < t) : H[G.1 + a]? = some (vp_cell (G.2.2.1 t) (aE G.1 S D a)) := by
  have h := hW.2.2 a
  unfold Wa at h
  rw [if_neg (by omega), if_neg (by omega), hK] at h
  exact h
def CF (c : Nat) (C : String) (T : u_T) : Prop := vwCl[c]? = some (C, T, nF c) ∧ (∀ w ∈ u_ws C T (nF c), w ∈ TB) ∧ (∀ j, j < nF c → parseFieldDescriptor (T j).2.2.1 = some (fty c j)) ∧ (∀ a, a < nF c → ∀ b, b < nF c → a ≠ b → (T a).2.1 ≠ (T b).2.1) ∧ Cond.instantiable C (nF c) ∈ TB ∧ Cond.initialized C ∈ TB
def LF (own : String) (idx c k : Nat) (fin : Bool) : Prop := ∃ (C : String) (T : u_T) (ref : String), CF c C T ∧ c < 13 ∧ k < nF c ∧ Cond.fieldLink own idx ref (T k).2.1 (T k).2.2.1 ∈ TB ∧ (ref = (T k).1 ∨ Cond.sameField ref (T k).1 (T k).2.1 (T k).2.2.1 ∈ TB) ∧ (T k).2.2.2 = fin ∧ (fin = true → (T k).1 = own ∨ True)
section ZH
variable {p : Program} {l : Launch} {e : Env} {R : Room} {s : State} {m : MethodId} {args : Array Value} {below : List Frame} {meth : Method} {c : Code} {nL : Nat} {k n : Nat} {Q : State → Prop} {pc : Nat} {lv : List (Nat × Value)} {st : List Value}
variable {G : Gl} {cc : ByteArray} {own : String} {ret : Option FieldType} {A : Nat → Prop} {S S' : Sh} {D D' : Dy} {a : Nat}
theorem z_get (hC : CX G cc own nL ret p s m args meth c) {idx ci j : Nat} {fin : Bool} (hf : LF own idx ci j fin) (hK : S.2.1 a = ci + 1) (hd : decode cc pc = .ok (.getfield idx, 3)) {v : Value} (hv : fV G.1 S D ci a j = v) (kz : Z p l e R s m args below meth c nL (WM G s A S D) k n Q (pc + 3) lv (v :: st)) : Z p l e R s m args below meth c nL (WM G s A S D) k n Q pc lv (.ref (G.1 + a) :: st) := by
  intro H locs hW ls hl
  obtain ⟨C, T, ref, ⟨hcl, hin, hty, hnm, -⟩, hci, hj, hlink, hsame, -⟩ := hf
  obtain ⟨hx, hb, hml, hown, hts, hr, hlk, hG⟩ := hC
  obtain ⟨cell, q1, q2, q3, q4⟩ := Wa_obj hW.1 hK hci
  obtain ⟨hS, hfc, kC, hkC, hkind⟩ := hG.1.1 ci _ hcl
  obtain ⟨cf, kf, fi, f, hi, hsl⟩ := hS j hj
  have hsame' : s.fieldFound? ref (T j).2.1 (T j).2.2.1 = some (cf, kf, fi, f) := by
    rcases hsame with h | h
    · rw [h]; exact hi
    · exact u_same (hts _ h) _ hi
  refine W.getf hx hb hown (hts _ hlink) hsame' (u_facts hfc hkC (u_lays hts hin hj) hi).1 q1 (by rw [q3]; exact fun h => by cases h) (v := v) ?_ rfl rfl hd (kz H locs hW ls hl)
  rw [hsl, q4 j hj, hv]
/-- what a store at the cell a leaves of the world -/
theorem Wd_set {H H1 : Heap} {locs : List Loc} {i : Nat} (hW : WM G s A S D H locs) (hn : S'.1 = S.1) (hk : S'.2.1 = S.2.1) (hl : S'.2.2.1 = S.2.2.1) (hr : ∀ b, b ≠ a → S'.2.2.2 b = S.2.2.2 b) (h1 : ∀ b, b ≠ a → D'.1 b = D.1 b) (h2 : ∀ b, b ≠ a → D'.2 b = D.2 b) (hK : S.2.1 a ≠ 0)
    (ha : Wa G S' D' H1 a) (hz : H1.size = H.size) (oq : ∀ q : Nat, q ≠ G.1 + a → H1[q]? = H[q]?) : WM G s A S' D' H1 (locs ++ [⟨G.1 + a, i⟩]) := by
  obtain ⟨w1, w2, w3, w4⟩ := hW
  have hA : ∀ q, AS G S' q → A q := fun q ⟨b, e1, e2⟩ => w2 q ⟨b, e1, by rw [hk, hn] at e2; exact e2⟩
  refine ⟨⟨by rw [hz, hn]; exact w1.1, fun b hb => by rw [hn]; exact w1.2.1 b (by rw [← hk]; exact hb), fun b => ?_⟩, hA, w3, w4.put hz oq (w2 _ ⟨a, rfl, Or.inl hK⟩)⟩
  by_cases hb : b = a
  · rw [hb]; exact ha
  · exact Wa_congr (by rw [hk]) (by rw [hl]) (hr b hb) (h1 b hb) (h2 b hb) (fun _ => oq _ (by omega)) (w1.2.2 b)
theorem z_putC (hC : CX G cc own nL ret p s m args meth c) {idx ci j : Nat} {fin : Bool} (hf : LF own idx ci j fin) (hfin : fin = false ∨ (meth.name = "<init>" ∧ ∀ C T, CF ci C T → (T j).1 = own)) (hK : S.2.1 a = ci + 1) (hd : decode cc pc = .ok (.putfield idx, 3)) {v : Value} (hnr : narrow (fty ci j) v = v) (hft : fits (fty ci j) v = true)
    (hn : S'.1 = S.1) (hk : S'.2.1 = S.2.1) (hl : S'.2.2.1 = S.2.2.1) (hr : ∀ b, b ≠ a → S'.2.2.2 b = S.2.2.2 b) (h1 : ∀ b, b ≠ a → D'.1 b = D.1 b) (h2 : ∀ b, b ≠ a → D'.2 b = D.2 b) (hV : ∀ i, i < nF ci → updV (fV G.1 S D ci a) j v i = fV G.1 S' D' ci a i)
    (kz : Z p l e R s m args below meth c nL (WM G s A S' D') k n Q (pc + 3) lv st) : Z p l e R s m args below meth c nL (WM G s A S D) k n Q pc lv (v :: .ref (G.1 + a) :: st) := by
  intro H locs hW ls hl
  obtain ⟨C, T, ref, ⟨hcl, hin, hty, hnm, hins⟩, hci, hj, hlink, hsame, hfl, -⟩ := hf
  obtain ⟨hx, hb, hml, hown, hts, hre, hlk, hG⟩ := hC
  obtain ⟨cell, q1, q2, q3, q4⟩ := Wa_obj hW.1 hK hci
  have hap := va_apart (own := own) hts hin (fty ci) hty hnm hG.1 hcl
  obtain ⟨hS, hfc, kC, hkC, hkind⟩ := hG.1.1 ci _ hcl
  obtain ⟨cf, kf, fi, f, hi, hsl⟩ := hS j hj
  have hsame' : s.fieldFound? ref (T j).2.1 (T j).2.2.1 = some (cf, kf, fi, f) := by
    rcases hsame with h | h
    · rw [h]; exact hi
    · exact u_same (hts _ h) _ hi
  have hst := (u_facts hfc hkC (u_lays hts hin hj) hi).1
  have hlay := hts _ (hin _ (u_in_lay hj))
  unfold u_lay at hlay
  have fin_ok : ∀ H' : Heap, H'[G.1 + a]? = some (cell.setSlot f.slot v) → H'.size = H.size → (∀ q, q ≠ G.1 + a → H'[q]? = H[q]?) → W p l e R s m args below meth c H' (locs ++ [⟨G.1 + a, f.slot⟩]) k n Q (F0 m (pc + 3) ls st) := by
    intro H' e1 e2 e3
    refine kz H' _ (Wd_set hW hn hk (by assumption) hr h1 h2 (by omega) ?_ e2 e3) ls (by assumption)
    unfold Wa
    rw [hk, if_neg (by omega), if_pos (by omega), hK]
    rw [hsl] at e1
    exact t_OB.to (V := updV (fV G.1 S D ci a) j v) ⟨_, e1, q2, q3, t_set q4 hap hj v⟩ hV
  cases hq : (T j).2.2.2 with
  | false =>
    rw [if_neg (by rw [hq]; decide)] at hlay
    have h6 := u_store hfc hkC hkind hlay hi (hty j hj) hnr hft
    exact W.putK hx hb (f := f) ⟨hown, hts _ hlink, ⟨_, _, _, hsame'⟩, hst⟩ (by rw [q2]; exact h6) q1 q3 (by rw [hsl]; exact k2_hasslot (q4 j hj)) rfl rfl hd fin_ok
  | true =>
    rw [if_pos hq] at hlay
    rcases hfin with h | ⟨hnm2, hdc⟩
    · rw [← hfl, hq] at h; cases h
    have hdecl := hdc C T ⟨hcl, hin, hty, hnm, hins⟩
    have hcf : m.cls = cf := by
      obtain ⟨_, _, c', _, _, _, -, -, hf', -, -, -, hown2, -⟩ := Cond.laysFinal_spec hlay
      have e1 : c' = cf := by have := hi.symm.trans hf'; simp at this; exact this.1.symm
      rw [hdecl] at hown2
      rw [← e1]; exact Option.some.inj (hown.symm.trans hown2)
    have h6 := u_fits hfc hkC hkind (Or.inr hlay) hi (hty j hj) hnr hft
    exact W.putFinK hx hb hown (hts _ hlink) hsame' hst hcf hnm2 (by rw [q2]; exact h6) q1 q3 (by rw [hsl]; exact k2_hasslot (q4 j hj)) rfl rfl hd fin_ok
theorem z_puti (hC : CX G cc own nL ret p s m args meth c) {idx ci j : Nat} (hf : LF own idx ci j false) (ht : fty ci j = .int) (hK : S.2.1 a = ci + 1) (hd : decode cc pc = .ok (.putfield idx, 3)) {v : Int32}
    (kz : Z p l e R s m args below meth c nL (WM G s A S (sI D a j v)) k n Q (pc + 3) lv st) : Z p l e R s m args below meth c nL (WM G s A S D) k n Q pc lv (.int v :: .ref (G.1 + a) :: st) := by
  refine z_putC (S' := S) (D' := sI D a j v) hC hf (Or.inl rfl) hK hd (by rw [ht]; rfl) (by rw [ht]; rfl) rfl rfl rfl (fun _ _ => rfl) (fun b hb => by funext i; simp [sI, hb]) (fun _ _ => rfl) (fun i hi => ?_) kz
  by_cases h : i = j
  · subst h; simp [updV, fV, ht, sI]
  · simp [updV, fV, sI, h]
theorem z_putl (hC : CX G cc own nL ret p s m args meth c) {idx ci j : Nat} (hf : LF own idx ci j false) (ht : fty ci j = .long) (hK : S.2.1 a = ci + 1) (hd : decode cc pc = .ok (.putfield idx, 3)) {v : Int64}
    (kz : Z p l e R s m args below meth c nL (WM G s A S (sL D a j v)) k n Q (pc + 3) lv st) : Z p l e R s m args below meth c nL (WM G s A S D) k n Q pc lv (.long v :: .ref (G.1 + a) :: st) := by
  refine z_putC (S' := S) (D' := sL D a j v) hC hf (Or.inl rfl) hK hd (by rw [ht]; rfl) (by rw [ht]; rfl) rfl rfl rfl (fun _ _ => rfl) (fun _ _ => rfl) (fun b hb => by funext i; simp [sL, hb]) (fun i hi => ?_) kz
  by_cases h : i = j
  · subst h; simp [updV, fV, ht, sL]
  · simp [updV, fV, sL, h]
end ZH
