/-! CLAUSES: the one's reader, clause by clause -/
theorem rcX_n {D D1 : Dy} {t L c : Nat} {r : Rc} {post : Int32 → Dy → Prop} (f : frY t D D1) (h : rcX D t L c r post) : rcX D1 t L c r post := fun D' f' => h D' (frY_t f f')
theorem lc_L {b : Nat → Nat} {L : Nat} : ∀ ws p, (∀ c ∈ ws, c < 128) → p ≤ L → p + lc (chr b L) ws p ≤ L
  | [], p, _, h => h
  | c :: cs, p, hc, h => by
    unfold lc
    split
    · next e =>
      have := (chr_lt (hc c List.mem_cons_self) e).1
      have := lc_L (b := b) (L := L) cs (p + 1) (fun x hx => hc x (List.mem_cons_of_mem _ hx)) this
      omega
    · exact h
theorem wds_128 : ∀ i, i < 7 → ∀ c ∈ wds i, c < 128 := by decide
theorem XC_s {D : Dy} {t a k : Nat} {v : Int32} {acc : List Nat} (h : XC D t acc) (ha : (a = t ∧ k ≠ 12) ∨ (a ≠ t ∧ a ≠ t + 8)) : XC (sI D a k v) t acc := ⟨by rw [sI_1, if_neg (by omega)]; exact h.1, fun i hi => by rw [sI_1, if_neg (by omega)]; exact h.2 i hi⟩
theorem XE_s {D : Dy} {t a k : Nat} {v : Int32} {cs : List (List Nat)} (h : XE D t cs) (ha : (a = t ∧ k ≠ 15) ∨ (a ≠ t ∧ a ≠ t + 5)) : XE (sI D a k v) t cs := ⟨by rw [sI_1, if_neg (by omega)]; exact h.1, fun i hi => by rw [sI_1, if_neg (by omega)]; exact h.2 i hi⟩
theorem XS_W {D : Dy} {t f v : Nat} {R : RS} (h : XS D t R) : XS (sI D (t + 1) f (nI v)) t (rsW R f v) := by
  obtain ⟨⟨h1, h2, h3, h4, ⟨l, h5, h6⟩, h7⟩, hc, he⟩ := h
  refine ⟨⟨fun i hi => ?_, fun i hi => by rw [sI_1, if_neg (by omega)]; exact h2 i hi, by rw [sI_1, if_neg (by omega)]; exact h3, by rw [sI_1, if_neg (by omega)]; exact h4, ⟨l, by rw [sI_1, if_neg (by omega)]; exact h5, h6⟩, fun k hk => by rw [sI_1, if_neg (by omega), sI_1, if_neg (by omega)]; exact h7 k hk⟩, XC_s hc (by omega), XE_s he (by omega)⟩
  rw [sI_1]
  show _ = nI (upN (md_w R.1) f v i)
  unfold upN
  by_cases c : i = f
  · rw [if_pos ⟨rfl, c⟩, if_pos c]
  · rw [if_neg (fun z => c z.2), if_neg c]; exact h1 i hi
theorem XS_M {D : Dy} {t f v : Nat} {R : RS} (h : XS D t R) : XS (sI D (t + 2) f (nI v)) t (rsM R f v) := by
  obtain ⟨⟨h1, h2, h3, h4, ⟨l, h5, h6⟩, h7⟩, hc, he⟩ := h
  refine ⟨⟨fun i hi => by rw [sI_1, if_neg (by omega)]; exact h1 i hi, fun i hi => ?_, by rw [sI_1, if_neg (by omega)]; exact h3, by rw [sI_1, if_neg (by omega)]; exact h4, ⟨l, by rw [sI_1, if_neg (by omega)]; exact h5, h6⟩, fun k hk => by rw [sI_1, if_neg (by omega), sI_1, if_neg (by omega)]; exact h7 k hk⟩, XC_s hc (by omega), XE_s he (by omega)⟩
  rw [sI_1]
  show _ = nI (upN (md_m R.1) f v i)
  unfold upN
  by_cases c : i = f
  · rw [if_pos ⟨rfl, c⟩, if_pos c]
  · rw [if_neg (fun z => c z.2), if_neg c]; exact h2 i hi
theorem XS_P {D : Dy} {t v : Nat} {R : RS} (h : XS D t R) : XS (sI D t 6 (nI v)) t (rsP R v) := by
  obtain ⟨⟨h1, h2, h3, h4, ⟨l, h5, h6⟩, h7⟩, hc, he⟩ := h
  exact ⟨⟨fun i hi => by rw [sI_1, if_neg (by omega)]; exact h1 i hi, fun i hi => by rw [sI_1, if_neg (by omega)]; exact h2 i hi, by rw [sI_1, if_pos ⟨rfl, rfl⟩]; rfl, by rw [sI_1, if_neg (by omega)]; exact h4, ⟨l, by rw [sI_1, if_neg (by omega)]; exact h5, h6⟩, fun k hk => by rw [sI_1, if_neg (by omega), sI_1, if_neg (by omega)]; exact h7 k hk⟩, XC_s hc (by omega), XE_s he (by omega)⟩
theorem XS_Z {D : Dy} {t v : Nat} {R : RS} (h : XS D t R) : XS (sI D t 7 (nI v)) t (rsZ R v) := by
  obtain ⟨⟨h1, h2, h3, h4, ⟨l, h5, h6⟩, h7⟩, hc, he⟩ := h
  exact ⟨⟨fun i hi => by rw [sI_1, if_neg (by omega)]; exact h1 i hi, fun i hi => by rw [sI_1, if_neg (by omega)]; exact h2 i hi, by rw [sI_1, if_neg (by omega)]; exact h3, by rw [sI_1, if_pos ⟨rfl, rfl⟩]; rfl, ⟨l, by rw [sI_1, if_neg (by omega)]; exact h5, h6⟩, fun k hk => by rw [sI_1, if_neg (by omega), sI_1, if_neg (by omega)]; exact h7 k hk⟩, XC_s hc (by omega), XE_s he (by omega)⟩
theorem XS_L {D : Dy} {t v : Nat} {R : RS} (h : XS D t R) (hv : 1 ≤ v) (hv9 : v ≤ 9) : XS (sI D t 8 (nI v)) t (rsL R v) := by
  obtain ⟨⟨h1, h2, h3, h4, ⟨l, h5, h6⟩, h7⟩, hc, he⟩ := h
  exact ⟨⟨fun i hi => by rw [sI_1, if_neg (by omega)]; exact h1 i hi, fun i hi => by rw [sI_1, if_neg (by omega)]; exact h2 i hi, by rw [sI_1, if_neg (by omega)]; exact h3, by rw [sI_1, if_neg (by omega)]; exact h4, ⟨v, by rw [sI_1, if_pos ⟨rfl, rfl⟩], hv, hv9, rfl⟩, fun k hk => by rw [sI_1, if_neg (by omega), sI_1, if_neg (by omega)]; exact h7 k hk⟩, XC_s hc (by omega), XE_s he (by omega)⟩
theorem XS_K {D : Dy} {t k s v : Nat} {R : RS} (h : XS D t R) : XS (sI (sI D (t + 3) k (nI s)) (t + 4) k (nI v)) t (rsK R k s v) := by
  obtain ⟨⟨h1, h2, h3, h4, ⟨l, h5, h6⟩, h7⟩, hc, he⟩ := h
  have o : ∀ a x, a ≠ t + 3 → a ≠ t + 4 → (sI (sI D (t + 3) k (nI s)) (t + 4) k (nI v)).1 a x = D.1 a x := fun a x z1 z2 => by rw [sI_1, if_neg (fun z => z2 z.1), sI_1, if_neg (fun z => z1 z.1)]
  refine ⟨⟨fun i hi => by rw [o _ _ (by omega) (by omega)]; exact h1 i hi, fun i hi => by rw [o _ _ (by omega) (by omega)]; exact h2 i hi, by rw [o _ _ (by omega) (by omega)]; exact h3, by rw [o _ _ (by omega) (by omega)]; exact h4, ⟨l, by rw [o _ _ (by omega) (by omega)]; exact h5, h6⟩, fun j hj => ?_⟩, XC_s (XC_s hc (by omega)) (by omega), XE_s (XE_s he (by omega)) (by omega)⟩
  rw [sI_1, if_neg (by omega), sI_1, sI_1, sI_1]
  show _ = nI (upN (md_s R.1) k s j) ∧ _ = nI (upN (md_t R.1) k v j)
  unfold upN
  by_cases c : j = k
  · rw [if_pos ⟨rfl, c⟩, if_pos c, if_pos ⟨rfl, c⟩, if_pos c]; exact ⟨rfl, rfl⟩
  · rw [if_neg (fun z => c z.2), if_neg c, if_neg (fun z => c z.2), if_neg c, if_neg (fun z => c z.2)]; exact h7 j hj
theorem upN_le {f : Nat → Nat} {i v m n : Nat} (h : ∀ j, j < n → f j ≤ m) (hv : v ≤ m) : ∀ j, j < n → upN f i v j ≤ m := fun j hj => by
  unfold upN
  split
  · exact hv
  · exact h j hj
theorem okM_W {M : Mdt} {f v : Nat} (h : okM M) (hv : v ≤ 999) : okM (upN (md_w M) f v, M.2) := ⟨upN_le h.1 hv, h.2⟩
theorem okM_M {M : Mdt} {f v : Nat} (h : okM M) (hv : v ≤ 999) : okM (md_w M, upN (md_m M) f v, M.2.2) := ⟨h.1, upN_le h.2.1 hv, h.2.2⟩
theorem okM_P {M : Mdt} {v : Nat} (h : okM M) (hv : v ≤ 999) : okM (md_w M, md_m M, v, M.2.2.2) := ⟨h.1, h.2.1, hv, h.2.2.2⟩
theorem okM_Z {M : Mdt} {v : Nat} (h : okM M) (hv : v ≤ 999) : okM (md_w M, md_m M, md_p M, v, M.2.2.2.2) := ⟨h.1, h.2.1, h.2.2.1, hv, h.2.2.2.2⟩
theorem okM_L {M : Mdt} {v : Nat} (h : okM M) (hv : 1 ≤ v) (hv9 : v ≤ 9) : okM (md_w M, md_m M, md_p M, md_z M, v, M.2.2.2.2.2) := ⟨h.1, h.2.1, h.2.2.1, h.2.2.2.1, ⟨hv, hv9⟩, h.2.2.2.2.2⟩
theorem okM_K {M : Mdt} {k s v : Nat} (h : okM M) (hs : s ≤ 9) (hv : v ≤ 999) : okM (md_w M, md_m M, md_p M, md_z M, md_l M, upN (md_s M) k s, upN (md_t M) k v) := ⟨h.1, h.2.1, h.2.2.1, h.2.2.2.1, h.2.2.2.2.1, fun j hj => ⟨upN_le (fun j hj => (h.2.2.2.2.2 j hj).1) hs j hj, upN_le (fun j hj => (h.2.2.2.2.2 j hj).2) hv j hj⟩⟩
theorem fl_snoc {cs : List (List Nat)} {c : List Nat} : (cs ++ [c]).flatten = cs.flatten ++ c := by simp
theorem XE_snoc {D : Dy} {t : Nat} {cs : List (List Nat)} {c : List Nat} (h : XE D t cs) : XE (sI (sI D (t + 5) cs.length (nI (cs ++ [c]).flatten.length)) t 15 (nI (cs.length + 1))) t (cs ++ [c]) := by
  refine ⟨by rw [sI_1, if_pos ⟨rfl, rfl⟩, List.length_append]; rfl, fun j hj => ?_⟩
  rw [List.length_append] at hj
  have hj : j < cs.length + 1 := hj
  rw [sI_1, if_neg (by omega), sI_1]
  by_cases e : j = cs.length
  · rw [if_pos ⟨rfl, e⟩, e, List.take_of_length_le (by simp)]
  · rw [if_neg (fun z => e z.2), h.2 j (by omega), List.take_append_of_le_length (by omega)]
