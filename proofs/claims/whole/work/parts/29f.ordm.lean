/-! ORDERS, the other's way: rows by number, places -/
theorem fac_div {v k : Nat} : v / fac k / (k + 1) = v / fac (k + 1) := by
  rw [Nat.div_div_eq_div_mul]; congr 1; exact Nat.mul_comm _ _
theorem fac_mod {v r : Nat} : (v % fac (r + 1)) / fac r = v / fac r % (r + 1) := by
  show v % ((r + 1) * fac r) / fac r = _
  rw [Nat.mul_comm, Nat.mod_mul_right_div_self]
theorem fac_mm {v r : Nat} : (v % fac (r + 1)) % fac r = v % fac r := Nat.mod_mod_of_dvd v ⟨r + 1, Nat.mul_comm _ _⟩
theorem cod_inj {n s s' : Nat} (hn : n ≤ 6) (h : s < n + 1) (h' : s' < n + 1) (e : cod n s = cod n s') : s = s' := by
  unfold cod at e; split at e <;> split at e <;> omega
theorem m_unrank {D : Dy} {n v : Nat} (hn : n ≤ 6) (hm : D.1 33 0 = nI n) (hv : v < fac (n + 1)) {post : Dy → Prop} (hp : ∀ D', frI 54 55 D D' → (∀ s, s < n + 1 → D'.1 54 (cod n s) = nI (pos s (ord (n + 1) 0 v))) → post D') : fX12_unrank (nI v) D post := by
  have f7 := fac7 (n := n + 1) (by omega)
  have pw7 : 2 ^ (n + 1) ≤ 128 := Nat.pow_le_pow_right (n := 2) (by decide) (show n + 1 ≤ 7 by omega)
  unfold fX12_unrank
  rw [hm]
  rintro v1 rfl v3 rfl
  rw [n1, nI_add, dn_0 (by omega)]
  refine lp3_I (n + 1) (fun k x y D' => x = nI (v / fac k) ∧ y = dn (n + 1) k ∧ frI 54 55 D D' ∧ ∀ p, n + 1 ≤ p + k → p < n + 1 → D'.1 55 p = nI (v / fac (n - p) % (n - p + 1))) (by omega) (fun k hk x y D' hpp rec hr => ?_) ⟨by rw [show fac 0 = 1 from rfl, Nat.div_one], rfl, frI_r, fun p h1 h2 => by omega⟩
  obtain ⟨rfl, rfl, p1, p2⟩ := hpp
  by_cases e : k = n + 1
  · subst e
    refine ⟨fun _ => ?_, fun z => absurd (dn_neg (by omega)) z⟩
    have p2 : ∀ p, p < n + 1 → D'.1 55 p = nI (v / fac (n - p) % (n - p + 1)) := fun p hp => p2 p (by omega) hp
    refine lp3_I (n + 1) (fun k x y D'' => ∃ P, x = nI P ∧ y = nI k ∧ P < 2 ^ (n + 1) ∧ unu P (n + 1) = n + 1 - k ∧ frI 54 55 D D'' ∧ (∀ p, p < n + 1 → D''.1 55 p = D'.1 55 p) ∧ (∀ s, s < n + 1 → P.testBit s = true → D''.1 54 (cod n s) = nI (pos s (ord (n + 1) 0 v))) ∧ (∀ s, s < n + 1 → P.testBit s = false → pos s (ord (n + 1) 0 v) = k + pos s (ord (n + 1 - k) P (v % fac (n + 1 - k))))) (by omega) (fun k hk x y D'' hqq rec2 hr2 => ?_) ⟨0, rfl, rfl, Nat.two_pow_pos _, unu0 _, p1, fun _ _ => rfl, fun s _ h => absurd h (by rw [Nat.zero_testBit]; simp), fun s _ _ => by rw [Nat.zero_add, Nat.sub_zero, Nat.mod_eq_of_lt hv]⟩
    obtain ⟨P, rfl, rfl, q1, q2, q3, q4, q5, q6⟩ := hqq
    by_cases c : k = n + 1
    · subst c
      refine ⟨fun _ => hp D'' q3 fun s hs => q5 s hs ?_, fun z => absurd (Int32.le_refl _) z⟩
      have hall := (all_unu q1).mp (by omega)
      rw [hall, Nat.testBit_two_pow_sub_one]; simp [hs]
    · have hk' : k < n + 1 := by omega
      have hr2 := hr2 hk'
      obtain ⟨r, hr'⟩ : ∃ r, n + 1 - k = r + 1 := ⟨n - k, by omega⟩
      have hrr : r = n - k := by omega
      rw [hr'] at q2 q6
      obtain ⟨m, v', m1, m2, m3, m4⟩ := ord_fst (N := n + 1) (by omega) q2 (Nat.mod_lt v (fac_pos (r + 1)))
      have hlist : ord (r + 1) P (v % fac (r + 1)) = nth P (v / fac r % (r + 1)) :: ord r (P ||| 2 ^ nth P (v / fac r % (r + 1))) (v % fac r) := by
        show nth P ((v % fac (r + 1)) / fac r) :: ord r (P ||| 2 ^ nth P ((v % fac (r + 1)) / fac r)) ((v % fac (r + 1)) % fac r) = _
        rw [fac_mod, fac_mm]
      have em : nth P (v / fac r % (r + 1)) = m := by
        rw [hlist] at m4; exact (List.cons.inj m4).1
      rw [em] at hlist
      have hq : v / fac r % (r + 1) = unu P m := by
        have lt : v / fac r % (r + 1) < unu P (n + 1) := by rw [q2]; exact Nat.mod_lt _ (by omega)
        have key : ∀ M q, M ≤ 32 → q < unu P M → unu P (nth P q) = q := by
          intro M
          induction M with
          | zero => intro q _ h; exact absurd h (by simp [unu])
          | succ M ih =>
            intro q hM h
            rw [unu_s] at h
            by_cases y : q < unu P M
            · exact ih q (by omega) y
            · by_cases d : P.testBit M = true
              · rw [if_pos d] at h; omega
              · rw [if_neg d] at h
                rw [show q = unu P M by omega, nth_eq (by simpa using d) (by omega)]
        rw [← em, key (n + 1) _ (by omega) lt]
      refine ⟨fun z => absurd z (nI_ge hk' (by omega)), fun _ => ⟨nI_in (by omega) (by omega), ?_⟩⟩
      rintro v17 rfl
      rw [nI_clamp (by omega), q4 k hk', p2 k hk', ← hrr, hq]
      have mm1 : m ≤ n := by omega
      refine lp2_I m (fun j x y => x = nI (unu P m - unu P j) ∧ y = nI j) (by omega) (fun j hj x y hxy rec3 hr3 => ?_) ⟨rfl, rfl⟩
      obtain ⟨rfl, rfl⟩ := hxy
      have ub : unu P m ≤ m := by
        have : ∀ t, unu P t ≤ t := by
          intro t
          induction t with
          | zero => exact Nat.le_refl _
          | succ t ih => rw [unu_s]; split <;> omega
        exact this m
      rw [has' (by omega) (by omega)]
      refine JN_i (j < m) (fun hjm => ?_) (fun K hK => ?_)
      · have hr3 := hr3 hjm
        rw [has' (by omega) (by omega)]
        have um : unu P (j + 1) ≤ unu P m := unu_mono (by omega)
        rw [unu_s] at um
        by_cases b : P.testBit j = true
        · rw [b]
          refine ⟨fun z => absurd z (by decide), fun _ => ?_⟩
          rintro v38 rfl v40 rfl
          rw [nI_add]
          refine hr3 _ _ ⟨?_, rfl⟩
          rw [unu_s, if_pos b, n0, sub' (by omega)]; rfl
        · have b' : P.testBit j = false := by simpa using b
          rw [b']
          rw [if_neg b] at um
          refine ⟨fun _ => ?_, fun z => absurd rfl z⟩
          rintro v38 rfl v40 rfl
          rw [nI_add]
          refine hr3 _ _ ⟨?_, rfl⟩
          rw [unu_s, if_neg b, sub' (by omega), Nat.sub_sub]
      · by_cases d : j = m
        · subst d
          rw [m2]
          refine ⟨fun z => absurd rfl z, fun _ => ⟨fun _ => ?_, fun z => absurd (by rw [Nat.sub_self]; exact Int32.le_refl _) z⟩⟩
          rintro v45 rfl
          rw [shl' (by omega), nI_or]
          have fin : ∀ v47 : Int32, v47 = nI (cod n j) → (vp_in v47 8 ∧ (∀ D50 : Dy, D50 = sI D'' 54 (v47).toNatClampNeg (nI k) → (∀ v52 : Int32, v52 = nI k + nI 1 → rec2 (nI (P ||| 2 ^ j)) v52 D50))) := by
            rintro v47 rfl
            have cl := cod_lt (n := n) hn m1
            refine ⟨nI_in cl (by omega), ?_⟩
            rintro D50 rfl v52 rfl
            rw [nI_add, nI_clamp (by omega)]
            refine hr2 _ _ _ ⟨P ||| 2 ^ j, rfl, rfl, or_lt q1 m1, ?_, frI_s q3 (by omega), fun p hp' => ?_, fun s hs hb => ?_, fun s hs hb => ?_⟩
            · rw [unu_put' m2 m1, q2]; omega
            · rw [sI_1, if_neg (by omega)]; exact q4 p hp'
            · rw [sI_1]
              by_cases x : s = j
              · subst x
                rw [if_pos ⟨rfl, rfl⟩, q6 s hs m2, hlist]
                show nI k = nI (k + (if s = s then 0 else _))
                rw [if_pos rfl]; rfl
              · rw [if_neg (fun y => x (cod_inj hn hs m1 y.2))]
                refine q5 s hs ?_
                rw [tb_or] at hb
                simpa [show ¬ j = s from fun y => x y.symm] using hb
            · rw [tb_or, Bool.or_eq_false_iff] at hb
              have ne : ¬ j = s := by simpa using hb.2
              rw [q6 s hs hb.1, hlist]
              show k + (if j = s then 0 else pos s _ + 1) = _
              rw [if_neg ne, show n + 1 - (k + 1) = r by omega]; omega
          rw [q3.2 33 0 (by omega), hm]
          refine ⟨fun z => ?_, fun z => ?_⟩
          · exact fin _ (by unfold cod; rw [if_neg (fun y => z (by rw [y]))])
          · have : j = n := (nI_eq (by omega) (by omega)).mp z
            exact fin _ (by unfold cod; rw [if_pos this]; rfl)
        · have hjm : j < m := by omega
          have um : unu P (j + 1) ≤ unu P m := unu_mono (by omega)
          rw [unu_s] at um
          by_cases b : P.testBit j = true
          · rw [b]; exact ⟨fun _ => hK hjm, fun z => absurd z (by decide)⟩
          · have b' : P.testBit j = false := by simpa using b
            rw [b']
            rw [if_neg b] at um
            exact ⟨fun z => absurd rfl z, fun _ => ⟨fun z => absurd z (nI_nle (by omega) (by omega)), fun _ => hK hjm⟩⟩
  · have hk' : k < n + 1 := by omega
    have hr := hr hk'
    have ek : n + 1 - 1 - k = n - k := by omega
    rw [dn_lt hk', ek]
    have vb : v / fac k < 2 ^ 31 := Nat.lt_of_le_of_lt (Nat.div_le_self _ _) (by omega)
    have es : nI (n + 1) - nI (n - k) = nI (k + 1) := by rw [sub' (by omega)]; congr 1; omega
    refine ⟨fun z => absurd z (nI_pos (by omega)), fun _ => ?_⟩
    rw [es, pk_rem vb (by omega) (by omega), pk_div vb (by omega) (by omega), fac_div]
    have ne0 : ¬ nI (k + 1) = 0 := nI_ne0 (by omega) (by omega)
    refine ⟨ne0, nI_in (by omega) (by omega), ?_⟩
    rintro D55 rfl
    refine ⟨ne0, ?_⟩
    rintro v57 rfl v59 rfl
    have ed : nI (n - k) + -nI 1 = dn (n + 1) (k + 1) := by rw [← ek]; exact dn_s (by omega) hk'
    rw [nI_clamp (by omega)]
    refine hr _ _ _ ⟨rfl, ?_, frI_s p1 (by omega), fun p h1 h2 => ?_⟩
    · first | exact ed | (rw [n1]; exact ed)
    · rw [sI_1]
      by_cases x : p = n - k
      · subst x
        rw [if_pos ⟨rfl, rfl⟩, show n - (n - k) = k by omega]
      · rw [if_neg (fun z => x z.2)]; exact p2 p (by omega) h2
