/-! starter -/
theorem pc_pos : ∀ n, n < 256 → bt (nI n) 0 = true → 0 < pc (nI n) := by decide +kernel
theorem bit_n : ∀ o, o < 8 → (1 <<< (nI o &&& 31) : Int32) = nI (2 ^ o) := by decide +kernel
theorem one_e {σc σr : Mem} (hI : Inv σc σr) {i : Nat} (hi : i < nP (σr 1)) : ∃ T τc τr, fX4_spread 1 (1 <<< (nI i &&& 31)) (fX1_everybody 1 σc) σc = some (T, τc) ∧ fX6_caughtFrom (1 <<< (nI i &&& 31)) (fX6_everybody σr) σr = some (T, τr) ∧ S8 T ∧ Inv τc τr ∧ τr 1 = σr 1 ∧ (bt (nI (2 ^ i)) i = true → bt T i = true) := by
  have hR := hI.1.1
  have hW := hI.1.2.1
  have h8 := hW.p.2
  have h256 := pow_8 h8
  have h2 : 2 ^ i < 2 ^ nP (σr 1) := Nat.pow_lt_pow_right (by decide) hi
  rw [c_all hR hW, r_all hW, bit_n i (by omega)]
  obtain ⟨T, τc, τr, f1, f2, f3, f4, f5, f6, f7, f8⟩ := spread_e (S := nI (2 ^ i)) (E := nI (2 ^ nP (σr 1) - 1)) ⟨2 ^ i, by omega, rfl⟩ (sub_all h2) hR (by decide) hW rfl
  exact ⟨T, τc, τr, f1, f2, f3, hI.sp f4 f5, f5.1 1 (by decide) (by decide), f8 i⟩
theorem starter_l {P : Nat} (hP : P ≤ 8) : ∀ n i x y σc σr, Inv σc σr → nP (σr 1) = P → 0 ≤ x → i ≤ P → P - i < n → ∃ v τc τr, lw4 (fX5_starter_23) n x y (nI i) σc = some (v, τc) ∧ lw4 (fX6_starter_6) n x y (nI i) σr = some (v, τr) ∧ Inv τc τr := by
  intro n
  induction n with
  | zero => intro i _ _ _ _ _ _ _ _ h2; omega
  | succ n ih =>
    intro i x y σc σr hI hp hx h1 h2
    have hR := hI.1.1
    have hW := hI.1.2.1
    rw [lw4_s, lw4_s, fX5_starter_23, fX6_starter_6, hR.1.2.2.2.2.1, hW.p.1, hp]
    by_cases e : i = P
    · rw [e, if_pos (Int32.le_refl _), if_pos (Int32.le_refl _), if_pos hx]
      exact ⟨_, _, _, rfl, rfl, hI⟩
    rw [if_neg (nle_n (by omega) (by omega)), if_neg (nle_n (by omega) (by omega))]
    obtain ⟨T, τc, τr, f1, f2, f3, f4, f5, -⟩ := one_e hI (i := i) (by omega)
    rw [f1, f2]
    simp only [bnd2_s, pb_e, r_ones, Option.bind_some, f3.pc, nI_1]
    show ∃ v τc' τr', (if pc T ≤ y then _ else _) = some (v, τc') ∧ (if pc T ≤ y then _ else _) = some (v, τr') ∧ Inv τc' τr'
    by_cases h : pc T ≤ y
    · rw [if_pos h, if_pos h, show iMax y (onesS T 8) = y from if_neg (Int32.not_lt.mpr h)]
      exact ih (i + 1) x y τc τr f4 (by rw [f5]; exact hp) hx (by omega) (by omega)
    · rw [if_neg h, if_neg h, show iMax y (onesS T 8) = pc T from if_pos (Int32.not_le.mp h)]
      exact ih (i + 1) (nI i) (pc T) τc τr f4 (by rw [f5]; exact hp) (nI_pos' (by omega)) (by omega) (by omega)
theorem FU_s : ∃ n, FU = n + 1 ∧ 10000 < n := ⟨FU - 1, by have := FU_gt; omega, by have := FU_gt; omega⟩
theorem st_starter : StI Inv fX5_starter fX6_starter := by
  intro σc σr hI
  have hR := hI.1.1
  have hW := hI.1.2.1
  have h8 := hW.p.2
  obtain ⟨n, hn, hn2⟩ := FU_s
  rw [fX5_starter, fX6_starter, pb_e, hR.1.2.2.2.2.1, hW.p.1, hn, lw4_s, lw4_s, fX5_starter_23, fX6_starter_6, hR.1.2.2.2.2.1, hW.p.1]
  by_cases h0 : nP (σr 1) = 0
  · rw [h0, if_pos (show nI 0 = (0 : Int32) from rfl), if_pos (show nI 0 ≤ (0 : Int32) by decide), if_neg (show ¬ (0 : Int32) ≤ -1 by decide), b2id, b2id]
    exact st_find hI (by decide) (found_3 σc) (finds_3 σr)
  rw [if_neg (show ¬ nI (nP (σr 1)) = (0 : Int32) from fun z => h0 ((nI_eq (b := 0) (by omega) (by decide)).mp z)), if_neg (show ¬ nI (nP (σr 1)) ≤ (0 : Int32) from nle_n (a := 0) (by omega) (by omega)), if_neg (show ¬ nI (nP (σr 1)) ≤ (0 : Int32) from nle_n (a := 0) (by omega) (by omega))]
  obtain ⟨T, τc, τr, f1, f2, f3, f4, f5, f6⟩ := one_e hI (i := 0) (by omega)
  rw [show nI 0 = (0 : Int32) from rfl] at f1 f2
  have hb : bt T 0 = true := f6 (by decide)
  have hpc : 0 < pc T := by
    obtain ⟨m, hm, rfl⟩ := f3
    exact pc_pos m hm hb
  have hle : ¬ pc T ≤ 0 := fun z => absurd hpc (Int32.not_lt.mpr z)
  rw [f1, f2]
  simp only [bnd2_s, pb_e, r_ones, Option.bind_some, f3.pc]
  rw [if_neg hle, if_neg (show ¬ onesS T 8 ≤ 0 from hle), show iMax 0 (onesS T 8) = pc T from if_pos hpc, show (0 : Int32) + 1 = nI 1 from rfl]
  exact starter_l h8 n 1 0 (pc T) τc τr f4 (by rw [f5]) (by decide) (by omega) (by omega)
