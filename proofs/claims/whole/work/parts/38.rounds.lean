/-! laugh, rounds -/
theorem c_laughers {σ : Mem} {r : Nat} {a : Vec} (hR : RmR σ r a) (hW : WFv a) {j : Nat} (hj : j < 8) : fX4_laughersOf r (nI j) σ = fX4_spread r (starts a (a (7 + 2 * j)) (a (7 + 2 * j + 1))) (nI (2 ^ nP a - 1)) σ := by
  obtain ⟨e0, e1⟩ := hR.2.1 j hj
  rw [fX4_laughersOf, gd_t (inB_n hj (by decide)), gd_t (inB_n hj (by decide)), nI_clamp (by omega), e0, e1, c_by (hW.2.2.2.1 j hj).1 _ hR hW, Option.bind_some, b2id, c_all hR hW]
theorem r_laughers {σ : Mem} {j : Nat} (hj : j < 8) : fX6_laughAt_ (nI j) σ = fX6_laughAt (σ 1 (7 + 2 * j)) (σ 1 (7 + 2 * j + 1)) σ := by
  rw [fX6_laughAt_, jk_0, nI_1, gd_t (inB_n (by omega) (by decide)), gd_t (inB_n (by omega) (by decide)), b2id, nI_clamp (by omega), nI_clamp (by omega)]
theorem laughers_e {σc σr : Mem} {r : Nat} {a : Vec} (hR : RmR σc r a) (hr : r + 9 < 31) (hW : WFv a) (ha : σr 1 = a) {j : Nat} (hj : j < 8) : ∃ T τc τr, fX4_laughersOf r (nI j) σc = some (T, τc) ∧ fX6_laughAt_ (nI j) σr = some (T, τr) ∧ S8 T ∧ SPC σc τc ∧ SPR σr τr ∧ τc 31 2 = τr 0 6 ∧ RR a T τc τr := by
  rw [c_laughers hR hW hj, r_laughers hj, ha]
  exact laugh_e (hW.2.2.2.1 j hj).1 hR hr hW ha
theorem st_laugh (a1 a2 : Int32) : StI Inv (fX5_laugh a1 a2) (fX6_laugh a1 a2) := by
  intro σc σr hI
  have hR := hI.1.1
  have hW := hI.1.2.1
  rw [fX5_laugh, fX6_laugh, hasJ hR, in_l a2 0 1 (by decide) (by decide)]
  simp only [b2id]
  by_cases h1 : fX6_isJoke a1 σr = true
  case neg => rw [if_neg h1, if_neg h1]; exact st_find hI (by decide) (found_0 σc) (finds_0 σr)
  rw [if_pos h1, if_pos h1]
  by_cases h2 : fX5_within a2 0 1 = true
  case neg => rw [if_neg h2, if_neg h2]; exact st_find hI (by decide) (found_0 σc) (finds_0 σr)
  rw [if_pos h2, if_pos h2]
  obtain ⟨j, -, hj, rfl⟩ := isJ_n hW h1
  by_cases h3 : a2 = 0
  · have e0 : σc 8 j = σr 1 (7 + 2 * j) := (hR.2.1 j hj).1
    have e1 : σc 9 j = σr 1 (7 + 2 * j + 1) := (hR.2.1 j hj).2
    rw [if_pos h3, if_pos h3, jk_0, nI_1, gd_t (inB_n hj (by decide)), gd_t (inB_n hj (by decide)), gd_t (inB_n (show 7 + 2 * j < 73 by omega) (by decide)), gd_t (inB_n (show 7 + 2 * j + 1 < 73 by omega) (by decide)), nI_clamp (show j < 2 ^ 31 by omega), nI_clamp (show 7 + 2 * j < 2 ^ 31 by omega), nI_clamp (show 7 + 2 * j + 1 < 2 ^ 31 by omega), e0, e1, c_by (hW.2.2.2.1 j hj).1 _ hR hW, r_by _ _ hW, Option.bind_some, Option.bind_some]
    exact ⟨_, _, _, rfl, rfl, hI⟩
  · rw [if_neg h3, if_neg h3]
    obtain ⟨T, τc, τr, f1, f2, f3, f4, f5, f6, f7⟩ := laughers_e hR (by decide) hW rfl hj
    exact ⟨_, _, _, f1, f2, hI.sp f4 f5⟩
theorem st_rounds (a1 : Int32) : StI Inv (fX5_rounds a1) (fX6_rounds a1) := by
  intro σc σr hI
  have hR := hI.1.1
  have hW := hI.1.2.1
  rw [fX5_rounds, fX6_rounds, hasJ hR]
  by_cases h1 : fX6_isJoke a1 σr = true
  case neg => rw [if_neg h1, if_neg h1, b2id, b2id]; exact st_find hI (by decide) (found_0 σc) (finds_0 σr)
  rw [if_pos h1, if_pos h1]
  obtain ⟨j, -, hj, rfl⟩ := isJ_n hW h1
  obtain ⟨T, τc, τr, f1, f2, f3, f4, f5, f6, f7⟩ := laughers_e hR (by decide) hW rfl hj
  rw [f1, f2]
  refine ⟨τr 0 6, τc, τr, ?_, rfl, hI.sp f4 f5⟩
  rw [← f6]
  rfl
