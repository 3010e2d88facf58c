/-! copy: the reference's two loops -/
theorem ix3 (s f k : Nat) : ((40 * nI s + nI f) + nI k : Int32) = nI (40 * s + f + k) := by rw [ix40, nI_add]
theorem cp1_l {σ : Mem} {s f t g n : Nat} (hs : s < 4) (hf : f + n ≤ 40) : ∀ m k σ', k ≤ n → n - k < m → ((∀ r, r ≠ 11 → σ' r = σ r) ∧ ∀ j, j < k → σ' 11 j = σ 10 (40 * s + f + j)) → ∃ τ, lw2 (fX6_copy_135 (nI s) (nI f) (nI t) (nI g) (nI n)) m (nI k) σ' = lw2 (fX6_copy_172 (nI t) (nI g) (nI n)) FU 0 τ ∧ (∀ r, r ≠ 11 → τ r = σ r) ∧ ∀ j, j < n → τ 11 j = σ 10 (40 * s + f + j) := by
  intro m
  induction m with
  | zero => intro k _ _ h2; omega
  | succ m ih =>
    intro k σ' h1 h2 h
    rw [lw2_s, fX6_copy_135]
    by_cases e : k = n
    · subst e
      rw [if_pos (Int32.le_refl _)]
      exact ⟨σ', rfl, h⟩
    · rw [if_neg (nle_n (by omega) (by omega)), ix3, gd_t (inB_n (show 40 * s + f + k < 160 by omega) (by decide)), gd_t (inB_n (show k < 40 by omega) (by decide)), pb_e, nI_clamp (show k < 2 ^ 31 by omega), nI_clamp (show 40 * s + f + k < 2 ^ 31 by omega), nI_1]
      refine ih (k + 1) _ (by omega) (by omega) ⟨fun r hr => by rw [up2_n hr]; exact h.1 r hr, fun j hj => ?_⟩
      rw [up2_a]
      by_cases ej : j = k
      · rw [if_pos ⟨rfl, ej⟩, ej, h.1 10 (by decide)]
      · rw [if_neg (fun z => ej z.2)]; exact h.2 j (by omega)
theorem cp2_l {σ : Mem} {t g n : Nat} (ht : t < 4) (hg : g + n ≤ 40) : ∀ m k σ', k ≤ n → n - k < m → ((∀ r, r ≠ 10 → σ' r = σ r) ∧ ∀ j, σ' 10 j = if 40 * t + g ≤ j ∧ j < 40 * t + g + k then σ 11 (j - (40 * t + g)) else σ 10 j) → ∃ τ, lw2 (fX6_copy_172 (nI t) (nI g) (nI n)) m (nI k) σ' = some (nI n, τ) ∧ (∀ r, r ≠ 10 → τ r = σ r) ∧ ∀ j, τ 10 j = if 40 * t + g ≤ j ∧ j < 40 * t + g + n then σ 11 (j - (40 * t + g)) else σ 10 j := by
  intro m
  induction m with
  | zero => intro k _ _ h2; omega
  | succ m ih =>
    intro k σ' h1 h2 h
    rw [lw2_s, fX6_copy_172]
    by_cases e : k = n
    · subst e
      rw [if_pos (Int32.le_refl _)]
      exact ⟨σ', rfl, h⟩
    · rw [if_neg (nle_n (by omega) (by omega)), ix3, gd_t (inB_n (show k < 40 by omega) (by decide)), gd_t (inB_n (show 40 * t + g + k < 160 by omega) (by decide)), pb_e, nI_clamp (show k < 2 ^ 31 by omega), nI_clamp (show 40 * t + g + k < 2 ^ 31 by omega), nI_1]
      refine ih (k + 1) _ (by omega) (by omega) ⟨fun r hr => by rw [up2_n hr]; exact h.1 r hr, fun j => ?_⟩
      rw [up2_a]
      by_cases ej : j = 40 * t + g + k
      · rw [if_pos ⟨rfl, ej⟩, if_pos (by omega), h.1 11 (by decide), show j - (40 * t + g) = k by omega]
      · rw [if_neg (fun z => ej z.2), h.2 j]
        exact ite_iff (by omega) _ _
theorem copy_e {σc σr : Mem} (hI : Inv σc σr) {s f t g n : Nat} (hs : s < 4) (ht : t < 4) (hf : f + n ≤ 40) (hg : g + n ≤ 40) : ∃ τr, fX6_copy_119 (nI s) (nI f) (nI t) (nI g) (nI n) 1 σr = some (nI n, τr) ∧ Inv (upR σc (38 + 2 * t) (va_cpy (σc (38 + 2 * s)) (σc (38 + 2 * t)) f g n)) τr := by
  obtain ⟨u, e1, e2, e3⟩ := cp1_l (σ := σr) (s := s) (f := f) (t := t) (g := g) (n := n) hs hf FU 0 σr (by omega) (Nat.lt_trans (show n - 0 < 10100 by omega) FU_gt) ⟨fun _ _ => rfl, fun j hj => by omega⟩
  obtain ⟨w, g1, g2, g3⟩ := cp2_l (σ := u) (t := t) (g := g) (n := n) ht hg FU 0 u (by omega) (Nat.lt_trans (show n - 0 < 10100 by omega) FU_gt) ⟨fun _ _ => rfl, fun j => by rw [if_neg (by omega)]⟩
  refine ⟨w, ?_, hI.sheet (fun k hk => upR_n (by omega)) (fun k hk => by rw [g2 k (by omega), e2 k (by omega)]) (fun v hv => ?_)⟩
  · rw [fX6_copy_119, if_neg (by decide)]
    exact e1.trans g1
  · obtain ⟨h1, h2, h3, h4, h5⟩ := hI.2.2.2.1 v hv
    rw [upR_n (by omega), g2 8 (by decide), g2 9 (by decide), e2 8 (by decide), e2 9 (by decide)]
    refine ⟨h1, h2, h3, h4, fun j hj => ?_⟩
    by_cases ev : v = t
    · subst ev
      rw [upR_s, g3]
      by_cases hj2 : g ≤ j ∧ j < g + n
      · rw [pk_cpy_in hj2.1 hj2.2, if_pos (by omega), e3 _ (by omega), show 40 * v + j - (40 * v + g) = j - g by omega]
        rw [(hI.2.2.2.1 s hs).2.2.2.2 (f + (j - g)) (by omega), Nat.add_assoc]
      · rw [pk_cpy_out (by omega), if_neg (by omega), e2 10 (by decide)]
        exact h5 j hj
    · rw [upR_n (by omega), g3, if_neg (by omega), e2 10 (by decide)]
      exact h5 j hj
theorem st_copy (a1 a2 a3 a4 a5 : Int32) : StI Inv (fX5_copy a1 a2 a3 a4 a5) (fX6_copy a1 a2 a3 a4 a5) := by
  intro σc σr hI
  rw [fX5_copy, fX6_copy, isSheet_e, isSheet_e]
  simp only [b2id]
  by_cases h1 : fX5_within a1 0 3 = true
  case neg => rw [if_neg h1, if_neg h1]; exact st_find hI (by decide) (found_0 σc) (finds_0 σr)
  rw [if_pos h1, if_pos h1]
  by_cases h2 : fX5_within a3 0 3 = true
  case neg => rw [if_neg h2, if_neg h2]; exact st_find hI (by decide) (found_0 σc) (finds_0 σr)
  rw [if_pos h2, if_pos h2]
  obtain ⟨s, hs, rfl⟩ := rng_of (b := 3) rfl (by decide) h1
  obtain ⟨t, ht, rfl⟩ := rng_of (b := 3) rfl (by decide) h2
  obtain ⟨s1, s2, s3, ⟨L, hL, eL⟩, s5⟩ := hI.2.2.2.1 s (by omega)
  obtain ⟨t1, t2, t3, ⟨M, hM, eM⟩, t5⟩ := hI.2.2.2.1 t (by omega)
  simp only [gd_t (inB_n (show s < 4 by omega) (show 4 < 2 ^ 31 by decide)), gd_t (inB_n (show t < 4 by omega) (show 4 < 2 ^ 31 by decide)), nI_clamp (show s < 2 ^ 31 by omega), nI_clamp (show t < 2 ^ 31 by omega), fX2_isMissing, s1, t1, eL, eM]
  by_cases h3 : σr 8 s = 0
  · rw [if_pos h3, if_pos rfl, if_pos h3]; exact st_find hI (by decide) (found_5 σc) (finds_5 σr)
  rw [if_neg h3, if_neg (by decide), if_neg h3]
  by_cases h4 : σr 8 t = 0
  · rw [if_pos h4, if_pos rfl, if_pos h4]; exact st_find hI (by decide) (found_5 σc) (finds_5 σr)
  rw [if_neg h4, if_neg (by decide), if_neg h4]
  by_cases h5 : σr 8 s = σr 8 t
  case neg => rw [if_neg h5, if_neg h5]; exact st_find hI (by decide) (found_2 σc) (finds_2 σr)
  rw [if_pos h5, if_pos h5]
  have hc1 := has_e hL (s3.trans eL) a2 a5
  have hc2 := has_e hM (t3.trans eM) a4 a5
  by_cases hC : fX2_has (37 + 2 * s) a2 a5 σc = true ∧ fX2_has (37 + 2 * t) a4 a5 σc = true
  · rw [if_pos hC.1, if_pos hC.2]
    obtain ⟨f, n, rfl, rfl, hfn⟩ := hc1.mp hC.1
    obtain ⟨g, n', rfl, en, hgn⟩ := hc2.mp hC.2
    have enn : n = n' := (nI_eq (by omega) (by omega)).mp en
    subst enn
    have l1 : ¬ 0 < lg_cmp ((nI f).toInt64 + (nI n).toInt64) (nI L).toInt64 := fun z => by
      have := lsum_gt.mp z
      rw [nI_toInt (by omega), nI_toInt (by omega), nI_toInt (by omega)] at this
      omega
    have l2 : ¬ 0 < lg_cmp ((nI g).toInt64 + (nI n).toInt64) (nI M).toInt64 := fun z => by
      have := lsum_gt.mp z
      rw [nI_toInt (by omega), nI_toInt (by omega), nI_toInt (by omega)] at this
      omega
    have hok : cpOk (nI f) (nI g) (nI n) 40 40 = true := by
      unfold cpOk
      rw [nI_clamp (by omega), nI_clamp (by omega), nI_clamp (by omega), decide_eq_true (nI_pos' (by omega)), decide_eq_true (nI_pos' (by omega)), decide_eq_true (nI_pos' (by omega)), decide_eq_true (show f + n ≤ 40 by omega), decide_eq_true (show g + n ≤ 40 by omega)]
      rfl
    obtain ⟨τr, k1, k2⟩ := copy_e hI (s := s) (f := f) (t := t) (g := g) (n := n) (by omega) (by omega) (by omega) (by omega)
    rw [if_neg (nI_pos (by omega)), if_neg (nI_pos (by omega)), if_neg (nI_pos (by omega)), if_neg l1, if_neg l2, k1, gd_t hok, pb_e, nI_clamp (show f < 2 ^ 31 by omega), nI_clamp (show g < 2 ^ 31 by omega), nI_clamp (show n < 2 ^ 31 by omega), show 37 + 2 * t + 1 = 38 + 2 * t by omega, show 37 + 2 * s + 1 = 38 + 2 * s by omega]
    exact ⟨_, _, _, rfl, rfl, k2⟩
  · have hcl : (if fX2_has (37 + 2 * s) a2 a5 σc = true then (if fX2_has (37 + 2 * t) a4 a5 σc = true then (gd (cpOk a2 a4 a5 40 40 = true) (pb (upR σc (37 + 2 * t + 1) (va_cpy (σc (37 + 2 * s + 1)) (σc (37 + 2 * t + 1)) a2.toNatClampNeg a4.toNatClampNeg a5.toNatClampNeg) : Mem) fun s_131 => (some (a5, s_131)))) else fX5_found (-1000001) σc) else fX5_found (-1000001) σc) = fX5_found (-1000001) σc := by
      by_cases q1 : fX2_has (37 + 2 * s) a2 a5 σc = true
      · rw [if_pos q1, if_neg (fun z => hC ⟨q1, z⟩)]
      · rw [if_neg q1]
    have h118 : fX6_copy_118 (nI s) a2 (nI t) a4 a5 σr = fX6_finds 0 σr := by rw [fX6_copy_118, fX6_copy_119, if_pos rfl, b2id]
    rw [hcl, h118]
    have fin := st_find hI (k := 0) (by decide) (found_0 σc) (finds_0 σr)
    by_cases q1 : a5 < 0
    · rw [if_pos q1]; exact fin
    by_cases q2 : a2 < 0
    · rw [if_neg q1, if_pos q2]; exact fin
    by_cases q3 : a4 < 0
    · rw [if_neg q1, if_neg q2, if_pos q3]; exact fin
    rw [if_neg q1, if_neg q2, if_neg q3]
    obtain ⟨n, hn, rfl⟩ := nI_of q1
    obtain ⟨f, hf, rfl⟩ := nI_of q2
    obtain ⟨g, hg, rfl⟩ := nI_of q3
    by_cases q4 : 0 < lg_cmp ((nI f).toInt64 + (nI n).toInt64) (nI L).toInt64
    · rw [if_pos q4]; exact fin
    by_cases q5 : 0 < lg_cmp ((nI g).toInt64 + (nI n).toInt64) (nI M).toInt64
    · rw [if_neg q4, if_pos q5]; exact fin
    have z4 : f + n ≤ L := by
      have : ¬ (nI L).toInt < (nI f).toInt + (nI n).toInt := fun z => q4 (lsum_gt.mpr z)
      rw [nI_toInt (by omega), nI_toInt (by omega), nI_toInt (by omega)] at this
      omega
    have z5 : g + n ≤ M := by
      have : ¬ (nI M).toInt < (nI g).toInt + (nI n).toInt := fun z => q5 (lsum_gt.mpr z)
      rw [nI_toInt (by omega), nI_toInt (by omega), nI_toInt (by omega)] at this
      omega
    exact absurd ⟨hc1.mpr ⟨f, n, rfl, rfl, z4⟩, hc2.mpr ⟨g, n, rfl, rfl, z5⟩⟩ hC
