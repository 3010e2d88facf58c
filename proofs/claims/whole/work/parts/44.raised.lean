/-! raised, ahead, stale, broke -/
theorem c_tog_l {σ : Mem} {r k P : Nat} (hP : P ≤ 8) (h0 : σ r 0 = nI P) : ∀ n p, p ≤ P → P - p < n → lw2 (fX1_together_4 r k σ) n (smV (σ k) p) (nI p) = some (smV (σ k) P) := by
  intro n
  induction n with
  | zero => intro i _ h2; omega
  | succ n ih =>
    intro p h1 h2
    rw [lw2_s, fX1_together_4, h0]
    by_cases e : p = P
    · rw [← e, if_pos (Int32.le_refl _)]
    · rw [if_neg (nle_n (by omega) (by omega)), gd_t (inB_n (by omega) (by decide)), pb_e, nI_1, nI_clamp (by omega)]
      exact ih (p + 1) (by omega) (by omega)
theorem c_tog {σ : Mem} {r k P : Nat} (hP : P ≤ 8) (h0 : σ r 0 = nI P) : fX1_together r k σ = some (smV (σ k) P) := by
  rw [fX1_together]
  exact c_tog_l hP h0 FU 0 (by omega) (Nat.lt_trans (show P - 0 < 10100 by omega) FU_gt)
theorem r_paid_l {σ : Mem} {P : Nat} (hP : P ≤ 8) (h5 : σ 1 5 = nI P) : ∀ n p, p ≤ P → P - p < n → lw2 (fX6_allPaid_4 σ) n (smV (σ 6) p) (nI p) = some (smV (σ 6) P) := by
  intro n
  induction n with
  | zero => intro i _ h2; omega
  | succ n ih =>
    intro p h1 h2
    rw [lw2_s, fX6_allPaid_4, h5]
    by_cases e : p = P
    · rw [← e, if_pos (Int32.le_refl _)]
    · rw [if_neg (nle_n (by omega) (by omega)), gd_t (inB_n (by omega) (by decide)), pb_e, nI_1, nI_clamp (by omega)]
      exact ih (p + 1) (by omega) (by omega)
theorem r_paid {σ : Mem} {P : Nat} (hP : P ≤ 8) (h5 : σ 1 5 = nI P) : fX6_allPaid σ = some (smV (σ 6) P) := by
  rw [fX6_allPaid]
  exact r_paid_l hP h5 FU 0 (by omega) (Nat.lt_trans (show P - 0 < 10100 by omega) FU_gt)
theorem st_raised (a1 : Int32) : StI Inv (fX5_raised a1) (fX6_raised a1) := by
  intro σc σr hI
  have hR := hI.1.1
  have hW := hI.1.2.1
  rw [fX5_raised, fX6_raised, hasJ hR]
  by_cases h1 : fX6_isJoke a1 σr = true
  case neg => rw [if_neg h1, if_neg h1, b2id, b2id]; exact st_find hI (by decide) (found_0 σc) (finds_0 σr)
  rw [if_pos h1, if_pos h1]
  obtain ⟨j, -, hj, rfl⟩ := isJ_n hW h1
  obtain ⟨uc, ur, e1, e2, e3, e4⟩ := lend_e hI
  obtain ⟨T, τc, τr, f1, f2, f3, f4, f5, -⟩ := perform_e (by decide) e3.2.2.1 e3.2.2.2 hj
  have hp := e3.tell f3 f4 f5
  obtain ⟨υr, g1, g2, g3, g4, -⟩ := back_e hI hp.1 hp.2.1
  have hP := hW.p
  have q0 : τc 11 0 = nI (nP (σr 1)) := by
    rw [f3.1.2.2.2.2.1, f5.2.2.2.2.1 5 (by decide) (by decide) (fun q _ => by omega), e4]; exact hP.1
  have q5 : υr 1 5 = nI (nP (σr 1)) := by rw [g3 5 (by decide)]; exact hP.1
  rw [e1, e2, Option.bind_some, Option.bind_some, f1, f2, bnd2_s, bnd2_s, c_tog hP.2 q0, g1, Option.bind_some, Option.bind_some, r_paid hP.2 q5, Option.bind_some, g4 6 (by decide)]
  refine ⟨smV (τr 6) (nP (σr 1)), _, _, ?_, rfl, g2⟩
  rw [smV_cong (g := τc 33) (h := τr 6) _ (fun q hq => f5.2.2.2.1 q (by rw [e4]; exact hq))]
theorem ahead_l {σc0 σr0 : Mem} (hI : Inv σc0 σr0) {j N : Nat} (hj : j < 8) (hN : N ≤ 60) : ∀ n i σc σr, Pl σc0 σr0 σc σr → i ≤ N → N - i < n → ∃ v τc τr, lw2 (fX4_performOften_3 11 (nI j) (nI N)) n (nI i) σc = some (v, τc) ∧ lw2 (fX6_ahead_32 (nI j) (nI N)) n (nI i) σr = some (v, τr) ∧ Inv τc τr := by
  intro n
  induction n with
  | zero => intro i _ _ _ _ h2; omega
  | succ n ih =>
    intro i σc σr hp h1 h2
    rw [lw2_s, lw2_s, fX4_performOften_3, fX6_ahead_32]
    by_cases e : i = N
    · obtain ⟨υr, g1, g2, -⟩ := back_e hI hp.1 hp.2.1
      rw [e, if_pos (Int32.le_refl _), if_pos (Int32.le_refl _), hp.2.2.1.1.2.2.1, pb_e, g1, Option.bind_some]
      exact ⟨_, _, _, rfl, rfl, g2⟩
    · rw [if_neg (nle_n (by omega) (by omega)), if_neg (nle_n (by omega) (by omega))]
      obtain ⟨T, τc, τr, f1, f2, f3, f4, f5, -⟩ := perform_e (by decide) hp.2.2.1 hp.2.2.2 hj
      rw [f1, f2, bnd2_s, bnd2_s, nI_1]
      exact ih (i + 1) τc τr (hp.tell f3 f4 f5) (by omega) (by omega)
theorem st_ahead (a1 a2 : Int32) : StI Inv (fX5_ahead a1 a2) (fX6_ahead a1 a2) := by
  intro σc σr hI
  have hR := hI.1.1
  have hW := hI.1.2.1
  rw [fX5_ahead, fX6_ahead, hasJ hR, in_l a2 0 60 (by decide) (by decide)]
  simp only [b2id]
  by_cases h1 : fX6_isJoke a1 σr = true
  case neg => rw [if_neg h1, if_neg h1]; exact st_find hI (by decide) (found_0 σc) (finds_0 σr)
  rw [if_pos h1, if_pos h1]
  obtain ⟨j, -, hj, rfl⟩ := isJ_n hW h1
  by_cases h2 : fX5_within a2 0 60 = true
  case neg => rw [if_neg h2, if_neg h2]; exact st_find hI (by decide) (found_0 σc) (finds_0 σr)
  rw [if_pos h2, if_pos h2]
  obtain ⟨N, -, hN, rfl⟩ := bnI (a := 0) (b := 60) rfl rfl (by decide) (by decide) h2
  obtain ⟨uc, ur, e1, e2, e3, e4⟩ := lend_e hI
  rw [e1, e2, Option.bind_some, Option.bind_some, fX4_performOften]
  exact ahead_l hI hj hN FU 0 uc ur e3 (by omega) (Nat.lt_trans (show N - 0 < 10100 by omega) FU_gt)
theorem orNone_1 {i : Nat} (h : i ≤ 60) (σ : Mem) : fX6_orNone (nI i) σ = some (nI i, σ) := by
  rw [fX6_orNone, if_neg (show ¬ (60 : Int32) < nI i from nI_nlt (a := 60) (b := i) h (by decide))]
theorem orNone_2 (σ : Mem) : fX6_orNone (nI 61) σ = fX6_finds 3 σ := by
  rw [fX6_orNone, if_pos (by decide), b2id]
theorem n60 {i : Nat} (h : i ≤ 60) : ¬ (60 : Int32) < nI i := nI_nlt (a := 60) (b := i) h (by decide)
theorem stale_l {σc0 σr0 : Mem} (hI : Inv σc0 σr0) {j : Nat} (hj : j < 8) : ∀ n i σc σr, Pl σc0 σr0 σc σr → i ≤ 61 → 61 - i < n → ∃ v τc τr, lw2 (fX5_stale_28 (nI j)) n (nI i) σc = some (v, τc) ∧ lw2 (fX6_stale_20 (nI j)) n (nI i) σr = some (v, τr) ∧ Inv τc τr := by
  intro n
  induction n with
  | zero => intro i _ _ _ _ h2; omega
  | succ n ih =>
    intro i σc σr hp h1 h2
    rw [lw2_s, lw2_s, fX5_stale_28, fX6_stale_20]
    by_cases e : i = 61
    · obtain ⟨υr, g1, g2, -⟩ := back_e hI hp.1 hp.2.1
      rw [e, if_pos (by decide), if_pos (by decide), g1, Option.bind_some, orNone_2, b2id, b2id]
      exact st_find g2 (by decide) (found_3 _) (finds_3 _)
    · rw [if_neg (n60 (by omega)), if_neg (n60 (by omega))]
      obtain ⟨T, uc, ur, f1, f2, f3, f4, f5, -⟩ := laughers_e hp.2.2.1 (by decide) hp.2.2.2 rfl hj
      have hq : Pl σc0 σr0 σc ur := hp.sp (fun _ _ _ => rfl) f5
      obtain ⟨T2, τc, τr, g1, g2, g3, g4, g5, s, g6⟩ := perform_e (by decide) hq.2.2.1 hq.2.2.2 hj
      rw [f1] at g6
      cases g6
      rw [g1, f2, bnd2_s, bnd2_s]
      by_cases hT : T = 0
      · obtain ⟨υr, k1, k2, -⟩ := back_e hI (σc := τc) (σr := ur) ⟨(hq.tell g3 g4 g5).1.1, hq.1.2⟩ hq.2.1
        rw [if_pos hT, if_pos hT, k1, Option.bind_some, orNone_1 (by omega)]
        exact ⟨_, _, _, rfl, rfl, k2⟩
      · rw [if_neg hT, if_neg hT, g2, bnd2_s, nI_1]
        exact ih (i + 1) τc τr (hq.tell g3 g4 g5) (by omega) (by omega)
theorem st_stale (a1 : Int32) : StI Inv (fX5_stale a1) (fX6_stale a1) := by
  intro σc σr hI
  have hR := hI.1.1
  have hW := hI.1.2.1
  rw [fX5_stale, fX6_stale, hasJ hR]
  by_cases h1 : fX6_isJoke a1 σr = true
  case neg => rw [if_neg h1, if_neg h1, b2id, b2id]; exact st_find hI (by decide) (found_0 σc) (finds_0 σr)
  rw [if_pos h1, if_pos h1]
  obtain ⟨j, -, hj, rfl⟩ := isJ_n hW h1
  obtain ⟨uc, ur, e1, e2, e3, e4⟩ := lend_e hI
  rw [e1, e2, Option.bind_some, Option.bind_some]
  exact stale_l hI hj FU 0 uc ur e3 (by omega) (Nat.lt_trans (show 61 - 0 < 10100 by omega) FU_gt)
theorem broke_l {σc0 σr0 : Mem} (hI : Inv σc0 σr0) {j p : Nat} (hj : j < 8) (hp8 : p < 8) : ∀ n i σc σr, Pl σc0 σr0 σc σr → i ≤ 61 → 61 - i < n → ∃ v τc τr, lw2 (fX5_broke_36 (nI j) (nI p)) n (nI i) σc = some (v, τc) ∧ lw2 (fX6_broke_28 (nI j) (nI p)) n (nI i) σr = some (v, τr) ∧ Inv τc τr := by
  intro n
  induction n with
  | zero => intro i _ _ _ _ h2; omega
  | succ n ih =>
    intro i σc σr hp h1 h2
    obtain ⟨υr, k1, k2, -⟩ := back_e hI hp.1 hp.2.1
    rw [lw2_s, lw2_s, fX5_broke_36, fX6_broke_28]
    by_cases e : i = 61
    · rw [e, if_pos (by decide), if_pos (by decide), k1, Option.bind_some, orNone_2, b2id, b2id]
      exact st_find k2 (by decide) (found_3 _) (finds_3 _)
    · have e16 : σc 16 p = it (σr 1) p 4 := (hp.2.2.1.2.2.1 p hp8).2.2.2.2
      obtain ⟨y, hy, ey⟩ := (hp.2.2.2.2.2.1 p hp8).2.2.2.2
      rw [if_neg (n60 (by omega)), if_neg (n60 (by omega)), gd_t (inB_n hp8 (by decide)), nI_clamp (by omega), r_its' rfl (y := 4) (w := 4) rfl hp8 (by decide), Option.bind_some, e16, ey]
      by_cases hy0 : y = 0
      · subst hy0
        rw [if_pos (show nI 0 = (0 : Int32) from rfl), if_pos (show nI 0 ≤ (0 : Int32) by decide), k1, Option.bind_some, orNone_1 (by omega)]
        exact ⟨_, _, _, rfl, rfl, k2⟩
      · rw [if_neg (nI_ne0 (by omega) (by omega)), if_neg (nI_nle (by omega) (by omega))]
        obtain ⟨T, τc, τr, f1, f2, f3, f4, f5, -⟩ := perform_e (by decide) hp.2.2.1 hp.2.2.2 hj
        rw [f1, f2, bnd2_s, bnd2_s, nI_1]
        exact ih (i + 1) τc τr (hp.tell f3 f4 f5) (by omega) (by omega)
theorem st_broke (a1 a2 : Int32) : StI Inv (fX5_broke a1 a2) (fX6_broke a1 a2) := by
  intro σc σr hI
  have hR := hI.1.1
  have hW := hI.1.2.1
  rw [fX5_broke, fX6_broke, hasJ hR, hasP hR]
  simp only [b2id]
  by_cases h1 : fX6_isJoke a1 σr = true
  case neg => rw [if_neg h1, if_neg h1]; exact st_find hI (by decide) (found_0 σc) (finds_0 σr)
  rw [if_pos h1, if_pos h1]
  obtain ⟨j, -, hj, rfl⟩ := isJ_n hW h1
  by_cases h2 : fX6_isPerson a2 σr = true
  case neg => rw [if_neg h2, if_neg h2]; exact st_find hI (by decide) (found_0 σc) (finds_0 σr)
  rw [if_pos h2, if_pos h2]
  obtain ⟨p, -, hp, rfl⟩ := isP_n hW h2
  obtain ⟨uc, ur, e1, e2, e3, e4⟩ := lend_e hI
  rw [e1, e2, Option.bind_some, Option.bind_some]
  exact broke_l hI hj hp FU 0 uc ur e3 (by omega) (Nat.lt_trans (show 61 - 0 < 10100 by omega) FU_gt)
