/-! load -/
theorem iMin_n {a b : Nat} (ha : a < 2 ^ 31) (hb : b < 2 ^ 31) : iMin (nI a) (nI b) = nI (min a b) := by
  unfold iMin
  by_cases h : b < a
  · rw [if_pos ((nI_ltI hb ha).mpr h), Nat.min_eq_right (by omega)]
  · rw [if_neg (fun z => h ((nI_ltI hb ha).mp z)), Nat.min_eq_left (by omega)]
theorem load_l {s L P : Nat} (hs : s < 4) (hL : L ≤ 40) (hP : P ≤ 8) : ∀ n i σc σr, Inv σc σr → σr 9 s = nI L → σr 1 5 = nI P → i ≤ min L P → min L P - i < n → ∃ v τc τr, lw2 (fX5_load_39 (nI s) (nI (min L P))) n (nI i) σc = some (v, τc) ∧ lw2 (fX6_load_18 (nI s)) n (nI i) σr = some (v, τr) ∧ Inv τc τr := by
  intro n
  induction n with
  | zero => intro i _ _ _ _ _ _ h2; omega
  | succ n ih =>
    intro i σc σr hI e9 e5 h1 h2
    have hR := hI.1.1
    have hW := hI.1.2.1
    rw [lw2_s, lw2_s, fX5_load_39, fX6_load_18]
    simp only [gd_t (inB_n hs (show 4 < 2 ^ 31 by decide)), nI_clamp (show s < 2 ^ 31 by omega), nI_clamp (show i < 2 ^ 31 by omega)]
    rw [e9, e5]
    by_cases e : i = min L P
    · rw [← e, if_pos (Int32.le_refl _)]
      by_cases e2 : L ≤ i
      · rw [if_pos (nI_le e2 (by omega))]; exact ⟨_, _, _, rfl, rfl, hI⟩
      · rw [if_neg (nle_n (by omega) (by omega)), if_pos (nI_le (by omega) (by omega))]; exact ⟨_, _, _, rfl, rfl, hI⟩
    have hiL : i < L := by omega
    have hiP : i < P := by omega
    obtain ⟨s1, s2, s3, s4, s5⟩ := hI.2.2.2.1 s hs
    have ev : σc (37 + 2 * s + 1) i = σr 10 (40 * s + i) := by
      rw [show 37 + 2 * s + 1 = 38 + 2 * s by omega]
      exact s5 i (by omega)
    rw [if_neg (nle_n (show i < min L P by omega) (by omega)), if_neg (nle_n hiL (by omega)), if_neg (nle_n hiP (by omega))]
    simp only [sh_ix, gd_t (inB_n (show i < 40 by omega) (show 40 < 2 ^ 31 by decide)), gd_t (inB_n (show 40 * s + i < 160 by omega) (show 160 < 2 ^ 31 by decide)), nI_clamp (show 40 * s + i < 2 ^ 31 by omega), isSeat_e, ev]
    by_cases h3 : fX5_isSeat (σr 10 (40 * s + i)) = true
    case neg => rw [if_neg h3, if_neg h3]; exact ⟨_, _, _, rfl, rfl, hI⟩
    have s1' := r_sets (p := i) (w := 1) (show i < 8 by omega) (by decide) (σr 10 (40 * s + i)) σr
    rw [show nI 1 = (1 : Int32) from rfl] at s1'
    rw [if_pos h3, if_pos h3, s1', Option.bind_some, fX1_setSeat, gd_t (inB_n (show i < 8 by omega) (by decide)), pb_e, bid, nI_clamp (show i < 2 ^ 31 by omega)]
    obtain ⟨τ, e1, e2⟩ := live2 hI (kc := 3) (ic := i) (i := 23 + 5 * i + 1) (v := σr 10 (40 * s + i)) (by decide) (by decide) (hR.x.p (show i < 8 by omega) (show 1 < 5 by decide) _) (hW.pw (show i < 8 by omega) (show 1 < 5 by decide) (rng_of (b := 15) rfl (by decide) h3)) (by omega) (by omega)
    rw [show 1 + 2 = 3 from rfl, e1, Option.bind_some, nI_1]
    exact ih (i + 1) _ _ e2 (by rw [up2_n (by omega)]; exact e9) (by rw [up2_j (by omega)]; exact e5) (by omega) (by omega)
theorem st_load (a1 : Int32) : StI Inv (fX5_load a1) (fX6_load a1) := by
  intro σc σr hI
  rw [fX5_load, fX6_load]
  rcases sheet_c hI a1 with ⟨e1, e2⟩ | ⟨e1, e2⟩ | ⟨e1, e2, s, hs, rfl, h0⟩
  · rw [e1, e2, Option.bind_some, Option.bind_some, if_neg (by decide +kernel), if_neg (by decide), b2id, b2id]
    exact st_find hI (by decide) (found_0 σc) (finds_0 σr)
  · rw [e1, e2, Option.bind_some, Option.bind_some, if_neg (by decide +kernel), if_neg (by decide), b2id, b2id]
    exact st_find hI (by decide) (found_5 σc) (finds_5 σr)
  obtain ⟨s1, s2, s3, s4, s5⟩ := hI.2.2.2.1 s hs
  obtain ⟨L, hL, eL⟩ := s4
  obtain ⟨e5, h8⟩ := hI.1.2.1.p
  rw [e1, e2, Option.bind_some, Option.bind_some, if_pos (show (0 : Int32) = 0 from rfl), if_pos (show (-1 : Int32) < 0 by decide), gd_t (inB_n hs (by decide)), pb_e, nI_clamp (by omega), s3, eL, hI.1.1.1.2.2.2.2.1, e5, iMin_n (by omega) (by omega)]
  exact load_l hs hL h8 FU 0 σc σr hI eL e5 (by omega) (Nat.lt_trans (show min L (nP (σr 1)) - 0 < 10100 by omega) FU_gt)
