/-! which -/
def alT (g : Nat → Bool) : Nat → Bool
  | 0 => true
  | m + 1 => alT g m && g m
theorem alT_cong {g h : Nat → Bool} : ∀ m, (∀ i, i < m → g i = h i) → alT g m = alT h m := by
  intro m
  induction m with
  | zero => intro _; rfl
  | succ m ih => intro e; rw [alT, alT, ih (fun i hi => e i (by omega)), e m (by omega)]
theorem alT_f {g : Nat → Bool} {i : Nat} (h : g i = false) : ∀ m, i < m → alT g m = false := by
  intro m
  induction m with
  | zero => intro z; omega
  | succ m ih =>
    intro z
    rw [alT]
    by_cases e : i = m
    · rw [← e, h, Bool.and_false]
    · rw [ih (by omega), Bool.false_and]
theorem c_first_l {σ : Mem} {ks k1 M : Nat} (hM : M ≤ 8) : ∀ n i, i ≤ M → M - i < n → alT (fun i => decide (σ (ks + 1) i = -1 ∨ σ (ks + 1) i = σ k1 i)) i = true → lw1 (fX2_tellsFirst_12 ks k1 (nI M) σ) n (nI i) = some (alT (fun i => decide (σ (ks + 1) i = -1 ∨ σ (ks + 1) i = σ k1 i)) M) := by
  intro n
  induction n with
  | zero => intro i _ h2; omega
  | succ n ih =>
    intro i h1 h2 ha
    rw [lw1_s, fX2_tellsFirst_12]
    by_cases e : i = M
    · subst e
      rw [if_pos (Int32.le_refl _), ha]
    · rw [if_neg (nle_n (by omega) (by omega)), gd_t (inB_n (show i < 8 by omega) (by decide)), nI_clamp (by omega), c_tells ks (by omega), Option.bind_some, nI_1]
      by_cases h : decide (σ (ks + 1) i = -1 ∨ σ (ks + 1) i = σ k1 i) = true
      · rw [if_pos h]
        exact ih (i + 1) (by omega) (by omega) (by rw [alT, ha, h]; rfl)
      · rw [if_neg h, alT_f (i := i) (Bool.eq_false_iff.mpr h) M (by omega)]
theorem c_first {σ : Mem} {ks k1 P L : Nat} (hP : P ≤ 8) (hL : L ≤ 40) (e : σ ks 2 = nI L) : fX2_tellsFirst ks k1 (nI P) σ = some (alT (fun i => decide (σ (ks + 1) i = -1 ∨ σ (ks + 1) i = σ k1 i)) (min P L)) := by
  rw [fX2_tellsFirst, e, iMin_n (by omega) (by omega), pb_e]
  exact c_first_l (by omega) FU 0 (by omega) (Nat.lt_trans (show min P L - 0 < 10100 by omega) FU_gt) rfl
theorem r_first {σ : Mem} {s P L : Nat} (hs : s < 4) (hP : P ≤ 8) (hL : L ≤ 40) (e9 : σ 9 s = nI L) (e5 : σ 1 5 = nI P) (k21 : Int32 → Int32 → Mem → Option (Int32 × Mem)) (x3 x4 : Int32) : ∀ n i, i ≤ min P L → min P L - i < n → lw2 (fX6_which_55 k21 (nI s) x3 x4 σ) n (b2i (alT (fun i => decide (σ 10 (40 * s + i) = -1 ∨ σ 10 (40 * s + i) = σ 6 i)) i)) (nI i) = fX6_which_127 k21 (nI s) x3 x4 (b2i (alT (fun i => decide (σ 10 (40 * s + i) = -1 ∨ σ 10 (40 * s + i) = σ 6 i)) (min P L))) σ := by
  intro n
  induction n with
  | zero => intro i _ h2; omega
  | succ n ih =>
    intro i h1 h2
    rw [lw2_s, fX6_which_55, gd_t (inB_n hs (by decide)), nI_clamp (show s < 2 ^ 31 by omega), e9, e5]
    by_cases e : i = min P L
    · rw [← e]
      by_cases h : L ≤ i
      · rw [if_pos (nI_le h (by omega))]
      · rw [if_neg (nle_n (by omega) (by omega)), if_pos (nI_le (show P ≤ i by omega) (by omega))]
    · have hi := ih (i + 1) (by omega) (by omega)
      rw [alT] at hi
      rw [if_neg (nle_n (by omega) (by omega)), if_neg (nle_n (by omega) (by omega)), ix40, gd_t (inB_n (by omega) (by decide)), pb_e, gd_t (inB_n (show i < 8 by omega) (by decide)), nI_clamp (show 40 * s + i < 2 ^ 31 by omega), nI_clamp (show i < 2 ^ 31 by omega), nI_1]
      cases ha : alT (fun i => decide (σ 10 (40 * s + i) = -1 ∨ σ 10 (40 * s + i) = σ 6 i)) i with
      | false =>
        rw [ha, Bool.false_and] at hi
        rw [if_pos (show b2i false = 0 by decide)]
        exact hi
      | true =>
        rw [ha, Bool.true_and] at hi
        rw [if_neg (show ¬ b2i true = 0 by decide)]
        by_cases x1 : σ 10 (40 * s + i) = -1
        · rw [if_pos x1]
          rw [decide_eq_true (Or.inl x1)] at hi
          exact hi
        · rw [if_neg x1]
          by_cases x2 : σ 10 (40 * s + i) = σ 6 i
          · rw [if_pos x2]
            rw [decide_eq_true (Or.inr x2)] at hi
            exact hi
          · rw [if_neg x2]
            rw [decide_eq_false (fun z => z.elim x1 x2)] at hi
            exact hi
theorem which_l {s L P J : Nat} (hs : s < 4) (hL : L ≤ 40) (hP : P ≤ 8) (hJ : J ≤ 8) : ∀ n i x σc σr, Inv σc σr → σr 9 s = nI L → σr 1 5 = nI P → σr 1 6 = nI J → i ≤ J → J - i < n → ∃ v τc τr, lw3 (fX5_which_21 (nI s)) n x (nI i) σc = some (v, τc) ∧ lw3 (fX6_which_21 (nI s)) n x (nI i) σr = some (v, τr) ∧ Inv τc τr := by
  intro n
  induction n with
  | zero => intro i _ _ _ _ _ _ _ _ h2; omega
  | succ n ih =>
    intro i x σc σr hI e9 e5 e6 h1 h2
    obtain ⟨s1, s2, s3, s4, s5⟩ := hI.2.2.2.1 s hs
    rw [lw3_s, lw3_s, fX5_which_21, fX6_which_21, hI.1.1.1.2.2.2.2.2, e6]
    by_cases e : i = J
    · rw [e, if_pos (Int32.le_refl _), if_pos (Int32.le_refl _)]
      exact ⟨_, _, _, rfl, rfl, hI⟩
    · rw [if_neg (nle_n (by omega) (by omega)), if_neg (nle_n (by omega) (by omega))]
      obtain ⟨uc, ur, q1, q2, q3, q4⟩ := lend_e hI
      obtain ⟨T, τc, τr, f1, f2, f3, f4, f5, -⟩ := perform_e (by decide) q3.2.2.1 q3.2.2.2 (j := i) (by omega)
      have hq := q3.tell f3 f4 f5
      obtain ⟨υr, g1, g2, g3, g4, g5⟩ := back_e hI hq.1 hq.2.1
      have hnP : nP (ur 1) = P := by unfold nP; rw [q4, e5, nI_clamp (by omega)]
      have c10 : τc 1 0 = nI P := by rw [hq.1.1 1 (by omega) (by omega) (by omega) (by omega), hI.1.1.1.2.2.2.2.1]; exact e5
      have c2 : τc (37 + 2 * s) 2 = nI L := by rw [hq.c (by omega), s3]; exact e9
      have r9 : υr 9 s = nI L := by rw [g4 9 (by decide), hq.r (by omega)]; exact e9
      have r5 : υr 1 5 = nI P := by rw [g3 5 (by decide)]; exact e5
      have r6 : υr 1 6 = nI J := by rw [g3 6 (by decide)]; exact e6
      rw [q1, q2, Option.bind_some, Option.bind_some, f1, f2, bnd2_s, bnd2_s, gd_t (inB_n hs (by decide)), nI_clamp (show s < 2 ^ 31 by omega), c10, c_first hP hL c2, Option.bind_some, g1, Option.bind_some]
      have hr := r_first hs hP hL r9 r5 (lw3 (fX6_which_21 (nI s)) n) x (nI i) FU 0 (by omega) (Nat.lt_trans (show min P L - 0 < 10100 by omega) FU_gt)
      have hr' : lw2 (fX6_which_55 (lw3 (fX6_which_21 (nI s)) n) (nI s) x (nI i) υr) FU 1 0 = _ := hr
      have ee : alT (fun i => decide (υr 10 (40 * s + i) = -1 ∨ υr 10 (40 * s + i) = υr 6 i)) (min P L) = alT (fun i => decide (τc (37 + 2 * s + 1) i = -1 ∨ τc (37 + 2 * s + 1) i = τc 33 i)) (min P L) := by
        refine alT_cong _ (fun q hq' => ?_)
        have z1 : τc (37 + 2 * s + 1) q = υr 10 (40 * s + q) := by
          rw [hq.c (by omega), g4 10 (by decide), hq.r (by omega), show 37 + 2 * s + 1 = 38 + 2 * s by omega]
          exact s5 q (by omega)
        have z2 : τc 33 q = υr 6 q := by rw [g4 6 (by decide)]; exact f5.2.2.2.1 q (by omega)
        rw [z1, z2]
      rw [hr', ee, fX6_which_127]
      cases alT (fun i => decide (τc (37 + 2 * s + 1) i = -1 ∨ τc (37 + 2 * s + 1) i = τc 33 i)) (min P L) with
      | false =>
        rw [if_neg (by decide), if_pos (show b2i false = 0 by decide), pb_e, Int32.or_zero, nI_1]
        exact ih (i + 1) x τc υr g2 r9 r5 r6 (by omega) (by omega)
      | true =>
        rw [if_pos rfl, if_neg (show ¬ b2i true = 0 by decide), pb_e, pb_e, nI_1]
        exact ih (i + 1) _ τc υr g2 r9 r5 r6 (by omega) (by omega)
theorem st_which (a1 : Int32) : StI Inv (fX5_which a1) (fX6_which a1) := by
  intro σc σr hI
  rw [fX5_which, fX6_which]
  rcases sheet_c hI a1 with ⟨e1, e2⟩ | ⟨e1, e2⟩ | ⟨e1, e2, s, hs, rfl, h0⟩
  · rw [e1, e2, Option.bind_some, Option.bind_some, if_neg (by decide +kernel), if_neg (by decide), b2id, b2id]
    exact st_find hI (by decide) (found_0 σc) (finds_0 σr)
  · rw [e1, e2, Option.bind_some, Option.bind_some, if_neg (by decide +kernel), if_neg (by decide), b2id, b2id]
    exact st_find hI (by decide) (found_5 σc) (finds_5 σr)
  obtain ⟨s1, s2, s3, ⟨L, hL, eL⟩, s5⟩ := hI.2.2.2.1 s hs
  have hW := hI.1.2.1
  have hJ8 := hW.j.2
  rw [e1, e2, Option.bind_some, Option.bind_some, if_pos (show (0 : Int32) = 0 from rfl), if_pos (show (-1 : Int32) < 0 by decide)]
  exact which_l hs hL hW.p.2 hW.j.2 FU 0 0 σc σr hI eL hW.p.1 hW.j.1 (by omega) (Nat.lt_trans (show nJ (σr 1) - 0 < 10100 by omega) FU_gt)
/-! shows -/
theorem ushr_n (x : Int32) : ∃ m, m < 2 ^ 24 ∧ ((x : Int32).toUInt32 >>> ((8 : Int32).toUInt32 &&& Int32.toUInt32 31)).toInt32 = nI m := by
  obtain ⟨n, hn, rfl⟩ := any32 x
  exact ⟨n / 2 ^ 8, by omega, pk_ushrN hn 8 8 (by decide)⟩
theorem shows_l {N J : Nat} (hN : N ≤ 20) (hJ : J ≤ 8) (hJ1 : 1 ≤ J) : ∀ n i σc σr, Inv σc σr → σr 1 6 = nI J → (∃ m, σr 1 3 = nI m ∧ m + (N - i) ≤ 99999) → i ≤ N → N - i < n → ∃ v τc τr, lw2 (fX5_shows_50 (nI N)) n (nI i) σc = some (v, τc) ∧ lw2 (fX6_shows_49 (nI N)) n (nI i) σr = some (v, τr) ∧ Inv τc τr := by
  intro n
  induction n with
  | zero => intro i _ _ _ _ _ _ h2; omega
  | succ n ih =>
    intro i σc σr hI e6 hm h1 h2
    obtain ⟨m, em, hm2⟩ := hm
    have hR := hI.1.1
    have hW := hI.1.2.1
    rw [lw2_s, lw2_s, fX5_shows_50, fX6_shows_49]
    by_cases e : i = N
    · rw [e, if_pos (Int32.le_refl _), if_pos (Int32.le_refl _), hR.1.2.2.1]
      exact ⟨_, _, _, rfl, rfl, hI⟩
    · rw [if_neg (nle_n (by omega) (by omega)), if_neg (nle_n (by omega) (by omega)), hR.1.2.2.2.2.2, e6, fX1_drawBelow, fX6_draw, pb_e, pb_e, bnd2_s, hR.1.2.2.2.1]
      generalize hz : (σr 1 4 * 1103515245 + 12345 : Int32) = z
      have hx := hR.x.s 14 (by omega) z
      rw [show plc 14 = 4 from rfl] at hx
      have hI2 : Inv (up2 σc 1 14 z) (up2 σr 1 4 z) := live1 hI (by decide) (by decide) (by decide) hx (hW.n4 z) (by decide) (by decide) (by decide) (by decide) (fun q _ => by omega)
      obtain ⟨w, hw, ew⟩ := ushr_n z
      have u6 : up2 σr 1 4 z 1 6 = nI J := by rw [up2_j (by decide)]; exact e6
      have u3 : up2 σr 1 4 z 1 3 = nI m := by rw [up2_j (by decide)]; exact em
      have hlt : w % J < 8 := Nat.lt_of_lt_of_le (Nat.mod_lt _ (by omega)) hJ
      rw [if_neg (nI_nle (by omega) (by omega)), gd_t (nI_ne0 (by omega) (by omega)), u6, gd_t (nI_ne0 (by omega) (by omega)), up2_e, up2_e, ew, pk_rem (by omega) (by omega) (by omega), bnd2_s]
      obtain ⟨T, τc, τr, f1, f2, f3, f4, f5, -⟩ := perform_e (by decide) hI2.1.1 hI2.1.2.1 hlt
      obtain ⟨g1, g2⟩ := hI2.pf f3 f4 f5 u3 (by omega)
      have t6 : τr 1 6 = nI J := by rw [f5.2.2.2.2.1 6 (by decide) (by decide) (fun q _ => by omega)]; exact u6
      rw [f1, f2, bnd2_s, bnd2_s, nI_1]
      exact ih (i + 1) τc τr g1 t6 ⟨m + 1, g2, by omega⟩ (by omega) (by omega)
theorem st_shows (a1 : Int32) : StI Inv (fX5_shows a1) (fX6_shows a1) := by
  intro σc σr hI
  have hR := hI.1.1
  have hW := hI.1.2.1
  obtain ⟨m, hm, em⟩ := hI.1.2.2.2
  have ec : σc 1 13 = nI m := hI.1.2.2.1.trans em
  have hJ8 := hW.j.2
  rw [fX5_shows, fX6_shows, in_l a1 1 20 (by decide) (by decide), hR.1.2.2.2.2.2, ec, em]
  simp only [b2id]
  by_cases h1 : fX5_within a1 1 20 = true
  case neg => rw [if_neg h1, if_neg h1]; exact st_find hI (by decide) (found_0 σc) (finds_0 σr)
  rw [if_pos h1, if_pos h1]
  obtain ⟨N, -, hN, rfl⟩ := bnI (a := 1) (b := 20) rfl rfl (by decide) (by decide) h1
  by_cases h2 : σr 1 6 = 0
  · rw [if_pos h2, if_pos h2]; exact st_find hI (by decide) (found_4 σc) (finds_4 σr)
  rw [if_neg h2, if_neg h2, nI_add]
  have hJ1 : 1 ≤ nJ (σr 1) := by
    by_cases z : nJ (σr 1) = 0
    · exact absurd (by rw [hW.j.1, z]; rfl) h2
    · omega
  by_cases h3 : m + N ≤ 99999
  · rw [if_pos (show nI (m + N) ≤ (99999 : Int32) from nI_le (b := 99999) h3 (by decide)), if_pos (show nI (m + N) ≤ (99999 : Int32) from nI_le (b := 99999) h3 (by decide))]
    exact shows_l hN hW.j.2 hJ1 FU 0 σc σr hI hW.j.1 ⟨m, em, by omega⟩ (by omega) (Nat.lt_trans (show N - 0 < 10100 by omega) FU_gt)
  · rw [if_neg (show ¬ nI (m + N) ≤ (99999 : Int32) from nle_n (a := 99999) (by omega) (by omega)), if_neg (show ¬ nI (m + N) ≤ (99999 : Int32) from nle_n (a := 99999) (by omega) (by omega))]
    exact st_find hI (by decide) (found_4 σc) (finds_4 σr)
/-! relief -/
theorem poor_l {σc σr : Mem} (hI : Inv σc σr) : ∀ n i b, b < 8 → i ≤ 8 → 1 ≤ i → nP (σr 1) - i < n → ∃ q, q < 8 ∧ lw2 (fX1_poorest_4 1 σc) n (nI b) (nI i) = some (nI q) ∧ lw2 (fX6_poorest_4 σr) n (nI b) (nI i) = some (nI q) := by
  have hR := hI.1.1
  obtain ⟨e5, h8⟩ := hI.1.2.1.p
  intro n
  induction n with
  | zero => intro i b _ _ _ h2; omega
  | succ n ih =>
    intro i b hb hi h1 h2
    rw [lw2_s, lw2_s, fX1_poorest_4, fX6_poorest_4, hR.1.2.2.2.2.1, e5]
    by_cases e : nP (σr 1) ≤ i
    · rw [if_pos (nI_le e (by omega)), if_pos (nI_le e (by omega))]
      exact ⟨b, hb, rfl, rfl⟩
    · have i8 : i < 8 := by omega
      have p1 : σc (1 + 5) i = it (σr 1) i 4 := (hR.2.2.1 i i8).2.2.2.2
      have p2 : σc (1 + 5) b = it (σr 1) b 4 := (hR.2.2.1 b hb).2.2.2.2
      rw [if_neg (nle_n (by omega) (by omega)), if_neg (nle_n (by omega) (by omega)), gd_t (inB_n i8 (by decide)), gd_t (inB_n hb (by decide)), nI_clamp (show i < 2 ^ 31 by omega), nI_clamp (show b < 2 ^ 31 by omega), p1, p2, r_its' rfl (y := 4) (w := 4) rfl i8 (by decide), Option.bind_some, r_its' rfl (y := 4) (w := 4) rfl hb (by decide), Option.bind_some, nI_1]
      by_cases h : it (σr 1) b 4 ≤ it (σr 1) i 4
      · rw [if_pos h, if_pos h]
        exact ih (i + 1) b hb (by omega) (by omega) (by omega)
      · rw [if_neg h, if_neg h]
        exact ih (i + 1) i i8 (by omega) (by omega) (by omega)
theorem relief_l {N : Nat} (hN : N ≤ 9999) {t0 : Nat} (ht0 : t0 ≤ 999999) : ∀ n i σc σr, Inv σc σr → σr 1 2 = nI (t0 - i) → i ≤ min N t0 → min N t0 - i < n → ∃ v τc τr, lw2 (fX5_relief_49 (nI (min N t0))) n (nI i) σc = some (v, τc) ∧ lw2 (fX6_relief_35 (nI N)) n (nI i) σr = some (v, τr) ∧ Inv τc τr := by
  intro n
  induction n with
  | zero => intro i _ _ _ _ _ h2; omega
  | succ n ih =>
    intro i σc σr hI e2 h1 h2
    have hR := hI.1.1
    have hW := hI.1.2.1
    rw [lw2_s, lw2_s, fX5_relief_49, fX6_relief_35, e2]
    by_cases e : i = min N t0
    · rw [← e, if_pos (Int32.le_refl _)]
      by_cases h : N ≤ i
      · rw [if_pos (nI_le h (by omega))]
        exact ⟨_, _, _, rfl, rfl, hI⟩
      · rw [if_neg (nle_n (by omega) (by omega)), show t0 - i = 0 by omega, if_pos (by decide)]
        exact ⟨_, _, _, rfl, rfl, hI⟩
    · obtain ⟨q, hq, p1, p2⟩ := poor_l hI FU 1 0 (by omega) (by omega) (by omega) (Nat.lt_trans (show nP (σr 1) - 1 < 10100 by have := hW.p.2; omega) FU_gt)
      have p1' : fX1_poorest 1 σc = some (nI q) := p1
      have p2' : fX6_poorest σr = some (nI q) := p2
      have pq : σc 6 q = it (σr 1) q 4 := (hR.2.2.1 q hq).2.2.2.2
      obtain ⟨y, hy, ey⟩ := (hW.2.2.1 q hq).2.2.2.2
      rw [if_neg (nle_n (by omega) (by omega)), if_neg (nle_n (by omega) (by omega)), if_neg (nI_nle (by omega) (by omega)), p1', p2', Option.bind_some, Option.bind_some, Option.bind_some, gd_t (inB_n hq (by decide)), gd_t (inB_n hq (by decide)), gd_t (inB_n hq (by decide)), nI_clamp (show q < 2 ^ 31 by omega), pq, show (4 : Int32) = nI 4 from rfl, r_its hq (by decide), Option.bind_some, Option.bind_some, ey, nI_1, nI_1]
      by_cases h : y = 9999
      · subst h
        rw [if_neg (by decide), if_pos (by decide)]
        exact ⟨_, _, _, rfl, rfl, hI⟩
      · rw [if_pos (show nI y < (9999 : Int32) from nI_lt (b := 9999) (by omega) (by decide)), if_neg (show ¬ (9999 : Int32) ≤ nI y from nle_n (b := 9999) (by omega) (by decide)), r_sets hq (by decide), Option.bind_some, pb_e, pb_e, pb_e]
        have hI2 : Inv (up2 σc 6 q (nI (y + 1))) (up2 σr 1 (23 + 5 * q + 4) (nI (y + 1))) := live1 hI (by decide) (by decide) (by decide) (hR.x.p hq (w := 4) (by decide) (nI (y + 1))) (hW.pw hq (by decide) ⟨y + 1, by show y + 1 ≤ 9999; omega, rfl⟩) (by omega) (by omega) (by omega) (by omega) (fun r _ => by omega)
        have t2 : up2 σr 1 (23 + 5 * q + 4) (nI (y + 1)) 1 2 - 1 = nI (t0 - (i + 1)) := by
          rw [up2_j (by omega), e2, show t0 - i = (t0 - (i + 1)) + 1 by omega, nI_pred]
        have tc : up2 σc 6 q (nI (y + 1)) 1 12 - 1 = nI (t0 - (i + 1)) := by
          rw [hI2.1.1.1.2.2.1]; exact t2
        have hx := hI2.1.1.x.s 12 (by omega) (nI (t0 - (i + 1)))
        rw [show plc 12 = 2 from rfl] at hx
        have hI3 := live1 hI2 (kc := 1) (ic := 12) (i := 2) (by decide) (by decide) (by decide) hx (hI2.1.2.1.n2 ⟨t0 - (i + 1), by omega, rfl⟩) (by decide) (by decide) (by decide) (by decide) (fun r _ => by omega)
        rw [t2, tc]
        exact ih (i + 1) _ _ hI3 (by rw [up2_e]) (by omega) (by omega)
theorem st_relief (a1 : Int32) : StI Inv (fX5_relief a1) (fX6_relief a1) := by
  intro σc σr hI
  have hR := hI.1.1
  have hW := hI.1.2.1
  rw [fX5_relief, fX6_relief, in_l a1 0 9999 (by decide) (by decide), hR.1.2.2.2.2.1]
  simp only [b2id]
  by_cases h1 : fX5_within a1 0 9999 = true
  case neg => rw [if_neg h1, if_neg h1]; exact st_find hI (by decide) (found_0 σc) (finds_0 σr)
  rw [if_pos h1, if_pos h1]
  obtain ⟨N, -, hN, rfl⟩ := bnI (a := 0) (b := 9999) rfl rfl (by decide) (by decide) h1
  by_cases h2 : σr 1 5 = 0
  · rw [if_pos h2, if_pos h2]; exact st_find hI (by decide) (found_3 σc) (finds_3 σr)
  obtain ⟨t0, ht0, et0⟩ := hW.2.2.2.2.2.2.1
  rw [if_neg h2, if_neg h2, hR.1.2.2.1, et0, iMin_n (by omega) (by omega), pb_e]
  exact relief_l hN ht0 FU 0 σc σr hI (by rw [et0]; rfl) (by omega) (Nat.lt_trans (show min N t0 - 0 < 10100 by omega) FU_gt)
