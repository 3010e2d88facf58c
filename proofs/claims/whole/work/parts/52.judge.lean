/-! judge -/
theorem bt_b : ∀ q, q < 8 → ∀ r, r < 8 → bt (1 <<< (nI q &&& 31)) r = decide (r = q) := by decide +kernel
def neT (σ : Mem) (s q : Nat) : Nat → Bool := fun m => decide (¬ σ 10 (40 * s + m) = nI q)
theorem go_l {σ : Mem} {s i q : Nat} (hs : s < 4) (hi : i < 40) (hq : q < 8) : ∀ n m, m ≤ i → i - m < n → lw2 (fX6_goesOn_37 (nI s) (nI i) (nI q) σ) n (b2i (alT (neT σ s q) m)) (nI m) = if alT (neT σ s q) i = true then (if i = 0 then some true else gd (inB (σ 10 (40 * s + i - 1)) 8 = true) (if σ 5 q < σ 5 (σ 10 (40 * s + i - 1)).toNatClampNeg then some false else some true)) else some false := by
  intro n
  induction n with
  | zero => intro m _ h2; omega
  | succ n ih =>
    intro m h1 h2
    rw [lw2_s, fX6_goesOn_37]
    by_cases e : m = i
    · subst e
      rw [if_pos (Int32.le_refl _)]
      cases ha : alT (neT σ s q) m with
      | false => rw [if_pos (show b2i false = 0 by decide), if_neg (by decide)]
      | true =>
        rw [if_neg (show ¬ b2i true = 0 by decide), if_pos rfl]
        by_cases hm : m = 0
        · subst hm
          rw [if_pos (show nI 0 = (0 : Int32) from rfl), if_pos rfl]
        · obtain ⟨z, rfl⟩ : ∃ z, m = z + 1 := ⟨m - 1, by omega⟩
          rw [if_neg (nI_ne0 (by omega) (by omega)), if_neg hm, ix40, show 40 * s + (z + 1) = 40 * s + z + 1 from rfl, nI_pred, gd_t (inB_n (show 40 * s + z < 160 by omega) (by decide)), gd_t (inB_n hq (by decide)), nI_clamp (show 40 * s + z < 2 ^ 31 by omega), nI_clamp (show q < 2 ^ 31 by omega), Nat.add_sub_cancel]
    · have hh := ih (m + 1) (by omega) (by omega)
      rw [alT] at hh
      rw [if_neg (nle_n (by omega) (by omega)), ix40, gd_t (inB_n (show 40 * s + m < 160 by omega) (by decide)), nI_clamp (show 40 * s + m < 2 ^ 31 by omega), nI_1]
      cases ha : alT (neT σ s q) m with
      | false =>
        rw [ha, Bool.false_and] at hh
        rw [if_pos (show b2i false = 0 by decide)]
        exact hh
      | true =>
        rw [ha, Bool.true_and] at hh
        rw [if_neg (show ¬ b2i true = 0 by decide)]
        by_cases x : σ 10 (40 * s + m) = nI q
        · rw [if_pos x]
          rw [show neT σ s q m = false from decide_eq_false (fun z => z x)] at hh
          exact hh
        · rw [if_neg x]
          rw [show neT σ s q m = true from decide_eq_true x] at hh
          exact hh
theorem judge_l {σc σr : Mem} (hI : Inv σc σr) {s L : Nat} (hs : s < 4) (hL : L ≤ 40) (e9 : σr 9 s = nI L) {T : Int32} (hrr : RR (σr 1) T σc σr) : ∀ n i x3 x4, i ≤ L → L - i < n → (∀ q, q < nP (σr 1) → bt x3 q = (bt T q && alT (neT σr s q) i)) → (i = 0 → x4 = 0) → (0 < i → ∃ q, q < nP (σr 1) ∧ σr 10 (40 * s + i - 1) = nI q ∧ bt T q = true ∧ x4 = σc 32 q) → ∃ v, lw3 (fX5_judge_52 (nI s) σc) n x3 x4 (nI i) = some (v, σc) ∧ lw1 (fX6_judge_41 (nI s) σr) n (nI i) = some (v, σr) := by
  have hR := hI.1.1
  have hW := hI.1.2.1
  have h8 := hW.p.2
  obtain ⟨s1, s2, s3, s4, s5⟩ := hI.2.2.2.1 s hs
  have c2 : σc (37 + 2 * s) 2 = nI L := s3.trans e9
  intro n
  induction n with
  | zero => intro i _ _ _ h2; omega
  | succ n ih =>
    intro i x3 x4 h1 h2 hx h0 hpr
    rw [lw3_s, lw1_s, fX5_judge_52, fX6_judge_41, gd_t (inB_n hs (by decide)), gd_t (inB_n hs (by decide)), gd_t (inB_n hs (by decide)), nI_clamp (show s < 2 ^ 31 by omega), c2, e9]
    have stop : ¬ i = L → fX6_judge_68 (nI s) (nI i) σr = some (1 + nI i, σr) := by
      intro hne
      rw [fX6_judge_68, gd_t (inB_n hs (by decide)), nI_clamp (show s < 2 ^ 31 by omega), e9, if_neg (fun z => hne ((nI_eq (by omega) (by omega)).mp z)), Int32.add_comm]
    by_cases e : i = L
    · rw [e, if_pos (Int32.le_refl _), if_pos (Int32.le_refl _), fX6_judge_68, gd_t (inB_n hs (by decide)), nI_clamp (show s < 2 ^ 31 by omega), e9, if_pos rfl]
      exact ⟨_, rfl, rfl⟩
    · have i40 : i < 40 := by omega
      have enum : σc (37 + 2 * s + 1) i = σr 10 (40 * s + i) := by
        rw [show 37 + 2 * s + 1 = 38 + 2 * s by omega]
        exact s5 i i40
      rw [if_neg (nle_n (by omega) (by omega)), if_neg (nle_n (by omega) (by omega)), gd_t (inB_n i40 (by decide)), nI_clamp (show i < 2 ^ 31 by omega), pb_e, enum, fX6_goesOn, ix40, gd_t (inB_n (show 40 * s + i < 160 by omega) (by decide)), nI_clamp (show 40 * s + i < 2 ^ 31 by omega)]
      simp only [pb_e]
      rw [hasP hR, stop e]
      by_cases hp : fX6_isPerson (σr 10 (40 * s + i)) σr = true
      case neg =>
        rw [if_neg hp, if_neg hp, Option.bind_some, if_neg (by decide)]
        exact ⟨_, rfl, rfl⟩
      obtain ⟨q, hqn, hq, eq⟩ := isP_n hW hp
      rw [if_pos hp, if_pos hp, eq, gd_t (inB_n hq (by decide)), gd_t (inB_n hq (by decide)), gd_t (inB_n hq (by decide)), nI_clamp (show q < 2 ^ 31 by omega), isIn_e x3 hq, hx q hqn]
      obtain ⟨rr1, rr2⟩ := hrr q hqn
      cases hb : bt T q with
      | false =>
        rw [Bool.false_and, if_neg (by decide), rr2 hb, if_neg (by decide), Option.bind_some, if_neg (by decide)]
        exact ⟨_, rfl, rfl⟩
      | true =>
        obtain ⟨r1, r2⟩ := rr1 hb
        have hg := go_l (σ := σr) hs i40 hq FU 0 (by omega) (Nat.lt_trans (show i - 0 < 10100 by omega) FU_gt)
        have hg' : lw2 (fX6_goesOn_37 (nI s) (nI i) (nI q) σr) FU 1 0 = _ := hg
        rw [Bool.true_and, if_pos r2, hg']
        cases ha : alT (neT σr s q) i with
        | false =>
          rw [if_neg (by decide), if_neg (by decide), Option.bind_some, if_neg (by decide)]
          exact ⟨_, rfl, rfl⟩
        | true =>
          rw [if_pos rfl, if_pos rfl, nI_1]
          have next : ∃ v, lw3 (fX5_judge_52 (nI s) σc) n (x3 &&& ((1 <<< (nI q &&& 31)) ^^^ (-1))) (σc 32 q) (nI (i + 1)) = some (v, σc) ∧ lw1 (fX6_judge_41 (nI s) σr) n (nI (i + 1)) = some (v, σr) := by
            refine ih (i + 1) _ _ (by omega) (by omega) (fun r hr => ?_) (fun z => by omega) (fun _ => ⟨q, hqn, by rw [show 40 * s + (i + 1) - 1 = 40 * s + i by omega]; exact eq, hb, rfl⟩)
            rw [bt_and, bt_not _ (by omega), bt_b q hq r (by omega), hx r hr, alT, Bool.and_assoc]
            congr 1
            congr 1
            unfold neT
            rw [eq]
            by_cases er : r = q
            · rw [decide_eq_true er, decide_eq_false (fun z => z (by rw [er]))]; rfl
            · rw [decide_eq_false er, decide_eq_true (show ¬ nI q = nI r from fun z => er ((nI_eq (by omega) (by omega)).mp z).symm)]; rfl
          by_cases hi0 : i = 0
          · rw [if_pos hi0, Option.bind_some, if_pos rfl, h0 hi0, if_pos (show (0 : Int32) ≤ σc 32 q by rw [r1]; exact r2)]
            exact next
          · obtain ⟨q', hqn', eq', hb', ex⟩ := hpr (by omega)
            obtain ⟨rr1', -⟩ := hrr q' hqn'
            rw [if_neg hi0, eq', gd_t (inB_n (show q' < 8 by omega) (by decide)), nI_clamp (show q' < 2 ^ 31 by omega), ex, (rr1' hb').1, r1]
            rw [r1] at next
            by_cases hlt : σr 5 q < σr 5 q'
            · rw [if_pos hlt, Option.bind_some, if_neg (Int32.not_le.mpr hlt), if_neg (by decide)]
              exact ⟨_, rfl, rfl⟩
            · rw [if_neg hlt, Option.bind_some, if_pos (Int32.not_lt.mp hlt), if_pos rfl]
              exact next
theorem st_judge (a1 : Int32) : StI Inv (fX5_judge a1) (fX6_judge a1) := by
  intro σc σr hI
  have hR := hI.1.1
  have hW := hI.1.2.1
  rw [fX5_judge, fX6_judge]
  rcases sheet_c hI a1 with ⟨e1, e2⟩ | ⟨e1, e2⟩ | ⟨e1, e2, s, hs, rfl, h0⟩
  · rw [e1, e2, Option.bind_some, Option.bind_some, if_neg (by decide +kernel), if_neg (by decide), b2id, b2id]
    exact st_find hI (by decide) (found_0 σc) (finds_0 σr)
  · rw [e1, e2, Option.bind_some, Option.bind_some, if_neg (by decide +kernel), if_neg (by decide), b2id, b2id]
    exact st_find hI (by decide) (found_5 σc) (finds_5 σr)
  rw [e1, e2, Option.bind_some, Option.bind_some, if_pos (show (0 : Int32) = 0 from rfl), if_pos (show (-1 : Int32) < 0 by decide), hR.1.2.2.2.2.2, b2id, b2id]
  by_cases h3 : σr 1 6 = 0
  · rw [if_pos h3, if_pos h3]; exact st_find hI (by decide) (found_4 σc) (finds_4 σr)
  rw [if_neg h3, if_neg h3]
  obtain ⟨T, τc, τr, f1, f2, f3, f4, f5, f6, f7⟩ := laughers_e hR (by decide) hW rfl (j := 0) (by decide)
  have hI2 := hI.sp f4 f5
  obtain ⟨s1, s2, s3, ⟨L, hL, eL⟩, s5⟩ := hI2.2.2.2.1 s hs
  have f1' : fX4_laughersOf 1 0 σc = some (T, τc) := f1
  have f2' : fX6_laughAt_ 0 σr = some (T, τr) := f2
  rw [f1', f2', bnd2_s, bnd2_s]
  have f7' : RR (τr 1) T τc τr := by rw [f5.1 1 (by decide) (by decide)]; exact f7
  obtain ⟨v, k1, k2⟩ := judge_l hI2 hs hL eL f7' FU 0 T 0 (by omega) (Nat.lt_trans (show L - 0 < 10100 by omega) FU_gt) (fun q _ => by rw [alT, Bool.and_true]) (fun _ => rfl) (fun z => by omega)
  exact ⟨v, τc, τr, k1, k2, hI2⟩
