/-! sheets -/
theorem Inv.sheet {σc σr τc τr : Mem} (h : Inv σc σr) (ec : ∀ k, (k < 37 ∨ 44 < k) → τc k = σc k) (er : ∀ k, (k < 8 ∨ 11 < k) → τr k = σr k) (hS : InvS τc τr) : Inv τc τr := by
  obtain ⟨hL, hK, hT, -, hF⟩ := h
  exact ⟨hL.cong (fun k _ _ => ec k (by omega)) (er _ (by omega)), hK.cong (fun k _ _ => ec k (by omega)) (by rw [ec _ (by omega)]) (er _ (by omega)) (by rw [er _ (by omega)]), hT.cong (by rw [ec _ (by omega)]) (ec _ (by omega)) (er _ (by omega)) (by rw [er _ (by omega)]), hS, hF.cong (ec _ (by omega)) (er _ (by omega))⟩
theorem isSheet_e (x : Int32) : fX6_isSheet x = fX5_within x 0 3 := in_l x 0 3 (by decide) (by decide)
theorem sh_ix (s i : Nat) : (40 * nI s + nI i : Int32) = nI (40 * s + i) := by rw [show (40 : Int32) = nI 40 from rfl, pk_mul, nI_add]
/-- which of the three: no such sheet, none laid, laid -/
theorem sheet_c {σc σr : Mem} (hI : Inv σc σr) (x : Int32) : (fX5_sheetFinding x σc = some (-1000001) ∧ fX6_lacks x σr = some 0) ∨ (fX5_sheetFinding x σc = some (-1000006) ∧ fX6_lacks x σr = some 5) ∨ (fX5_sheetFinding x σc = some 0 ∧ fX6_lacks x σr = some (-1) ∧ ∃ s, s < 4 ∧ x = nI s ∧ ¬ σr 8 s = 0) := by
  rw [fX5_sheetFinding, fX6_lacks, isSheet_e]
  by_cases h1 : fX5_within x 0 3 = true
  case neg => rw [if_neg h1, if_neg h1]; exact Or.inl ⟨rfl, rfl⟩
  rw [if_pos h1, if_pos h1]
  obtain ⟨s, hs, rfl⟩ := rng_of (b := 3) rfl (by decide) h1
  have hS := hI.2.2.2.1 s (by omega)
  rw [gd_t (inB_n (by omega) (by decide)), gd_t (inB_n (by omega) (by decide)), nI_clamp (by omega), fX2_isMissing, hS.1]
  by_cases h2 : σr 8 s = 0
  · rw [if_pos h2, if_pos rfl, if_pos h2]; exact Or.inr (Or.inl ⟨rfl, rfl⟩)
  · rw [if_neg h2, if_neg (by decide), if_neg h2]; exact Or.inr (Or.inr ⟨rfl, rfl, s, by omega, rfl, h2⟩)
theorem InvS.put {σc σr : Mem} (h : InvS σc σr) {s i : Nat} (hs : s < 4) (hi : i < 40) (v : Int32) : InvS (up2 σc (38 + 2 * s) i v) (up2 σr 10 (40 * s + i) v) := by
  intro t ht
  obtain ⟨h1, h2, h3, h4, h5⟩ := h t ht
  rw [up2_n (by omega), up2_n (by omega), up2_n (by omega)]
  refine ⟨h1, h2, h3, h4, fun j hj => ?_⟩
  rw [up2_a, up2_a, h5 j hj]
  exact ite_iff ⟨fun z => ⟨rfl, by omega⟩, fun z => ⟨by omega, by omega⟩⟩ _ _
theorem st_write (a1 a2 a3 : Int32) : StI Inv (fX5_write a1 a2 a3) (fX6_write a1 a2 a3) := by
  intro σc σr hI
  rw [fX5_write, fX6_write]
  rcases sheet_c hI a1 with ⟨e1, e2⟩ | ⟨e1, e2⟩ | ⟨e1, e2, s, hs, rfl, h0⟩
  · rw [e1, e2, Option.bind_some, Option.bind_some, if_neg (by decide +kernel), if_neg (by decide), b2id, b2id]
    exact st_find hI (by decide) (found_0 σc) (finds_0 σr)
  · rw [e1, e2, Option.bind_some, Option.bind_some, if_neg (by decide +kernel), if_neg (by decide), b2id, b2id]
    exact st_find hI (by decide) (found_5 σc) (finds_5 σr)
  rw [e1, e2, Option.bind_some, Option.bind_some, if_pos (show (0 : Int32) = 0 from rfl), if_pos (show (-1 : Int32) < 0 by decide)]
  obtain ⟨s1, s2, s3, s4, s5⟩ := hI.2.2.2.1 s hs
  obtain ⟨L, hL, eL⟩ := s4
  simp only [gd_t (inB_n hs (show 4 < 2 ^ 31 by decide)), nI_clamp (show s < 2 ^ 31 by omega), b2id, pb_e]
  rw [in_l a2 0 (σr 9 s - 1) (by decide) rfl, s3]
  by_cases h1 : fX5_within a2 0 (σr 9 s - 1) = true
  case neg => rw [if_neg h1, if_neg h1]; exact st_find hI (by decide) (found_0 σc) (finds_0 σr)
  rw [if_pos h1, if_pos h1]
  rw [eL] at h1
  obtain ⟨i, hi, rfl⟩ := (wi_c (by omega)).mp h1
  have key : ∀ v, Inv (up2 σc (37 + 2 * s + 1) i v) (up2 σr 10 (40 * s + i) v) := fun v => by
    rw [show 37 + 2 * s + 1 = 38 + 2 * s by omega]
    exact hI.sheet (fun k _ => up2_n (by omega)) (fun k _ => up2_n (by omega)) (hI.2.2.2.1.put hs (by omega) v)
  rw [fX2_put, s1, sh_ix]
  simp only [gd_t (inB_n (show i < 40 by omega) (show 40 < 2 ^ 31 by decide)), gd_t (inB_n (show 40 * s + i < 160 by omega) (show 160 < 2 ^ 31 by decide)), nI_clamp (show i < 2 ^ 31 by omega), nI_clamp (show 40 * s + i < 2 ^ 31 by omega), pb_e]
  by_cases h8 : σr 8 s = 8
  · rw [if_pos h8, if_pos h8]; exact ⟨_, _, _, rfl, rfl, key _⟩
  rw [if_neg h8, if_neg h8]
  by_cases h16 : σr 8 s = 16
  · rw [if_pos h16, if_pos h16]; exact ⟨_, _, _, rfl, rfl, key _⟩
  rw [if_neg h16, if_neg h16]
  exact ⟨_, _, _, rfl, rfl, key _⟩
/-! sheet -/
def zrC (σ : Mem) (k i : Nat) : Mem := upR σ k (fun j => if j < i then 0 else σ k j)
def zrR (σ : Mem) (s i : Nat) : Mem := upR σ 10 (fun j => if 40 * s ≤ j ∧ j < 40 * s + i then 0 else σ 10 j)
theorem zrC_step (σ : Mem) (k i : Nat) : up2 (zrC σ k i) k i 0 = zrC σ k (i + 1) := by
  funext q j
  rw [up2_a]
  by_cases e : q = k
  · subst e
    unfold zrC
    rw [upR_s, upR_s]
    by_cases e2 : j = i
    · rw [if_pos ⟨rfl, e2⟩, if_pos (by omega)]
    · rw [if_neg (fun z => e2 z.2)]
      exact ite_iff (by omega) _ _
  · rw [if_neg (fun z => e z.1)]
    unfold zrC
    rw [upR_n e, upR_n e]
theorem zrR_step (σ : Mem) (s i : Nat) : up2 (zrR σ s i) 10 (40 * s + i) 0 = zrR σ s (i + 1) := by
  funext q j
  rw [up2_a]
  by_cases e : q = 10
  · subst e
    unfold zrR
    rw [upR_s, upR_s]
    by_cases e2 : j = 40 * s + i
    · rw [if_pos ⟨rfl, e2⟩, if_pos (by omega)]
    · rw [if_neg (fun z => e2 z.2)]
      exact ite_iff (by omega) _ _
  · rw [if_neg (fun z => e z.1)]
    unfold zrR
    rw [upR_n e, upR_n e]
theorem zrC_0 (σ : Mem) (k : Nat) : zrC σ k 0 = σ := by
  funext q
  unfold zrC
  by_cases e : q = k
  · rw [e, upR_s]; funext j; rw [if_neg (by omega)]
  · rw [upR_n e]
theorem zrR_0 (σ : Mem) (s : Nat) : zrR σ s 0 = σ := by
  funext q
  unfold zrR
  by_cases e : q = 10
  · rw [e, upR_s]; funext j; rw [if_neg (by omega)]
  · rw [upR_n e]
theorem begin_l {σ : Mem} {ks : Nat} : ∀ n i, i ≤ 40 → 40 - i < n → lw2 (fX2_begin_12 ks) n (nI i) (zrC σ (ks + 1) i) = some (zrC σ (ks + 1) 40) := by
  intro n
  induction n with
  | zero => intro i _ h2; omega
  | succ n ih =>
    intro i h1 h2
    rw [lw2_s, fX2_begin_12]
    by_cases e : i = 40
    · subst e
      rw [if_pos (show (40 : Int32) ≤ nI 40 by decide)]
    · rw [if_neg (show ¬ (40 : Int32) ≤ nI i from nle_n (b := 40) (by omega) (by decide)), gd_t (inB_n (by omega) (by decide)), pb_e, nI_clamp (by omega), zrC_step, nI_1]
      exact ih (i + 1) (by omega) (by omega)
theorem sheet_l {σ : Mem} {s : Nat} (hs : s < 4) : ∀ n i, i ≤ 40 → 40 - i < n → lw2 (fX6_sheet_95 (nI s)) n (nI i) (zrR σ s i) = some (zrR σ s 40 9 s, zrR σ s 40) := by
  intro n
  induction n with
  | zero => intro i _ h2; omega
  | succ n ih =>
    intro i h1 h2
    rw [lw2_s, fX6_sheet_95]
    by_cases e : i = 40
    · subst e
      rw [if_pos (show (40 : Int32) ≤ nI 40 by decide), gd_t (inB_n hs (by decide)), nI_clamp (by omega)]
    · rw [if_neg (show ¬ (40 : Int32) ≤ nI i from nle_n (b := 40) (by omega) (by decide)), sh_ix, gd_t (inB_n (by omega) (by decide)), pb_e, nI_clamp (by omega), zrR_step, nI_1]
      exact ih (i + 1) (by omega) (by omega)
theorem c_begin (σ : Mem) (ks : Nat) (x y : Int32) : fX2_begin ks x y σ = some (zrC (up2 (up2 σ ks 1 x) ks 2 y) (ks + 1) 40) := by
  have := begin_l (σ := up2 (up2 σ ks 1 x) ks 2 y) (ks := ks) FU 0 (by omega) (Nat.lt_trans (show 40 - 0 < 10100 by omega) FU_gt)
  rw [zrC_0] at this
  rw [fX2_begin, pb_e, pb_e]
  exact this
theorem r_zero (σ : Mem) {s : Nat} (hs : s < 4) : lw2 (fX6_sheet_95 (nI s)) FU 0 σ = some (σ 9 s, zrR σ s 40) := by
  have := sheet_l (σ := σ) hs FU 0 (by omega) (Nat.lt_trans (show 40 - 0 < 10100 by omega) FU_gt)
  rw [zrR_0] at this
  exact this
theorem InvS.begin {σc σr : Mem} (h : InvS σc σr) {s L : Nat} (hs : s < 4) {x : Int32} (hx : x = 0 ∨ x = 8 ∨ x = 16 ∨ x = 32) (hL : L ≤ 40) : InvS (zrC (up2 (up2 σc (37 + 2 * s) 1 x) (37 + 2 * s) 2 (nI L)) (37 + 2 * s + 1) 40) (zrR (up2 (up2 σr 8 s x) 9 s (nI L)) s 40) := by
  intro t ht
  obtain ⟨h1, h2, h3, h4, h5⟩ := h t ht
  unfold zrC zrR
  rw [upR_n (q := 37 + 2 * t) (by omega), upR_n (q := 8) (by omega), upR_n (q := 9) (by omega), upR_s]
  by_cases e : t = s
  · subst e
    rw [show 38 + 2 * t = 37 + 2 * t + 1 by omega, upR_s, up2_j (by decide), up2_e, up2_e, up2_n (q := 8) (by omega), up2_e, up2_e]
    refine ⟨rfl, hx, rfl, ⟨L, hL, rfl⟩, fun i hi => ?_⟩
    rw [if_pos hi, if_pos (by omega)]
  · rw [upR_n (q := 38 + 2 * t) (by omega), up2_n (q := 37 + 2 * t) (by omega), up2_n (q := 37 + 2 * t) (by omega), up2_n (q := 8) (by omega), up2_j e, up2_j e, up2_n (q := 9) (by omega), up2_n (q := 38 + 2 * t) (by omega), up2_n (q := 38 + 2 * t) (by omega), up2_n (q := 10) (by omega), up2_n (q := 10) (by omega)]
    refine ⟨h1, h2, h3, h4, fun i hi => ?_⟩
    rw [if_neg (by omega)]
    exact h5 i hi
theorem st_sheet1 {σc σr : Mem} (hI : Inv σc σr) (a1 a2 a3 : Int32) (hx : a2 = 0 ∨ a2 = 8 ∨ a2 = 16 ∨ a2 = 32) : ∃ v τc τr, fX5_sheet_27 a1 a2 a3 1 σc = some (v, τc) ∧ fX6_sheet_27 a1 a2 a3 1 σr = some (v, τr) ∧ Inv τc τr := by
  rw [fX5_sheet_27, fX6_sheet_27, isSheet_e]
  simp only [b2id]
  by_cases h1 : fX5_within a1 0 3 = true
  case neg => rw [if_neg h1, if_neg h1]; exact st_find hI (by decide) (found_0 σc) (finds_0 σr)
  rw [if_pos h1, if_pos h1, if_neg (show ¬ (1 : Int32) = 0 by decide), if_neg (show ¬ (1 : Int32) = 0 by decide)]
  obtain ⟨s, hs, rfl⟩ := rng_of (b := 3) rfl (by decide) h1
  by_cases h2 : 0 ≤ a3
  case neg => rw [if_neg h2, if_neg h2]; exact st_find hI (by decide) (found_6 σc) (finds_6 σr)
  rw [if_pos h2, if_pos h2]
  by_cases h3 : a3 ≤ 40
  case neg => rw [if_neg h3, if_neg h3]; exact st_find hI (by decide) (found_0 σc) (finds_0 σr)
  rw [if_pos h3, if_pos h3]
  obtain ⟨L, -, hL, rfl⟩ := (wi_n (x := a3) (a := 0) (b := 40) (by decide) (by decide)).mp ((wi_iff _ _ _).mpr ⟨h2, h3⟩)
  simp only [gd_t (inB_n (show s < 4 by omega) (show 4 < 2 ^ 31 by decide)), nI_clamp (show s < 2 ^ 31 by omega), pb_e, c_begin, r_zero _ (show s < 4 by omega), Option.bind_some]
  have key : ∀ M, M ≤ 40 → Inv (zrC (up2 (up2 σc (37 + 2 * s) 1 a2) (37 + 2 * s) 2 (nI M)) (37 + 2 * s + 1) 40) (zrR (up2 (up2 σr 8 s a2) 9 s (nI M)) s 40) := fun M hM => hI.sheet (fun k _ => by unfold zrC; rw [upR_n (by omega), up2_n (by omega), up2_n (by omega)]) (fun k _ => by unfold zrR; rw [upR_n (by omega), up2_n (by omega), up2_n (by omega)]) (hI.2.2.2.1.begin (by omega) hx hM)
  have ev : ∀ M, zrC (up2 (up2 σc (37 + 2 * s) 1 a2) (37 + 2 * s) 2 (nI M)) (37 + 2 * s + 1) 40 (37 + 2 * s) 2 = nI M := fun M => by unfold zrC; rw [upR_n (by omega), up2_e]
  by_cases h4 : a2 = 0
  · rw [if_pos h4, if_pos h4, show (0 : Int32) = nI 0 from rfl, ev 0, up2_e]
    exact ⟨_, _, _, rfl, rfl, key 0 (by omega)⟩
  · rw [if_neg h4, if_neg h4, ev L, up2_e]
    exact ⟨_, _, _, rfl, rfl, key L hL⟩
theorem st_sheet (a1 a2 a3 : Int32) : StI Inv (fX5_sheet a1 a2 a3) (fX6_sheet a1 a2 a3) := by
  intro σc σr hI
  rw [fX5_sheet, fX6_sheet, fX5_sheet_22, fX6_sheet_22]
  by_cases h0 : a2 = 0
  · rw [if_pos h0, if_pos h0]; exact st_sheet1 hI a1 a2 a3 (by simp [h0])
  rw [if_neg h0, if_neg h0]
  by_cases h8 : a2 = 8
  · rw [if_pos h8, if_pos h8]; exact st_sheet1 hI a1 a2 a3 (by simp [h8])
  rw [if_neg h8, if_neg h8]
  by_cases h16 : a2 = 16
  · rw [if_pos h16, if_pos h16]; exact st_sheet1 hI a1 a2 a3 (by simp [h16])
  rw [if_neg h16, if_neg h16]
  by_cases h32 : a2 = 32
  · rw [if_pos h32, if_pos h32]; exact st_sheet1 hI a1 a2 a3 (by simp [h32])
  rw [if_neg h32, if_neg h32, fX5_sheet_27, fX6_sheet_27, isSheet_e, if_pos rfl, if_pos rfl]
  simp only [b2id, ite_self]
  exact st_find hI (by decide) (found_0 σc) (finds_0 σr)
