/-! tastes, taste -/
theorem ix40 (s i : Nat) : (40 * nI s + nI i : Int32) = nI (40 * s + i) := by rw [show (40 : Int32) = nI 40 from rfl, pk_mul, nI_add]
theorem c_tells (ks : Nat) {i : Nat} (hi : i < 40) (x : Int32) (σ : Mem) : fX2_tells ks (nI i) x σ = some (decide (σ (ks + 1) i = -1 ∨ σ (ks + 1) i = x)) := by
  rw [fX2_tells, gd_t (inB_n hi (by decide)), gd_t (inB_n hi (by decide)), nI_clamp (by omega)]
  by_cases h1 : σ (ks + 1) i = -1
  · rw [if_pos h1, decide_eq_true (Or.inl h1)]
  · rw [if_neg h1]
    by_cases h2 : σ (ks + 1) i = x
    · rw [if_pos h2, decide_eq_true (Or.inr h2)]
    · rw [if_neg h2, decide_eq_false (fun z => z.elim h1 h2)]
theorem Pl.c {σc0 σr0 σc σr : Mem} (h : Pl σc0 σr0 σc σr) {k : Nat} (hk : 34 ≤ k) : σc k = σc0 k := h.1.1 k (by omega) (by omega) (by omega) (by omega)
theorem Pl.r {σc0 σr0 σc σr : Mem} (h : Pl σc0 σr0 σc σr) {k : Nat} (hk : 7 ≤ k) : σr k = σr0 k := h.1.2.1 k (by omega) (by omega) (by omega) (by omega) (by omega)
theorem fits_l {σc0 σr0 : Mem} (hI : Inv σc0 σr0) {s p j L : Nat} (hs : s < 4) (hp8 : p < 8) (hj : j < 8) (hL : σr0 9 s = nI L) (hL40 : L ≤ 40) (hpn : p < nP (σr0 1)) : ∀ n i σc σr, Pl σc0 σr0 σc σr → σr 1 5 = σr0 1 5 → i ≤ L → L + 1 - i < n → ∃ b τc τr, lw2 (fX5_fits_25 (37 + 2 * s) (nI p) (nI j)) n (nI i) σc = some (b, τc) ∧ lw3 (fX6_paysSo_6 (nI s) (nI p) (nI j)) n 1 (nI i) σr = some (b, τr) ∧ Pl σc0 σr0 τc τr ∧ τr 0 8 = σr 0 8 := by
  obtain ⟨s1, s2, s3, s4, s5⟩ := hI.2.2.2.1 s hs
  intro n
  induction n with
  | zero => intro i _ _ _ _ _ h2; omega
  | succ n ih =>
    intro i σc σr hp e5 h1 h2
    have c2 : σc (37 + 2 * s) 2 = nI L := by rw [hp.c (by omega), s3, hL]
    have r9 : σr 9 s = nI L := by rw [hp.r (by omega)]; exact hL
    rw [lw2_s, lw3_s, fX5_fits_25, fX6_paysSo_6, c2, gd_t (inB_n hs (by decide)), nI_clamp (show s < 2 ^ 31 by omega), r9]
    by_cases e : i = L
    · subst e
      rw [if_pos (Int32.le_refl _), if_pos (Int32.le_refl _), gd_t (Or.inr rfl)]
      exact ⟨true, σc, σr, rfl, rfl, hp, rfl⟩
    · rw [if_neg (nle_n (by omega) (by omega)), if_neg (nle_n (by omega) (by omega)), if_neg (show ¬ (1 : Int32) = 0 by decide)]
      obtain ⟨T, τc, τr, f1, f2, f3, f4, f5, -⟩ := perform_e (by decide) hp.2.2.1 hp.2.2.2 hj
      have hq := hp.tell f3 f4 f5
      have n5 : nP (σr 1) = nP (σr0 1) := by unfold nP; rw [e5]
      have e5' : τr 1 5 = σr0 1 5 := by rw [f5.2.2.2.2.1 5 (by decide) (by decide) (fun q _ => by omega)]; exact e5
      have e8 : τr 0 8 = σr 0 8 := f5.2.2.1 8 (by decide)
      have epd : τc 33 p = τr 6 p := f5.2.2.2.1 p (by omega)
      have enum : τc (37 + 2 * s + 1) i = τr 10 (40 * s + i) := by
        rw [hq.c (by omega), hq.r (by omega), show 37 + 2 * s + 1 = 38 + 2 * s by omega]
        exact s5 i (by omega)
      rw [f1, f2, bnd2_s, bnd2_s, gd_t (inB_n hp8 (by decide)), c_tells _ (by omega), Option.bind_some, ix40, gd_t (inB_n (by omega) (by decide)), pb_e, gd_t (inB_n hp8 (by decide)), nI_clamp (show 40 * s + i < 2 ^ 31 by omega), nI_clamp (show p < 2 ^ 31 by omega), enum, epd, nI_1]
      by_cases x1 : τr 10 (40 * s + i) = -1
      · rw [if_pos (decide_eq_true (Or.inl x1)), if_pos x1]
        obtain ⟨b, υc, υr, g1, g2, g3, g4⟩ := ih (i + 1) τc τr hq e5' (by omega) (by omega)
        exact ⟨b, υc, υr, g1, g2, g3, g4.trans e8⟩
      · rw [if_neg x1]
        by_cases x2 : τr 10 (40 * s + i) = τr 6 p
        · rw [if_pos (decide_eq_true (Or.inr x2)), if_pos x2]
          obtain ⟨b, υc, υr, g1, g2, g3, g4⟩ := ih (i + 1) τc τr hq e5' (by omega) (by omega)
          exact ⟨b, υc, υr, g1, g2, g3, g4.trans e8⟩
        · have hd : ¬ decide (τr 10 (40 * s + i) = -1 ∨ τr 10 (40 * s + i) = τr 6 p) = true := fun z => (of_decide_eq_true z).elim x1 x2
          rw [if_neg hd, if_neg x2]
          obtain ⟨n, rfl⟩ : ∃ q, n = q + 1 := ⟨n - 1, by omega⟩
          have r9' : τr 9 s = nI L := by rw [hq.r (by omega)]; exact hL
          refine ⟨false, τc, τr, rfl, ?_, hq, e8⟩
          rw [lw3_s, fX6_paysSo_6, gd_t (inB_n hs (by decide)), if_pos (show (0 : Int32) = 0 from rfl), ite_self, gd_t (Or.inl rfl)]
          rfl
theorem Pl.taste {σc0 σr0 σc σr : Mem} (h : Pl σc0 σr0 σc σr) {p k : Nat} (hp : p < 8) (hk : k ≤ 63) : Pl σc0 σr0 (up2 σc 14 p (nI k)) (up2 σr 1 (23 + 5 * p + 2) (nI k)) := by
  obtain ⟨t, a, hR, hW⟩ := h
  obtain ⟨g1, g2⟩ := tr_part (w := 2) (v := nI k) hR hW hp (by decide) (by decide) ⟨k, hk, rfl⟩
  refine ⟨t.tr ⟨fun q h1 _ _ _ => up2_n (by omega), fun q _ h2 _ _ _ => up2_n h2, fun q _ _ => by rw [up2_n (by decide)]⟩, fun q hq => by rw [up2_n (by decide)]; exact a q hq, ?_, ?_⟩
  · rw [up2_s]; exact g1
  · rw [up2_s]; exact g2
theorem fits_e {σc σr : Mem} (hI : Inv σc σr) {s p j L k : Nat} (hs : s < 4) (hp8 : p < 8) (hj : j < 8) (hL : σr 9 s = nI L) (hL40 : L ≤ 40) (hpn : p < nP (σr 1)) (hk : k ≤ 63) : ∃ b τc τr, fX5_fits (37 + 2 * s) (nI p) (nI j) (nI k) σc = some (b, τc) ∧ ((fX6_lends σr).bind fun s1 => (fX6_sets (nI p) 2 (nI k) s1).bind fun s2 => bnd2 (fX6_paysSo (nI s) (nI p) (nI j) s2) fun v s3 => (fX6_laysBack s3).bind fun s4 => some (v, s4)) = some (b, τr) ∧ Tri σc σr τc τr ∧ (∀ q, q < 73 → τr 1 q = σr 1 q) ∧ τr 0 8 = σr 0 8 := by
  obtain ⟨uc, ur, q1, q2, q3, q4⟩ := lend_e hI
  have hp := q3.taste hp8 hk
  have e5 : up2 ur 1 (23 + 5 * p + 2) (nI k) 1 5 = σr 1 5 := by rw [up2_j (by omega), q4]
  obtain ⟨b, τc, τr, g1, g2, g3, g4⟩ := fits_l hI hs hp8 hj hL hL40 hpn FU 0 _ _ hp e5 (by omega) (Nat.lt_trans (show L + 1 - 0 < 10100 by omega) FU_gt)
  obtain ⟨υr, k1, k2, k3, k4, k5⟩ := back_e hI g3.1 g3.2.1
  refine ⟨b, τc, υr, ?_, ?_, k5, k3, ?_⟩
  · rw [fX5_fits, q1, Option.bind_some, gd_t (inB_n hp8 (by decide)), nI_clamp (by omega), pb_e]
    exact g1
  · rw [q2, Option.bind_some, show (2 : Int32) = nI 2 from rfl, r_sets hp8 (by decide), Option.bind_some, fX6_paysSo]
    have g2' : lw3 (fX6_paysSo_6 (nI s) (nI p) (nI j)) FU 1 0 (up2 ur 1 (23 + 5 * p + 2) (nI k)) = some (b, τr) := g2
    rw [g2', bnd2_s, k1, Option.bind_some]
  · rw [k4 0 (by decide), g4, up2_n (by decide)]
    rw [fX6_lends, r_become (by decide), Option.bind_some] at q2
    cases q2
    rw [cpR_n _ _ (by decide)]
theorem opp2 {β : Type} [Inhabited β] {SC SR : Mem → Prop} {Rel : Mem → Mem → Prop} {N : Nat} {cf rf : Nat → Mem → Option (β × Mem)} {c0 r0 : Mem} (hc : SC c0) (hr : SR r0) (H : ∀ k, k < N → ∀ σc σr, SC σc → SR σr → ∃ b τc τr, cf k σc = some (b, τc) ∧ rf k σr = some (b, τr) ∧ SC τc ∧ SR τr ∧ Rel σr τr) : ∃ F : Nat → β, (∀ k, k < N → ∀ σc, SC σc → ∃ τc, cf k σc = some (F k, τc) ∧ SC τc) ∧ ∀ k, k < N → ∀ σr, SR σr → ∃ τr, rf k σr = some (F k, τr) ∧ SR τr ∧ Rel σr τr := by
  obtain ⟨F, g1, g2⟩ := opp hc hr (fun k hk σc σr h1 h2 => by
    obtain ⟨b, τc, τr, f1, f2, f3, f4, -⟩ := H k hk σc σr h1 h2
    exact ⟨b, τc, τr, f1, f2, f3, f4⟩)
  refine ⟨F, g1, fun k hk σr hs => ?_⟩
  obtain ⟨τr, f1, f2⟩ := g2 k hk σr hs
  obtain ⟨b, υc, υr, h1, h2, -, h3, h4⟩ := H k hk c0 σr hc hs
  rw [f1] at h2
  cases h2
  exact ⟨τr, f1, f2, h4⟩
theorem dec4 {A : Option Mem} {B : Mem → Option Mem} {C : Mem → Option (Bool × Mem)} {D : Mem → Option Mem} {b : Bool} {τ : Mem} (h : (A.bind fun s1 => (B s1).bind fun s2 => bnd2 (C s2) fun v s3 => (D s3).bind fun s4 => some (v, s4)) = some (b, τ)) : ∃ s1 s2 s3, A = some s1 ∧ B s1 = some s2 ∧ C s2 = some (b, s3) ∧ D s3 = some τ := by
  cases hA : A with
  | none => rw [hA] at h; cases h
  | some s1 =>
    rw [hA, Option.bind_some] at h
    cases hB : B s1 with
    | none => rw [hB] at h; cases h
    | some s2 =>
      rw [hB, Option.bind_some] at h
      cases hC : C s2 with
      | none => rw [hC] at h; cases h
      | some z =>
        obtain ⟨v, s3⟩ := z
        rw [hC, bnd2_s] at h
        cases hD : D s3 with
        | none => rw [hD] at h; cases h
        | some s4 =>
          rw [hD, Option.bind_some] at h
          cases h
          exact ⟨s1, s2, s3, rfl, hB, hC, hD⟩
def cntP (P : Nat → Bool) : Nat → Nat
  | 0 => 0
  | m + 1 => cntP P m + if P m = true then 1 else 0
theorem cntP_le (P : Nat → Bool) : ∀ m, cntP P m ≤ m := by
  intro m
  induction m with
  | zero => exact Nat.le_refl _
  | succ m ih =>
    rw [cntP]
    split <;> omega
theorem cntP_0 (P : Nat → Bool) : ∀ m, cntP P m = 0 ↔ ∀ k, k < m → P k = false := by
  intro m
  induction m with
  | zero => exact ⟨fun _ k hk => by omega, fun _ => rfl⟩
  | succ m ih =>
    rw [cntP]
    constructor
    · intro h k hk
      by_cases hp : P m = true
      · rw [if_pos hp] at h; omega
      · by_cases e : k = m
        · rw [e]; exact Bool.eq_false_iff.mpr hp
        · exact ih.mp (by omega) k (by omega)
    · intro h
      rw [if_neg (by rw [h m (by omega)]; decide), ih.mpr (fun k hk => h k (by omega))]
theorem usP_0 (P : Nat → Bool) {N : Nat} (hN : N < 2 ^ 31) : ∀ d, d ≤ N → (usP P N d = -1 ↔ ∀ k, N - d ≤ k → k < N → P k = false) := by
  intro d
  induction d with
  | zero => intro _; exact ⟨fun _ k h1 h2 => by omega, fun _ => rfl⟩
  | succ d ih =>
    intro hd
    rw [usP]
    by_cases hp : P (N - 1 - d) = true
    · rw [if_pos hp]
      refine ⟨fun z => absurd z (nI_m1 (by omega)), fun h => ?_⟩
      rw [h (N - 1 - d) (by omega) (by omega)] at hp
      cases hp
    · rw [if_neg hp]
      refine ⟨fun h k h1 h2 => ?_, fun h => (ih (by omega)).mpr (fun k h1 h2 => h k (by omega) h2)⟩
      by_cases e : k = N - 1 - d
      · rw [e]; exact Bool.eq_false_iff.mpr hp
      · exact (ih (by omega)).mp h k (by omega) h2
theorem tastes_c {σ0 : Mem} {s p j : Nat} (hs : s < 4) {F : Nat → Bool} (hF : ∀ k, k < 64 → ∀ σ, SCt σ0 σ → ∃ τ, fX5_fits (37 + 2 * s) (nI p) (nI j) (nI k) σ = some (F k, τ) ∧ SCt σ0 τ) : ∀ n k σ, k ≤ 64 → 64 - k < n → SCt σ0 σ → ∃ τ, SCt σ0 τ ∧ lw3 (fX5_tastes_27 (nI s) (nI p) (nI j)) n (nI (cntP F k)) (nI k) σ = some (nI (cntP F 64), τ) := by
  intro n
  induction n with
  | zero => intro k _ _ h2; omega
  | succ n ih =>
    intro k σ h1 h2 hS
    rw [lw3_s, fX5_tastes_27]
    by_cases e : k = 64
    · subst e
      rw [if_pos (by decide)]
      exact ⟨σ, hS, rfl⟩
    · obtain ⟨τ, f1, f2⟩ := hF k (by omega) σ hS
      have hi := ih (k + 1) τ (by omega) (by omega) f2
      rw [cntP] at hi
      rw [if_neg (show ¬ (63 : Int32) < nI k from nI_nlt (a := 63) (b := k) (by omega) (by decide)), gd_t (inB_n hs (by decide)), nI_clamp (by omega), f1, bnd2_s, nI_1, nI_1]
      by_cases h : F k = true
      · rw [if_pos h]; rw [if_pos h] at hi; exact hi
      · rw [if_neg h]; rw [if_neg h] at hi; exact hi
theorem taste_c {σ0 : Mem} {s p j : Nat} (hs : s < 4) {F : Nat → Bool} (hF : ∀ k, k < 64 → ∀ σ, SCt σ0 σ → ∃ τ, fX5_fits (37 + 2 * s) (nI p) (nI j) (nI k) σ = some (F k, τ) ∧ SCt σ0 τ) : ∀ d, d ≤ 64 → ∀ n σ, d < n → SCt σ0 σ → ∃ τ, SCt σ0 τ ∧ lw2 (fX5_taste_24 (nI s) (nI p) (nI j)) n (nI (64 - d)) σ = if usP F 64 d = -1 then fX5_found (-1000004) τ else some (usP F 64 d, τ) := by
  intro d
  induction d with
  | zero =>
    intro _ n σ hn hS
    obtain ⟨n, rfl⟩ : ∃ q, n = q + 1 := ⟨n - 1, by omega⟩
    refine ⟨σ, hS, ?_⟩
    rw [lw2_s, fX5_taste_24, if_pos (by decide), b2id, usP, if_pos rfl]
  | succ d ih =>
    intro hm n σ hn hS
    obtain ⟨n, rfl⟩ : ∃ q, n = q + 1 := ⟨n - 1, by omega⟩
    have e1 : 64 - (d + 1) = 64 - 1 - d := by omega
    have e2 : 64 - 1 - d + 1 = 64 - d := by omega
    obtain ⟨τ, f1, f2⟩ := hF (64 - 1 - d) (by omega) σ hS
    rw [lw2_s, fX5_taste_24, e1, if_neg (show ¬ (63 : Int32) < nI (64 - 1 - d) from nI_nlt (a := 63) (by omega) (by decide)), nI_1, e2, gd_t (inB_n hs (by decide)), nI_clamp (by omega), f1, bnd2_s, usP]
    by_cases h : F (64 - 1 - d) = true
    · refine ⟨τ, f2, ?_⟩
      rw [if_pos h, if_pos h, if_neg (nI_m1 (by omega))]
    · rw [if_neg h, if_neg h]
      exact ih (by omega) n τ (by omega) f2
theorem find_r {σ0 : Mem} {s p j : Nat} {F : Nat → Bool} (hF : ∀ k, k < 64 → ∀ σ, SRt σ0 σ → ∃ τ, ((fX6_lends σ).bind fun s1 => (fX6_sets (nI p) 2 (nI k) s1).bind fun s2 => bnd2 (fX6_paysSo (nI s) (nI p) (nI j) s2) fun v s3 => (fX6_laysBack s3).bind fun s4 => some (v, s4)) = some (F k, τ) ∧ SRt σ0 τ ∧ τ 0 8 = σ 0 8) : ∀ n i c σ, i ≤ 64 → i < n → SRt σ0 σ → c + cntP F i = cntP F 64 → σ 0 8 = usP F 64 (64 - i) → ∃ τ, SRt σ0 τ ∧ lw3 (fX6_findTastes_12 (nI s) (nI p) (nI j)) n (nI c) (nI i - 1) σ = some (nI (cntP F 64), τ) ∧ τ 0 8 = usP F 64 64 := by
  intro n
  induction n with
  | zero => intro i _ _ _ h2; omega
  | succ n ih =>
    intro i c σ h1 h2 hS hc h8
    rw [lw3_s, fX6_findTastes_12]
    cases i with
    | zero =>
      rw [if_pos (by decide)]
      rw [cntP, Nat.add_zero] at hc
      exact ⟨σ, hS, by rw [hc], h8⟩
    | succ i =>
      obtain ⟨τ, f1, f2, f3⟩ := hF i (by omega) σ hS
      obtain ⟨s1, s2, s3, d1, d2, d3, d4⟩ := dec4 f1
      have hst : ∀ v, SRt σ0 (up2 τ 0 8 v) := fun v => ⟨fun k h0 h1 h3 h5 h6 => by rw [up2_n h0]; exact f2.1 k h0 h1 h3 h5 h6, fun q h6 h8 => by rw [up2_j h8]; exact f2.2.1 q h6 h8, fun q hq => by rw [up2_n (by decide)]; exact f2.2.2 q hq⟩
      have eu : usP F 64 (64 - i) = if F i = true then nI i else usP F 64 (64 - (i + 1)) := by
        rw [show 64 - i = (64 - (i + 1)) + 1 from by omega, usP, show 64 - 1 - (64 - (i + 1)) = i from by omega]
      rw [cntP] at hc
      rw [nI_pred, if_neg (nI_pos (by omega)), d1, Option.bind_some, d2, Option.bind_some, d3, bnd2_s, d4, Option.bind_some]
      by_cases h : F i = true
      · rw [if_pos h] at hc eu
        rw [if_pos h, fX6_findTastes_54, pb_e, h, if_neg (show ¬ b2i true = 0 by decide), pb_e, nI_1, nI_dn]
        exact ih i (c + 1) _ (by omega) (by omega) (hst _) (by omega) (by rw [up2_e, eu])
      · rw [if_neg h] at hc eu
        rw [if_neg h, fX6_findTastes_54, pb_e, Bool.eq_false_iff.mpr h, if_pos (show b2i false = 0 by decide), pb_e, Int32.add_zero, nI_dn]
        exact ih i c _ (by omega) (by omega) (hst _) (by omega) (by rw [up2_e, eu, f3, h8])
theorem taste_F {σc σr : Mem} (hI : Inv σc σr) {s p j : Nat} (hs : s < 4) (hp8 : p < 8) (hj : j < 8) (hpn : p < nP (σr 1)) : ∃ F : Nat → Bool, (∀ k, k < 64 → ∀ σ, SCt σc σ → ∃ τ, fX5_fits (37 + 2 * s) (nI p) (nI j) (nI k) σ = some (F k, τ) ∧ SCt σc τ) ∧ ∃ τr, fX6_findTastes (nI s) (nI p) (nI j) σr = some (nI (cntP F 64), τr) ∧ SRt σr τr ∧ τr 0 8 = usP F 64 64 := by
  obtain ⟨s1, s2, s3, ⟨L, hL, eL⟩, s5⟩ := hI.2.2.2.1 s hs
  obtain ⟨F, g1, g2⟩ := opp2 (β := Bool) (SC := SCt σc) (SR := SRt σr) (Rel := fun a b => b 0 8 = a 0 8) (N := 64) (cf := fun k σ => fX5_fits (37 + 2 * s) (nI p) (nI j) (nI k) σ) (rf := fun k σ => (fX6_lends σ).bind fun s1 => (fX6_sets (nI p) 2 (nI k) s1).bind fun s2 => bnd2 (fX6_paysSo (nI s) (nI p) (nI j) s2) fun v s3 => (fX6_laysBack s3).bind fun s4 => some (v, s4)) (SCt.rf σc) (SRt.rf σr) (fun k hk uc ur hc hr => by
    obtain ⟨b, τc, τr, f1, f2, f3, f4, f5⟩ := fits_e (hI.st hc hr) (L := L) (k := k) hs hp8 hj (by rw [hr.1 9 (by decide) (by decide) (by decide) (by decide) (by decide)]; exact eL) hL (by unfold nP; rw [hr.2.2 5 (by decide)]; exact hpn) (by omega)
    exact ⟨b, τc, τr, f1, f2, fun q h1 h2 h3 h4 => (f3.1 q h1 h2 h3 h4).trans (hc q h1 h2 h3 h4), ⟨fun q h1 h2 h3 h4 h5 => (f3.2.1 q h1 h2 h3 h4 h5).trans (hr.1 q h1 h2 h3 h4 h5), fun q h1 h2 => (f3.2.2 q h1 h2).trans (hr.2.1 q h1 h2), fun q hq => (f4 q hq).trans (hr.2.2 q hq)⟩, f5⟩)
  refine ⟨F, g1, ?_⟩
  have h0 : SRt σr (up2 σr 0 8 (-1)) := ⟨fun k h0 h1 h3 h5 h6 => up2_n h0, fun q h6 h8 => up2_j h8, fun q hq => by rw [up2_n (by decide)]⟩
  obtain ⟨τ, k1, k2, k3⟩ := find_r (σ0 := σr) (s := s) (p := p) (j := j) g2 FU 64 0 (up2 σr 0 8 (-1)) (Nat.le_refl _) (Nat.lt_trans (by decide) FU_gt) h0 (by omega) (by rw [up2_e]; rfl)
  refine ⟨τ, ?_, k1, k3⟩
  rw [fX6_findTastes, pb_e]
  exact k2
theorem pay_c {σc σr : Mem} (hI : Inv σc σr) (a1 a2 a3 : Int32) : (fX5_paymentsFinding a1 a2 a3 σc = some (-1000001) ∧ fX6_lacksTastes a1 a2 a3 σr = some 0) ∨ (fX5_paymentsFinding a1 a2 a3 σc = some (-1000006) ∧ fX6_lacksTastes a1 a2 a3 σr = some 5) ∨ (fX5_paymentsFinding a1 a2 a3 σc = some 0 ∧ fX6_lacksTastes a1 a2 a3 σr = some (-1) ∧ ∃ s p j, s < 4 ∧ p < 8 ∧ j < 8 ∧ p < nP (σr 1) ∧ a1 = nI s ∧ a2 = nI p ∧ a3 = nI j) := by
  have hR := hI.1.1
  have hW := hI.1.2.1
  rw [fX5_paymentsFinding, fX6_lacksTastes, hasP hR, hasJ hR]
  rcases sheet_c hI a1 with ⟨e1, e2⟩ | ⟨e1, e2⟩ | ⟨e1, e2, s, hs, rfl, h0⟩
  · rw [e1, e2, Option.bind_some, Option.bind_some, if_neg (show ¬ (-1000001 : Int32) = 0 by decide +kernel), if_neg (show ¬ (0 : Int32) < 0 by decide)]
    exact Or.inl ⟨rfl, rfl⟩
  · rw [e1, e2, Option.bind_some, Option.bind_some, if_neg (show ¬ (-1000006 : Int32) = 0 by decide +kernel), if_neg (show ¬ (5 : Int32) < 0 by decide)]
    exact Or.inr (Or.inl ⟨rfl, rfl⟩)
  · rw [e1, e2, Option.bind_some, Option.bind_some, if_pos (show (0 : Int32) = 0 from rfl), if_pos (show (-1 : Int32) < 0 by decide)]
    by_cases h1 : fX6_isPerson a2 σr = true
    case neg => rw [if_neg h1, if_neg h1]; exact Or.inl ⟨rfl, rfl⟩
    by_cases h2 : fX6_isJoke a3 σr = true
    case neg => rw [if_pos h1, if_pos h1, if_neg h2, if_neg h2]; exact Or.inl ⟨rfl, rfl⟩
    rw [if_pos h1, if_pos h1, if_pos h2, if_pos h2]
    obtain ⟨p, hpn, hp, rfl⟩ := isP_n hW h1
    obtain ⟨j, -, hj, rfl⟩ := isJ_n hW h2
    exact Or.inr (Or.inr ⟨rfl, rfl, s, p, j, hs, hp, hj, hpn, rfl, rfl, rfl⟩)
theorem st_tastes (a1 a2 a3 : Int32) : StI Inv (fX5_tastes a1 a2 a3) (fX6_tastes a1 a2 a3) := by
  intro σc σr hI
  rw [fX5_tastes, fX6_tastes]
  rcases pay_c hI a1 a2 a3 with ⟨e1, e2⟩ | ⟨e1, e2⟩ | ⟨e1, e2, s, p, j, hs, hp, hj, hpn, rfl, rfl, rfl⟩
  · rw [e1, e2, Option.bind_some, Option.bind_some, if_neg (by decide +kernel), if_neg (by decide), b2id, b2id]
    exact st_find hI (by decide) (found_0 σc) (finds_0 σr)
  · rw [e1, e2, Option.bind_some, Option.bind_some, if_neg (by decide +kernel), if_neg (by decide), b2id, b2id]
    exact st_find hI (by decide) (found_5 σc) (finds_5 σr)
  rw [e1, e2, Option.bind_some, Option.bind_some, if_pos (show (0 : Int32) = 0 from rfl), if_pos (show (-1 : Int32) < 0 by decide), b2id]
  obtain ⟨F, g1, τr, g2, g3, g4⟩ := taste_F hI hs hp hj hpn
  obtain ⟨τc, k1, k2⟩ := tastes_c hs g1 FU 0 σc (by omega) (Nat.lt_trans (show 64 - 0 < 10100 by omega) FU_gt) (SCt.rf σc)
  exact ⟨_, _, _, k2, g2, hI.st k1 g3⟩
theorem st_taste (a1 a2 a3 : Int32) : StI Inv (fX5_taste a1 a2 a3) (fX6_taste a1 a2 a3) := by
  intro σc σr hI
  rw [fX5_taste, fX6_taste]
  rcases pay_c hI a1 a2 a3 with ⟨e1, e2⟩ | ⟨e1, e2⟩ | ⟨e1, e2, s, p, j, hs, hp, hj, hpn, rfl, rfl, rfl⟩
  · rw [e1, e2, Option.bind_some, Option.bind_some, if_neg (by decide +kernel), if_neg (by decide), b2id, b2id]
    exact st_find hI (by decide) (found_0 σc) (finds_0 σr)
  · rw [e1, e2, Option.bind_some, Option.bind_some, if_neg (by decide +kernel), if_neg (by decide), b2id, b2id]
    exact st_find hI (by decide) (found_5 σc) (finds_5 σr)
  rw [e1, e2, Option.bind_some, Option.bind_some, if_pos (show (0 : Int32) = 0 from rfl), if_pos (show (-1 : Int32) < 0 by decide)]
  obtain ⟨F, g1, τr, g2, g3, g4⟩ := taste_F hI hs hp hj hpn
  obtain ⟨τc, k1, k2⟩ := taste_c hs g1 64 (Nat.le_refl _) FU σc (Nat.lt_trans (by decide) FU_gt) (SCt.rf σc)
  have k2' : lw2 (fX5_taste_24 (nI s) (nI p) (nI j)) FU 0 σc = _ := k2
  have h64 := cntP_le F 64
  rw [k2', g2, bnd2_s, b2id, g4]
  by_cases h : usP F 64 64 = -1
  · have hz : cntP F 64 = 0 := (cntP_0 F 64).mpr (fun k hk => (usP_0 F (by decide) 64 (Nat.le_refl _)).mp h k (by omega) hk)
    rw [if_pos h, hz, if_pos (show nI 0 = (0 : Int32) from rfl)]
    exact st_find (hI.st k1 g3) (by decide) (found_3 _) (finds_3 _)
  · have hz : ¬ cntP F 64 = 0 := fun z => h ((usP_0 F (by decide) 64 (Nat.le_refl _)).mpr (fun k _ hk => (cntP_0 F 64).mp z k hk))
    rw [if_neg h, if_neg (nI_ne0 (by omega) (by omega))]
    exact ⟨_, _, _, rfl, rfl, hI.st k1 g3⟩
