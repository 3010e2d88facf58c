/-! best, quiet, safe -/
theorem lat_e {t f : Int32} (ht : rng t 63) {σc σr : Mem} (hI : Inv σc σr) : ∃ T τc τr, fX5_laughingAt t f σc = some (pc T, τc) ∧ fX6_laughAt t f σr = some (T, τr) ∧ S8 T ∧ Inv τc τr ∧ SPC σc τc ∧ SPR σr τr := by
  have hR := hI.1.1
  have hW := hI.1.2.1
  obtain ⟨T, τc, τr, f1, f2, f3, f4, f5, -⟩ := laugh_e (f := f) ht hR (by decide) hW rfl
  refine ⟨T, τc, τr, ?_, f2, f3, hI.sp f4 f5, f4, f5⟩
  rw [fX5_laughingAt, c_by ht f hR hW, Option.bind_some, c_all hR hW, f1, bnd2_s, f3.pc]
theorem best_l (f : Int32) : ∀ n c bc br y σc σr, (bc = br ∨ (c < 64 ∧ y = -1)) → Inv σc σr → c ≤ 64 → 64 - c < n → ∃ v τc τr, lw4 (fX5_best_21 f) n bc y (nI c) σc = some (v, τc) ∧ lw4 (fX6_best_20 f) n br y (nI c) σr = some (v, τr) ∧ Inv τc τr := by
  intro n
  induction n with
  | zero => intro c _ _ _ _ _ _ _ _ h2; omega
  | succ n ih =>
    intro c bc br y σc σr hb hI h1 h2
    rw [lw4_s, lw4_s, fX5_best_21, fX6_best_20]
    by_cases e : c = 64
    · subst e
      rw [if_pos (by decide), if_pos (by decide)]
      have hbb : bc = br := by
        rcases hb with h | h
        · exact h
        · omega
      rw [hbb]
      exact ⟨_, _, _, rfl, rfl, hI⟩
    · rw [if_neg (show ¬ (63 : Int32) < nI c from nI_nlt (a := 63) (b := c) (by omega) (by decide)), if_neg (show ¬ (64 : Int32) ≤ nI c from nle_n (b := 64) (by omega) (by decide))]
      obtain ⟨T, τc, τr, f1, f2, f3, f4, -⟩ := lat_e (t := nI c) (f := f) ⟨c, by omega, rfl⟩ hI
      rw [f1, f2]
      simp only [bnd2_s, r_pc, Option.bind_some, pb_e, nI_1]
      obtain ⟨m, hm, em⟩ := s8_rng f3
      by_cases hy : pc T ≤ y
      · rw [if_pos hy, if_pos hy, iMax_l hy]
        rcases hb with hb | ⟨-, hb⟩
        · exact ih (c + 1) _ _ _ τc τr (Or.inl hb) f4 (by omega) (by omega)
        · rw [hb, em] at hy
          exact absurd (Int32.le_trans (nI_pos' (by omega)) hy) (by decide)
      · rw [if_neg hy, if_neg hy, iMax_r hy]
        exact ih (c + 1) _ _ _ τc τr (Or.inl rfl) f4 (by omega) (by omega)
theorem st_best (a1 : Int32) : StI Inv (fX5_best a1) (fX6_best a1) := by
  intro σc σr hI
  rw [fX5_best, fX6_best, isFun_e, b2id, b2id]
  by_cases h1 : fX5_isFun a1 = true
  case neg => rw [if_neg h1, if_neg h1]; exact st_find hI (by decide) (found_0 σc) (finds_0 σr)
  rw [if_pos h1, if_pos h1, pb_e, pb_e]
  exact best_l a1 FU 1 1 0 (-1) σc σr (Or.inr ⟨by decide, rfl⟩) hI (by omega) (Nat.lt_trans (show 64 - 1 < 10100 by omega) FU_gt)
theorem quiet_l (f : Int32) : ∀ n c bc br y σc σr, ((bc = br ∧ 0 < br) ∨ (bc = 0 ∧ br = -1)) → Inv σc σr → 1 ≤ c → c ≤ 64 → 64 - c < n → ∃ v τc τr, lw4 (fX5_quiet_22 f) n bc y (nI c) σc = some (v, τc) ∧ lw4 (fX6_quiet_21 f) n br y (nI c) σr = some (v, τr) ∧ Inv τc τr := by
  intro n
  induction n with
  | zero => intro c _ _ _ _ _ _ _ _ _ h2; omega
  | succ n ih =>
    intro c bc br y σc σr hb hI h0 h1 h2
    rw [lw4_s, lw4_s, fX5_quiet_22, fX6_quiet_21]
    by_cases e : c = 64
    · subst e
      rw [if_pos (show (63 : Int32) < nI 64 by decide), if_pos (show (64 : Int32) ≤ nI 64 by decide), b2id, b2id]
      rcases hb with ⟨rfl, hb⟩ | ⟨rfl, rfl⟩
      · rw [if_neg (fun z => by rw [z] at hb; exact absurd hb (by decide)), if_pos (Int32.le_of_lt hb)]
        exact ⟨_, _, _, rfl, rfl, hI⟩
      · rw [if_pos rfl, if_neg (by decide)]
        exact st_find hI (by decide) (found_3 _) (finds_3 _)
    · rw [if_neg (show ¬ (63 : Int32) < nI c from nI_nlt (a := 63) (b := c) (by omega) (by decide)), if_neg (show ¬ (64 : Int32) ≤ nI c from nle_n (b := 64) (by omega) (by decide))]
      obtain ⟨T, τc, τr, f1, f2, f3, f4, -⟩ := lat_e (t := nI c) (f := f) ⟨c, by omega, rfl⟩ hI
      rw [f1, f2]
      simp only [bnd2_s, r_pc, Option.bind_some, pb_e, nI_1]
      by_cases hy : pc T ≤ 0
      · rw [if_pos hy, if_pos hy]
        exact ih (c + 1) _ _ _ τc τr hb f4 (by omega) (by omega) (by omega)
      · rw [if_neg hy, if_neg hy]
        by_cases hy2 : y ≤ pc T
        · rw [if_pos hy2, if_pos hy2]
          exact ih (c + 1) _ _ _ τc τr hb f4 (by omega) (by omega) (by omega)
        · rw [if_neg hy2, if_neg hy2]
          exact ih (c + 1) _ _ _ τc τr (Or.inl ⟨rfl, nI_lt (a := 0) (by omega) (by omega)⟩) f4 (by omega) (by omega) (by omega)
theorem st_quiet (a1 : Int32) : StI Inv (fX5_quiet a1) (fX6_quiet a1) := by
  intro σc σr hI
  rw [fX5_quiet, fX6_quiet, isFun_e, b2id, b2id]
  by_cases h1 : fX5_isFun a1 = true
  case neg => rw [if_neg h1, if_neg h1]; exact st_find hI (by decide) (found_0 σc) (finds_0 σr)
  rw [if_pos h1, if_pos h1, pb_e]
  exact quiet_l a1 FU 1 0 (-1) 9 σc σr (Or.inr ⟨rfl, rfl⟩) hI (by omega) (by omega) (Nat.lt_trans (show 64 - 1 < 10100 by omega) FU_gt)
/-! searches that go against each other: what a step finds is one function of its number -/
theorem opp {β : Type} [Inhabited β] {SC SR : Mem → Prop} {N : Nat} {cf rf : Nat → Mem → Option (β × Mem)} {c0 r0 : Mem} (hc : SC c0) (hr : SR r0) (H : ∀ k, k < N → ∀ σc σr, SC σc → SR σr → ∃ b τc τr, cf k σc = some (b, τc) ∧ rf k σr = some (b, τr) ∧ SC τc ∧ SR τr) : ∃ F : Nat → β, (∀ k, k < N → ∀ σc, SC σc → ∃ τc, cf k σc = some (F k, τc) ∧ SC τc) ∧ ∀ k, k < N → ∀ σr, SR σr → ∃ τr, rf k σr = some (F k, τr) ∧ SR τr := by
  have h : ∀ k, ∃ b, k < N → ∃ τc τr, cf k c0 = some (b, τc) ∧ rf k r0 = some (b, τr) := by
    intro k
    by_cases hk : k < N
    · obtain ⟨b, τc, τr, h1, h2, -⟩ := H k hk c0 r0 hc hr
      exact ⟨b, fun _ => ⟨τc, τr, h1, h2⟩⟩
    · exact ⟨default, fun z => absurd z hk⟩
  refine ⟨fun k => (h k).choose, fun k hk σc hs => ?_, fun k hk σr hs => ?_⟩
  · obtain ⟨τc, τr, g1, g2⟩ := (h k).choose_spec hk
    obtain ⟨b, υc, υr, f1, f2, f3, -⟩ := H k hk σc r0 hs hr
    rw [g2] at f2
    cases f2
    exact ⟨υc, f1, f3⟩
  · obtain ⟨τc, τr, g1, g2⟩ := (h k).choose_spec hk
    obtain ⟨b, υc, υr, f1, f2, -, f3⟩ := H k hk c0 σr hc hs
    rw [g1] at f1
    cases f1
    exact ⟨υr, f2, f3⟩
/-- the greatest below m with P, as the reference notes it -/
def lsP (P : Nat → Bool) : Nat → Int32
  | 0 => -1
  | m + 1 => if P m = true then nI m else lsP P m
theorem lsP_n (P : Nat → Bool) : ∀ m, m < 2 ^ 31 → lsP P m = -1 ∨ 0 ≤ lsP P m := by
  intro m
  induction m with
  | zero => intro _; exact Or.inl rfl
  | succ m ih =>
    intro hm
    rw [lsP]
    split
    · exact Or.inr (nI_pos' (by omega))
    · exact ih (by omega)
/-- a state that Inv cannot tell from another -/
def SCt (σ0 σ : Mem) : Prop := ∀ k, (k < 11 ∨ 20 < k) → k ≠ 31 → k ≠ 32 → k ≠ 33 → σ k = σ0 k
def SRt (σ0 σ : Mem) : Prop := (∀ k, k ≠ 0 → k ≠ 1 → k ≠ 3 → k ≠ 5 → k ≠ 6 → σ k = σ0 k) ∧ (∀ j, j ≠ 6 → j ≠ 8 → σ 0 j = σ0 0 j) ∧ ∀ j, j < 73 → σ 1 j = σ0 1 j
theorem SCt.rf (σ : Mem) : SCt σ σ := fun _ _ _ _ _ => rfl
theorem SRt.rf (σ : Mem) : SRt σ σ := ⟨fun _ _ _ _ _ _ => rfl, fun _ _ _ => rfl, fun _ _ => rfl⟩
theorem SCt.sp {a b c : Mem} (h : SCt a b) (g : SPC b c) : SCt a c := fun k h1 h2 h3 h4 => (g k h2 h3).trans (h k h1 h2 h3 h4)
theorem SRt.sp {a b c : Mem} (h : SRt a b) (g : SPR b c) : SRt a c := ⟨fun k h1 h2 h3 h4 h5 => (g.1 k h1 h4).trans (h.1 k h1 h2 h3 h4 h5), fun j h1 h2 => (g.2 j h1).trans (h.2.1 j h1 h2), fun j hj => by rw [g.1 1 (by decide) (by decide)]; exact h.2.2 j hj⟩
theorem Inv.st {σc0 σr0 σc σr : Mem} (hI : Inv σc0 σr0) (hc : SCt σc0 σc) (hr : SRt σr0 σr) : Inv σc σr := hI.tri ⟨hc, hr.1, hr.2.1⟩ hr.2.2
/-! safe -/
theorem pc_0 : ∀ n, n < 256 → (pc (nI n) = 0 ↔ nI n = 0) := by decide +kernel
theorem safe_c {t : Int32} {σ0 : Mem} {F : Nat → Int32} (hF : ∀ k, k < 10 → ∀ σ, SCt σ0 σ → ∃ τ, fX5_laughingAt t (nI k) σ = some (F k, τ) ∧ SCt σ0 τ) : ∀ m, m ≤ 10 → ∀ n σ, m < n → SCt σ0 σ → ∃ τ, SCt σ0 τ ∧ lw2 (fX5_safe_17 t) n (nI m - 1) σ = if lsP (fun k => decide (F k = 0)) m = -1 then fX5_found (-1000004) τ else some (lsP (fun k => decide (F k = 0)) m, τ) := by
  intro m
  induction m with
  | zero =>
    intro _ n σ hn hs
    obtain ⟨n, rfl⟩ : ∃ q, n = q + 1 := ⟨n - 1, by omega⟩
    refine ⟨σ, hs, ?_⟩
    rw [lw2_s, fX5_safe_17, if_pos (by decide), b2id, lsP, if_pos rfl]
  | succ m ih =>
    intro hm n σ hn hs
    obtain ⟨n, rfl⟩ : ∃ q, n = q + 1 := ⟨n - 1, by omega⟩
    obtain ⟨τ, f1, f2⟩ := hF m (by omega) σ hs
    rw [lw2_s, fX5_safe_17, nI_pred, if_neg (nI_pos (by omega)), f1, bnd2_s, lsP]
    by_cases h : F m = 0
    · refine ⟨τ, f2, ?_⟩
      rw [if_pos h, if_pos (decide_eq_true h), if_neg (show ¬ nI m = -1 from fun z => absurd (nI_pos' (n := m) (by omega)) (by rw [z]; decide))]
    · rw [if_neg h, if_neg (by rw [decide_eq_true_eq]; exact h), show nI m + -1 = nI m - 1 from (Int32.sub_eq_add_neg _ _).symm]
      exact ih (by omega) n τ (by omega) f2
theorem safe_r {t : Int32} {σ0 : Mem} {F : Nat → Int32} (hF : ∀ k, k < 10 → ∀ σ, SRt σ0 σ → ∃ T τ, fX6_laughAt t (nI k) σ = some (T, τ) ∧ (T = 0 ↔ F k = 0) ∧ SRt σ0 τ) : ∀ n m, m ≤ 10 → 10 - m < n → ∀ σ, SRt σ0 σ → ∃ τ, SRt σ0 τ ∧ lw3 (fX6_safe_17 t) n (lsP (fun k => decide (F k = 0)) m) (nI m) σ = if lsP (fun k => decide (F k = 0)) 10 = -1 then fX6_finds 3 τ else some (lsP (fun k => decide (F k = 0)) 10, τ) := by
  intro n
  induction n with
  | zero => intro m _ h2; omega
  | succ n ih =>
    intro m h1 h2 σ hs
    rw [lw3_s, fX6_safe_17]
    by_cases e : m = 10
    · subst e
      rw [if_pos (by decide), b2id]
      refine ⟨σ, hs, ?_⟩
      rcases lsP_n (fun k => decide (F k = 0)) 10 (by decide) with h | h
      · rw [h, if_neg (by decide), if_pos rfl]
      · rw [if_pos h, if_neg (fun z => by rw [z] at h; exact absurd h (by decide))]
    · obtain ⟨T, τ, f1, f2, f3⟩ := hF m (by omega) σ hs
      have hi := ih (m + 1) (by omega) (by omega) τ f3
      rw [lsP] at hi
      rw [if_neg (show ¬ (9 : Int32) < nI m from nI_nlt (a := 9) (b := m) (by omega) (by decide)), f1, bnd2_s, nI_1]
      by_cases h : F m = 0
      · rw [if_pos (f2.mpr h)]
        rw [if_pos (decide_eq_true h)] at hi
        exact hi
      · rw [if_neg (fun z => h (f2.mp z))]
        rw [if_neg (by rw [decide_eq_true_eq]; exact h)] at hi
        exact hi
theorem st_safe (a1 : Int32) : StI Inv (fX5_safe a1) (fX6_safe a1) := by
  intro σc σr hI
  rw [fX5_safe, fX6_safe, isTopics_e, b2id, b2id]
  by_cases h1 : fX5_isTopics a1 = true
  case neg => rw [if_neg h1, if_neg h1]; exact st_find hI (by decide) (found_0 σc) (finds_0 σr)
  rw [if_pos h1, if_pos h1, pb_e]
  have t1 : ∃ j, 1 ≤ j ∧ j ≤ 63 ∧ a1 = nI j := bnI (a := 1) (b := 63) rfl rfl (by decide) (by decide) h1
  have ht : rng a1 63 := ⟨t1.choose, t1.choose_spec.2.1, t1.choose_spec.2.2⟩
  obtain ⟨F, g1, g2⟩ := opp (β := Int32) (SC := SCt σc) (SR := SRt σr) (N := 10) (cf := fun k σ => fX5_laughingAt a1 (nI k) σ) (rf := fun k σ => (fX6_laughAt a1 (nI k) σ).bind fun z => some (pc z.1, z.2)) (SCt.rf σc) (SRt.rf σr) (fun k hk uc ur hc hr => by
    obtain ⟨T, τc, τr, f1, f2, f3, f4, f5, f6⟩ := lat_e (t := a1) (f := nI k) ht (hI.st hc hr)
    exact ⟨pc T, τc, τr, f1, by rw [f2]; rfl, hc.sp f5, hr.sp f6⟩)
  obtain ⟨τc, k1, k2⟩ := safe_c g1 10 (by omega) FU σc (Nat.lt_trans (by decide) FU_gt) (SCt.rf σc)
  obtain ⟨τr, k3, k4⟩ := safe_r (t := a1) (F := F) (fun k hk σ hs => by
    obtain ⟨τ, f1, f2⟩ := g2 k hk σ hs
    obtain ⟨T, υc, υr, q1, q2, ⟨m, hm, em⟩, -⟩ := lat_e (t := a1) (f := nI k) ht (hI.st (SCt.rf σc) hs)
    rw [q2] at f1
    have e : pc T = F k ∧ υr = τ := by simpa using f1
    refine ⟨T, τ, by rw [q2, e.2], ?_, f2⟩
    rw [← e.1, em]
    exact (pc_0 m hm).symm) FU 0 (by omega) (Nat.lt_trans (by decide) FU_gt) σr (SRt.rf σr)
  rw [show nI 10 - 1 = (9 : Int32) from by decide] at k2
  have k4' : lw3 (fX6_safe_17 a1) FU (-1) 0 σr = _ := k4
  rw [k2, k4']
  by_cases h : lsP (fun k => decide (F k = 0)) 10 = -1
  · rw [if_pos h, if_pos h]
    exact st_find (hI.st k1 k3) (by decide) (found_3 _) (finds_3 _)
  · rw [if_neg h, if_neg h]
    exact ⟨_, _, _, rfl, rfl, hI.st k1 k3⟩
