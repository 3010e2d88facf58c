/-! odds -/
def oC (N J a : Nat) (w : Int32) : Option Int64 := if w = 0 then (fX5_inLowestTerms (nI a) (nI J)).bind fun v => fX5_power v (nI N) else (fX5_inLowestTerms (nI J) (nI a)).bind fun v => fX5_power v (nI N)
def oR (N J a : Nat) (w : Int32) : Option Int64 := (lw3 (fX6_odds_95 (nI N) w (nI a) (fun _ _ => nI J)) FU 1 1 0).bind fun p => some p.1
def oK (J : Nat) : Bool := (List.range (J + 1)).all fun a => (List.range 15).all fun N => decide (oC N J a 0 = oR N J a 0) && (decide (oC N J a 1 = oR N J a 1) && ((oC N J a 0).isSome && (oC N J a 1).isSome))
theorem o_k1 : oK 1 = true := by decide +kernel
theorem o_k2 : oK 2 = true := by decide +kernel
theorem o_k3 : oK 3 = true := by decide +kernel
theorem o_k4 : oK 4 = true := by decide +kernel
theorem o_k5 : oK 5 = true := by decide +kernel
theorem o_k6 : oK 6 = true := by decide +kernel
theorem o_k7 : oK 7 = true := by decide +kernel
theorem o_k8 : oK 8 = true := by decide +kernel
theorem o_dec (J : Nat) (hJ : J < 9) (h1 : 1 ≤ J) (a : Nat) (ha : a < J + 1) (N : Nat) (hN : N < 15) : (oC N J a 0 = oR N J a 0 ∧ oC N J a 1 = oR N J a 1 ∧ (oC N J a 0).isSome = true ∧ (oC N J a 1).isSome = true) := by
  have h : oK J = true := by
    rcases (show J = 1 ∨ J = 2 ∨ J = 3 ∨ J = 4 ∨ J = 5 ∨ J = 6 ∨ J = 7 ∨ J = 8 by omega) with rfl | rfl | rfl | rfl | rfl | rfl | rfl | rfl
    · exact o_k1
    · exact o_k2
    · exact o_k3
    · exact o_k4
    · exact o_k5
    · exact o_k6
    · exact o_k7
    · exact o_k8
  unfold oK at h
  rw [List.all_eq_true] at h
  have h2 := h a (List.mem_range.mpr ha)
  rw [List.all_eq_true] at h2
  have h3 := h2 N (List.mem_range.mpr hN)
  rw [Bool.and_eq_true, Bool.and_eq_true, Bool.and_eq_true, decide_eq_true_eq, decide_eq_true_eq] at h3
  exact h3
theorem o135 {σ σ' : Mem} (w : Int32) (x y : Int64) : ∀ n u v, lw2 (fX6_odds_135 w x y σ) n u v = (lw2 (fX6_odds_135 w x y σ') n u v).bind fun p => some (p.1, σ) := by
  intro n
  induction n with
  | zero => intro u v; rfl
  | succ n ih =>
    intro u v
    rw [lw2_s, lw2_s, fX6_odds_135, fX6_odds_135]
    by_cases h1 : lg_cmp v 0 = 0
    · rw [if_pos h1, if_pos h1]
      by_cases h2 : w = 0
      · rw [if_pos h2, if_pos h2]
        by_cases h3 : ¬ u = 0
        · rw [gd_t h3, gd_t h3]; rfl
        · rw [gd_e, gd_e, if_neg h3, if_neg h3]; rfl
      · rw [if_neg h2, if_neg h2]
        by_cases h3 : ¬ u = 0
        · rw [gd_t h3, gd_t h3]; rfl
        · rw [gd_e, gd_e, if_neg h3, if_neg h3]; rfl
    · rw [if_neg h1, if_neg h1]
      by_cases h3 : ¬ v = 0
      · rw [gd_t h3, gd_t h3, pb_e, pb_e]; exact ih _ _
      · rw [gd_e, gd_e, if_neg h3, if_neg h3]; rfl
theorem o95 {σ σ' : Mem} (h : σ 1 6 = σ' 1 6) (N w a : Int32) : ∀ n x y z, lw3 (fX6_odds_95 N w a σ) n x y z = (lw3 (fX6_odds_95 N w a σ') n x y z).bind fun p => some (p.1, σ) := by
  intro n
  induction n with
  | zero => intro x y z; rfl
  | succ n ih =>
    intro x y z
    rw [lw3_s, lw3_s, fX6_odds_95, fX6_odds_95, h]
    by_cases h1 : N ≤ z
    · rw [if_pos h1, if_pos h1]; exact o135 w x y FU x y
    · rw [if_neg h1, if_neg h1, pb_e, pb_e, pb_e, pb_e]; exact ih _ _ _
theorem o_end {σc σr : Mem} {N J a : Nat} {w : Int32} (hw : w = 0 ∨ w = 1) (hN : N < 15) (hJ : J < 9) (h1 : 1 ≤ J) (ha : a < J + 1) (h6 : σr 1 6 = nI J) : ∃ v, (if w = 0 then ((fX5_inLowestTerms (nI a) (nI J)).bind fun v_99 => ((fX5_power v_99 (nI N)).bind fun v_121 => (some (v_121, σc)))) else ((fX5_inLowestTerms (nI J) (nI a)).bind fun v_113 => ((fX5_power v_113 (nI N)).bind fun v_121 => (some (v_121, σc))))) = some (v, σc) ∧ lw3 (fX6_odds_95 (nI N) w (nI a) σr) FU 1 1 0 = some (v, σr) := by
  have hd := o_dec J hJ h1 a ha N hN
  have key : oC N J a w = oR N J a w ∧ (oC N J a w).isSome = true := by
    rcases hw with rfl | rfl
    · exact ⟨hd.1, hd.2.2.1⟩
    · exact ⟨hd.2.1, hd.2.2.2⟩
  obtain ⟨k1, k2⟩ := key
  cases hc : oC N J a w with
  | none => rw [hc] at k2; cases k2
  | some v =>
    refine ⟨v, ?_, ?_⟩
    · unfold oC at hc
      by_cases h2 : w = 0
      · rw [if_pos h2] at hc
        rw [if_pos h2]
        cases hv : fX5_inLowestTerms (nI a) (nI J) with
        | none => rw [hv] at hc; cases hc
        | some d =>
          rw [hv, Option.bind_some] at hc
          rw [Option.bind_some, hc, Option.bind_some]
      · rw [if_neg h2] at hc
        rw [if_neg h2]
        cases hv : fX5_inLowestTerms (nI J) (nI a) with
        | none => rw [hv] at hc; cases hc
        | some d =>
          rw [hv, Option.bind_some] at hc
          rw [Option.bind_some, hc, Option.bind_some]
    · rw [hc] at k1
      rw [o95 (σ' := fun _ _ => nI J) h6]
      unfold oR at k1
      cases hr : lw3 (fX6_odds_95 (nI N) w (nI a) (fun _ _ => nI J)) FU 1 1 0 with
      | none => rw [hr] at k1; cases k1
      | some p =>
        rw [hr, Option.bind_some] at k1
        rw [Option.bind_some]
        cases k1
        rfl
theorem odds_l {N J : Nat} {w : Int32} (hw : w = 0 ∨ w = 1) (hN : N < 15) (hJ : J < 9) (hJ1 : 1 ≤ J) : ∀ n i a σc σr, Inv σc σr → σr 1 6 = nI J → a ≤ i → i ≤ J → J - i < n → ∃ v τc τr, lw3 (fX5_odds_50 (nI N) w) n (nI a) (nI i) σc = some (v, τc) ∧ lw3 (fX6_odds_51 (nI N) w) n (nI a) (nI i) σr = some (v, τr) ∧ Inv τc τr := by
  intro n
  induction n with
  | zero => intro i _ _ _ _ _ _ _ h2; omega
  | succ n ih =>
    intro i a σc σr hI e6 ha h1 h2
    rw [lw3_s, lw3_s, fX5_odds_50, fX6_odds_51, hI.1.1.1.2.2.2.2.2, e6]
    by_cases e : i = J
    · rw [e, if_pos (Int32.le_refl _), if_pos (Int32.le_refl _)]
      obtain ⟨v, k1, k2⟩ := o_end (σc := σc) hw hN hJ hJ1 (show a < J + 1 by omega) e6
      exact ⟨v, σc, σr, k1, k2, hI⟩
    · rw [if_neg (nle_n (by omega) (by omega)), if_neg (nle_n (by omega) (by omega))]
      obtain ⟨T, τc, τr, f1, f2, f3, f4, f5, -⟩ := laughers_e hI.1.1 (by decide) hI.1.2.1 rfl (j := i) (by omega)
      have t6 : τr 1 6 = nI J := by rw [f5.1 1 (by decide) (by decide)]; exact e6
      rw [f1, f2, bnd2_s, bnd2_s, pb_e, pb_e, Int32.add_zero, nI_1, nI_1]
      by_cases h : T = 0
      · rw [if_pos h, if_pos h]
        exact ih (i + 1) a τc τr (hI.sp f4 f5) t6 (by omega) (by omega) (by omega)
      · rw [if_neg h, if_neg h]
        exact ih (i + 1) (a + 1) τc τr (hI.sp f4 f5) t6 (by omega) (by omega) (by omega)
theorem st_findL {σc σr : Mem} (hI : Inv σc σr) {k : Nat} (hk : k < 7) {v : Int32} {f g : Option (Int32 × Mem)} (hf : f = some (v, up2 σc 45 k (σc 45 k + 1))) (hg : g = some (v, up2 σr 4 k (σr 4 k + 1))) : ∃ (v : Int64) (τc τr : Mem), (bnd2 f fun v s => some (v.toInt64, s)) = some (v, τc) ∧ (bnd2 g fun v s => some (v.toInt64, s)) = some (v, τr) ∧ Inv τc τr := by
  rw [hf, hg, bnd2_s, bnd2_s]
  exact ⟨_, _, _, rfl, rfl, hI.find hk⟩
theorem st_odds (a1 a2 : Int32) : StL Inv (fX5_odds a1 a2) (fX6_odds a1 a2) := by
  intro σc σr hI
  have hW := hI.1.2.1
  have hJ8 := hW.j.2
  rw [fX5_odds, fX6_odds, in_l a1 0 14 (by decide) (by decide), in_l a2 0 1 (by decide) (by decide), hI.1.1.1.2.2.2.2.2]
  by_cases h1 : fX5_within a1 0 14 = true
  case neg => rw [if_neg h1, if_neg h1]; exact st_findL hI (by decide) (found_0 σc) (finds_0 σr)
  rw [if_pos h1, if_pos h1]
  by_cases h2 : fX5_within a2 0 1 = true
  case neg => rw [if_neg h2, if_neg h2]; exact st_findL hI (by decide) (found_0 σc) (finds_0 σr)
  rw [if_pos h2, if_pos h2]
  by_cases h3 : σr 1 6 = 0
  · rw [if_pos h3, if_pos h3]; exact st_findL hI (by decide) (found_3 σc) (finds_3 σr)
  rw [if_neg h3, if_neg h3]
  obtain ⟨N, -, hN, rfl⟩ := bnI (a := 0) (b := 14) rfl rfl (by decide) (by decide) h1
  obtain ⟨w, -, hw, rfl⟩ := bnI (a := 0) (b := 1) rfl rfl (by decide) (by decide) h2
  have hw' : nI w = 0 ∨ nI w = 1 := by
    rcases (show w = 0 ∨ w = 1 by omega) with rfl | rfl
    · exact Or.inl rfl
    · exact Or.inr rfl
  have hJ1 : 1 ≤ nJ (σr 1) := by
    by_cases z : nJ (σr 1) = 0
    · exact absurd (by rw [hW.j.1, z]; rfl) h3
    · omega
  exact odds_l hw' (by omega) (by omega) hJ1 FU 0 0 σc σr hI hW.j.1 (by omega) (by omega) (Nat.lt_trans (show nJ (σr 1) - 0 < 10100 by omega) FU_gt)
