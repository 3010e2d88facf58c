/-! now, as -/
theorem st_now (a1 : Int32) : StI Inv (fX5_now a1) (fX6_now a1) := by
  intro σc σr hI
  have hR := hI.1.1
  have hW := hI.1.2.1
  have hs : ∀ q, q < 8 → σc 6 q = it (σr 1) q 4 := fun q hq => (hR.2.2.1 q hq).2.2.2.2
  have hm : ∀ q, q < 8 → σc 5 q = it (σr 1) q 3 := fun q hq => (hR.2.2.1 q hq).2.2.2.1
  have r4 := r_sum hW (w := 4) (by decide)
  have r3 := r_sum hW (w := 3) (by decide)
  rw [show nI 4 = (4 : Int32) from rfl] at r4
  rw [show nI 3 = (3 : Int32) from rfl] at r3
  rw [fX5_now, fX6_now, r4, r3, c_sum hW hR.1.2.2.2.2.1 hs, c_sum hW hR.1.2.2.2.2.1 hm, hR.1.1, hR.1.2.1, hR.1.2.2.1, hI.1.2.2.1]
  simp only [b2id, Option.bind_some]
  by_cases h0 : a1 = 0
  · rw [if_pos h0, if_pos h0]; exact ⟨_, _, _, rfl, rfl, hI⟩
  rw [if_neg h0, if_neg h0]
  by_cases h0 : a1 = 1
  · rw [if_pos h0, if_pos h0]; exact ⟨_, _, _, rfl, rfl, hI⟩
  rw [if_neg h0, if_neg h0]
  by_cases h0 : a1 = 2
  · rw [if_pos h0, if_pos h0]; exact ⟨_, _, _, rfl, rfl, hI⟩
  rw [if_neg h0, if_neg h0]
  by_cases h0 : a1 = 3
  · rw [if_pos h0, if_pos h0]; exact ⟨_, _, _, rfl, rfl, hI⟩
  rw [if_neg h0, if_neg h0]
  by_cases h0 : a1 = 4
  · rw [if_pos h0, if_pos h0]; exact ⟨_, _, _, rfl, rfl, hI⟩
  rw [if_neg h0, if_neg h0]
  by_cases h0 : a1 = 5
  · rw [if_pos h0, if_pos h0]; exact ⟨_, _, _, rfl, rfl, hI⟩
  rw [if_neg h0, if_neg h0]
  exact st_find hI (by decide) (found_0 σc) (finds_0 σr)
theorem isA_s (x y : Int32) (σ τ : Mem) : fX0_isA x y σ = fX0_isA x y τ := by
  have : fX0_isA_4 y σ = fX0_isA_4 y τ := by
    funext k a b
    rw [fX0_isA_4, fX0_isA_4]
  rw [fX0_isA, fX0_isA, this]
theorem isA_e : ∀ k, k < 7 → ∀ m, m < 7 → fX0_isA (nI k) (nI m) (fun _ _ => 0) = fX6_isUnder (nI k) (nI m) ∧ fX6_isUnder (nI k) (nI m) ≠ none := by decide +kernel
theorem spot_n {a : Vec} (h : WFv a) {k : Nat} (hk : k < 10) (h0 : 0 ≤ a (63 + k)) : ∃ q, q < nP a ∧ q < 8 ∧ a (63 + k) = nI q := by
  have hn := h.p.2
  rcases h.2.2.2.2.2.2.2 k hk with e | ⟨q, hq, e⟩
  · exact absurd e ((spot_c h hk).mp h0)
  · exact ⟨q, hq, by omega, e⟩
theorem isP_of {σ : Mem} (hW : WFv (σ 1)) {q : Nat} (hq : q < nP (σ 1)) : fX6_isPerson (nI q) σ = true := by
  have := hW.p.2
  rw [isPerson_e, hW.p.1]
  exact (wi_c (by omega)).mpr ⟨q, hq, rfl⟩
theorem isP_spot {σ : Mem} (hW : WFv (σ 1)) {k : Nat} (hk : k < 10) : fX6_isPerson (σ 1 (63 + k)) σ = true ↔ 0 ≤ σ 1 (63 + k) := by
  constructor
  · intro h
    obtain ⟨q, -, hq, e⟩ := isP_n hW h
    rw [e]
    exact nI_pos' (by omega)
  · intro h
    obtain ⟨q, hq, -, e⟩ := spot_n hW hk h
    rw [e]
    exact isP_of hW hq
theorem st_as (a1 a2 : Int32) : StI Inv (fX5_as a1 a2) (fX6_as a1 a2) := by
  intro σc σr hI
  have hR := hI.1.1
  have hW := hI.1.2.1
  rw [fX5_as, fX6_as, isSpot_e, isKind_e]
  simp only [b2id, pb_e]
  by_cases h1 : fX5_within a1 0 9 = true
  case neg => rw [if_neg h1, if_neg h1]; exact st_find hI (by decide) (found_0 σc) (finds_0 σr)
  rw [if_pos h1, if_pos h1]
  by_cases h2 : fX5_isKind a2 = true
  case neg => rw [if_neg h2, if_neg h2]; exact st_find hI (by decide) (found_0 σc) (finds_0 σr)
  rw [if_pos h2, if_pos h2]
  obtain ⟨k, -, hk, rfl⟩ := bnI (a := 0) (b := 9) rfl rfl (by decide) (by decide) h1
  obtain ⟨m, hm, rfl⟩ := rng_of (b := 6) rfl (by decide) h2
  have ek : σc 10 k = σr 1 (63 + k) := hR.2.2.2.1 k (by omega)
  rw [show (63 + nI k : Int32) = nI (63 + k) by rw [show (63 : Int32) = nI 63 from rfl, nI_add], nI_clamp (by omega), nI_clamp (by omega), gd_t (inB_n (by omega) (by decide)), gd_t (inB_n (by omega) (by decide)), ek, hasP hR]
  by_cases h3 : 0 ≤ σr 1 (63 + k)
  case neg => rw [if_neg h3, if_neg (fun z => h3 ((isP_spot hW (by omega)).mp z))]; exact st_find hI (by decide) (found_5 σc) (finds_5 σr)
  rw [if_pos h3, if_pos ((isP_spot hW (by omega)).mpr h3)]
  obtain ⟨q, hq, q8, e⟩ := spot_n hW (by omega) h3
  rw [e, gd_t (inB_n q8 (by decide)), nI_clamp (by omega), r_its' rfl (y := 0) (w := 0) rfl q8 (by decide), Option.bind_some]
  have e0 : σc 2 q = it (σr 1) q 0 := (hR.2.2.1 q q8).1
  obtain ⟨j, hj, ej⟩ := (hW.2.2.1 q q8).1
  rw [e0, ej, isA_s _ _ σc (fun _ _ => 0), (isA_e j (by omega) m (by omega)).1]
  have hn := (isA_e j (by omega) m (by omega)).2
  cases hb : fX6_isUnder (nI j) (nI m) with
  | none => exact absurd hb hn
  | some b =>
    rw [Option.bind_some, Option.bind_some]
    cases b with
    | true => rw [if_pos rfl, if_pos rfl]; exact ⟨_, _, _, rfl, rfl, hI⟩
    | false => rw [if_neg (by decide), if_neg (by decide)]; exact st_find hI (by decide) (found_2 σc) (finds_2 σr)
