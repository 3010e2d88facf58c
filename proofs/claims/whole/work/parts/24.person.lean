/-! jokeOf -/
theorem hasJ {σc σr : Mem} (hR : RmR σc 1 (σr 1)) (x : Int32) : fX5_hasJoke x σc = fX6_isJoke x σr := by
  rw [isJoke_e, ← hR.1.2.2.2.2.2]
  rfl
theorem hasP {σc σr : Mem} (hR : RmR σc 1 (σr 1)) (x : Int32) : fX5_hasPerson x σc = fX6_isPerson x σr := by
  rw [isPerson_e, ← hR.1.2.2.2.2.1]
  rfl
theorem isJ_n {σ : Mem} (hW : WFv (σ 1)) {x : Int32} (h : fX6_isJoke x σ = true) : ∃ j, j < nJ (σ 1) ∧ j < 8 ∧ x = nI j := by
  rw [isJoke_e, hW.j.1] at h
  obtain ⟨j, hj, e⟩ := (wi_c (by have := hW.j.2; omega)).mp h
  exact ⟨j, hj, by have := hW.j.2; omega, e⟩
theorem isP_n {σ : Mem} (hW : WFv (σ 1)) {x : Int32} (h : fX6_isPerson x σ = true) : ∃ j, j < nP (σ 1) ∧ j < 8 ∧ x = nI j := by
  rw [isPerson_e, hW.p.1] at h
  obtain ⟨j, hj, e⟩ := (wi_c (by have := hW.p.2; omega)).mp h
  exact ⟨j, hj, by have := hW.p.2; omega, e⟩
theorem st_jokeOf (a1 a2 : Int32) : StI Inv (fX5_jokeOf a1 a2) (fX6_jokeOf a1 a2) := by
  intro σc σr hI
  have hI0 := hI
  obtain ⟨⟨hR, hW, hT, hTr⟩, -⟩ := hI
  rw [fX5_jokeOf, fX6_jokeOf]
  simp only [b2id]
  rw [hasJ hR, in_l a2 0 1 (by decide) (by decide)]
  by_cases h1 : fX6_isJoke a1 σr = true
  case neg => rw [if_neg h1, if_neg h1]; exact st_find hI0 (by decide) (found_0 σc) (finds_0 σr)
  rw [if_pos h1, if_pos h1]
  by_cases h2 : fX5_within a2 0 1 = true
  case neg => rw [if_neg h2, if_neg h2]; exact st_find hI0 (by decide) (found_0 σc) (finds_0 σr)
  rw [if_pos h2, if_pos h2]
  obtain ⟨j, -, hj, rfl⟩ := isJ_n hW h1
  obtain ⟨w, -, hw, rfl⟩ := bnI (a := 0) (b := 1) rfl rfl (by decide) (by decide) h2
  rw [show (7 + 2 * nI j : Int32) + nI w = nI (7 + 2 * j + w) by rw [show (7 : Int32) = nI 7 from rfl, show (2 : Int32) = nI 2 from rfl, pk_mul, nI_add, nI_add], nI_clamp (by omega), nI_clamp (by omega), gd_t (inB_n (by omega) (by decide)), gd_t (inB_n (by omega) (by decide)), gd_t (inB_n (by omega) (by decide))]
  have e := hR.2.1 j hj
  by_cases h3 : w = 0
  · subst h3
    rw [if_pos (show nI 0 = (0 : Int32) from rfl)]
    exact ⟨_, _, _, congrArg some (congrArg (·, σc) e.1), rfl, hI0⟩
  · rw [if_neg (show ¬ nI w = (0 : Int32) from fun z => h3 ((nI_eq (b := 0) (by omega) (by decide)).mp z)), show w = 1 by omega]
    exact ⟨_, _, _, congrArg some (congrArg (·, σc) e.2), rfl, hI0⟩
/-! person -/
theorem WFv.n5 {a : Vec} (h : WFv a) {v : Int32} (hv : rng v 8) (hn : nP a ≤ v.toNatClampNeg) : WFv (upd a 5 v) := h.set _ v (fun _ => ⟨hv, hn⟩) (fun e => by omega) (fun p _ => ⟨fun e => by omega, fun e => by omega, fun e => by omega, fun e => by omega, fun e => by omega⟩) (fun q _ => ⟨fun e => by omega, fun e => by omega⟩) (fun e => by omega) (fun e => by omega) (fun e => by omega) (fun k _ e => by omega)
theorem st_person (a1 a2 : Int32) : StI Inv (fX5_person a1 a2) (fX6_person a1 a2) := by
  intro σc σr hI
  have hI0 := hI
  obtain ⟨⟨hR, hW, hT, hTr⟩, -⟩ := hI
  obtain ⟨hN, h8⟩ := hW.p
  have e7 : σc 1 0 = nI (nP (σr 1)) := hR.1.2.2.2.2.1.trans hN
  rw [fX5_person, fX6_person]
  simp only [b2id, isKind_e, isSeat_e]
  by_cases h1 : fX5_isKind a1 = true
  case neg => rw [if_neg h1, if_neg h1]; exact st_find hI0 (by decide) (found_0 σc) (finds_0 σr)
  rw [if_pos h1, if_pos h1]
  by_cases h2 : fX5_isSeat a2 = true
  case neg => rw [if_neg h2, if_neg h2]; exact st_find hI0 (by decide) (found_0 σc) (finds_0 σr)
  rw [if_pos h2, if_pos h2, e7, hN]
  by_cases h3 : nP (σr 1) = 8
  · rw [h3, if_neg (by decide), if_pos (show nI 8 = (8 : Int32) from rfl)]; exact st_find hI0 (by decide) (found_1 σc) (finds_1 σr)
  rw [if_pos (show nI (nP (σr 1)) < 8 from nI_lt (b := 8) (by omega) (by decide)), if_neg (show ¬ nI (nP (σr 1)) = (8 : Int32) from fun z => h3 ((nI_eq (b := 8) (by omega) (by decide)).mp z))]
  have t1 : rng a1 6 := rng_of rfl (by decide) h1
  have t2 : rng a2 15 := rng_of rfl (by decide) h2
  rw [fX1_addPerson, fX6_adds]
  simp only [pb_e, e7, hN]
  have q7 : nP (σr 1) < 8 := by omega
  have hn0 : nP (σr 1) ≤ (nI (nP (σr 1) + 1)).toNatClampNeg := by rw [nI_clamp (by omega)]; omega
  generalize hn : nP (σr 1) = n at *
  have s0 := fun v σ => r_sets (p := n) (w := 0) q7 (by decide) v σ
  have s1 := fun v σ => r_sets (p := n) (w := 1) q7 (by decide) v σ
  have s2 := fun v σ => r_sets (p := n) (w := 2) q7 (by decide) v σ
  have s3 := fun v σ => r_sets (p := n) (w := 3) q7 (by decide) v σ
  have s4 := fun v σ => r_sets (p := n) (w := 4) q7 (by decide) v σ
  rw [show nI 0 = (0 : Int32) from rfl] at s0
  rw [show nI 1 = (1 : Int32) from rfl] at s1
  rw [show nI 2 = (2 : Int32) from rfl] at s2
  rw [show nI 3 = (3 : Int32) from rfl] at s3
  rw [show nI 4 = (4 : Int32) from rfl] at s4
  rw [nI_1, nI_clamp (by omega), gd_t (inB_n (by omega) (by decide)), gd_t (inB_n (by omega) (by decide)), gd_t (inB_n (by omega) (by decide)), gd_t (inB_n (by omega) (by decide)), gd_t (inB_n (by omega) (by decide)), s0, Option.bind_some, s1, Option.bind_some, s2, Option.bind_some, s3, Option.bind_some, s4, Option.bind_some]
  have x1 := (((((hR.x.s 0 (by omega) (nI (n + 1))).p q7 (show 0 < 5 by decide) a1).p q7 (show 1 < 5 by decide) a2).p q7 (show 2 < 5 by decide) 1).p q7 (show 3 < 5 by decide) 3).p q7 (show 4 < 5 by decide) 100
  rw [show plc 0 = 5 from rfl] at x1
  have w1 := (((((hW.n5 ⟨n + 1, by omega, rfl⟩ (by rw [hn]; exact hn0) : WFv (upd (σr 1) 5 (nI (n + 1)))).pw q7 (show 0 < 5 by decide) t1).pw q7 (show 1 < 5 by decide) t2).pw q7 (show 2 < 5 by decide) (v := 1) ⟨1, by decide, rfl⟩).pw q7 (show 3 < 5 by decide) (v := 3) ⟨3, by decide, rfl⟩).pw q7 (show 4 < 5 by decide) (v := 100) ⟨100, by decide, rfl⟩
  obtain ⟨τ, e1, e2, e3⟩ := renew w1 x1
  rw [e1, Option.bind_some]
  refine ⟨_, _, _, rfl, rfl, hI0.live (fun k hk => ?_) ⟨fun k hk => ?_, ?_, ?_⟩ ?_⟩
  · rw [e3 k (by omega), up2_n (by omega), up2_n (by omega), up2_n (by omega), up2_n (by omega), up2_n (by omega), up2_n (by omega)]
  · rw [up2_n (by omega), up2_n (by omega), up2_n (by omega), up2_n (by omega), up2_n (by omega), up2_n (by omega)]
  · rw [up2_n (by omega), up2_n (by omega), up2_n (by omega), up2_n (by omega), up2_n (by omega), up2_n (by omega)]
  · rw [up2_n (by omega), up2_n (by omega), up2_n (by omega), up2_n (by omega), up2_n (by omega), up2_n (by omega)]
  · unfold InvL
    rw [up2_s, up2_s, up2_s, up2_s, up2_s, up2_s, e3 1 (by omega)]
    refine ⟨e2, w1, ?_, ?_⟩
    · rw [up2_n (by omega), up2_n (by omega), up2_n (by omega), up2_n (by omega), up2_n (by omega), up2_j (by omega), pk_un (by omega), pk_un (by omega), pk_un (by omega), pk_un (by omega), pk_un (by omega), pk_un (by omega)]
      exact hT
    · rw [pk_un (by omega), pk_un (by omega), pk_un (by omega), pk_un (by omega), pk_un (by omega), pk_un (by omega)]
      exact hTr
