/-! the pieces of the invariant, by the cells that they read -/
theorem InvL.cong {σc σr τc τr : Mem} (h : InvL σc σr) (ec : ∀ k, 1 ≤ k → k ≤ 10 → τc k = σc k) (er : τr 1 = σr 1) : InvL τc τr := by
  unfold InvL at *
  rw [er, ec 1 (by omega) (by omega)]
  exact ⟨h.1.cong (fun q h1 h2 => ec q (by omega) (by omega)), h.2⟩
theorem InvK.cong {σc σr τc τr : Mem} (h : InvK σc σr) (ec : ∀ k, 21 ≤ k → k ≤ 30 → τc k = σc k) (e0 : τc 0 3 = σc 0 3) (er : τr 2 = σr 2) (er0 : τr 0 3 = σr 0 3) : InvK τc τr := by
  unfold InvK at *
  rw [er, er0, e0, ec 21 (by omega) (by omega)]
  exact ⟨h.1, h.2.1, fun z => ⟨(h.2.2 z).1.cong (fun q h1 h2 => ec q (by omega) (by omega)), (h.2.2 z).2⟩⟩
theorem InvT.cong {σc σr τc τr : Mem} (h : InvT σc σr) (e1 : τc 34 1 = σc 34 1) (e : τc 35 = σc 35) (er : τr 7 = σr 7) (er1 : τr 0 10 = σr 0 10) : InvT τc τr := by
  unfold InvT at *
  rw [er, er1, e, e1]
  exact h
theorem InvS.cong {σc σr τc τr : Mem} (h : InvS σc σr) (ec : ∀ k, 37 ≤ k → k ≤ 44 → τc k = σc k) (e8 : τr 8 = σr 8) (e9 : τr 9 = σr 9) (e10 : τr 10 = σr 10) : InvS τc τr := by
  intro s hs
  rw [e8, e9, e10, ec _ (by omega) (by omega), ec _ (by omega) (by omega)]
  exact h s hs
theorem InvF.cong {σc σr τc τr : Mem} (h : InvF σc σr) (e : τc 45 = σc 45) (er : τr 4 = σr 4) : InvF τc τr := by
  unfold InvF at *
  rw [e, er]
  exact h
/-! one write in the live room -/
theorem live1 {σc σr : Mem} (hI : Inv σc σr) {kc ic i : Nat} {v : Int32} (h1k : 1 ≤ kc) (hk : kc ≤ 10) (h7 : kc ≠ 7) (hx : RmX (up2 σc kc ic v) 1 (upd (σr 1) i v)) (hw : WFv (upd (σr 1) i v)) (h5 : i ≠ 5) (h1 : i ≠ 1) (h3 : i ≠ 3) (h13 : ic ≠ 13) (hs : ∀ q, q < 8 → i ≠ 23 + 5 * q + 1) : Inv (up2 σc kc ic v) (up2 σr 1 i v) := by
  refine hI.live (fun k hk => up2_n (by omega)) ⟨fun k hk => up2_n (by omega), by rw [up2_n (by omega)], by rw [up2_n (by omega)]⟩ ?_
  obtain ⟨⟨hR, hW, hT, hTr⟩, -⟩ := hI
  unfold InvL
  rw [up2_s]
  refine ⟨hR.stay hW hx (up2_n (by omega)) (pk_un (by omega)) (pk_un (by omega)) (fun q hq => pk_un (fun z => hs q hq z.symm)), hw, ?_, ?_⟩
  · rw [up2_a, if_neg (fun z => h13 z.2.symm), pk_un (by omega)]
    exact hT
  · rw [pk_un (by omega)]
    exact hTr
theorem live2 {σc σr : Mem} (hI : Inv σc σr) {kc ic i : Nat} {v : Int32} (h1k : 1 ≤ kc) (hk : kc ≤ 10) (hx : RmX (up2 σc kc ic v) 1 (upd (σr 1) i v)) (hw : WFv (upd (σr 1) i v)) (h3 : i ≠ 3) (h13 : ic ≠ 13) : ∃ τ, fX1_renewNear 1 (up2 σc kc ic v) = some τ ∧ Inv τ (up2 σr 1 i v) := by
  obtain ⟨τ, e1, e2, e3⟩ := renew hw hx
  refine ⟨τ, e1, ?_⟩
  refine hI.live (fun k hk => (e3 k (by omega)).trans (up2_n (by omega))) ⟨fun k hk => up2_n (by omega), by rw [up2_n (by omega)], by rw [up2_n (by omega)]⟩ ?_
  obtain ⟨⟨hR, hW, hT, hTr⟩, -⟩ := hI
  unfold InvL
  rw [up2_s, e3 1 (by omega)]
  refine ⟨e2, hw, ?_, ?_⟩
  · rw [up2_a, if_neg (fun z => h13 z.2.symm), pk_un (by omega)]
    exact hT
  · rw [pk_un (by omega)]
    exact hTr
/-! seed, wipe, tear -/
theorem WFv.n4 {a : Vec} (h : WFv a) (v : Int32) : WFv (upd a 4 v) := h.set _ v (fun e => by omega) (fun e => by omega) (fun p _ => ⟨fun e => by omega, fun e => by omega, fun e => by omega, fun e => by omega, fun e => by omega⟩) (fun q _ => ⟨fun e => by omega, fun e => by omega⟩) (fun e => by omega) (fun e => by omega) (fun e => by omega) (fun k _ e => by omega)
theorem r_becomes {i : Nat} (hi : i < 73) {x : Int32} (hx : x = nI i) (v : Int32) (σ : Mem) : fX6_becomes x v σ = some (σ 1 i, up2 σ 1 i v) := by
  rw [fX6_becomes, hx, gd_t (inB_n hi (by decide)), pb_e, gd_t (inB_n hi (by decide)), pb_e, nI_clamp (by omega)]
theorem st_seed (a1 : Int32) : StI Inv (fX5_seed a1) (fX6_seed a1) := by
  intro σc σr hI
  rw [fX5_seed, fX6_seed, b2id, r_becomes (i := 4) (x := 4) (by decide) rfl, pb_e, pb_e]
  have hR := hI.1.1
  have hW := hI.1.2.1
  have hx := hR.x.s 14 (by omega) a1
  rw [show plc 14 = 4 from rfl] at hx
  rw [hR.1.2.2.2.1]
  exact ⟨_, _, _, rfl, rfl, live1 hI (by decide) (by decide) (by decide) hx (hW.n4 a1) (by decide) (by decide) (by decide) (by decide) (fun q _ => by omega)⟩
theorem st_wipe : StI Inv fX5_wipe fX6_wipe := by
  intro σc σr hI
  rw [fX5_wipe, fX6_wipe, pb_e, pb_e, pb_e, pb_e]
  obtain ⟨hL, hK, hT, hS, hF⟩ := hI
  rw [hT.1]
  refine ⟨_, _, _, rfl, rfl, hL.cong (fun k _ _ => up2_n (by omega)) (up2_n (by omega)), hK.cong (fun k _ _ => up2_n (by omega)) (by rw [up2_n (by omega)]) (up2_n (by omega)) (up2_j (by omega)), ⟨?_, ?_, ?_⟩, hS.cong (fun k _ _ => up2_n (by omega)) (up2_n (by omega)) (up2_n (by omega)) (up2_n (by omega)), hF.cong (up2_n (by omega)) (up2_n (by omega))⟩
  · rw [up2_e, up2_e]
  · rw [up2_e]; exact ⟨0, by omega, rfl⟩
  · rw [up2_n (by omega), up2_n (by omega)]; exact hT.2.2
theorem st_tear : StI Inv fX5_tear fX6_tear := by
  intro σc σr hI
  rw [fX5_tear, fX6_tear]
  obtain ⟨hL, hK, hT, hS, hF⟩ := hI
  rw [hK.1]
  have hI' : Inv (up2 σc 0 3 0) (up2 σr 0 3 0) := by
    refine ⟨hL.cong (fun k _ _ => up2_n (by omega)) (up2_n (by omega)), ⟨?_, ?_, ?_⟩, hT.cong (by rw [up2_n (by omega)]) (up2_n (by omega)) (up2_n (by omega)) (up2_j (by omega)), hS.cong (fun k _ _ => up2_n (by omega)) (up2_n (by omega)) (up2_n (by omega)) (up2_n (by omega)), hF.cong (up2_n (by omega)) (up2_n (by omega))⟩
    · rw [up2_e, up2_e]
    · rw [up2_e]; exact Or.inl rfl
    · rw [up2_e]; intro z; exact absurd z (by decide)
  by_cases h : σr 0 3 = 0
  · rw [if_pos h, if_pos h, pb_e, pb_e]; exact ⟨_, _, _, rfl, rfl, hI'⟩
  · rw [if_neg h, if_neg h, pb_e, pb_e]; exact ⟨_, _, _, rfl, rfl, hI'⟩
/-! hold -/
theorem isSpot_e (x : Int32) : fX6_isSpot x = fX5_within x 0 9 := in_l x 0 9 (by decide) (by decide)
theorem WFv.k {a : Vec} (h : WFv a) {k : Nat} (hk : k < 10) {v : Int32} (hv : v = -1 ∨ ∃ q, q < nP a ∧ v = nI q) : WFv (upd a (63 + k) v) := h.set _ v (fun e => by omega) (fun e => by omega) (fun p _ => ⟨fun e => by omega, fun e => by omega, fun e => by omega, fun e => by omega, fun e => by omega⟩) (fun q _ => ⟨fun e => by omega, fun e => by omega⟩) (fun e => by omega) (fun e => by omega) (fun e => by omega) (fun _ _ _ => hv)
theorem st_hold (a1 a2 : Int32) : StI Inv (fX5_hold a1 a2) (fX6_hold a1 a2) := by
  intro σc σr hI
  have hR := hI.1.1
  have hW := hI.1.2.1
  rw [fX5_hold, fX6_hold, fX5_hold_10, fX5_hold_10, if_neg (show ¬ (1 : Int32) = 0 by decide), if_pos (show (0 : Int32) = 0 from rfl), hasP hR, isSpot_e]
  simp only [b2id, pb_e]
  by_cases h1 : fX5_within a1 0 9 = true
  case neg => rw [if_neg h1, if_neg h1, if_neg h1, ite_self]; exact st_find hI (by decide) (found_0 σc) (finds_0 σr)
  rw [if_pos h1, if_pos h1, if_pos h1]
  obtain ⟨k, -, hk, rfl⟩ := bnI (a := 0) (b := 9) rfl rfl (by decide) (by decide) h1
  rw [show (63 + nI k : Int32) = nI (63 + k) by rw [show (63 : Int32) = nI 63 from rfl, nI_add], nI_clamp (by omega), nI_clamp (by omega), gd_t (inB_n (by omega) (by decide)), gd_t (inB_n (by omega) (by decide))]
  have key : (a2 = -1 ∨ ∃ q, q < nP (σr 1) ∧ a2 = nI q) → Inv (up2 σc 10 k a2) (up2 σr 1 (63 + k) a2) := fun hv => live1 hI (by decide) (by decide) (by decide) (hR.x.k (by omega) a2) (hW.k (by omega) hv) (by omega) (by omega) (by omega) (by omega) (fun q _ => by omega)
  by_cases h2 : a2 = -1
  · rw [if_pos h2, if_pos h2]; exact ⟨_, _, _, rfl, rfl, key (Or.inl h2)⟩
  rw [if_neg h2, if_neg h2]
  by_cases h3 : fX6_isPerson a2 σr = true
  · rw [if_pos h3, if_pos h3]
    obtain ⟨q, hq, -, e⟩ := isP_n hW h3
    exact ⟨_, _, _, rfl, rfl, key (Or.inr ⟨q, hq, e⟩)⟩
  · rw [if_neg h3, if_neg h3]; exact st_find hI (by decide) (found_0 σc) (finds_0 σr)
/-! law -/
theorem WFv.n0 {a : Vec} (h : WFv a) {v : Int32} (hv : rng v 20) : WFv (upd a 0 v) := h.set _ v (fun e => by omega) (fun e => by omega) (fun p _ => ⟨fun e => by omega, fun e => by omega, fun e => by omega, fun e => by omega, fun e => by omega⟩) (fun q _ => ⟨fun e => by omega, fun e => by omega⟩) (fun _ => hv) (fun e => by omega) (fun e => by omega) (fun k _ e => by omega)
theorem WFv.n1 {a : Vec} (h : WFv a) {v : Int32} (hv : rng v 15) : WFv (upd a 1 v) := h.set _ v (fun e => by omega) (fun e => by omega) (fun p _ => ⟨fun e => by omega, fun e => by omega, fun e => by omega, fun e => by omega, fun e => by omega⟩) (fun q _ => ⟨fun e => by omega, fun e => by omega⟩) (fun e => by omega) (fun _ => hv) (fun e => by omega) (fun k _ e => by omega)
theorem st_law (a1 a2 : Int32) : StI Inv (fX5_law a1 a2) (fX6_law a1 a2) := by
  intro σc σr hI
  have hR := hI.1.1
  have hW := hI.1.2.1
  rw [fX5_law, fX6_law, in_l a1 0 1 (by decide) (by decide)]
  by_cases h1 : a1 = 0
  · subst h1
    rw [if_pos rfl, if_pos (show fX5_within 0 0 1 = true by decide), if_pos rfl, fX5_law_11, fX6_law_26, if_pos (show fX5_within 0 0 1 = true by decide), in_l a2 0 20 (by decide) (by decide), b2id, b2id, b2id]
    by_cases h2 : fX5_within a2 0 20 = true
    · rw [if_pos h2, if_pos h2, if_pos rfl, fX5_law_58, if_pos rfl, pb_e, r_becomes (i := 0) (x := 0) (by decide) rfl, hR.1.1]
      have hx := hR.x.s 10 (by omega) a2
      rw [show plc 10 = 0 from rfl] at hx
      exact ⟨_, _, _, rfl, rfl, live1 hI (by decide) (by decide) (by decide) hx (hW.n0 (rng_of rfl (by decide) h2)) (by decide) (by decide) (by decide) (by decide) (fun q _ => by omega)⟩
    · rw [if_neg h2, if_neg h2]; exact st_find hI (by decide) (found_0 σc) (finds_0 σr)
  · rw [if_neg h1, fX5_law_11]
    by_cases h2 : fX5_within a1 0 1 = true
    · rw [if_pos h2, if_pos h2, if_neg h1, if_neg h1, fX6_law_26, in_l a2 0 15 (by decide) (by decide), b2id, b2id, b2id]
      by_cases h3 : fX5_within a2 0 15 = true
      · obtain ⟨j, -, hj, rfl⟩ := bnI (a := 0) (b := 1) rfl rfl (by decide) (by decide) h2
        have j1 : j = 1 := by
          rcases (show j = 0 ∨ j = 1 by omega) with rfl | rfl
          · exact absurd rfl h1
          · rfl
        subst j1
        rw [if_pos h3, if_pos h3, fX5_law_58, if_neg h1, fX1_setReach, pb_e, bid, r_becomes (i := 1) (by decide) rfl, hR.1.2.1]
        have hx := hR.x.s 11 (by omega) a2
        rw [show plc 11 = 1 from rfl] at hx
        obtain ⟨τ, e1, e2⟩ := live2 hI (by decide) (by decide) hx (hW.n1 (rng_of rfl (by decide) h3)) (by decide) (by decide)
        rw [e1, Option.bind_some]
        exact ⟨_, _, _, rfl, rfl, e2⟩
      · rw [if_neg h3, if_neg h3]; exact st_find hI (by decide) (found_0 σc) (finds_0 σr)
    · rw [if_neg h2, if_neg h2, b2id, b2id]; exact st_find hI (by decide) (found_0 σc) (finds_0 σr)
