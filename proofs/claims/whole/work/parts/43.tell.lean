/-! tell, evening -/
theorem Inv.pf {σc σr τc τr : Mem} (hI : Inv σc σr) (hR : RmR τc 1 (τr 1)) (hW : WFv (τr 1)) (h : PF 1 σc σr τc τr) {m : Nat} (hm : σr 1 3 = nI m) (hm2 : m + 1 ≤ 99999) : Inv τc τr ∧ τr 1 3 = nI (m + 1) := by
  obtain ⟨p1, p2, p3, p4, p5, p6, p7, p8⟩ := h
  have e3 : τr 1 3 = nI (m + 1) := by rw [p6, hm, nI_1]
  refine ⟨hI.live (fun k hk => p1 k (by omega) (by omega) (by omega) (by omega) (by omega) (by omega)) ⟨fun k hk => p2 k (by omega) (by omega) (by omega) (by omega), p3 3 (by decide), p3 10 (by decide)⟩ ⟨hR, hW, ?_, ?_⟩, e3⟩
  · rw [p7, e3, hI.1.2.2.1, hm, nI_1, show (99999 : Int32) = nI 99999 from rfl, iMin_n (by decide) (by omega), Nat.min_eq_right hm2]
  · rw [e3]; exact ⟨_, hm2, rfl⟩
theorem st_tell (a1 : Int32) : StI Inv (fX5_tell a1) (fX6_tell a1) := by
  intro σc σr hI
  have hR := hI.1.1
  have hW := hI.1.2.1
  obtain ⟨m, hm, em⟩ := hI.1.2.2.2
  have ec : σc 1 13 = nI m := hI.1.2.2.1.trans em
  rw [fX5_tell, fX6_tell, hasJ hR]
  simp only [b2id]
  by_cases h1 : fX6_isJoke a1 σr = true
  case neg => rw [if_neg h1, if_neg h1]; exact st_find hI (by decide) (found_0 σc) (finds_0 σr)
  rw [if_pos h1, if_pos h1, ec, em, nI_1]
  obtain ⟨j, -, hj, rfl⟩ := isJ_n hW h1
  by_cases h2 : m = 99999
  · subst h2
    rw [if_neg (by decide), if_pos (by decide)]; exact st_find hI (by decide) (found_4 σc) (finds_4 σr)
  · rw [if_pos (show nI (m + 1) ≤ (99999 : Int32) from nI_le (b := 99999) (by omega) (by decide)), if_neg (show ¬ nI m = (99999 : Int32) from fun z => h2 ((nI_eq (b := 99999) (by omega) (by decide)).mp z))]
    obtain ⟨T, τc, τr, f1, f2, f3, f4, f5, -⟩ := perform_e (by decide) hR hW hj
    exact ⟨_, _, _, f1, f2, (hI.pf f3 f4 f5 em (by omega)).1⟩
theorem even_l {j N : Nat} (hj : j < 8) (hN : N ≤ 60) : ∀ n i σc σr, Inv σc σr → (∃ m, σr 1 3 = nI m ∧ m + (N - i) ≤ 99999) → i ≤ N → N - i < n → ∃ v τc τr, lw2 (fX4_performOften_3 1 (nI j) (nI N)) n (nI i) σc = some (v, τc) ∧ lw2 (fX6_evening_47 (nI j) (nI N)) n (nI i) σr = some (v, τr) ∧ Inv τc τr := by
  intro n
  induction n with
  | zero => intro i _ _ _ _ _ h2; omega
  | succ n ih =>
    intro i σc σr hI hm h1 h2
    obtain ⟨m, em, hm2⟩ := hm
    rw [lw2_s, lw2_s, fX4_performOften_3, fX6_evening_47]
    by_cases e : i = N
    · rw [e, if_pos (Int32.le_refl _), if_pos (Int32.le_refl _), hI.1.1.1.2.2.1]
      exact ⟨_, _, _, rfl, rfl, hI⟩
    · rw [if_neg (nle_n (by omega) (by omega)), if_neg (nle_n (by omega) (by omega))]
      obtain ⟨T, τc, τr, f1, f2, f3, f4, f5, -⟩ := perform_e (by decide) hI.1.1 hI.1.2.1 hj
      obtain ⟨g1, g2⟩ := hI.pf f3 f4 f5 em (by omega)
      rw [f1, f2, bnd2_s, bnd2_s, nI_1]
      exact ih (i + 1) τc τr g1 ⟨m + 1, g2, by omega⟩ (by omega) (by omega)
theorem st_evening (a1 a2 : Int32) : StI Inv (fX5_evening a1 a2) (fX6_evening a1 a2) := by
  intro σc σr hI
  have hR := hI.1.1
  have hW := hI.1.2.1
  obtain ⟨m, hm, em⟩ := hI.1.2.2.2
  have ec : σc 1 13 = nI m := hI.1.2.2.1.trans em
  rw [fX5_evening, fX6_evening, hasJ hR, in_l a2 1 60 (by decide) (by decide)]
  simp only [b2id]
  by_cases h1 : fX6_isJoke a1 σr = true
  case neg => rw [if_neg h1, if_neg h1]; exact st_find hI (by decide) (found_0 σc) (finds_0 σr)
  rw [if_pos h1, if_pos h1, ec, em]
  obtain ⟨j, -, hj, rfl⟩ := isJ_n hW h1
  by_cases h2 : fX5_within a2 1 60 = true
  case neg => rw [if_neg h2, if_neg h2]; exact st_find hI (by decide) (found_0 σc) (finds_0 σr)
  rw [if_pos h2, if_pos h2]
  obtain ⟨N, hN1, hN, rfl⟩ := bnI (a := 1) (b := 60) rfl rfl (by decide) (by decide) h2
  rw [nI_add]
  by_cases h3 : m + N ≤ 99999
  · rw [if_pos (show nI (m + N) ≤ (99999 : Int32) from nI_le (b := 99999) h3 (by decide)), if_pos (show nI (m + N) ≤ (99999 : Int32) from nI_le (b := 99999) h3 (by decide)), fX4_performOften]
    exact even_l hj hN FU 0 σc σr hI ⟨m, em, by omega⟩ (by omega) (Nat.lt_trans (show N - 0 < 10100 by omega) FU_gt)
  · rw [if_neg (show ¬ nI (m + N) ≤ (99999 : Int32) from nle_n (a := 99999) (by omega) (by omega)), if_neg (show ¬ nI (m + N) ≤ (99999 : Int32) from nle_n (a := 99999) (by omega) (by omega))]
    exact st_find hI (by decide) (found_4 σc) (finds_4 σr)
/-! what would be: the trial room -/
def Tri (σc0 σr0 σc σr : Mem) : Prop := (∀ k, (k < 11 ∨ 20 < k) → k ≠ 31 → k ≠ 32 → k ≠ 33 → σc k = σc0 k) ∧ (∀ k, k ≠ 0 → k ≠ 1 → k ≠ 3 → k ≠ 5 → k ≠ 6 → σr k = σr0 k) ∧ (∀ j, j ≠ 6 → j ≠ 8 → σr 0 j = σr0 0 j)
theorem Tri.rf (σc σr : Mem) : Tri σc σr σc σr := ⟨fun _ _ _ _ _ => rfl, fun _ _ _ _ _ _ => rfl, fun _ _ _ => rfl⟩
theorem Tri.tr {a b c d e f : Mem} (h : Tri a b c d) (g : Tri c d e f) : Tri a b e f := ⟨fun k h1 h2 h3 h4 => (g.1 k h1 h2 h3 h4).trans (h.1 k h1 h2 h3 h4), fun k h1 h2 h3 h4 h5 => (g.2.1 k h1 h2 h3 h4 h5).trans (h.2.1 k h1 h2 h3 h4 h5), fun j h1 h2 => (g.2.2 j h1 h2).trans (h.2.2 j h1 h2)⟩
/-- the invariant comes back with the live vector -/
theorem Inv.tri {σc σr τc τr : Mem} (hI : Inv σc σr) (h : Tri σc σr τc τr) (e : ∀ j, j < 73 → τr 1 j = σr 1 j) : Inv τc τr := by
  obtain ⟨t1, t2, t3⟩ := h
  obtain ⟨hR, hW, hT, hTr⟩ := hI.1
  refine hI.live (fun k hk => t1 k (by omega) (by omega) (by omega) (by omega)) ⟨fun k hk => t2 k (by omega) (by omega) (by omega) (by omega) (by omega), t3 3 (by decide) (by decide), t3 10 (by decide) (by decide)⟩ ⟨(hR.cong (fun k h1 h2 => t1 k (by omega) (by omega) (by omega) (by omega))).vec hW e, hW.vec e, ?_, ?_⟩
  · rw [e 3 (by decide), t1 1 (by omega) (by omega) (by omega) (by omega)]; exact hT
  · rw [e 3 (by decide)]; exact hTr
/-- a joke played in the trial room -/
def Pl (σc0 σr0 σc σr : Mem) : Prop := Tri σc0 σr0 σc σr ∧ (∀ j, j < 73 → σr 3 j = σr0 1 j) ∧ RmR σc 11 (σr 1) ∧ WFv (σr 1)
theorem lend_e {σc σr : Mem} (hI : Inv σc σr) : ∃ τc τr, fX1_takeOver 11 1 σc = some τc ∧ fX6_lends σr = some τr ∧ Pl σc σr τc τr ∧ τr 1 = σr 1 := by
  obtain ⟨hR, hW, hT, hTr⟩ := hI.1
  obtain ⟨τ, e1, e2, e3, e4⟩ := takeOver_R (r := 11) (Or.inr (by decide)) hR hW
  have e5 : cpR σr 1 3 73 1 = σr 1 := cpR_n σr 1 (by decide)
  refine ⟨τ, cpR σr 1 3 73, e1, ?_, ⟨⟨fun k h1 _ _ _ => e4 k (by omega), fun k _ _ h3 _ _ => cpR_n σr 1 h3, fun j _ _ => by rw [cpR_n σr 1 (by decide)]⟩, cpR_v σr 1 3, ?_, ?_⟩, e5⟩
  · rw [fX6_lends, r_become (by decide), Option.bind_some]
  · rw [e5]; exact e2
  · rw [e5]; exact hW
theorem Pl.tell {σc0 σr0 σc σr τc τr : Mem} (h : Pl σc0 σr0 σc σr) (hR : RmR τc 11 (τr 1)) (hW : WFv (τr 1)) (p : PF 11 σc σr τc τr) : Pl σc0 σr0 τc τr := by
  obtain ⟨t, a, -, -⟩ := h
  obtain ⟨p1, p2, p3, -⟩ := p
  refine ⟨t.tr ⟨fun k h1 h2 h3 h4 => p1 k (by omega) (by omega) (by omega) h2 h3 h4, fun k h1 h2 h3 h4 h5 => p2 k h1 h2 h4 h5, fun j h1 h2 => p3 j h1⟩, fun j hj => ?_, hR, hW⟩
  rw [p2 3 (by decide) (by decide) (by decide) (by decide)]
  exact a j hj
theorem Pl.sp {σc0 σr0 σc σr τc τr : Mem} (h : Pl σc0 σr0 σc σr) (hc : SPC σc τc) (hr : SPR σr τr) : Pl σc0 σr0 τc τr := by
  obtain ⟨t, a, hR, hW⟩ := h
  have e1 : τr 1 = σr 1 := hr.1 1 (by decide) (by decide)
  refine ⟨t.tr ⟨fun k h1 h2 h3 h4 => hc k h2 h3, fun k h1 h2 h3 h4 h5 => hr.1 k h1 h4, fun j h1 h2 => hr.2 j h1⟩, fun j hj => ?_, ?_, ?_⟩
  · rw [hr.1 3 (by decide) (by decide)]; exact a j hj
  · rw [e1]; exact hR.cong (fun k _ _ => hc k (by omega) (by omega))
  · rw [e1]; exact hW
theorem back_e {σc0 σr0 σc σr : Mem} (hI : Inv σc0 σr0) (t : Tri σc0 σr0 σc σr) (a : ∀ j, j < 73 → σr 3 j = σr0 1 j) : ∃ τr, fX6_laysBack σr = some τr ∧ Inv σc τr ∧ (∀ j, j < 73 → τr 1 j = σr0 1 j) ∧ (∀ k, k ≠ 1 → τr k = σr k) ∧ Tri σc0 σr0 σc τr := by
  have e1 : ∀ j, j < 73 → cpR σr 3 1 73 1 j = σr0 1 j := fun j hj => (cpR_v σr 3 1 j hj).trans (a j hj)
  have t2 : Tri σc0 σr0 σc (cpR σr 3 1 73) := t.tr ⟨fun _ _ _ _ _ => rfl, fun k h1 h2 h3 h4 h5 => cpR_n σr 3 h2, fun j h1 h2 => by rw [cpR_n σr 3 (by decide)]⟩
  refine ⟨cpR σr 3 1 73, ?_, hI.tri t2 e1, e1, fun k hk => cpR_n σr 3 hk, t2⟩
  rw [fX6_laysBack, r_become (by decide), Option.bind_some]
