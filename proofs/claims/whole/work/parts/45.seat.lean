/-! searches that go the same way in both -/
theorem r_pc (x : Int32) : fX6_ones x = some (pc x) := r_ones x
theorem iMax_l {x y : Int32} (h : y ≤ x) : iMax x y = x := if_neg (Int32.not_lt.mpr h)
theorem iMax_r {x y : Int32} (h : ¬ y ≤ x) : iMax x y = y := if_pos (Int32.not_le.mp h)
theorem Tri.sp {a b c d c' d' : Mem} (h : Tri a b c d) (hc : SPC c c') (hr : SPR d d') : Tri a b c' d' := h.tr ⟨fun k _ h2 h3 _ => hc k h2 h3, fun k h1 _ _ h4 _ => hr.1 k h1 h4, fun j h1 _ => hr.2 j h1⟩
theorem tr_seat {σ : Mem} {a : Vec} {p c : Nat} (hR : RmX σ 11 a) (hW : WFv a) (hp : p < 8) (hc : c ≤ 15) : ∃ τ, fX1_setSeat 11 (nI p) (nI c) σ = some τ ∧ RmR τ 11 (upd a (23 + 5 * p + 1) (nI c)) ∧ WFv (upd a (23 + 5 * p + 1) (nI c)) ∧ ∀ k, (k < 11 ∨ 20 < k) → τ k = σ k := by
  have hw : WFv (upd a (23 + 5 * p + 1) (nI c)) := hW.pw hp (by decide) ⟨c, hc, rfl⟩
  have hx : RmX (up2 σ 13 p (nI c)) 11 (upd a (23 + 5 * p + 1) (nI c)) := hR.p hp (w := 1) (by decide) (nI c)
  obtain ⟨τ, e1, e2, e3⟩ := renew hw hx
  refine ⟨τ, ?_, e2, hw, fun k hk => (e3 k (by omega)).trans (up2_n (by omega))⟩
  rw [fX1_setSeat, gd_t (inB_n hp (by decide)), nI_clamp (by omega), pb_e, e1, Option.bind_some]
theorem tr_part {σ : Mem} {a : Vec} {p w : Nat} {v : Int32} (hR : RmR σ 11 a) (hW : WFv a) (hp : p < 8) (hw : w < 5) (hw1 : w ≠ 1) (hv : rng v (bdW w)) : RmR (up2 σ (11 + 1 + w) p v) 11 (upd a (23 + 5 * p + w) v) ∧ WFv (upd a (23 + 5 * p + w) v) :=
  ⟨hR.stay hW (hR.x.p hp hw v) (up2_n (by omega)) (u_lo (by decide)) (u_lo (by decide)) (fun q _ => by rw [it_u hw (by decide), if_neg (fun z => hw1 z.2.symm)]), hW.pw hp hw hv⟩
theorem tr_reach {σ : Mem} {a : Vec} {c : Nat} (hR : RmX σ 11 a) (hW : WFv a) (hc : c ≤ 15) : ∃ τ, fX1_setReach 11 (nI c) σ = some τ ∧ RmR τ 11 (upd a 1 (nI c)) ∧ WFv (upd a 1 (nI c)) ∧ ∀ k, (k < 11 ∨ 20 < k) → τ k = σ k := by
  have hw : WFv (upd a 1 (nI c)) := hW.n1 ⟨c, hc, rfl⟩
  have hx : RmX (up2 σ 11 11 (nI c)) 11 (upd a 1 (nI c)) := hR.s 11 (by omega) (nI c)
  obtain ⟨τ, e1, e2, e3⟩ := renew hw hx
  refine ⟨τ, ?_, e2, hw, fun k hk => (e3 k (by omega)).trans (up2_n (by omega))⟩
  rw [fX1_setReach, pb_e, e1, Option.bind_some]
theorem tr_rate {σ : Mem} {a : Vec} {c : Nat} (hR : RmR σ 11 a) (hW : WFv a) (hc : c ≤ 20) : RmR (up2 σ 11 10 (nI c)) 11 (upd a 0 (nI c)) ∧ WFv (upd a 0 (nI c)) :=
  ⟨hR.stay hW (hR.x.s 10 (by omega) (nI c)) (up2_n (by omega)) (pk_un (by decide)) (pk_un (by decide)) (fun q _ => it_lo (by decide)), hW.n0 ⟨c, hc, rfl⟩⟩
/-! seatFor -/
theorem upd_self (a : Vec) (i : Nat) : upd a i (a i) = a := by
  funext j
  by_cases e : j = i
  · rw [e, pk_us]
  · rw [pk_un e]
theorem seat_l {σc0 σr0 : Mem} (hI : Inv σc0 σr0) {p j : Nat} (hp : p < 8) (hj : j < 8) : ∀ n c bc yc br yr σc σr, ((bc = br ∧ yc = yr ∧ 0 ≤ br) ∨ (c = 0 ∧ yc = 9 ∧ br = -1)) → Tri σc0 σr0 σc σr → RmX σc 11 (σr 1) → WFv (σr 1) → (∀ i, i ≠ 23 + 5 * p + 1 → σr 1 i = σr0 1 i) → c ≤ 16 → 16 - c < n → ∃ v τc τr, lw4 (fX5_seatFor_43 (nI p) (nI j)) n bc yc (nI c) σc = some (v, τc) ∧ lw4 (fX6_seatFor_38 (nI p) (nI j) (it (σr0 1) p 1)) n br yr (nI c) σr = some (v, τr) ∧ Inv τc τr := by
  intro n
  induction n with
  | zero => intro c _ _ _ _ _ _ _ _ _ _ _ _ h2; omega
  | succ n ih =>
    intro c bc yc br yr σc σr hb ht hX hW hi h1 h2
    rw [lw4_s, lw4_s, fX5_seatFor_43, fX6_seatFor_38, show (1 : Int32) = nI 1 from rfl]
    by_cases e : c = 16
    · subst e
      rw [if_pos (by decide), if_pos (by decide), r_sets hp (by decide), Option.bind_some]
      have hbb : bc = br := by
        rcases hb with h | h
        · exact h.1
        · omega
      rw [hbb]
      refine ⟨_, _, _, rfl, rfl, hI.tri (ht.tr ⟨fun _ _ _ _ _ => rfl, fun k _ h2 _ _ _ => up2_n h2, fun i _ _ => by rw [up2_n (by decide)]⟩) (fun i _ => ?_)⟩
      rw [up2_s]
      by_cases ei : i = 23 + 5 * p + 1
      · rw [ei, pk_us]; rfl
      · rw [pk_un ei]; exact hi i ei
    · rw [if_neg (show ¬ (15 : Int32) < nI c from nI_nlt (a := 15) (b := c) (by omega) (by decide)), if_neg (show ¬ (16 : Int32) ≤ nI c from nle_n (b := 16) (by omega) (by decide)), r_sets hp (by decide), Option.bind_some]
      obtain ⟨uc, e1, e2, e3, e4⟩ := tr_seat hX hW hp (c := c) (by omega)
      have hu : (up2 σr 1 (23 + 5 * p + 1) (nI c)) 1 = upd (σr 1) (23 + 5 * p + 1) (nI c) := up2_s _ _ _ _
      obtain ⟨T, vc, vr, f1, f2, f3, f4, f5, -⟩ := laughers_e e2 (by decide) e3 hu hj
      have t2 : Tri σc0 σr0 vc vr := (ht.tr (e := uc) (f := up2 σr 1 (23 + 5 * p + 1) (nI c)) ⟨fun k h _ _ _ => e4 k h, fun k _ h2 _ _ _ => up2_n h2, fun i _ _ => by rw [up2_n (by decide)]⟩).sp f4 f5
      have v1 : vr 1 = upd (σr 1) (23 + 5 * p + 1) (nI c) := (f5.1 1 (by decide) (by decide)).trans hu
      have hXv : RmX vc 11 (vr 1) := by rw [v1]; exact e2.x.cong (fun k _ _ _ => f4 k (by omega) (by omega))
      have hWv : WFv (vr 1) := by rw [v1]; exact e3
      have hiv : ∀ i, i ≠ 23 + 5 * p + 1 → vr 1 i = σr0 1 i := fun i h => by rw [v1, pk_un h]; exact hi i h
      rw [e1, Option.bind_some, f1, f2]
      simp only [bnd2_s, r_pc, Option.bind_some, pb_e, f3.pc]
      rw [show nI c + nI 1 = nI (c + 1) from nI_1 c]
      have c0 : (0 : Int32) ≤ nI c := nI_pos' (by omega)
      rcases hb with ⟨rfl, rfl, hb0⟩ | ⟨-, rfl, rfl⟩
      · rw [if_neg (Int32.not_lt.mpr hb0)]
        by_cases hy : yc ≤ pc T
        · rw [if_pos hy, if_pos hy]
          exact ih (c + 1) bc yc bc yc vc vr (Or.inl ⟨rfl, rfl, hb0⟩) t2 hXv hWv hiv (by omega) (by omega)
        · rw [if_neg hy, if_neg hy]
          exact ih (c + 1) _ _ _ _ vc vr (Or.inl ⟨rfl, rfl, c0⟩) t2 hXv hWv hiv (by omega) (by omega)
      · obtain ⟨m, hm, em⟩ := s8_rng f3
        have : ¬ (9 : Int32) ≤ pc T := by rw [em]; exact nle_n (b := 9) (by omega) (by decide)
        rw [if_neg this, if_pos (by decide)]
        exact ih (c + 1) _ _ _ _ vc vr (Or.inl ⟨rfl, rfl, c0⟩) t2 hXv hWv hiv (by omega) (by omega)
theorem st_seatFor (a1 a2 : Int32) : StI Inv (fX5_seatFor a1 a2) (fX6_seatFor a1 a2) := by
  intro σc σr hI
  have hR := hI.1.1
  have hW := hI.1.2.1
  rw [fX5_seatFor, fX6_seatFor, hasJ hR, hasP hR]
  simp only [b2id]
  by_cases h1 : fX6_isPerson a1 σr = true
  case neg => rw [if_neg h1, if_neg h1]; exact st_find hI (by decide) (found_0 σc) (finds_0 σr)
  rw [if_pos h1, if_pos h1]
  obtain ⟨p, -, hp, rfl⟩ := isP_n hW h1
  by_cases h2 : fX6_isJoke a2 σr = true
  case neg => rw [if_neg h2, if_neg h2]; exact st_find hI (by decide) (found_0 σc) (finds_0 σr)
  rw [if_pos h2, if_pos h2]
  obtain ⟨j, -, hj, rfl⟩ := isJ_n hW h2
  obtain ⟨τ, e1, e2, e3, e4⟩ := takeOver_R (r := 11) (Or.inr (by decide)) hR hW
  rw [e1, Option.bind_some, r_its' rfl (y := 1) (w := 1) rfl hp (by decide), Option.bind_some, pb_e]
  exact seat_l hI hp hj FU 0 0 9 (-1) 0 τ σr (Or.inr ⟨rfl, rfl, rfl⟩) ⟨fun k h _ _ _ => e4 k (by omega), fun _ _ _ _ _ _ => rfl, fun _ _ _ => rfl⟩ e2.x hW (fun _ _ => rfl) (by omega) (Nat.lt_trans (show 16 - 0 < 10100 by omega) FU_gt)
/-! kindFor -/
theorem kind_l {σc0 σr0 : Mem} (hI : Inv σc0 σr0) {p j : Nat} (hp : p < 8) (hj : j < 8) : ∀ n c bc br y σc σr, (bc = br ∨ (c = 0 ∧ y = -1)) → Tri σc0 σr0 σc σr → RmR σc 11 (σr 1) → WFv (σr 1) → (∀ i, i ≠ 23 + 5 * p + 0 → σr 1 i = σr0 1 i) → c ≤ 7 → 7 - c < n → ∃ v τc τr, lw4 (fX5_kindFor_42 (nI p) (nI j)) n bc y (nI c) σc = some (v, τc) ∧ lw4 (fX6_kindFor_38 (nI p) (nI j) (it (σr0 1) p 0)) n br y (nI c) σr = some (v, τr) ∧ Inv τc τr := by
  intro n
  induction n with
  | zero => intro c _ _ _ _ _ _ _ _ _ _ _ h2; omega
  | succ n ih =>
    intro c bc br y σc σr hb ht hX hW hi h1 h2
    rw [lw4_s, lw4_s, fX5_kindFor_42, fX6_kindFor_38, show (0 : Int32) = nI 0 from rfl]
    by_cases e : c = 7
    · subst e
      rw [if_pos (by decide), if_pos (by decide), r_sets hp (by decide), Option.bind_some]
      have hbb : bc = br := by
        rcases hb with h | h
        · exact h
        · omega
      rw [hbb]
      refine ⟨_, _, _, rfl, rfl, hI.tri (ht.tr ⟨fun _ _ _ _ _ => rfl, fun k _ h2 _ _ _ => up2_n h2, fun i _ _ => by rw [up2_n (by decide)]⟩) (fun i _ => ?_)⟩
      rw [up2_s]
      by_cases ei : i = 23 + 5 * p + 0
      · rw [ei, pk_us]; rfl
      · rw [pk_un ei]; exact hi i ei
    · rw [if_neg (show ¬ (7 : Int32) ≤ nI c from nle_n (b := 7) (by omega) (by decide)), if_neg (show ¬ (6 : Int32) < nI c from nI_nlt (a := 6) (b := c) (by omega) (by decide)), r_sets hp (by decide), Option.bind_some, gd_t (inB_n hp (by decide)), nI_clamp (by omega), pb_e]
      obtain ⟨e2, e3⟩ := tr_part (w := 0) (v := nI c) hX hW hp (by decide) (by decide) ⟨c, by show c ≤ 6; omega, rfl⟩
      have hu : (up2 σr 1 (23 + 5 * p + 0) (nI c)) 1 = upd (σr 1) (23 + 5 * p + 0) (nI c) := up2_s _ _ _ _
      obtain ⟨T, vc, vr, f1, f2, f3, f4, f5, -⟩ := laughers_e (σc := up2 σc 12 p (nI c)) e2 (by decide) e3 hu hj
      have t2 : Tri σc0 σr0 vc vr := (ht.tr (e := up2 σc 12 p (nI c)) (f := up2 σr 1 (23 + 5 * p + 0) (nI c)) ⟨fun k h _ _ _ => up2_n (by omega), fun k _ h2 _ _ _ => up2_n h2, fun i _ _ => by rw [up2_n (by decide)]⟩).sp f4 f5
      have v1 : vr 1 = upd (σr 1) (23 + 5 * p + 0) (nI c) := (f5.1 1 (by decide) (by decide)).trans hu
      have hXv : RmR vc 11 (vr 1) := by rw [v1]; exact RmR.cong (σ := up2 σc 12 p (nI c)) e2 (fun k _ _ => f4 k (by omega) (by omega))
      have hWv : WFv (vr 1) := by rw [v1]; exact e3
      have hiv : ∀ i, i ≠ 23 + 5 * p + 0 → vr 1 i = σr0 1 i := fun i h => by rw [v1, pk_un h]; exact hi i h
      rw [f1, f2]
      simp only [bnd2_s, r_pc, Option.bind_some, pb_e, f3.pc, nI_1]
      obtain ⟨m, hm, em⟩ := s8_rng f3
      by_cases hy : pc T ≤ y
      · rw [if_pos hy, if_pos hy, iMax_l hy]
        rcases hb with hb | ⟨-, hb⟩
        · exact ih (c + 1) _ _ _ vc vr (Or.inl hb) t2 hXv hWv hiv (by omega) (by omega)
        · rw [hb, em] at hy
          exact absurd (Int32.le_trans (nI_pos' (by omega)) hy) (by decide)
      · rw [if_neg hy, if_neg hy, iMax_r hy]
        exact ih (c + 1) _ _ _ vc vr (Or.inl rfl) t2 hXv hWv hiv (by omega) (by omega)
theorem st_kindFor (a1 a2 : Int32) : StI Inv (fX5_kindFor a1 a2) (fX6_kindFor a1 a2) := by
  intro σc σr hI
  have hR := hI.1.1
  have hW := hI.1.2.1
  rw [fX5_kindFor, fX6_kindFor, hasJ hR, hasP hR]
  simp only [b2id]
  by_cases h1 : fX6_isPerson a1 σr = true
  case neg => rw [if_neg h1, if_neg h1]; exact st_find hI (by decide) (found_0 σc) (finds_0 σr)
  rw [if_pos h1, if_pos h1]
  obtain ⟨p, -, hp, rfl⟩ := isP_n hW h1
  by_cases h2 : fX6_isJoke a2 σr = true
  case neg => rw [if_neg h2, if_neg h2]; exact st_find hI (by decide) (found_0 σc) (finds_0 σr)
  rw [if_pos h2, if_pos h2]
  obtain ⟨j, -, hj, rfl⟩ := isJ_n hW h2
  obtain ⟨τ, e1, e2, e3, e4⟩ := takeOver_R (r := 11) (Or.inr (by decide)) hR hW
  rw [e1, Option.bind_some, r_its' rfl (y := 0) (w := 0) rfl hp (by decide), Option.bind_some, pb_e, pb_e, pb_e]
  exact kind_l hI hp hj FU 0 0 (-1) (-1) τ σr (Or.inr ⟨rfl, rfl⟩) ⟨fun k h _ _ _ => e4 k (by omega), fun _ _ _ _ _ _ => rfl, fun _ _ _ => rfl⟩ e2 hW (fun _ _ => rfl) (by omega) (Nat.lt_trans (show 7 - 0 < 10100 by omega) FU_gt)
