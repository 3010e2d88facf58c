/-! reachFor -/
/-- the least from N - d on with P -/
def usP (P : Nat → Bool) (N : Nat) : Nat → Int32
  | 0 => -1
  | d + 1 => if P (N - 1 - d) = true then nI (N - 1 - d) else usP P N d
theorem usP_n (P : Nat → Bool) {N : Nat} (hN : N < 2 ^ 31) : ∀ d, usP P N d = -1 ∨ 0 ≤ usP P N d := by
  intro d
  induction d with
  | zero => exact Or.inl rfl
  | succ d ih =>
    rw [usP]
    split
    · exact Or.inr (nI_pos' (by omega))
    · exact ih
theorem nI_m1 {m : Nat} (h : m < 2 ^ 31) : ¬ nI m = -1 := fun z => absurd (nI_pos' (n := m) h) (by rw [z]; decide)
theorem nI_dn (i : Nat) : nI i + -1 = nI i - 1 := (Int32.sub_eq_add_neg _ _).symm
def SCr (σ0 : Mem) (a : Vec) (σ : Mem) : Prop := SCt σ0 σ ∧ ∃ c, c ≤ 15 ∧ RmX σ 11 (upd a 1 (nI c))
def SRr (σ0 σ : Mem) : Prop := (∀ k, k ≠ 0 → k ≠ 1 → k ≠ 3 → k ≠ 5 → k ≠ 6 → σ k = σ0 k) ∧ (∀ j, j ≠ 6 → j ≠ 8 → σ 0 j = σ0 0 j) ∧ ∃ c, c ≤ 15 ∧ σ 1 = upd (σ0 1) 1 (nI c)
theorem reach_c {σ0 : Mem} {a : Vec} (hW : WFv a) {j : Nat} {F : Nat → Int32} (hF : ∀ k, k < 16 → ∀ σ, SCr σ0 a σ → ∃ τ, ((fX1_setReach 11 (nI k) σ).bind fun s => fX4_laughersOf 11 (nI j) s) = some (F k, τ) ∧ SCr σ0 a τ) : ∀ d, d ≤ 16 → ∀ n σ, d < n → SCr σ0 a σ → ∃ τ, SCr σ0 a τ ∧ lw2 (fX5_reachFor_28 (nI j)) n (nI (16 - d)) σ = if usP (fun k => decide (F k = nI (2 ^ nP a - 1))) 16 d = -1 then fX5_found (-1000004) τ else some (usP (fun k => decide (F k = nI (2 ^ nP a - 1))) 16 d, τ) := by
  have h8 := hW.p.2
  intro d
  induction d with
  | zero =>
    intro _ n σ hn hs
    obtain ⟨n, rfl⟩ : ∃ q, n = q + 1 := ⟨n - 1, by omega⟩
    refine ⟨σ, hs, ?_⟩
    rw [lw2_s, fX5_reachFor_28, if_pos (by decide), b2id, usP, if_pos rfl]
  | succ d ih =>
    intro hm n σ hn hs
    obtain ⟨n, rfl⟩ : ∃ q, n = q + 1 := ⟨n - 1, by omega⟩
    have e1 : 16 - (d + 1) = 16 - 1 - d := by omega
    have e2 : 16 - 1 - d + 1 = 16 - d := by omega
    obtain ⟨τ, f1, f2⟩ := hF (16 - 1 - d) (by omega) σ hs
    have ha : fX1_everybody 11 τ = nI (2 ^ nP a - 1) := by
      obtain ⟨-, c, -, hx⟩ := f2
      rw [fX1_everybody, hx.1.2.2.2.2.1, pk_un (by decide), hW.p.1]
      exact all_n _ (by omega)
    rw [lw2_s, fX5_reachFor_28, e1, if_neg (show ¬ (15 : Int32) < nI (16 - 1 - d) from nI_nlt (a := 15) (by omega) (by decide)), nI_1, e2]
    cases hsr : fX1_setReach 11 (nI (16 - 1 - d)) σ with
    | none => rw [hsr] at f1; cases f1
    | some s =>
      rw [hsr, Option.bind_some] at f1
      rw [Option.bind_some, f1, bnd2_s, ha, usP]
      by_cases h : F (16 - 1 - d) = nI (2 ^ nP a - 1)
      · refine ⟨τ, f2, ?_⟩
        rw [if_pos h, if_pos (decide_eq_true h), if_neg (nI_m1 (by omega))]
      · rw [if_neg h, if_neg (by rw [decide_eq_true_eq]; exact h)]
        exact ih (by omega) n τ (by omega) f2
theorem reach_r {σ0 : Mem} (hW : WFv (σ0 1)) {j : Nat} {F : Nat → Int32} (hF : ∀ k, k < 16 → ∀ σ, SRr σ0 σ → ∃ τ, fX6_laughAt_ (nI j) (up2 σ 1 1 (nI k)) = some (F k, τ) ∧ SRr σ0 τ) : ∀ n i, i ≤ 16 → i < n → ∀ σ, SRr σ0 σ → ∃ τ, SRt σ0 τ ∧ lw3 (fX6_reachFor_27 (nI j) (σ0 1 1)) n (usP (fun k => decide (F k = nI (2 ^ nP (σ0 1) - 1))) 16 (16 - i)) (nI i - 1) σ = if usP (fun k => decide (F k = nI (2 ^ nP (σ0 1) - 1))) 16 16 = -1 then fX6_finds 3 τ else some (usP (fun k => decide (F k = nI (2 ^ nP (σ0 1) - 1))) 16 16, τ) := by
  have h8 := hW.p.2
  intro n
  induction n with
  | zero => intro i _ h2; omega
  | succ n ih =>
    intro i h1 h2 σ hs
    rw [lw3_s, fX6_reachFor_27]
    cases i with
    | zero =>
      obtain ⟨s1, s2, c, hc, s3⟩ := hs
      refine ⟨up2 σ 1 1 (σ0 1 1), ⟨fun k h0 h1 h3 h5 h6 => by rw [up2_n h1]; exact s1 k h0 h1 h3 h5 h6, fun q h0 h1 => by rw [up2_n (by decide)]; exact s2 q h0 h1, fun q _ => by rw [up2_s, s3, upd_upd, upd_self]⟩, ?_⟩
      rw [if_pos (by decide), pb_e, b2id]
      rcases usP_n (fun k => decide (F k = nI (2 ^ nP (σ0 1) - 1))) (N := 16) (by decide) 16 with h | h
      · rw [show 16 - 0 = 16 from rfl, h, if_neg (by decide), if_pos rfl]
      · rw [show 16 - 0 = 16 from rfl, if_pos h, if_neg (fun z => by rw [z] at h; exact absurd h (by decide))]
    | succ i =>
      obtain ⟨τ, f1, f2⟩ := hF i (by omega) σ hs
      have ha : fX6_everybody τ = nI (2 ^ nP (σ0 1) - 1) := by
        obtain ⟨-, -, c, -, hx⟩ := f2
        rw [fX6_everybody, hx, pk_un (by decide), hW.p.1]
        exact all_n _ (by omega)
      have hi := ih i (by omega) (by omega) τ f2
      rw [show 16 - i = (16 - (i + 1)) + 1 from by omega, usP, show 16 - 1 - (16 - (i + 1)) = i from by omega] at hi
      rw [nI_pred, if_neg (nI_pos (by omega)), pb_e, f1, bnd2_s, ha, nI_dn]
      by_cases h : F i = nI (2 ^ nP (σ0 1) - 1)
      · rw [if_pos h]
        rw [if_pos (decide_eq_true h)] at hi
        exact hi
      · rw [if_neg h]
        rw [if_neg (by rw [decide_eq_true_eq]; exact h)] at hi
        exact hi
theorem st_reachFor (a1 : Int32) : StI Inv (fX5_reachFor a1) (fX6_reachFor a1) := by
  intro σc σr hI
  have hR := hI.1.1
  have hW := hI.1.2.1
  rw [fX5_reachFor, fX6_reachFor, hasJ hR, b2id, b2id]
  by_cases h1 : fX6_isJoke a1 σr = true
  case neg => rw [if_neg h1, if_neg h1]; exact st_find hI (by decide) (found_0 σc) (finds_0 σr)
  rw [if_pos h1, if_pos h1]
  obtain ⟨j, -, hj, rfl⟩ := isJ_n hW h1
  obtain ⟨uc, e1, e2, e3, e4⟩ := takeOver_R (r := 11) (Or.inr (by decide)) hR hW
  obtain ⟨c0, hc0, ec0⟩ := hW.2.2.2.2.2.1
  have hself : upd (σr 1) 1 (nI c0) = σr 1 := by rw [← ec0]; exact upd_self _ _
  have hSC : SCr σc (σr 1) uc := ⟨fun k h _ _ _ => e4 k (by omega), c0, hc0, by rw [hself]; exact e2.x⟩
  have hSR : SRr σr σr := ⟨fun _ _ _ _ _ _ => rfl, fun _ _ _ => rfl, c0, hc0, hself.symm⟩
  obtain ⟨F, g1, g2⟩ := opp (β := Int32) (SC := SCr σc (σr 1)) (SR := SRr σr) (N := 16) (cf := fun k σ => (fX1_setReach 11 (nI k) σ).bind fun s => fX4_laughersOf 11 (nI j) s) (rf := fun k σ => fX6_laughAt_ (nI j) (up2 σ 1 1 (nI k))) hSC hSR (fun k hk vc vr hc hr => by
    obtain ⟨hc1, c, hcc, hc2⟩ := hc
    obtain ⟨hr1, hr2, c', hcc', hr3⟩ := hr
    obtain ⟨wc, w1, w2, w3, w4⟩ := tr_reach hc2 (hW.n1 ⟨c, hcc, rfl⟩) (c := k) (by omega)
    rw [upd_upd] at w2 w3
    have hu : up2 vr 1 1 (nI k) 1 = upd (σr 1) 1 (nI k) := by rw [up2_s, hr3, upd_upd]
    obtain ⟨T, xc, xr, f1, f2, f3, f4, f5, -⟩ := laughers_e w2 (by decide) w3 hu hj
    refine ⟨T, xc, xr, ?_, f2, ⟨fun q h1 h2 h3 h4 => ?_, k, by omega, ?_⟩, ⟨fun q h1 h2 h3 h4 h5 => ?_, fun q h1 h2 => ?_, k, by omega, ?_⟩⟩
    · show Option.bind _ _ = _
      rw [w1, Option.bind_some, f1]
    · rw [f4 q h2 h3, w4 q h1]; exact hc1 q h1 h2 h3 h4
    · exact w2.x.cong (fun q _ _ _ => f4 q (by omega) (by omega))
    · rw [f5.1 q h1 h4, up2_n h2]; exact hr1 q h1 h2 h3 h4 h5
    · rw [f5.2 q h1, up2_n (by decide)]; exact hr2 q h1 h2
    · rw [f5.1 1 (by decide) (by decide)]; exact hu)
  obtain ⟨τc, k1, k2⟩ := reach_c hW g1 16 (Nat.le_refl _) FU uc (Nat.lt_trans (by decide) FU_gt) hSC
  obtain ⟨τr, k3, k4⟩ := reach_r hW g2 FU 16 (Nat.le_refl _) (Nat.lt_trans (by decide) FU_gt) σr hSR
  rw [show nI 16 - 1 = (15 : Int32) from by decide] at k4
  have k4' : lw3 (fX6_reachFor_27 (nI j) (σr 1 1)) FU (-1) 15 σr = _ := k4
  have k2' : lw2 (fX5_reachFor_28 (nI j)) FU 0 uc = _ := k2
  rw [e1, Option.bind_some, pb_e, pb_e, k2', k4']
  by_cases h : usP (fun k => decide (F k = nI (2 ^ nP (σr 1) - 1))) 16 16 = -1
  · rw [if_pos h, if_pos h]
    exact st_find (hI.st k1.1 k3) (by decide) (found_3 _) (finds_3 _)
  · rw [if_neg h, if_neg h]
    exact ⟨_, _, _, rfl, rfl, hI.st k1.1 k3⟩
/-! rateFor -/
theorem rate_i {σc0 σr0 : Mem} (hI : Inv σc0 σr0) {j N t0 P : Nat} (hj : j < 8) (hN : N ≤ 20) (hP : P ≤ 8) (h5 : σr0 1 5 = nI P) (k34 : Int32 → Int32 → Int32 → Mem → Option (Int32 × Mem)) (x3 x4 x5 : Int32) : ∀ n i s σc σr, Pl σc0 σr0 σc σr → σr 1 5 = nI P → σr 1 2 = nI (t0 + s) → t0 + s ≤ 999999 → i ≤ N → N - i < n → ∃ s' τc τr, lw2 (fX4_performOften_3 11 (nI j) (nI N)) n (nI i) σc = some (nI (t0 + s'), τc) ∧ lw3 (fX6_rateFor_59 k34 (nI j) (nI N) x3 x4 x5) n (nI s) (nI i) σr = (if nI s' ≤ x4 then k34 x3 (iMax x4 (nI s')) (x5 + 1) τr else k34 x5 (iMax x4 (nI s')) (x5 + 1) τr) ∧ t0 + s' ≤ 999999 ∧ Inv τc τr ∧ ∀ q, q < 73 → τr 1 q = σr0 1 q := by
  intro n
  induction n with
  | zero => intro i _ _ _ _ _ _ _ _ h2; omega
  | succ n ih =>
    intro i s σc σr hp e5 e2 hb h1 h2
    rw [lw2_s, lw3_s, fX4_performOften_3, fX6_rateFor_59]
    by_cases e : i = N
    · obtain ⟨υr, g1, g2, g3, -⟩ := back_e hI hp.1 hp.2.1
      refine ⟨s, σc, υr, ?_, ?_, hb, g2, g3⟩
      · rw [e, if_pos (Int32.le_refl _), hp.2.2.1.1.2.2.1, e2]
      · rw [e, if_pos (Int32.le_refl _), g1, Option.bind_some, pb_e]
        rfl
    · rw [if_neg (nle_n (by omega) (by omega)), if_neg (nle_n (by omega) (by omega))]
      obtain ⟨T, τc, τr, f1, f2, f3, f4, f5, -⟩ := perform_e (by decide) hp.2.2.1 hp.2.2.2 hj
      obtain ⟨p1, p2, p3, p4, p5, p6, p7, p8, d, hd, ed⟩ := f5
      have hnP : nP (σr 1) = P := by unfold nP; rw [e5, nI_clamp (by omega)]
      have t5 : τr 1 5 = nI P := by rw [p5 5 (by decide) (by decide) (fun q _ => by omega)]; exact e5
      rw [hnP] at p8 ed
      have t2 : τr 1 2 = nI (t0 + (s + d)) := by rw [p8, e2, ed, nI_add, Nat.add_assoc]
      have t2b : t0 + (s + d) ≤ 999999 := by
        obtain ⟨m, hm, em⟩ := f4.2.2.2.2.2.2.1
        rw [t2] at em
        have := (nI_eq (by omega) (by omega)).mp em
        omega
      rw [f1, f2, bnd2_s, bnd2_s, r_paid hP t5, Option.bind_some, pb_e, ed, nI_add, nI_1]
      exact ih (i + 1) (s + d) τc τr (hp.tell f3 f4 ⟨p1, p2, p3, p4, p5, p6, p7, by rw [hnP]; exact p8, d, hd, by rw [hnP]; exact ed⟩) t5 t2 t2b (by omega) (by omega)
theorem Pl.rate {σc0 σr0 σc σr : Mem} (h : Pl σc0 σr0 σc σr) {c : Nat} (hc : c ≤ 20) : Pl σc0 σr0 (up2 σc 11 10 (nI c)) (up2 σr 1 0 (nI c)) := by
  obtain ⟨t, a, hR, hW⟩ := h
  obtain ⟨g1, g2⟩ := tr_rate hR hW hc
  refine ⟨t.tr ⟨fun k h1 _ _ _ => up2_n (by omega), fun k _ h2 _ _ _ => up2_n h2, fun q _ _ => by rw [up2_n (by decide)]⟩, fun q hq => by rw [up2_n (by decide)]; exact a q hq, ?_, ?_⟩
  · rw [up2_s]; exact g1
  · rw [up2_s]; exact g2
theorem rate_l {j N t0 P : Nat} (hj : j < 8) (hN : N ≤ 20) (hP : P ≤ 8) (ht0 : t0 ≤ 999999) : ∀ n c b yc yr σc σr, Inv σc σr → σr 1 5 = nI P → σr 1 2 = nI t0 → ((yc = -1 ∧ yr = -1) ∨ ∃ m, yr = nI m ∧ yc = nI (t0 + m) ∧ t0 + m ≤ 999999) → c ≤ 21 → 21 - c < n → ∃ v τc τr, lw4 (fX5_rateFor_33 (nI j) (nI N)) n b yc (nI c) σc = some (v, τc) ∧ lw4 (fX6_rateFor_34 (nI j) (nI N)) n b yr (nI c) σr = some (v, τr) ∧ Inv τc τr := by
  intro n
  induction n with
  | zero => intro c _ _ _ _ _ _ _ _ _ _ h2; omega
  | succ n ih =>
    intro c b yc yr σc σr hI e5 e2 hy h1 h2
    rw [lw4_s, lw4_s, fX5_rateFor_33, fX6_rateFor_34]
    by_cases e : c = 21
    · subst e
      rw [if_pos (by decide), if_pos (by decide)]
      exact ⟨_, _, _, rfl, rfl, hI⟩
    · rw [if_neg (show ¬ (20 : Int32) < nI c from nI_nlt (a := 20) (b := c) (by omega) (by decide)), if_neg (show ¬ (20 : Int32) < nI c from nI_nlt (a := 20) (b := c) (by omega) (by decide))]
      obtain ⟨uc, ur, q1, q2, q3, q4⟩ := lend_e hI
      have hp := q3.rate (c := c) (by omega)
      have r5 : up2 ur 1 0 (nI c) 1 5 = nI P := by rw [up2_j (by decide), q4]; exact e5
      have r2 : up2 ur 1 0 (nI c) 1 2 = nI (t0 + 0) := by rw [up2_j (by decide), q4]; exact e2
      obtain ⟨s', τc, τr, g1, g2, g3, g4, g5⟩ := rate_i (t0 := t0) hI hj hN hP e5 (lw4 (fX6_rateFor_34 (nI j) (nI N)) n) b yr (nI c) FU 0 0 _ _ hp r5 r2 (by omega) (by omega) (Nat.lt_trans (show N - 0 < 10100 by omega) FU_gt)
      rw [q1, q2, Option.bind_some, Option.bind_some, pb_e, pb_e, fX4_performOften]
      have g1' : lw2 (fX4_performOften_3 11 (nI j) (nI N)) FU 0 (up2 uc 11 10 (nI c)) = some (nI (t0 + s'), τc) := g1
      have g2' : lw3 (fX6_rateFor_59 (lw4 (fX6_rateFor_34 (nI j) (nI N)) n) (nI j) (nI N) b yr (nI c)) FU 0 0 (up2 ur 1 0 (nI c)) = (if nI s' ≤ yr then lw4 (fX6_rateFor_34 (nI j) (nI N)) n b (iMax yr (nI s')) (nI c + 1) τr else lw4 (fX6_rateFor_34 (nI j) (nI N)) n (nI c) (iMax yr (nI s')) (nI c + 1) τr) := g2
      rw [g1', g2', bnd2_s, nI_1]
      have n5 : τr 1 5 = nI P := by rw [g5 5 (by decide)]; exact e5
      have n2 : τr 1 2 = nI t0 := by rw [g5 2 (by decide)]; exact e2
      rcases hy with ⟨rfl, rfl⟩ | ⟨m, rfl, rfl, hm⟩
      · have c1 : ¬ nI (t0 + s') ≤ -1 := fun z => absurd (Int32.le_trans (nI_pos' (by omega)) z) (by decide)
        have c2 : ¬ nI s' ≤ -1 := fun z => absurd (Int32.le_trans (nI_pos' (by omega)) z) (by decide)
        rw [if_neg c1, if_neg c2, iMax_r c2]
        exact ih (c + 1) _ _ _ τc τr g4 n5 n2 (Or.inr ⟨s', rfl, rfl, g3⟩) (by omega) (by omega)
      · by_cases hle : s' ≤ m
        · have c2 : nI s' ≤ nI m := nI_le hle (by omega)
          rw [if_pos (show nI (t0 + s') ≤ nI (t0 + m) from nI_le (by omega) (by omega)), if_pos c2, iMax_l c2]
          exact ih (c + 1) _ _ _ τc τr g4 n5 n2 (Or.inr ⟨m, rfl, rfl, hm⟩) (by omega) (by omega)
        · have c2 : ¬ nI s' ≤ nI m := nle_n (by omega) (by omega)
          rw [if_neg (show ¬ nI (t0 + s') ≤ nI (t0 + m) from nle_n (by omega) (by omega)), if_neg c2, iMax_r c2]
          exact ih (c + 1) _ _ _ τc τr g4 n5 n2 (Or.inr ⟨s', rfl, rfl, g3⟩) (by omega) (by omega)
theorem st_rateFor (a1 a2 : Int32) : StI Inv (fX5_rateFor a1 a2) (fX6_rateFor a1 a2) := by
  intro σc σr hI
  have hR := hI.1.1
  have hW := hI.1.2.1
  rw [fX5_rateFor, fX6_rateFor, hasJ hR, in_l a2 1 20 (by decide) (by decide)]
  simp only [b2id]
  by_cases h1 : fX6_isJoke a1 σr = true
  case neg => rw [if_neg h1, if_neg h1]; exact st_find hI (by decide) (found_0 σc) (finds_0 σr)
  rw [if_pos h1, if_pos h1]
  obtain ⟨j, -, hj, rfl⟩ := isJ_n hW h1
  by_cases h2 : fX5_within a2 1 20 = true
  case neg => rw [if_neg h2, if_neg h2]; exact st_find hI (by decide) (found_0 σc) (finds_0 σr)
  rw [if_pos h2, if_pos h2, pb_e, pb_e]
  obtain ⟨N, -, hN, rfl⟩ := bnI (a := 1) (b := 20) rfl rfl (by decide) (by decide) h2
  obtain ⟨t0, ht0, et0⟩ := hW.2.2.2.2.2.2.1
  exact rate_l (t0 := t0) hj hN hW.p.2 ht0 FU 0 0 (-1) (-1) σc σr hI hW.p.1 et0 (Or.inl ⟨rfl, rfl⟩) (by omega) (Nat.lt_trans (show 21 - 0 < 10100 by omega) FU_gt)
