/-! change -/
theorem ite_b (b : Bool) : (if b = true then true else false) = b := by cases b <;> rfl
theorem mayBe_e (x y : Int32) : fX6_mayBe x y = fX5_canBecome x y := by
  rw [fX6_mayBe, fX5_canBecome, isKind_e, isSeat_e, in_l y 0 63 (by decide) (by decide), in_l y 0 9 (by decide) (by decide), in_l y 0 9999 (by decide) (by decide), ite_b]
theorem can_n {x y : Int32} (h : fX5_canBecome x y = true) : ∃ w, w < 5 ∧ x = nI w ∧ rng y (bdW w) := by
  rw [fX5_canBecome] at h
  by_cases h0 : x = 0
  · rw [if_pos h0] at h; exact ⟨0, by decide, h0, rng_of rfl (by decide) h⟩
  rw [if_neg h0] at h
  by_cases h1 : x = 1
  · rw [if_pos h1] at h; exact ⟨1, by decide, h1, rng_of rfl (by decide) h⟩
  rw [if_neg h1] at h
  by_cases h2 : x = 2
  · rw [if_pos h2] at h; exact ⟨2, by decide, h2, rng_of rfl (by decide) h⟩
  rw [if_neg h2] at h
  by_cases h3 : x = 3
  · rw [if_pos h3] at h; exact ⟨3, by decide, h3, rng_of rfl (by decide) h⟩
  rw [if_neg h3] at h
  by_cases h4 : x = 4
  · rw [if_pos h4] at h; exact ⟨4, by decide, h4, rng_of rfl (by decide) h⟩
  rw [if_neg h4] at h
  cases h
theorem c_replace {p : Nat} (hp : p < 8) (k : Nat) (v : Int32) (σ : Mem) : fX5_replace k (nI p) v σ = some (σ k p, up2 σ k p v) := by
  rw [fX5_replace, gd_t (inB_n hp (by decide)), pb_e, gd_t (inB_n hp (by decide)), pb_e, nI_clamp (by omega)]
theorem live_p {σc σr : Mem} (hI : Inv σc σr) {p w : Nat} (hp : p < 8) (hw : w < 5) (h1 : w ≠ 1) {v : Int32} (hv : rng v (bdW w)) : Inv (up2 σc (1 + 1 + w) p v) (up2 σr 1 (23 + 5 * p + w) v) :=
  live1 hI (by omega) (by omega) (by omega) (hI.1.1.x.p hp hw v) (hI.1.2.1.pw hp hw hv) (by omega) (by omega) (by omega) (by omega) (fun q _ => by omega)
theorem st_change (a1 a2 a3 : Int32) : StI Inv (fX5_change a1 a2 a3) (fX6_change a1 a2 a3) := by
  intro σc σr hI
  have hR := hI.1.1
  have hW := hI.1.2.1
  rw [fX5_change, fX6_change, hasP hR, mayBe_e]
  simp only [b2id]
  by_cases h1 : fX6_isPerson a1 σr = true
  case neg => rw [if_neg h1, if_neg h1]; exact st_find hI (by decide) (found_0 σc) (finds_0 σr)
  rw [if_pos h1, if_pos h1]
  by_cases h2 : fX5_canBecome a2 a3 = true
  case neg => rw [if_neg h2, if_neg h2]; exact st_find hI (by decide) (found_0 σc) (finds_0 σr)
  rw [if_pos h2, if_pos h2]
  obtain ⟨p, -, hp, rfl⟩ := isP_n hW h1
  obtain ⟨w, hw, rfl, hv⟩ := can_n h2
  have e := hR.2.2.1 p hp
  rw [r_becomes (i := 23 + 5 * p + w) (by omega) (pm_ix p w)]
  rcases (show w = 0 ∨ w = 1 ∨ w = 2 ∨ w = 3 ∨ w = 4 by omega) with rfl | rfl | rfl | rfl | rfl
  · rw [if_pos (show nI 0 = (0 : Int32) from rfl), c_replace hp]
    exact ⟨_, _, _, congrArg some (congrArg (·, _) e.1), rfl, live_p hI hp hw (by decide) hv⟩
  · rw [if_neg (show ¬ nI 1 = (0 : Int32) by decide), if_pos (show nI 1 = (1 : Int32) from rfl), fX5_moveTo, gd_t (inB_n hp (by decide)), pb_e, fX1_setSeat, gd_t (inB_n hp (by decide)), pb_e, bid, nI_clamp (by omega)]
    obtain ⟨τ, e1, e2⟩ := live2 hI (kc := 3) (ic := p) (i := 23 + 5 * p + 1) (v := a3) (by decide) (by decide) (hR.x.p hp hw a3) (hW.pw hp hw hv) (by omega) (by omega)
    rw [show 1 + 2 = 3 from rfl, e1, Option.bind_some]
    exact ⟨_, _, _, congrArg some (congrArg (·, _) e.2.1), rfl, e2⟩
  · rw [if_neg (show ¬ nI 2 = (0 : Int32) by decide), if_neg (show ¬ nI 2 = (1 : Int32) by decide), if_pos (show nI 2 = (2 : Int32) from rfl), c_replace hp]
    exact ⟨_, _, _, congrArg some (congrArg (·, _) e.2.2.1), rfl, live_p hI hp hw (by decide) hv⟩
  · rw [if_neg (show ¬ nI 3 = (0 : Int32) by decide), if_neg (show ¬ nI 3 = (1 : Int32) by decide), if_neg (show ¬ nI 3 = (2 : Int32) by decide), if_pos (show nI 3 = (3 : Int32) from rfl), c_replace hp]
    exact ⟨_, _, _, congrArg some (congrArg (·, _) e.2.2.2.1), rfl, live_p hI hp hw (by decide) hv⟩
  · rw [if_neg (show ¬ nI 4 = (0 : Int32) by decide), if_neg (show ¬ nI 4 = (1 : Int32) by decide), if_neg (show ¬ nI 4 = (2 : Int32) by decide), if_neg (show ¬ nI 4 = (3 : Int32) by decide), c_replace hp]
    exact ⟨_, _, _, congrArg some (congrArg (·, _) e.2.2.2.2), rfl, live_p hI hp hw (by decide) hv⟩
/-! of -/
theorem or_bit : ∀ n, n < 256 → ∀ o, o < 8 → nI n ||| bitI o = nI (n ||| 2 ^ o) ∧ (n ||| 2 ^ o) < 256 := by decide +kernel
theorem nearF_n (a : Vec) (p : Nat) : ∀ o, o ≤ 8 → ∃ n, n < 256 ∧ nearF a p o = nI n := by
  intro o
  induction o with
  | zero => intro _; exact ⟨0, by decide, rfl⟩
  | succ o ih =>
    intro ho
    obtain ⟨n, hn, e⟩ := ih (by omega)
    rw [nearF]
    split
    · exact ⟨n, hn, e⟩
    · split
      · exact ⟨n, hn, e⟩
      · obtain ⟨e2, h2⟩ := or_bit n hn o (by omega)
        exact ⟨_, h2, by rw [e, e2]⟩
theorem nearS_n {a : Vec} (h : WFv a) (p : Nat) : ∃ n, n < 256 ∧ nearS a p = nI n := nearF_n a p _ h.p.2
theorem r_bound {σ : Mem} {p : Nat} (hp : p < 8) : fX6_bound (nI p) σ = some (fX0_bound (it (σ 1) p 0) (it (σ 1) p 4)) := by
  rw [fX6_bound, r_its' rfl (y := 4) (w := 4) rfl hp (by decide), Option.bind_some, pb_e, r_its' rfl (y := 0) (w := 0) rfl hp (by decide), Option.bind_some, fX0_bound, pb_e]
  generalize it (σ 1) p 0 = k
  generalize (8 + iMin 20 (it (σ 1) p 4 / 10) : Int32) = b
  repeat' split
  all_goals rfl
theorem r_number {σ : Mem} {p : Nat} (hp : p < 8) : fX6_numberOf (nI p) σ = some (fX0_number (it (σ 1) p 0) (it (σ 1) p 3)) := by
  rw [fX6_numberOf, r_its' rfl (y := 0) (w := 0) rfl hp (by decide), Option.bind_some, r_its' rfl (y := 3) (w := 3) rfl hp (by decide), Option.bind_some, fX0_number]
  generalize it (σ 1) p 0 = k
  generalize it (σ 1) p 3 = b
  repeat' split
  all_goals rfl
theorem st_same {σc σr : Mem} (hI : Inv σc σr) {x y : Int32} (e : x = y) {f g : Option (Int32 × Mem)} (hf : f = some (x, σc)) (hg : g = some (y, σr)) : ∃ v τc τr, f = some (v, τc) ∧ g = some (v, τr) ∧ Inv τc τr := ⟨y, _, _, by rw [hf, e], hg, hI⟩
theorem st_of (a1 a2 : Int32) : StI Inv (fX5_of a1 a2) (fX6_of a1 a2) := by
  intro σc σr hI
  have hR := hI.1.1
  have hW := hI.1.2.1
  rw [fX5_of, fX6_of, hasP hR, in_l a2 0 7 (by decide) (by decide)]
  simp only [b2id]
  by_cases h1 : fX6_isPerson a1 σr = true
  case neg => rw [if_neg h1, if_neg h1]; exact st_find hI (by decide) (found_0 σc) (finds_0 σr)
  rw [if_pos h1, if_pos h1]
  obtain ⟨p, hpn, hp, rfl⟩ := isP_n hW h1
  by_cases h2 : fX5_within a2 0 7 = true
  case neg =>
    have hne : ∀ y : Int32, fX5_within y 0 7 = true → ¬ a2 = y := fun y hy e => h2 (e ▸ hy)
    rw [if_neg h2, if_neg (hne 0 (by decide)), if_neg (hne 1 (by decide)), if_neg (hne 2 (by decide)), if_neg (hne 3 (by decide)), if_neg (hne 4 (by decide)), if_neg (hne 5 (by decide)), if_neg (hne 6 (by decide)), if_neg (hne 7 (by decide))]
    exact st_find hI (by decide) (found_0 σc) (finds_0 σr)
  rw [if_pos h2]
  obtain ⟨w, -, hw, rfl⟩ := bnI (a := 0) (b := 7) rfl rfl (by decide) (by decide) h2
  obtain ⟨e0, e1, e2, e3, e4⟩ := hR.2.2.1 p hp
  rw [gd_t (inB_n hp (by decide)), gd_t (inB_n hp (by decide)), gd_t (inB_n hp (by decide)), gd_t (inB_n hp (by decide)), gd_t (inB_n hp (by decide)), gd_t (inB_n hp (by decide)), gd_t (inB_n hp (by decide)), gd_t (inB_n hp (by decide)), nI_clamp (by omega), r_bound hp, r_number hp, r_near hW hp, Option.bind_some, Option.bind_some, Option.bind_some, r_ones, Option.bind_some, gd_t (inB_n hp (by decide)), gd_t (inB_n hp (by decide))]
  by_cases w0 : w = 0
  · subst w0
    rw [r_its hp (by decide)]
    exact st_same hI e0 rfl rfl
  by_cases w1 : w = 1
  · subst w1
    rw [r_its hp (by decide)]
    exact st_same hI e1 rfl rfl
  by_cases w2 : w = 2
  · subst w2
    rw [r_its hp (by decide)]
    exact st_same hI e2 rfl rfl
  by_cases w3 : w = 3
  · subst w3
    rw [r_its hp (by decide)]
    exact st_same hI e3 rfl rfl
  by_cases w4 : w = 4
  · subst w4
    rw [r_its hp (by decide)]
    exact st_same hI e4 rfl rfl
  by_cases w5 : w = 5
  · subst w5
    exact st_same hI (by rw [← e0, ← e4]) rfl rfl
  by_cases w6 : w = 6
  · subst w6
    exact st_same hI (by rw [← e0, ← e3]) rfl rfl
  have w7 : w = 7 := by omega
  subst w7
  obtain ⟨n, hn, e⟩ := nearS_n hW p
  have e6 : σc 7 p = nearS (σr 1) p := hR.2.2.2.2 p hpn
  refine st_same hI (x := fJ6_bitCount_0f7a4 (σc 7 p)) (y := onesS (nearS (σr 1) p) 8) ?_ rfl rfl
  rw [e6, e]
  exact bc_pc n hn
