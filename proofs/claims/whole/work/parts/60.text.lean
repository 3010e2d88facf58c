/-! text: an item -/
theorem wo_e : ∀ k, k < 7 → fX3_wordOf (nI k) = k := by decide +kernel
theorem ri_step {σ : Mem} {n k : Nat} {v : Bool} (hk : k < 7) (hv : fX3_isWord k σ = some v) : lw1 (fX3_readItem_2 11 σ) (n + 1) (nI k) = if v = true then fX3_readPerson 11 (nI k) σ else lw1 (fX3_readItem_2 11 σ) n (nI (k + 1)) := by
  rw [lw1_s, fX3_readItem_2, if_neg (show ¬ (7 : Int32) ≤ nI k from nle_n (b := 7) hk (by decide)), wo_e k hk, hv, Option.bind_some, b2ig, nI_1]
theorem iv (v : Bool) (s : Mem) : (if v = true then some (true, s) else some (false, s)) = some (v, s) := by cases v <;> rfl
theorem ri_end {σ : Mem} {n : Nat} {v7 v8 v9 : Bool} (h7 : fX3_isWord 7 σ = some v7) (h8 : fX3_isWord 8 σ = some v8) (h9 : fX3_isWord 9 σ = some v9) : lw1 (fX3_readItem_2 11 σ) (n + 1) (nI 7) = if v7 = true then fX3_readJoke 11 σ else if v8 = true then fX3_readRate 11 σ else if v9 = true then fX3_readReach 11 σ else some (false, σ) := by
  rw [lw1_s, fX3_readItem_2, if_pos (by decide), h7, h8, h9, Option.bind_some, Option.bind_some, Option.bind_some]
  simp only [b2ig, iv]
theorem kh_e {σ : Mem} {v0 v1 v2 v3 v4 v5 v6 : Bool} (h0 : fX6_isWord 0 σ = some v0) (h1 : fX6_isWord 1 σ = some v1) (h2 : fX6_isWord 2 σ = some v2) (h3 : fX6_isWord 3 σ = some v3) (h4 : fX6_isWord 4 σ = some v4) (h5 : fX6_isWord 5 σ = some v5) (h6 : fX6_isWord 6 σ = some v6) : fX6_kindHere σ = some (if v0 = true then 0 else if v1 = true then 1 else if v2 = true then 2 else if v3 = true then 3 else if v4 = true then 4 else if v5 = true then 5 else if v6 = true then 6 else -1) := by
  simp only [fX6_kindHere, fX6_kindHere_43, fX6_kindHere_87, h0, h1, h2, h3, h4, h5, h6, Option.bind_some]
  cases v0 <;> cases v1 <;> cases v2 <;> cases v3 <;> cases v4 <;> cases v5 <;> cases v6 <;> decide
theorem it_p {t a b : Nat} {c0 r0 σc σr : Mem} (h : RD t a b c0 r0 σc σr) {k : Nat} (hk : k ≤ 6) (hat : a < t) (h1 : fX6_kindHere σr = some (nI k)) {f : Option (Bool × Mem)} (h2 : f = fX3_readPerson 11 (nI k) σc) : OUT t a c0 r0 f (fX6_item σr) := by
  rw [h2, fX6_item, h1, Option.bind_some, if_neg (nI_pos (by omega)), bid]
  exact person_e h hk (h.1.2.2.2.2.2.2.2.2.1 hat)
theorem item_e {t a b : Nat} {c0 r0 σc σr : Mem} (h : RD t a b c0 r0 σc σr) : OUT t a c0 r0 (fX3_readItem 11 σc) (fX6_item σr) := by
  obtain ⟨v0, x0, y0, z0⟩ := word_e h.1 h.2.1 (i := 0) (by decide)
  obtain ⟨v1, x1, y1, z1⟩ := word_e h.1 h.2.1 (i := 1) (by decide)
  obtain ⟨v2, x2, y2, z2⟩ := word_e h.1 h.2.1 (i := 2) (by decide)
  obtain ⟨v3, x3, y3, z3⟩ := word_e h.1 h.2.1 (i := 3) (by decide)
  obtain ⟨v4, x4, y4, z4⟩ := word_e h.1 h.2.1 (i := 4) (by decide)
  obtain ⟨v5, x5, y5, z5⟩ := word_e h.1 h.2.1 (i := 5) (by decide)
  obtain ⟨v6, x6, y6, z6⟩ := word_e h.1 h.2.1 (i := 6) (by decide)
  obtain ⟨v7, x7, y7, z7⟩ := word_e h.1 h.2.1 (i := 7) (by decide)
  obtain ⟨v8, x8, y8, z8⟩ := word_e h.1 h.2.1 (i := 8) (by decide)
  obtain ⟨v9, x9, y9, z9⟩ := word_e h.1 h.2.1 (i := 9) (by decide)
  have hkh := kh_e y0 y1 y2 y3 y4 y5 y6
  obtain ⟨n, hn⟩ : ∃ n, FU = n + 8 := ⟨FU - 8, by have := FU_gt; omega⟩
  have hlt := h.1.2.2.2.2.2.2.2.2.1
  have hri : fX3_readItem 11 σc = if v0 = true then fX3_readPerson 11 (nI 0) σc else if v1 = true then fX3_readPerson 11 (nI 1) σc else if v2 = true then fX3_readPerson 11 (nI 2) σc else if v3 = true then fX3_readPerson 11 (nI 3) σc else if v4 = true then fX3_readPerson 11 (nI 4) σc else if v5 = true then fX3_readPerson 11 (nI 5) σc else if v6 = true then fX3_readPerson 11 (nI 6) σc else if v7 = true then fX3_readJoke 11 σc else if v8 = true then fX3_readRate 11 σc else if v9 = true then fX3_readReach 11 σc else some (false, σc) := by
    rw [fX3_readItem, hn, show (0 : Int32) = nI 0 from rfl, show n + 8 = n + 7 + 1 from rfl, ri_step (by decide) x0, show n + 7 = n + 6 + 1 from rfl, ri_step (by decide) x1, show n + 6 = n + 5 + 1 from rfl, ri_step (by decide) x2, show n + 5 = n + 4 + 1 from rfl, ri_step (by decide) x3, show n + 4 = n + 3 + 1 from rfl, ri_step (by decide) x4, show n + 3 = n + 2 + 1 from rfl, ri_step (by decide) x5, show n + 2 = n + 1 + 1 from rfl, ri_step (by decide) x6, ri_end x7 x8 x9]
  rw [hri]
  by_cases b0 : v0 = true
  · rw [if_pos b0] at hkh; exact it_p h (k := 0) (by decide) (z0 b0) hkh (by rw [if_pos b0])
  rw [if_neg b0] at hkh ⊢
  by_cases b1 : v1 = true
  · rw [if_pos b1] at hkh; exact it_p h (k := 1) (by decide) (z1 b1) hkh (by rw [if_pos b1])
  rw [if_neg b1] at hkh ⊢
  by_cases b2 : v2 = true
  · rw [if_pos b2] at hkh; exact it_p h (k := 2) (by decide) (z2 b2) hkh (by rw [if_pos b2])
  rw [if_neg b2] at hkh ⊢
  by_cases b3 : v3 = true
  · rw [if_pos b3] at hkh; exact it_p h (k := 3) (by decide) (z3 b3) hkh (by rw [if_pos b3])
  rw [if_neg b3] at hkh ⊢
  by_cases b4 : v4 = true
  · rw [if_pos b4] at hkh; exact it_p h (k := 4) (by decide) (z4 b4) hkh (by rw [if_pos b4])
  rw [if_neg b4] at hkh ⊢
  by_cases b5 : v5 = true
  · rw [if_pos b5] at hkh; exact it_p h (k := 5) (by decide) (z5 b5) hkh (by rw [if_pos b5])
  rw [if_neg b5] at hkh ⊢
  by_cases b6 : v6 = true
  · rw [if_pos b6] at hkh; exact it_p h (k := 6) (by decide) (z6 b6) hkh (by rw [if_pos b6])
  rw [if_neg b6] at hkh ⊢
  rw [fX6_item, hkh, Option.bind_some, if_pos (show (-1 : Int32) < 0 by decide), y7, Option.bind_some, bid]
  by_cases b7 : v7 = true
  · rw [if_pos b7, if_pos b7]
    exact joke_e h (hlt (z7 b7))
  rw [if_neg b7, if_neg b7, fX6_takes, y8, Option.bind_some]
  obtain ⟨a1, b1', uc, ur, s1, s2, s3, s4, s5, s6⟩ := h.step
  by_cases b8 : v8 = true
  · have hr := rate_e h (hlt (z8 b8))
    rw [s2, Option.bind_some] at hr
    rw [if_pos b8, if_pos b8, s2, Option.bind_some, bnd2_s, if_pos b8]
    exact hr
  rw [if_neg b8, if_neg b8, bnd2_s, if_neg b8, y9, Option.bind_some]
  by_cases b9 : v9 = true
  · have hr := reach_e h (hlt (z9 b9))
    rw [s2, Option.bind_some] at hr
    rw [if_pos b9, b9, must_t h.2.1, s2, Option.bind_some]
    exact hr
  · right
    have hw := h.fail
    obtain ⟨x, hx⟩ := hw.num 0 15
    rw [if_neg b9, Bool.eq_false_iff.mpr b9, must_f h.2.1, Option.bind_some, hx, bnd2_s, pb_e]
    exact ⟨σc, _, rfl, rfl, hw.row _ _⟩
theorem w_item {t : Nat} {c0 r0 σc σr : Mem} (h : WG t c0 r0 σc σr) : ∃ τ, fX6_item σr = some τ ∧ WG t c0 r0 σc τ := by
  have w := h.w
  have hkh := kh_e (w_word w 0) (w_word w 1) (w_word w 2) (w_word w 3) (w_word w 4) (w_word w 5) (w_word w 6)
  obtain ⟨x, hx⟩ := h.num 0 15
  refine ⟨up2 σr 1 1 x, ?_, h.row _ _⟩
  rw [fX6_item, hkh, Option.bind_some, if_pos (by decide), w_word w 7, Option.bind_some, if_neg (by decide), w_takes w, bnd2_s, if_neg (by decide), w_word w 9, Option.bind_some, must_w w, Option.bind_some, hx, bnd2_s, pb_e]
theorem tk_0 (n : Nat) : ¬ tkN n = 0 := by
  unfold tkN
  split
  · decide
  · split
    · decide
    · split <;> decide
theorem text_l {t : Nat} {c0 r0 : Mem} : ∀ n m a b σc σr, RD t a b c0 r0 σc σr → 1 ≤ m → 2 * (m - 1) ≤ a → 61 - m < n → ∃ v τc s m', lw2 (fX3_readInto_11 11) n (nI m) σc = some (v, τc) ∧ ((fX6_item σr).bind fun s => lw2 (fX6_text_24) n (nI m) s) = fX6_text_63 (nI m') s ∧ ((∃ a b, v = nI m' ∧ m' ≤ 61 ∧ RD t a b c0 r0 τc s) ∨ (WG t c0 r0 τc s ∧ v = -1 - τc 34 3)) := by
  intro n
  induction n with
  | zero => intro m _ _ _ _ _ _ _ h2; omega
  | succ n ih =>
    intro m a b σc σr h hm1 hma hn
    have hab := h.1.2.1
    have hbt := h.1.2.2.1
    have ht := h.1.1.2.2.1
    rw [lw2_s, fX3_readInto_11, if_neg (show ¬ (120 : Int32) < nI m from nI_nlt (a := 120) (b := m) (by omega) (by decide))]
    rcases item_e h with ⟨τc, τr, a', b', g1, g2, g3, g4⟩ | ⟨τc, τr, g1, g2, g3⟩
    · have g30 := g3
      obtain ⟨⟨hT, hab', hbt', e3, e11, e4, e12, e2, hlt, htk3, -⟩, h13, -⟩ := g30
      rw [g1, g2, bnd2_s, Option.bind_some, if_pos rfl, lw2_s, fX6_text_24, h13, if_pos rfl, hT.2.1, e11]
      by_cases hat : a' < t
      · rw [if_pos hat] at e2
        rw [if_neg (show ¬ τc 34 2 = 0 by rw [e2]; exact tk_0 _), if_neg (nle_n (by omega) (by omega)), sign_e g3.1 h13, Option.bind_some]
        by_cases h3 : τc 34 2 = 3
        · obtain ⟨a1, b1, uc, ur, s1, s2, s3, s4, s5, s6⟩ := g3.step
          have hb1 := htk3 h3
          rw [if_pos h3, decide_eq_true h3, must_t h13, s1, s2, Option.bind_some, Option.bind_some, nI_1]
          exact ih (m + 1) a1 b1 uc ur s3 (by omega) (by omega) (by omega)
        · have hw := g3.fail
          obtain ⟨s, i1, i2⟩ := w_item hw
          obtain ⟨n, rfl⟩ : ∃ q, n = q + 1 := ⟨n - 1, by omega⟩
          rw [if_neg h3, decide_eq_false h3, must_f h13, Option.bind_some, i1, Option.bind_some, nI_1, lw2_s, fX6_text_24, i2.w, if_neg (by decide)]
          exact ⟨_, τc, s, m + 1, rfl, rfl, Or.inr ⟨i2, rfl⟩⟩
      · rw [if_neg hat] at e2
        rw [if_pos e2, if_pos (show nI t ≤ nI a' from nI_le (by omega) (by omega))]
        exact ⟨_, τc, τr, m, rfl, rfl, Or.inl ⟨a', b', rfl, by omega, g3⟩⟩
    · rw [g1, g2, bnd2_s, Option.bind_some, if_neg (by decide), lw2_s, fX6_text_24, g3.w, if_neg (by decide)]
      exact ⟨_, τc, τr, m, rfl, rfl, Or.inr ⟨g3, rfl⟩⟩
theorem neg_a : ∀ a, a < 121 → (-1 - nI a : Int32) < 0 := by decide +kernel
theorem st_text : StI Inv fX5_text fX6_text := by
  intro σc σr hI
  obtain ⟨⟨hR, hW, hTo, hTr⟩, hK, ⟨q1, q2, q3⟩, hS, hF⟩ := hI
  obtain ⟨t, ht, et⟩ := q2
  obtain ⟨uc, e1, e2, e3, e4⟩ := takeOver_R (r := 11) (Or.inr (by decide)) hR hW
  have f1 : cpR σr 1 3 73 1 = σr 1 := cpR_n σr 1 (by decide)
  have f0 : cpR σr 1 3 73 0 = σr 0 := cpR_n σr 1 (by decide)
  have f7 : cpR σr 1 3 73 7 = σr 7 := cpR_n σr 1 (by decide)
  have f3 := cpR_v σr 1 3
  have fn : ∀ k, k ≠ 3 → cpR σr 1 3 73 k = σr k := fun k hk => cpR_n σr 1 hk
  have hl : fX6_lends σr = some (cpR σr 1 3 73) := by rw [fX6_lends, r_become (by decide), Option.bind_some]
  generalize hur : cpR σr 1 3 73 = ur at *
  have hRM : RM uc ur := by
    unfold RM
    rw [f1, e3]
    exact ⟨e2, hW, hTo, hTr⟩
  have hT0 : TPb t (up2 uc 34 4 0) (up2 (up2 ur 0 13 0) 0 12 0) := by
    refine ⟨?_, ?_, ht, ?_⟩
    · rw [up2_j (by decide), e4 34 (by omega)]; exact q1.trans et
    · rw [up2_j (by decide), up2_j (by decide), f0]; exact et
    · rw [up2_n (by decide), up2_n (by decide), up2_n (by decide), e4 35 (by omega), f7]; exact q3
  obtain ⟨a, b, vc, vr, s1, s2, s3, -, s5, s6⟩ := step_e (b0 := 0) hT0 (by rw [up2_e]; rfl) (by rw [up2_e]; rfl) (by omega)
  have hD : RD t a b uc ur vc vr := by
    refine ⟨s3, ?_, fun k z1 z2 => ?_, ⟨fun k z1 z2 => ?_, fun j z1 z2 z3 => ?_⟩, hRM.cong (fun k z1 z2 => ?_) ?_⟩
    · rw [s6.2 13 (by decide) (by decide), up2_j (by decide), up2_e]
    · rw [s5.1 k z2, up2_n z2]
    · rw [s6.1 k z1, up2_n z1, up2_n z1]
    · rw [s6.2 j z1 z2, up2_j z2, up2_j z3]
    · rw [s5.1 k (by omega), up2_n (by omega)]
    · rw [s6.1 1 (by decide), up2_n (by decide), up2_n (by decide)]
  obtain ⟨v, wc, s, m, k1, k2, k3⟩ := text_l FU 1 a b vc vr hD (Nat.le_refl _) (by omega) (Nat.lt_trans (by decide) FU_gt)
  have k1' : lw2 (fX3_readInto_11 11) FU 1 vc = some (v, wc) := k1
  have k2' : ((fX6_item vr).bind fun s => lw2 (fX6_text_24) FU 1 s) = fX6_text_63 (nI m) s := k2
  rw [fX5_text, fX6_text, e1, hl, Option.bind_some, Option.bind_some, fX3_readInto]
  simp only [pb_e]
  rw [s1, s2, Option.bind_some, Option.bind_some, k1', k2', bnd2_s, fX6_text_63, pb_e]
  have tail : ∀ (xc xr : Mem), InvL xc xr → (∀ k, 10 < k → k < 11 ∨ 20 < k → k ≠ 34 → xc k = σc k) → xc 0 = σc 0 → xc 34 1 = 0 → (∀ k, k ≠ 0 → k ≠ 1 → k ≠ 3 → xr k = σr k) → xr 0 3 = σr 0 3 → xr 0 10 = 0 → Inv xc xr := by
    intro xc xr hL h1 h0 h34 h2 h03 h010
    refine ⟨hL, hK.cong (fun k z1 z2 => h1 k (by omega) (by omega) (by omega)) (by rw [h0]) (h2 2 (by decide) (by decide) (by decide)) h03, ⟨?_, ?_, ?_⟩, hS.cong (fun k z1 z2 => h1 k (by omega) (by omega) (by omega)) (h2 8 (by decide) (by decide) (by decide)) (h2 9 (by decide) (by decide) (by decide)) (h2 10 (by decide) (by decide) (by decide)), hF.cong (h1 45 (by omega) (by omega) (by omega)) (h2 4 (by decide) (by decide) (by decide))⟩
    · rw [h34, h010]
    · rw [h010]; exact ⟨0, by omega, rfl⟩
    · rw [h1 35 (by omega) (by omega) (by omega), h2 7 (by decide) (by decide) (by decide)]; exact q3
  rcases k3 with ⟨a2, b2, rfl, hm, hD2⟩ | ⟨hw, rfl⟩
  · obtain ⟨-, h13, hC, hRF, hM⟩ := hD2
    have hRw : RmR (up2 wc 34 1 0) 11 (s 1) := hM.1.cong (fun k z1 z2 => up2_n (by omega))
    obtain ⟨xc, p1, p2, p3, p4⟩ := takeOver_R (r := 1) (r1 := 11) (Or.inl (by decide)) hRw hM.2.1
    rw [if_neg (nI_pos (by omega)), up2_j (show (13 : Nat) ≠ 10 by decide), h13, if_pos rfl, p1, Option.bind_some]
    refine ⟨_, _, _, rfl, rfl, tail xc _ ?_ (fun k z1 z2 z3 => ?_) ?_ ?_ (fun k z1 z2 z3 => ?_) ?_ (up2_e _ _ _ _)⟩
    · unfold InvL
      rw [up2_n (by decide), p3, up2_n (by decide)]
      exact ⟨p2, hM.2.1, hM.2.2.1, hM.2.2.2⟩
    · rw [p4 k (by omega), up2_n z3, hC k z2 z3, e4 k (by omega)]
    · rw [p4 0 (by omega), up2_n (by decide), hC 0 (by omega) (by decide), e4 0 (by omega)]
    · rw [p4 34 (by omega), up2_e]
    · rw [up2_n z1, hRF.1 k z1 z2, fn k z3]
    · rw [up2_j (by decide), hRF.2 3 (by decide) (by decide) (by decide), f0]
  · obtain ⟨a2, b2, h1, h2, h3, h4, h5, h6, h7, h8, hC, hRF⟩ := hw
    have g3 : ∀ q, q < 73 → cpR (up2 s 0 10 0) 3 1 73 1 q = σr 1 q := fun q hq => by
      rw [cpR_v _ 3 1 q hq, up2_n (by decide), hRF.1 3 (by decide) (by decide)]; exact f3 q hq
    rw [h3, if_pos (neg_a a2 (by omega)), up2_j (show (13 : Nat) ≠ 10 by decide), h6, if_neg (by decide), fX6_laysBack, r_become (by decide), Option.bind_some, Option.bind_some, cpR_n _ _ (show (0 : Nat) ≠ 1 by decide), up2_j (show (11 : Nat) ≠ 10 by decide), h4]
    refine ⟨_, _, _, rfl, rfl, tail _ _ ?_ (fun k z1 z2 z3 => ?_) ?_ (up2_e _ _ _ _) (fun k z1 z2 z3 => ?_) ?_ ?_⟩
    · have hc : ∀ k, 1 ≤ k → k ≤ 10 → up2 wc 34 1 0 k = σc k := fun k z1 z2 => by rw [up2_n (by omega), hC k (by omega) (by omega), e4 k (by omega)]
      refine ⟨(hR.cong (fun k z1 z2 => hc k (by omega) (by omega))).vec hW g3, hW.vec g3, ?_, ?_⟩
      · rw [g3 3 (by decide), hc 1 (by omega) (by omega)]; exact hTo
      · rw [g3 3 (by decide)]; exact hTr
    · rw [up2_n z3, hC k z2 z3, e4 k (by omega)]
    · rw [up2_n (by decide), hC 0 (by omega) (by decide), e4 0 (by omega)]
    · rw [cpR_n _ _ z2, up2_n z1, hRF.1 k z1 z2, fn k z3]
    · rw [cpR_n _ _ (by decide), up2_j (by decide), hRF.2 3 (by decide) (by decide) (by decide), f0]
    · rw [cpR_n _ _ (by decide), up2_e]
