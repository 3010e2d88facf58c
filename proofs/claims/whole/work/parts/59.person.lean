/-! text: persons, jokes, laws -/
def OUT (t a : Nat) (c0 r0 : Mem) (f : Option (Bool × Mem)) (g : Option Mem) : Prop := (∃ τc τr a' b', f = some (true, τc) ∧ g = some τr ∧ RD t a' b' c0 r0 τc τr ∧ a < a') ∨ (∃ τc τr, f = some (false, τc) ∧ g = some τr ∧ WG t c0 r0 τc τr)
theorem rmp_w {σ : Mem} {a : Vec} (h : RmP σ 11 a) {p w : Nat} (hp : p < 8) (hw : w < 5) : σ (11 + 1 + w) p = it a p w := by
  obtain ⟨h0, h1, h2, h3, h4⟩ := h p hp
  rcases (show w = 0 ∨ w = 1 ∨ w = 2 ∨ w = 3 ∨ w = 4 by omega) with rfl | rfl | rfl | rfl | rfl
  · exact h0
  · exact h1
  · exact h2
  · exact h3
  · exact h4
theorem part_w {t a b : Nat} {c0 r0 σc σr : Mem} (h : RD t a b c0 r0 σc σr) {i p w : Nat} (hi : i < 14) (hp : p < 8) (hw : w < 5) (hw2 : 2 ≤ w) : (∃ τc τr a' b', fX3_readPart i (nI (bdW w)) (σc (11 + 1 + w) p) σc = some (true, τc) ∧ fX6_partTold (nI p) i (nI w) (nI (bdW w)) σr = some τr ∧ RD t a' b' c0 r0 (up2 τc (11 + 1 + w) p (τc 34 6)) τr ∧ a ≤ a') ∨ (∃ τc τr, fX3_readPart i (nI (bdW w)) (σc (11 + 1 + w) p) σc = some (false, τc) ∧ fX6_partTold (nI p) i (nI w) (nI (bdW w)) σr = some τr ∧ WG t c0 r0 τc τr) := by
  have hM := h.2.2.2.2
  rw [rmp_w hM.1.2.2.1 hp hw]
  rcases part_e h hi hp hw with ⟨v, τc, τr, a', b', g1, g2, g3, g4, g5, g6, g7, g8, g9, g10⟩ | g
  · left
    have hR : RmR τc 11 (σr 1) := hM.1.cong (fun k z1 z2 => g7 k (by omega))
    obtain ⟨q1, q2⟩ := tr_part hR hM.2.1 hp hw (by omega) g4
    refine ⟨τc, τr, a', b', g1, g2, ?_, g6⟩
    rw [g3]
    exact h.part g5 g7 g8 g9 g10 (by omega) (fun k hk => up2_n (by omega)) q1 q2 (by rw [up2_n (by omega)])
  · exact Or.inr g
theorem tr_seat2 {σ : Mem} {a : Vec} {p c : Nat} (hR : RmX σ 11 a) (hW : WFv a) (hp : p < 8) (hc : c ≤ 15) : ∃ τ, fX1_setSeat 11 (nI p) (nI c) σ = some τ ∧ RmR τ 11 (upd a (23 + 5 * p + 1) (nI c)) ∧ WFv (upd a (23 + 5 * p + 1) (nI c)) ∧ ∀ k, k ≠ 13 → k ≠ 17 → τ k = σ k := by
  have hw : WFv (upd a (23 + 5 * p + 1) (nI c)) := hW.pw hp (by decide) ⟨c, hc, rfl⟩
  have hx : RmX (up2 σ 13 p (nI c)) 11 (upd a (23 + 5 * p + 1) (nI c)) := hR.p hp (w := 1) (by decide) (nI c)
  obtain ⟨τ, e1, e2, e3⟩ := renew hw hx
  refine ⟨τ, ?_, e2, hw, fun k h1 h2 => (e3 k (by omega)).trans (up2_n h1)⟩
  rw [fX1_setSeat, gd_t (inB_n hp (by decide)), nI_clamp (by omega), pb_e, e1, Option.bind_some]
theorem part_s {t a b : Nat} {c0 r0 σc σr : Mem} (h : RD t a b c0 r0 σc σr) {i p : Nat} (hi : i < 14) (hp : p < 8) : (∃ τc τr υc a' b', fX3_readPart i (nI (bdW 1)) (σc (11 + 1 + 1) p) σc = some (true, τc) ∧ fX6_partTold (nI p) i (nI 1) (nI (bdW 1)) σr = some τr ∧ fX1_setSeat 11 (nI p) (τc 34 6) τc = some υc ∧ RD t a' b' c0 r0 υc τr ∧ a ≤ a') ∨ (∃ τc τr, fX3_readPart i (nI (bdW 1)) (σc (11 + 1 + 1) p) σc = some (false, τc) ∧ fX6_partTold (nI p) i (nI 1) (nI (bdW 1)) σr = some τr ∧ WG t c0 r0 τc τr) := by
  have hM := h.2.2.2.2
  rw [rmp_w hM.1.2.2.1 hp (by decide)]
  rcases part_e h hi hp (w := 1) (by decide) with ⟨v, τc, τr, a', b', g1, g2, g3, g4, g5, g6, g7, g8, g9, g10⟩ | g
  · left
    have hR : RmR τc 11 (σr 1) := hM.1.cong (fun k z1 z2 => g7 k (by omega))
    obtain ⟨c, hc, rfl⟩ := g4
    obtain ⟨υc, q1, q2, q3, q4⟩ := tr_seat2 (c := c) hR.x hM.2.1 hp hc
    refine ⟨τc, τr, υc, a', b', g1, g2, ?_, ?_, g6⟩
    · rw [g3]; exact q1
    · exact h.part g5 g7 g8 g9 g10 (by omega) (fun k hk => q4 k (by omega) (by omega)) q2 q3 (by rw [q4 11 (by omega) (by omega)])
  · exact Or.inr g
theorem person_e {t a b : Nat} {c0 r0 σc σr : Mem} (h : RD t a b c0 r0 σc σr) {k : Nat} (hk : k ≤ 6) (hab : a < b) : OUT t a c0 r0 (fX3_readPerson 11 (nI k) σc) (fX6_personTold (nI k) σr) := by
  have hM := h.2.2.2.2
  obtain ⟨hN, h8⟩ := hM.2.1.p
  have c0e : σc 11 0 = nI (nP (σr 1)) := hM.1.1.2.2.2.2.1.trans hN
  rw [fX3_readPerson, fX6_personTold, c0e, hN]
  by_cases h3 : nP (σr 1) = 8
  · right
    rw [h3, if_neg (by decide), if_pos (by decide), fX6_personTold_17, gd_t (Or.inl rfl), show (decide ((0 : Int32) = 1)) = false from rfl, must_f h.2.1, Option.bind_some, up2_e, if_neg (by decide)]
    exact ⟨σc, _, rfl, rfl, h.fail⟩
  · have hn8 : nP (σr 1) < 8 := by omega
    obtain ⟨a1, b1, uc, ur, s1, s2, s3, s4, s5, s6⟩ := h.step
    have eu1 : ur 1 = σr 1 := s6.1 1 (by decide)
    obtain ⟨vc, vr, p1, p2, p3, p4, p5⟩ := add_e s3.2.2.2.2 hk (by rw [eu1]; exact hn8)
    rw [eu1] at p1 p2
    have hD := s3.rm p3 p4 p5
    rw [if_pos (show nI (nP (σr 1)) < (8 : Int32) from nI_lt (b := 8) hn8 (by decide)), if_neg (show ¬ (8 : Int32) ≤ nI (nP (σr 1)) from nle_n (b := 8) hn8 (by decide)), fX6_personTold_17, gd_t (Or.inr rfl), show (decide ((1 : Int32) = 1)) = true from rfl, must_t h.2.1, s1, s2, Option.bind_some, Option.bind_some, s3.2.1, if_pos rfl, p1, p2, bnd2_s, bnd2_s]
    generalize nP (σr 1) = N at *
    simp only [gd_t (inB_n hn8 (show 8 < 2 ^ 31 by decide)), nI_clamp (show N < 2 ^ 31 by omega), pb_e]
    rcases part_s hD (i := 10) (p := N) (by decide) hn8 with ⟨τ1, r1, υ1, a2, b2, g1, g2, g3, g4, g5⟩ | ⟨τ1, r1, g1, g2, g3⟩
    case inr =>
      right
      have g1' : fX3_readPart 10 15 (vc (11 + 2) N) vc = some (false, τ1) := g1
      have g2' : fX6_partTold (nI N) 10 1 15 vr = some r1 := g2
      rw [g1', g2', bnd2_s, if_neg (by decide), Option.bind_some, w_part g3.w, Option.bind_some, w_part g3.w, Option.bind_some, w_part g3.w, Option.bind_some]
      exact ⟨τ1, r1, rfl, rfl, g3⟩
    have g1' : fX3_readPart 10 15 (vc (11 + 2) N) vc = some (true, τ1) := g1
    have g2' : fX6_partTold (nI N) 10 1 15 vr = some r1 := g2
    rw [g1', g2', bnd2_s, if_pos rfl, Option.bind_some, g3, Option.bind_some]
    rcases part_w g4 (i := 11) (p := N) (w := 2) (by decide) hn8 (by decide) (by decide) with ⟨τ2, r2, a3, b3, k1, k2, k3, k4⟩ | ⟨τ2, r2, k1, k2, k3⟩
    case inr =>
      right
      have k1' : fX3_readPart 11 63 (υ1 (11 + 3) N) υ1 = some (false, τ2) := k1
      have k2' : fX6_partTold (nI N) 11 2 63 r1 = some r2 := k2
      rw [k1', k2', bnd2_s, if_neg (by decide), Option.bind_some, w_part k3.w, Option.bind_some, w_part k3.w, Option.bind_some]
      exact ⟨τ2, r2, rfl, rfl, k3⟩
    have k1' : fX3_readPart 11 63 (υ1 (11 + 3) N) υ1 = some (true, τ2) := k1
    have k2' : fX6_partTold (nI N) 11 2 63 r1 = some r2 := k2
    rw [k1', k2', bnd2_s, if_pos rfl, Option.bind_some]
    have k3' : RD t a3 b3 c0 r0 (up2 τ2 (11 + 3) N (τ2 34 6)) r2 := k3
    rcases part_w k3' (i := 12) (p := N) (w := 3) (by decide) hn8 (by decide) (by decide) with ⟨τ3, r3, a4, b4, l1, l2, l3, l4⟩ | ⟨τ3, r3, l1, l2, l3⟩
    case inr =>
      right
      have l1' : fX3_readPart 12 9 (up2 τ2 (11 + 3) N (τ2 34 6) (11 + 4) N) (up2 τ2 (11 + 3) N (τ2 34 6)) = some (false, τ3) := l1
      have l2' : fX6_partTold (nI N) 12 3 9 r2 = some r3 := l2
      rw [l1', l2', bnd2_s, if_neg (by decide), Option.bind_some, w_part l3.w, Option.bind_some]
      exact ⟨τ3, r3, rfl, rfl, l3⟩
    have l1' : fX3_readPart 12 9 (up2 τ2 (11 + 3) N (τ2 34 6) (11 + 4) N) (up2 τ2 (11 + 3) N (τ2 34 6)) = some (true, τ3) := l1
    have l2' : fX6_partTold (nI N) 12 3 9 r2 = some r3 := l2
    rw [l1', l2', bnd2_s, if_pos rfl, Option.bind_some]
    have l3' : RD t a4 b4 c0 r0 (up2 τ3 (11 + 4) N (τ3 34 6)) r3 := l3
    rcases part_w l3' (i := 13) (p := N) (w := 4) (by decide) hn8 (by decide) (by decide) with ⟨τ4, r4, a5, b5, m1, m2, m3, m4⟩ | ⟨τ4, r4, m1, m2, m3⟩
    case inr =>
      right
      have m1' : fX3_readPart 13 9999 (up2 τ3 (11 + 4) N (τ3 34 6) (11 + 5) N) (up2 τ3 (11 + 4) N (τ3 34 6)) = some (false, τ4) := m1
      have m2' : fX6_partTold (nI N) 13 4 9999 r3 = some r4 := m2
      rw [m1', m2', bnd2_s, if_neg (by decide), Option.bind_some]
      exact ⟨τ4, r4, rfl, rfl, m3⟩
    have m1' : fX3_readPart 13 9999 (up2 τ3 (11 + 4) N (τ3 34 6) (11 + 5) N) (up2 τ3 (11 + 4) N (τ3 34 6)) = some (true, τ4) := m1
    have m2' : fX6_partTold (nI N) 13 4 9999 r3 = some r4 := m2
    rw [m1', m2', bnd2_s, if_pos rfl, Option.bind_some]
    exact Or.inl ⟨_, _, a5, b5, rfl, rfl, m3, by omega⟩
theorem addJ_e {σc σr : Mem} (h : RM σc σr) {x y : Nat} (hx : x ≤ 63) (hy : y ≤ 9) (hn : nJ (σr 1) < 8) : ∃ τc τr, fX1_addJoke 11 (nI x) (nI y) σc = some (nI (nJ (σr 1)), τc) ∧ fX6_addsJoke (nI x) (nI y) σr = some (nI (nJ (σr 1)), τr) ∧ RM τc τr ∧ (∀ q, (q < 11 ∨ 20 < q) → τc q = σc q) ∧ (∀ q, q ≠ 1 → τr q = σr q) := by
  obtain ⟨hR, hW, hT, hTr⟩ := h
  obtain ⟨hN, h8⟩ := hW.j
  have e7 : σc 11 7 = nI (nJ (σr 1)) := hR.1.2.2.2.2.2.trans hN
  rw [fX1_addJoke, fX6_addsJoke]
  simp only [pb_e, e7, hN]
  generalize hnn : nJ (σr 1) = n at *
  rw [jk_0, nI_1, nI_1, nI_clamp (show n < 2 ^ 31 by omega), nI_clamp (show 7 + 2 * n < 2 ^ 31 by omega), nI_clamp (show 7 + 2 * n + 1 < 2 ^ 31 by omega), gd_t (inB_n (show n < 8 by omega) (by decide)), gd_t (inB_n (show n < 8 by omega) (by decide)), gd_t (inB_n (show 7 + 2 * n < 73 by omega) (by decide)), gd_t (inB_n (show 7 + 2 * n + 1 < 73 by omega) (by decide))]
  refine ⟨_, _, rfl, rfl, ?_, fun q hq => ?_, fun q hq => ?_⟩
  · have x1 := ((hR.x.s 7 (by omega) (nI (n + 1))).j0 hn (nI x)).j1 hn (nI y)
    rw [show plc 7 = 6 from rfl] at x1
    have w1 := ((hW.n6 ⟨n + 1, by omega, rfl⟩ : WFv (upd (σr 1) 6 (nI (n + 1)))).j0 hn (v := nI x) ⟨x, hx, rfl⟩).j1 hn (v := nI y) ⟨y, hy, rfl⟩
    unfold RM
    rw [up2_s, up2_s, up2_s]
    refine ⟨hR.stay hW x1 ?_ ?_ ?_ (fun q hq => ?_), w1, ?_, ?_⟩
    · rw [up2_n (by omega), up2_n (by omega), up2_n (by omega)]
    · rw [pk_un (by omega), pk_un (by omega), pk_un (by omega)]
    · rw [pk_un (by omega), pk_un (by omega), pk_un (by omega)]
    · rw [it_lo (by omega), it_lo (by omega), it_lo (by omega)]
    · rw [up2_n (by omega), up2_n (by omega), up2_j (by omega), pk_un (by omega), pk_un (by omega), pk_un (by omega)]
      exact hT
    · rw [pk_un (by omega), pk_un (by omega), pk_un (by omega)]
      exact hTr
  · rw [up2_n (by omega), up2_n (by omega), up2_n (by omega)]
  · rw [up2_n (by omega), up2_n (by omega), up2_n (by omega)]
theorem joke_e {t a b : Nat} {c0 r0 σc σr : Mem} (h : RD t a b c0 r0 σc σr) (hab : a < b) : OUT t a c0 r0 (fX3_readJoke 11 σc) (fX6_jokeTold σr) := by
  have hM := h.2.2.2.2
  obtain ⟨hN, h8⟩ := hM.2.1.j
  have c0e : σc 11 7 = nI (nJ (σr 1)) := hM.1.1.2.2.2.2.2.trans hN
  rw [fX3_readJoke, fX6_jokeTold, c0e, hN]
  by_cases h3 : nJ (σr 1) = 8
  · right
    have hw := h.fail
    obtain ⟨v1, n1⟩ := hw.num 1 63
    obtain ⟨v2, n2⟩ := hw.num 0 9
    rw [h3, if_neg (by decide), if_pos (by decide), fX6_jokeTold_18, gd_t (Or.inl rfl), show (decide ((0 : Int32) = 1)) = false from rfl, must_f h.2.1, Option.bind_some, n1, bnd2_s, n2, bnd2_s, hw.w, if_neg (by decide)]
    exact ⟨σc, _, rfl, rfl, hw⟩
  · have hn8 : nJ (σr 1) < 8 := by omega
    obtain ⟨a1, b1, uc, ur, s1, s2, s3, s4, s5, s6⟩ := h.step
    rw [if_pos (show nI (nJ (σr 1)) < (8 : Int32) from nI_lt (b := 8) hn8 (by decide)), if_neg (show ¬ (8 : Int32) ≤ nI (nJ (σr 1)) from nle_n (b := 8) hn8 (by decide)), fX6_jokeTold_18, gd_t (Or.inr rfl), show (decide ((1 : Int32) = 1)) = true from rfl, must_t h.2.1, s1, s2, Option.bind_some, Option.bind_some]
    rcases s3.num (lo := 1) (hi := 63) (by decide) (by decide) with ⟨x, vc, vr, a2, b2, g1, g2, g3, g4, g5, g6, g7, g8, g9⟩ | ⟨x, g1, g2⟩
    case inr =>
      right
      have hw := s3.fail
      obtain ⟨v2, n2⟩ := hw.num 0 9
      have g1' : fX3_readNumber 1 63 uc = some (false, uc) := g1
      have g2' : fX6_numberRead 1 63 ur = some (x, up2 ur 0 13 1) := g2
      rw [g1', g2', bnd2_s, bnd2_s, if_neg (by decide), n2, bnd2_s, hw.w, if_neg (by decide)]
      exact ⟨uc, _, rfl, rfl, hw⟩
    have g1' : fX3_readNumber 1 63 uc = some (true, vc) := g1
    have g2' : fX6_numberRead 1 63 ur = some (nI x, vr) := g2
    rw [g1', g2', bnd2_s, bnd2_s, if_pos rfl, pb_e, g5]
    rcases g6.num (lo := 0) (hi := 9) (by decide) (by decide) with ⟨y, wc, wr, a3, b3, k1, k2, k3, k4, k5, k6, k7, k8, k9⟩ | ⟨y, k1, k2⟩
    case inr =>
      right
      have hw := g6.fail
      have k1' : fX3_readNumber 0 9 vc = some (false, vc) := k1
      have k2' : fX6_numberRead 0 9 vr = some (y, up2 vr 0 13 1) := k2
      rw [k1', k2', bnd2_s, bnd2_s, if_neg (by decide), hw.w, if_neg (by decide)]
      exact ⟨vc, _, rfl, rfl, hw⟩
    have k1' : fX3_readNumber 0 9 vc = some (true, wc) := k1
    have k2' : fX6_numberRead 0 9 vr = some (nI y, wr) := k2
    have ew1 : wr 1 = σr 1 := (k9.1 1 (by decide)).trans ((g9.1 1 (by decide)).trans (s6.1 1 (by decide)))
    obtain ⟨zc, zr, p1, p2, p3, p4, p5⟩ := addJ_e k6.2.2.2.2 g4 k4 (by rw [ew1]; exact hn8)
    rw [k1', k2', bnd2_s, bnd2_s, if_pos rfl, k5, k6.2.1, if_pos rfl, p1, p2, bnd2_s, bnd2_s]
    exact Or.inl ⟨_, _, a3, b3, rfl, rfl, k6.rm p3 p4 p5, by omega⟩
theorem rate_e {t a b : Nat} {c0 r0 σc σr : Mem} (h : RD t a b c0 r0 σc σr) (hab : a < b) : OUT t a c0 r0 (fX3_readRate 11 σc) ((fX6_next σr).bind fun s => bnd2 (fX6_numberRead 0 20 s) fun v s' => (pb (up2 s' 1 0 v : Mem) fun s_56 => some s_56)) := by
  obtain ⟨a1, b1, uc, ur, s1, s2, s3, s4, s5, s6⟩ := h.step
  rw [fX3_readRate, s1, s2, Option.bind_some, Option.bind_some]
  rcases s3.num (lo := 0) (hi := 20) (by decide) (by decide) with ⟨x, vc, vr, a2, b2, g1, g2, g3, g4, g5, g6, g7, g8, g9⟩ | ⟨x, g1, g2⟩
  · left
    have g1' : fX3_readNumber 0 20 uc = some (true, vc) := g1
    have g2' : fX6_numberRead 0 20 ur = some (nI x, vr) := g2
    rw [g1', g2', bnd2_s, bnd2_s, if_pos rfl, pb_e, pb_e, g5]
    refine ⟨_, _, a2, b2, rfl, rfl, g6.rm ?_ (fun q hq => up2_n (by omega)) (fun q hq => up2_n hq), by omega⟩
    obtain ⟨m1, m2, m3, m4⟩ := g6.2.2.2.2
    obtain ⟨q1, q2⟩ := tr_rate m1 m2 g4
    unfold RM
    rw [up2_s, up2_j (by decide), pk_un (by decide)]
    exact ⟨q1, q2, m3, m4⟩
  · right
    have g1' : fX3_readNumber 0 20 uc = some (false, uc) := g1
    have g2' : fX6_numberRead 0 20 ur = some (x, up2 ur 0 13 1) := g2
    rw [g1', g2', bnd2_s, bnd2_s, if_neg (by decide), pb_e]
    exact ⟨uc, _, rfl, rfl, s3.fail.row _ _⟩
theorem reach_e {t a b : Nat} {c0 r0 σc σr : Mem} (h : RD t a b c0 r0 σc σr) (hab : a < b) : OUT t a c0 r0 (fX3_readReach 11 σc) ((fX6_next σr).bind fun s => bnd2 (fX6_numberRead 0 15 s) fun v s' => (pb (up2 s' 1 1 v : Mem) fun s_83 => some s_83)) := by
  obtain ⟨a1, b1, uc, ur, s1, s2, s3, s4, s5, s6⟩ := h.step
  rw [fX3_readReach, s1, s2, Option.bind_some, Option.bind_some]
  rcases s3.num (lo := 0) (hi := 15) (by decide) (by decide) with ⟨x, vc, vr, a2, b2, g1, g2, g3, g4, g5, g6, g7, g8, g9⟩ | ⟨x, g1, g2⟩
  · left
    have g1' : fX3_readNumber 0 15 uc = some (true, vc) := g1
    have g2' : fX6_numberRead 0 15 ur = some (nI x, vr) := g2
    obtain ⟨m1, m2, m3, m4⟩ := g6.2.2.2.2
    have hw : WFv (upd (vr 1) 1 (nI x)) := m2.n1 ⟨x, g4, rfl⟩
    have hx : RmX (up2 vc 11 11 (nI x)) 11 (upd (vr 1) 1 (nI x)) := m1.x.s 11 (by omega) (nI x)
    obtain ⟨zc, e1, e2, e3⟩ := renew hw hx
    rw [g1', g2', bnd2_s, bnd2_s, if_pos rfl, pb_e, g5, fX1_setReach, pb_e, e1, Option.bind_some, Option.bind_some]
    refine ⟨_, _, a2, b2, rfl, rfl, g6.rm ?_ (fun q hq => by rw [e3 q (by omega), up2_n (by omega)]) (fun q hq => up2_n hq), by omega⟩
    unfold RM
    rw [up2_s, e3 11 (by omega), up2_j (by decide), pk_un (by decide)]
    exact ⟨e2, hw, m3, m4⟩
  · right
    have g1' : fX3_readNumber 0 15 uc = some (false, uc) := g1
    have g2' : fX6_numberRead 0 15 ur = some (x, up2 ur 0 13 1) := g2
    rw [g1', g2', bnd2_s, bnd2_s, if_neg (by decide), pb_e]
    exact ⟨uc, _, rfl, rfl, s3.fail.row _ _⟩
