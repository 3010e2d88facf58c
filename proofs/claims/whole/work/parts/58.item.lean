/-! text: what is read into the trial room -/
def CF (σ0 σ : Mem) : Prop := ∀ k, (k < 11 ∨ 20 < k) → k ≠ 34 → σ k = σ0 k
def RF (σ0 σ : Mem) : Prop := (∀ k, k ≠ 0 → k ≠ 1 → σ k = σ0 k) ∧ ∀ j, j ≠ 11 → j ≠ 12 → j ≠ 13 → σ 0 j = σ0 0 j
def RM (σc σr : Mem) : Prop := RmR σc 11 (σr 1) ∧ WFv (σr 1) ∧ σc 11 13 = σr 1 3 ∧ rng (σr 1 3) 99999
def RD (t a b : Nat) (c0 r0 σc σr : Mem) : Prop := TK t a b σc σr ∧ σr 0 13 = 0 ∧ CF c0 σc ∧ RF r0 σr ∧ RM σc σr
def WG (t : Nat) (c0 r0 σc σr : Mem) : Prop := ∃ a b, a ≤ b ∧ b ≤ 120 ∧ σc 34 3 = nI a ∧ σr 0 11 = nI a ∧ σr 0 12 = nI b ∧ σr 0 13 = 1 ∧ σr 0 10 = nI t ∧ t ≤ 120 ∧ CF c0 σc ∧ RF r0 σr
theorem RM.cong {σc σr τc τr : Mem} (h : RM σc σr) (ec : ∀ k, 11 ≤ k → k ≤ 20 → τc k = σc k) (er : τr 1 = σr 1) : RM τc τr := by
  obtain ⟨h1, h2, h3, h4⟩ := h
  unfold RM
  rw [er, ec 11 (by omega) (by omega)]
  exact ⟨h1.cong (fun k z1 z2 => ec k (by omega) (by omega)), h2, h3, h4⟩
theorem TK.cong {t a b : Nat} {σc σr τc τr : Mem} (h : TK t a b σc σr) (e1 : ∀ j, j < 6 → τc 34 j = σc 34 j) (e2 : τc 35 = σc 35) (e3 : ∀ j, j = 10 ∨ j = 11 ∨ j = 12 → τr 0 j = σr 0 j) (e4 : τr 7 = σr 7) : TK t a b τc τr := by
  have hby : by8 τr = by8 σr := by8_c e4
  unfold TK at *
  rw [e1 3 (by decide), e1 4 (by decide), e1 2 (by decide), e1 5 (by decide), e3 11 (by decide), e3 12 (by decide), hby]
  exact ⟨h.1.mv (e1 1 (by decide)) e2 (e3 10 (by decide)) e4, h.2⟩
theorem RD.mv {t a b a' b' : Nat} {c0 r0 σc σr τc τr : Mem} (h : RD t a b c0 r0 σc σr) (hk : TK t a' b' τc τr) (ec : ∀ q, q ≠ 34 → τc q = σc q) (er : FRt σr τr) : RD t a' b' c0 r0 τc τr := by
  obtain ⟨h1, h2, h3, h4, h5⟩ := h
  exact ⟨hk, by rw [er.2 13 (by decide) (by decide)]; exact h2, fun k z1 z2 => (ec k z2).trans (h3 k z1 z2), ⟨fun k z1 z2 => (er.1 k z1).trans (h4.1 k z1 z2), fun j z1 z2 z3 => (er.2 j z1 z2).trans (h4.2 j z1 z2 z3)⟩, h5.cong (fun k z1 z2 => ec k (by omega)) (er.1 1 (by decide))⟩
theorem RD.fail {t a b : Nat} {c0 r0 σc σr : Mem} (h : RD t a b c0 r0 σc σr) : WG t c0 r0 σc (up2 σr 0 13 1) := by
  obtain ⟨⟨hT, hab, hbt, e3, e11, e4, e12, -⟩, h2, h3, h4, h5⟩ := h
  have ht := hT.2.2.1
  refine ⟨a, b, hab, by omega, e3, by rw [up2_j (by decide)]; exact e11, by rw [up2_j (by decide)]; exact e12, up2_e _ _ _ _, by rw [up2_j (by decide)]; exact hT.2.1, ht, h3, ⟨fun k z1 z2 => by rw [up2_n z1]; exact h4.1 k z1 z2, fun j z1 z2 z3 => by rw [up2_j z3]; exact h4.2 j z1 z2 z3⟩⟩
theorem WG.row {t : Nat} {c0 r0 σc σr : Mem} (h : WG t c0 r0 σc σr) (i : Nat) (v : Int32) : WG t c0 r0 σc (up2 σr 1 i v) := by
  obtain ⟨a, b, h1, h2, h3, h4, h5, h6, h7, h8, h9, h10⟩ := h
  exact ⟨a, b, h1, h2, h3, by rw [up2_n (by decide)]; exact h4, by rw [up2_n (by decide)]; exact h5, by rw [up2_n (by decide)]; exact h6, by rw [up2_n (by decide)]; exact h7, h8, h9, ⟨fun k z1 z2 => by rw [up2_n z2]; exact h10.1 k z1 z2, fun j z1 z2 z3 => by rw [up2_n (by decide)]; exact h10.2 j z1 z2 z3⟩⟩
theorem WG.num {t : Nat} {c0 r0 σc σr : Mem} (h : WG t c0 r0 σc σr) (lo hi : Int32) : ∃ v, fX6_numberRead lo hi σr = some (v, σr) := by
  obtain ⟨a, b, h1, h2, h3, h4, h5, h6, h7, h8, -⟩ := h
  exact w_num h7 h8 h4 h5 h1 h2 h6
theorem WG.w {t : Nat} {c0 r0 σc σr : Mem} (h : WG t c0 r0 σc σr) : σr 0 13 = 1 := by
  obtain ⟨a, b, h1, h2, h3, h4, h5, h6, -⟩ := h
  exact h6
theorem w_word {σ : Mem} (h : σ 0 13 = 1) (i : Nat) : fX6_isWord i σ = some false := by
  obtain ⟨n, hn, hn2⟩ := FU_s
  rw [fX6_isWord, h, if_neg (by decide), hn, lw2_s, fX6_isWord_31, if_pos rfl, gd_t (Or.inl rfl)]
  rfl
theorem w_takes {σ : Mem} (h : σ 0 13 = 1) (i : Nat) : fX6_takes i σ = some (false, σ) := by
  rw [fX6_takes, w_word h, Option.bind_some, if_neg (by decide)]
theorem w_part {σ : Mem} (h : σ 0 13 = 1) (x1 : Int32) (i : Nat) (x3 x4 : Int32) : fX6_partTold x1 i x3 x4 σ = some σ := by
  rw [fX6_partTold, w_takes h, bnd2_s, if_neg (by decide)]
theorem RD.step {t a b : Nat} {c0 r0 σc σr : Mem} (h : RD t a b c0 r0 σc σr) : ∃ a' b' τc τr, fX3_step σc = some τc ∧ fX6_next σr = some τr ∧ RD t a' b' c0 r0 τc τr ∧ b ≤ a' ∧ (∀ q, q ≠ 34 → τc q = σc q) ∧ FRt σr τr := by
  obtain ⟨hT, hab, hbt, e3, e11, e4, e12, -⟩ := h.1
  obtain ⟨a', b', τc, τr, g1, g2, g3, g4, g5, g6⟩ := step_e hT e4 e12 hbt
  exact ⟨a', b', τc, τr, g1, g2, h.mv g3 g5.1 g6, g4, g5.1, g6⟩
theorem RD.num {t a b lo hi : Nat} {c0 r0 σc σr : Mem} (h : RD t a b c0 r0 σc σr) (hlo : lo ≤ 1) (hhi : hi ≤ 9999) : (∃ v τc τr a' b', fX3_readNumber (nI lo) (nI hi) σc = some (true, τc) ∧ fX6_numberRead (nI lo) (nI hi) σr = some (nI v, τr) ∧ lo ≤ v ∧ v ≤ hi ∧ τc 34 6 = nI v ∧ RD t a' b' c0 r0 τc τr ∧ a ≤ a' ∧ (∀ q, q ≠ 34 → τc q = σc q) ∧ FRt σr τr) ∨ (∃ v, fX3_readNumber (nI lo) (nI hi) σc = some (false, σc) ∧ fX6_numberRead (nI lo) (nI hi) σr = some (v, up2 σr 0 13 1)) := by
  have hab := h.1.2.1
  rcases num_e (lo := lo) (hi := hi) h.1 h.2.1 hlo hhi with ⟨v, τc, τr, a', b', g1, g2, g3, g4, g5, g6, g7, g8, g9⟩ | g
  · exact Or.inl ⟨v, τc, τr, a', b', g1, g2, g3, g4, g5, h.mv g6 g8 g9, by omega, g8, g9⟩
  · exact Or.inr g
theorem b2ig {β : Type} (f : Option (β × Mem)) : bnd2 f (fun v s => some (v, s)) = f := by cases f <;> rfl
theorem WFv.rg {a : Vec} (h : WFv a) {p w : Nat} (hp : p < 8) (hw : w < 5) : rng (it a p w) (bdW w) := by
  obtain ⟨h0, h1, h2, h3, h4⟩ := h.2.2.1 p hp
  rcases (show w = 0 ∨ w = 1 ∨ w = 2 ∨ w = 3 ∨ w = 4 by omega) with rfl | rfl | rfl | rfl | rfl
  · exact h0
  · exact h1
  · exact h2
  · exact h3
  · exact h4
theorem bdW_le {w : Nat} (hw : w < 5) : bdW w ≤ 9999 := by
  rcases (show w = 0 ∨ w = 1 ∨ w = 2 ∨ w = 3 ∨ w = 4 by omega) with rfl | rfl | rfl | rfl | rfl <;> decide
theorem part_e {t a b : Nat} {c0 r0 σc σr : Mem} (h : RD t a b c0 r0 σc σr) {i p w : Nat} (hi : i < 14) (hp : p < 8) (hw : w < 5) : (∃ v τc τr a' b', fX3_readPart i (nI (bdW w)) (it (σr 1) p w) σc = some (true, τc) ∧ fX6_partTold (nI p) i (nI w) (nI (bdW w)) σr = some τr ∧ τc 34 6 = v ∧ rng v (bdW w) ∧ TK t a' b' τc τr ∧ a ≤ a' ∧ (∀ q, q ≠ 34 → τc q = σc q) ∧ (∀ q, q ≠ 0 → q ≠ 1 → τr q = σr q) ∧ (∀ j, j ≠ 11 → j ≠ 12 → τr 0 j = σr 0 j) ∧ τr 1 = upd (σr 1) (23 + 5 * p + w) v) ∨ (∃ τc τr, fX3_readPart i (nI (bdW w)) (it (σr 1) p w) σc = some (false, τc) ∧ fX6_partTold (nI p) i (nI w) (nI (bdW w)) σr = some τr ∧ WG t c0 r0 τc τr) := by
  obtain ⟨v, w1, w2, w3⟩ := word_e h.1 h.2.1 hi
  rw [fX3_readPart, fX6_partTold, fX6_takes, w1, w2, Option.bind_some, Option.bind_some]
  cases v with
  | false =>
    left
    rw [if_neg (by decide), if_neg (by decide), bnd2_s, if_neg (by decide), pb_e]
    refine ⟨it (σr 1) p w, _, _, a, b, rfl, rfl, up2_e _ _ _ _, h.2.2.2.2.2.1.rg hp hw, h.1.cong (fun j hj => up2_j (by omega)) (up2_n (by decide)) (fun _ _ => rfl) rfl, Nat.le_refl _, fun q hq => up2_n hq, fun _ _ _ => rfl, fun _ _ _ => rfl, (upd_self _ _).symm⟩
  | true =>
    obtain ⟨a1, b1, uc, ur, s1, s2, s3, s4, s5, s6⟩ := h.step
    have hab := h.1.2.1
    have h0 : (0 : Int32) = nI 0 := rfl
    rw [if_pos rfl, if_pos rfl, s1, s2, Option.bind_some, Option.bind_some, bnd2_s, if_pos rfl, b2ig, h0]
    rcases s3.num (lo := 0) (hi := bdW w) (by decide) (bdW_le hw) with ⟨x, τc, τr, a', b', g1, g2, g3, g4, g5, g6, g7, g8, g9⟩ | ⟨x, g1, g2⟩
    · left
      rw [g1, g2, bnd2_s, r_sets hp hw, Option.bind_some]
      refine ⟨nI x, _, _, a', b', rfl, rfl, g5, ⟨x, g4, rfl⟩, g6.1.cong (fun _ _ => rfl) rfl (fun j hj => by rw [up2_n (by decide)]) (up2_n (by decide)), by omega, fun q hq => (g8 q hq).trans (s5 q hq), fun q z1 z2 => by rw [up2_n z2, g9.1 q z1, s6.1 q z1], fun j z1 z2 => by rw [up2_n (by decide), g9.2 j z1 z2, s6.2 j z1 z2], ?_⟩
      rw [up2_s, g9.1 1 (by decide), s6.1 1 (by decide)]
    · right
      rw [g1, g2, bnd2_s, r_sets hp hw, Option.bind_some]
      exact ⟨uc, _, rfl, rfl, (s3.fail).row _ _⟩
/-- the class's write after a part -/
theorem RD.part {t a b : Nat} {c0 r0 σc σr τc τr υc : Mem} (h : RD t a b c0 r0 σc σr) {a' b' : Nat} {v : Int32} {i : Nat} (hk : TK t a' b' τc τr) (ec : ∀ q, q ≠ 34 → τc q = σc q) (er : ∀ q, q ≠ 0 → q ≠ 1 → τr q = σr q) (er0 : ∀ j, j ≠ 11 → j ≠ 12 → τr 0 j = σr 0 j) (e1 : τr 1 = upd (σr 1) i v) (hi3 : i ≠ 3) (hu : ∀ k, (k < 11 ∨ 20 < k) → υc k = τc k) (hR : RmR υc 11 (upd (σr 1) i v)) (hW : WFv (upd (σr 1) i v)) (h13 : υc 11 13 = τc 11 13) : RD t a' b' c0 r0 υc τr := by
  obtain ⟨h1, h2, h3, h4, m1, m2, m3, m4⟩ := h
  refine ⟨hk.cong (fun j _ => by rw [hu 34 (by omega)]) (hu 35 (by omega)) (fun _ _ => rfl) rfl, by rw [er0 13 (by decide) (by decide)]; exact h2, fun k z1 z2 => by rw [hu k z1, ec k z2]; exact h3 k z1 z2, ⟨fun k z1 z2 => (er k z1 z2).trans (h4.1 k z1 z2), fun j z1 z2 z3 => (er0 j z1 z2).trans (h4.2 j z1 z2 z3)⟩, ?_⟩
  unfold RM
  rw [e1, h13, ec 11 (by decide), pk_un (fun z => hi3 z.symm)]
  exact ⟨hR, hW, m3, m4⟩
theorem add_e {σc σr : Mem} (h : RM σc σr) {k : Nat} (hk : k ≤ 6) (hn : nP (σr 1) < 8) : ∃ τc τr, fX1_addPerson 11 (nI k) 0 σc = some (nI (nP (σr 1)), τc) ∧ fX6_adds (nI k) 0 σr = some (nI (nP (σr 1)), τr) ∧ RM τc τr ∧ (∀ q, (q < 11 ∨ 20 < q) → τc q = σc q) ∧ (∀ q, q ≠ 1 → τr q = σr q) := by
  obtain ⟨hR, hW, hT, hTr⟩ := h
  obtain ⟨hN, h8⟩ := hW.p
  have e7 : σc 11 0 = nI (nP (σr 1)) := hR.1.2.2.2.2.1.trans hN
  rw [fX1_addPerson, fX6_adds]
  simp only [pb_e, e7, hN]
  have hn0 : nP (σr 1) ≤ (nI (nP (σr 1) + 1)).toNatClampNeg := by rw [nI_clamp (by omega)]; omega
  generalize hnn : nP (σr 1) = n at *
  have s0 := fun v σ => r_sets (p := n) (w := 0) hn (by decide) v σ
  have s1 := fun v σ => r_sets (p := n) (w := 1) hn (by decide) v σ
  have s2 := fun v σ => r_sets (p := n) (w := 2) hn (by decide) v σ
  have s3 := fun v σ => r_sets (p := n) (w := 3) hn (by decide) v σ
  have s4 := fun v σ => r_sets (p := n) (w := 4) hn (by decide) v σ
  rw [show nI 0 = (0 : Int32) from rfl] at s0
  rw [show nI 1 = (1 : Int32) from rfl] at s1
  rw [show nI 2 = (2 : Int32) from rfl] at s2
  rw [show nI 3 = (3 : Int32) from rfl] at s3
  rw [show nI 4 = (4 : Int32) from rfl] at s4
  rw [nI_1, nI_clamp (show n < 2 ^ 31 by omega), gd_t (inB_n (show n < 8 by omega) (by decide)), gd_t (inB_n (show n < 8 by omega) (by decide)), gd_t (inB_n (show n < 8 by omega) (by decide)), gd_t (inB_n (show n < 8 by omega) (by decide)), gd_t (inB_n (show n < 8 by omega) (by decide)), s0, Option.bind_some, s1, Option.bind_some, s2, Option.bind_some, s3, Option.bind_some, s4, Option.bind_some]
  have x1 := (((((hR.x.s 0 (by omega) (nI (n + 1))).p hn (show 0 < 5 by decide) (nI k)).p hn (show 1 < 5 by decide) 0).p hn (show 2 < 5 by decide) 1).p hn (show 3 < 5 by decide) 3).p hn (show 4 < 5 by decide) 100
  rw [show plc 0 = 5 from rfl] at x1
  have w1 := (((((hW.n5 ⟨n + 1, by omega, rfl⟩ (by rw [hnn]; exact hn0) : WFv (upd (σr 1) 5 (nI (n + 1)))).pw hn (show 0 < 5 by decide) (v := nI k) ⟨k, hk, rfl⟩).pw hn (show 1 < 5 by decide) (v := 0) ⟨0, by decide, rfl⟩).pw hn (show 2 < 5 by decide) (v := 1) ⟨1, by decide, rfl⟩).pw hn (show 3 < 5 by decide) (v := 3) ⟨3, by decide, rfl⟩).pw hn (show 4 < 5 by decide) (v := 100) ⟨100, by decide, rfl⟩
  obtain ⟨τ, e1, e2, e3⟩ := renew w1 x1
  rw [e1, Option.bind_some]
  refine ⟨_, _, rfl, rfl, ?_, fun q hq => ?_, fun q hq => ?_⟩
  · unfold RM
    rw [up2_s, up2_s, up2_s, up2_s, up2_s, up2_s, e3 11 (by omega)]
    refine ⟨e2, w1, ?_, ?_⟩
    · rw [up2_n (by omega), up2_n (by omega), up2_n (by omega), up2_n (by omega), up2_n (by omega), up2_j (by omega), pk_un (by omega), pk_un (by omega), pk_un (by omega), pk_un (by omega), pk_un (by omega), pk_un (by omega)]
      exact hT
    · rw [pk_un (by omega), pk_un (by omega), pk_un (by omega), pk_un (by omega), pk_un (by omega), pk_un (by omega)]
      exact hTr
  · rw [e3 q (by omega), up2_n (by omega), up2_n (by omega), up2_n (by omega), up2_n (by omega), up2_n (by omega), up2_n (by omega)]
  · rw [up2_n (by omega), up2_n (by omega), up2_n (by omega), up2_n (by omega), up2_n (by omega), up2_n (by omega)]
theorem RD.rm {t a b : Nat} {c0 r0 σc σr τc τr : Mem} (h : RD t a b c0 r0 σc σr) (hm : RM τc τr) (ec : ∀ q, (q < 11 ∨ 20 < q) → τc q = σc q) (er : ∀ q, q ≠ 1 → τr q = σr q) : RD t a b c0 r0 τc τr := by
  obtain ⟨h1, h2, h3, h4, -⟩ := h
  exact ⟨h1.cong (fun j _ => by rw [ec 34 (by omega)]) (ec 35 (by omega)) (fun j _ => by rw [er 0 (by decide)]) (er 7 (by decide)), by rw [er 0 (by decide)]; exact h2, fun k z1 z2 => (ec k z1).trans (h3 k z1 z2), ⟨fun k z1 z2 => (er k z2).trans (h4.1 k z1 z2), fun j z1 z2 z3 => by rw [er 0 (by decide)]; exact h4.2 j z1 z2 z3⟩, hm⟩
