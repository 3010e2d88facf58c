def smV (g : Nat → Int32) : Nat → Int32
  | 0 => 0
  | p + 1 => smV g p + g p
theorem smV_cong {g h : Nat → Int32} : ∀ p, (∀ q, q < p → g q = h q) → smV g p = smV h p := by
  intro p
  induction p with
  | zero => intro _; rfl
  | succ p ih => intro e; rw [smV, smV, ih (fun q hq => e q (by omega)), e p (by omega)]
theorem tr_sm (a : Vec) (t f T : Int32) : ∀ p, trF a t f T p = a 2 + smV (pdF a t f T) p := by
  intro p
  induction p with
  | zero => rw [smV, Int32.add_zero]; rfl
  | succ p ih => rw [tr_1, ih, smV, Int32.add_assoc]
theorem sm_n {a : Vec} (hW : WFv a) (t f T : Int32) : ∀ p, p ≤ 8 → ∃ d, d ≤ 9999 * p ∧ smV (pdF a t f T) p = nI d := by
  intro p
  induction p with
  | zero => intro _; exact ⟨0, by omega, rfl⟩
  | succ p ih =>
    intro hp
    obtain ⟨d, hd, e⟩ := ih (by omega)
    obtain ⟨d2, y, e2, e3, h1, h2⟩ := pf_n hW t f T (p := p) (by omega)
    rw [smV, e, e2, nI_add]
    exact ⟨d + d2, by omega, rfl⟩
/-- what a telling leaves, and what it changes -/
def PF (r : Nat) (σc σr τc τr : Mem) : Prop :=
  (∀ k, k ≠ r → k ≠ r + 4 → k ≠ r + 5 → k ≠ 31 → k ≠ 32 → k ≠ 33 → τc k = σc k) ∧ (∀ k, k ≠ 0 → k ≠ 1 → k ≠ 5 → k ≠ 6 → τr k = σr k) ∧ (∀ j, j ≠ 6 → τr 0 j = σr 0 j) ∧ (∀ p, p < nP (σr 1) → τc 33 p = τr 6 p) ∧ (∀ i, i ≠ 2 → i ≠ 3 → (∀ q, q < 8 → i ≠ 23 + 5 * q + 3 ∧ i ≠ 23 + 5 * q + 4) → τr 1 i = σr 1 i) ∧ τr 1 3 = σr 1 3 + 1 ∧ τc r 13 = iMin 99999 (σc r 13 + 1) ∧ τr 1 2 = σr 1 2 + smV (τr 6) (nP (σr 1)) ∧ ∃ d, d ≤ 79992 ∧ smV (τr 6) (nP (σr 1)) = nI d
theorem perform_e {σc σr : Mem} {r : Nat} (hr : r + 9 < 31) (hR : RmR σc r (σr 1)) (hW : WFv (σr 1)) {j : Nat} (hj : j < 8) : ∃ T τc τr, fX4_perform r (nI j) σc = some (T, τc) ∧ fX6_tells (nI j) σr = some (T, τr) ∧ RmR τc r (τr 1) ∧ WFv (τr 1) ∧ PF r σc σr τc τr ∧ ∃ s, fX4_laughersOf r (nI j) σc = some (T, s) := by
  obtain ⟨T, uc, ur, f1, f2, f3, f4, f5, f6, f7⟩ := laughers_e hR hr hW rfl hj
  have hP8 := hW.p.2
  have e1 : ur 1 = σr 1 := f5.1 1 (by decide) (by decide)
  have hRu : RmR uc r (σr 1) := hR.cong (fun k _ _ => f4 k (by omega) (by omega))
  have hWu : WFv (ur 1) := by rw [e1]; exact hW
  rw [r_laughers hj] at f2
  generalize ht : σr 1 (7 + 2 * j) = t at *
  generalize hf : σr 1 (7 + 2 * j + 1) = f at *
  -- the class
  have hF : nP (σr 1) - 0 < FU := Nat.lt_trans (show nP (σr 1) - 0 < 10100 by omega) FU_gt
  obtain ⟨vc, g1, g2⟩ := c1_l (T := T) hr hRu hW hj FU 0 uc (by omega) hF (by
    refine ⟨fun _ _ _ _ => rfl, fun _ _ => rfl, hRu.1.2.2.1, fun q hq => ?_, fun q hq => by omega⟩
    rw [if_neg (by omega)]
    exact (hRu.2.2.1 q hq).2.2.2.2)
  rw [ht, hf] at g2
  obtain ⟨d0, d1, d2, d3, d4⟩ := g2
  have v0 : vc r 0 = σr 1 5 := (d1 0 (by decide)).trans hRu.1.2.2.2.2.1
  have v4 : vc (r + 4) = uc (r + 4) := d0 _ (by omega) (by omega) (by omega)
  obtain ⟨wc, g3, g4⟩ := c2_l (T := T) hW v0 FU 0 vc (by omega) hF (by
    refine ⟨fun _ _ => rfl, fun q hq => ?_⟩
    rw [if_neg (by omega), v4]
    exact (hRu.2.2.1 q hq).2.2.2.1)
  obtain ⟨m0, m1⟩ := g4
  -- the reference
  obtain ⟨vr, k1, k2⟩ := r1_l hWu t f T FU 0 ur (by omega) (by rw [e1]; exact hF) (by
    refine ⟨fun _ _ _ => rfl, ?_, fun q hq => by omega⟩
    funext i
    by_cases e : i = 2
    · rw [e, pk_us]; rfl
    · rw [pk_un e])
  rw [e1] at k2
  unfold R1 at k2
  rw [e1] at k2
  obtain ⟨r0, r1, r2⟩ := k2
  obtain ⟨wr, k3, k4⟩ := r2_l (t := t) (f := f) (T := T) hW r1 r2 FU 0 vr (by omega) hF ⟨fun _ _ => rfl, fun q hq => by omega, fun _ _ => rfl⟩
  obtain ⟨n0, n1, n2⟩ := k4
  have b2 : wr 1 2 = trF (σr 1) t f T (nP (σr 1)) := by rw [n2 2 (fun q _ => by omega), r1, pk_us]
  have bi : ∀ i, i ≠ 2 → (∀ q, q < nP (σr 1) → i ≠ 23 + 5 * q + 3 ∧ i ≠ 23 + 5 * q + 4) → wr 1 i = σr 1 i := fun i h2 hq => by rw [n2 i hq, r1, pk_un h2]
  have blo : ∀ i, i ≠ 2 → i < 26 → wr 1 i = σr 1 i := fun i h2 h3 => bi i h2 (fun q _ => by omega)
  have bhi : ∀ i, 63 ≤ i → wr 1 i = σr 1 i := fun i h2 => bi i (by omega) (fun q _ => by omega)
  have bp : ∀ p, p < 8 → ∀ w, w < 3 → it (wr 1) p w = it (σr 1) p w := fun p hp w hw => bi _ (by omega) (fun q _ => by omega)
  have bpo : ∀ p w, ¬ p < nP (σr 1) → w < 5 → it (wr 1) p w = it (σr 1) p w := fun p w hp hw => bi _ (by omega) (fun q _ => by omega)
  have h5 : (up2 wr 1 3 (wr 1 3 + 1)) 1 = upd (wr 1) 3 (wr 1 3 + 1) := up2_s _ _ _ _
  have o : ∀ i, i ≠ 3 → upd (wr 1) 3 (wr 1 3 + 1) i = wr 1 i := fun i hi => pk_un hi
  have oit : ∀ p w, it (upd (wr 1) 3 (wr 1 3 + 1)) p w = it (wr 1) p w := fun p w => it_lo (by omega)
  have hWf : WFv (upd (wr 1) 3 (wr 1 3 + 1)) := by
    obtain ⟨w5, w6, wp, wj, w0, w1, w2, wk⟩ := hW
    have hn : nP (upd (wr 1) 3 (wr 1 3 + 1)) = nP (σr 1) := by unfold nP; rw [o 5 (by decide), blo 5 (by decide) (by decide)]
    refine ⟨?_, ?_, fun p hp => ?_, fun q hq => ?_, ?_, ?_, ?_, fun k hk => ?_⟩
    · rw [o 5 (by decide), blo 5 (by decide) (by decide)]; exact w5
    · rw [o 6 (by decide), blo 6 (by decide) (by decide)]; exact w6
    · obtain ⟨x0, x1, x2, x3, x4⟩ := wp p hp
      unfold WFp
      rw [oit, oit, oit, oit, oit, bp p hp 0 (by decide), bp p hp 1 (by decide), bp p hp 2 (by decide)]
      refine ⟨x0, x1, x2, ?_, ?_⟩
      · by_cases hpn : p < nP (σr 1)
        · rw [(n1 p hpn).2]; exact md_n ⟨w5, w6, wp, wj, w0, w1, w2, wk⟩ T hp
        · rw [bpo p 3 hpn (by decide)]; exact x3
      · by_cases hpn : p < nP (σr 1)
        · rw [(n1 p hpn).1]
          obtain ⟨d, y, z1, z2, z3, z4⟩ := pf_n ⟨w5, w6, wp, wj, w0, w1, w2, wk⟩ t f T hp
          rw [z1, z2, pk_sub z3]
          exact ⟨_, by omega, rfl⟩
        · rw [bpo p 4 hpn (by decide)]; exact x4
    · unfold WFj
      rw [o _ (by omega), o _ (by omega), blo _ (by omega) (by omega), blo _ (by omega) (by omega)]; exact wj q hq
    · rw [o 0 (by decide), blo 0 (by decide) (by decide)]; exact w0
    · rw [o 1 (by decide), blo 1 (by decide) (by decide)]; exact w1
    · rw [o 2 (by decide), b2]; exact tr_n ⟨w5, w6, wp, wj, w0, w1, w2, wk⟩ t f T _ hP8
    · rw [o _ (by omega), bhi _ (by omega), hn]; exact wk k hk
  have wr' : wc r = vc r := m0 r (by omega)
  have w5' : wc (r + 5) = vc (r + 5) := m0 _ (by omega)
  have wk' : ∀ k, k ≠ r → k ≠ r + 4 → k ≠ r + 5 → k ≠ 33 → wc k = uc k := fun k h0 h1 h2 h3 => (m0 k h1).trans (d0 k h0 h2 h3)
  have hRf : RmR (up2 wc r 13 (iMin 99999 (wc r 13 + 1))) r (upd (wr 1) 3 (wr 1 3 + 1)) := by
    have hx : RmX (up2 wc r 13 (iMin 99999 (wc r 13 + 1))) r (upd (wr 1) 3 (wr 1 3 + 1)) := by
      obtain ⟨⟨s0, s1, s2, s4, s5, s6⟩, hJ, hP, hK, -⟩ := hRu
      refine ⟨⟨?_, ?_, ?_, ?_, ?_, ?_⟩, fun q hq => ?_, fun p hp => ?_, fun k hk => ?_⟩
      · rw [up2_j (by decide), wr', d1 _ (by decide), o 0 (by decide), blo 0 (by decide) (by decide)]; exact s0
      · rw [up2_j (by decide), wr', d1 _ (by decide), o 1 (by decide), blo 1 (by decide) (by decide)]; exact s1
      · rw [up2_j (by decide), wr', d2, o 2 (by decide), b2]
      · rw [up2_j (by decide), wr', d1 _ (by decide), o 4 (by decide), blo 4 (by decide) (by decide)]; exact s4
      · rw [up2_j (by decide), wr', d1 _ (by decide), o 5 (by decide), blo 5 (by decide) (by decide)]; exact s5
      · rw [up2_j (by decide), wr', d1 _ (by decide), o 6 (by decide), blo 6 (by decide) (by decide)]; exact s6
      · rw [up2_n (by omega), up2_n (by omega), wk' _ (by omega) (by omega) (by omega) (by omega), wk' _ (by omega) (by omega) (by omega) (by omega), o _ (by omega), o _ (by omega), blo _ (by omega) (by omega), blo _ (by omega) (by omega)]; exact hJ q hq
      · obtain ⟨x0, x1, x2, x3, x4⟩ := hP p hp
        rw [oit, oit, oit, oit, oit, bp p hp 0 (by decide), bp p hp 1 (by decide), bp p hp 2 (by decide)]
        rw [up2_n (by omega), up2_n (by omega), up2_n (by omega), up2_n (by omega), up2_n (by omega), wk' (r + 1) (by omega) (by omega) (by omega) (by omega), wk' (r + 2) (by omega) (by omega) (by omega) (by omega), wk' (r + 3) (by omega) (by omega) (by omega) (by omega), m1 p hp, w5', d3 p hp]
        refine ⟨x0, x1, x2, ?_, ?_⟩
        · by_cases hpn : p < nP (σr 1)
          · rw [if_pos hpn, (n1 p hpn).2]
          · rw [if_neg hpn, bpo p 3 hpn (by decide)]
        · by_cases hpn : p < nP (σr 1)
          · rw [if_pos hpn, (n1 p hpn).1]
          · rw [if_neg hpn, bpo p 4 hpn (by decide)]
      · rw [up2_n (by omega), wk' _ (by omega) (by omega) (by omega) (by omega), o _ (by omega), bhi _ (by omega)]; exact hK k hk
    refine hRu.stay hW hx ?_ ?_ ?_ (fun q hq => ?_)
    · rw [up2_n (by omega), wk' _ (by omega) (by omega) (by omega) (by omega)]
    · rw [o 5 (by decide), blo 5 (by decide) (by decide)]
    · rw [o 1 (by decide), blo 1 (by decide) (by decide)]
    · rw [oit, bp q hq 1 (by decide)]
  refine ⟨T, up2 wc r 13 (iMin 99999 (wc r 13 + 1)), up2 wr 1 3 (wr 1 3 + 1), ?_, ?_, by rw [h5]; exact hRf, by rw [h5]; exact hWf, ⟨fun k h0 h4 h5 h31 h32 h33 => ?_, fun k h0 h1 h5 h6 => ?_, fun i hi => ?_, fun p hp => ?_, fun i h2 h3 hq => ?_, ?_, ?_, ?_, ?_⟩, uc, f1⟩
  · rw [fX4_perform, f1, bnd2_s]; exact g1.trans g3
  · rw [fX6_tells, jk_0, gd_t (inB_n (by omega) (by decide)), pb_e, nI_1, gd_t (inB_n (by omega) (by decide)), pb_e, nI_clamp (by omega), nI_clamp (by omega), ht, hf, f2, bnd2_s]; exact k1.trans k3
  · rw [up2_n h0, wk' k h0 h4 h5 h33]; exact f4 k h31 h32
  · rw [up2_n h1, n0 k h1, r0 k h1 h6]; exact f5.1 k h0 h5
  · rw [up2_n (by decide), n0 0 (by decide), r0 0 (by decide) (by decide)]; exact f5.2 i hi
  · rw [up2_n (by omega), up2_n (by decide), m0 33 (by omega), n0 6 (by decide), d4 p hp, r2 p hp]
  · rw [up2_j h3]; exact bi i h2 (fun q hq' => hq q (by omega))
  · rw [up2_e, blo 3 (by decide) (by decide)]
  · rw [up2_e, wr', d1 13 (by decide), f4 r (by omega) (by omega)]
  · rw [up2_j (by decide), b2, tr_sm, up2_n (by decide), n0 6 (by decide)]
    exact congrArg (fun z => σr 1 2 + z) (smV_cong _ (fun q hq => (r2 q hq).symm))
  · rw [up2_n (by decide), n0 6 (by decide)]
    obtain ⟨d, hd, e⟩ := sm_n hW t f T (nP (σr 1)) hP8
    exact ⟨d, by omega, by rw [smV_cong _ (fun q hq => r2 q hq)]; exact e⟩
