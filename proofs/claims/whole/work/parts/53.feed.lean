/-! feed -/
theorem sh_mod {n : Nat} (hn : n < 2 ^ 32) (s : Int32) (k : Nat) (hk : k = 0 ∨ k = 8 ∨ k = 16 ∨ k = 24) (hs : (s.toBitVec.smod 32).toNat = k) : (nI n >>> s).toBitVec.toNat % 256 = n / 2 ^ k % 256 := by
  have h1 := pk_shr (nI n) s k hs
  rw [Int.shiftRight_eq_div_pow] at h1
  have e1 : (nI n).toInt = (nI n).toBitVec.toInt := rfl
  have e2 : (nI n >>> s).toInt = (nI n >>> s).toBitVec.toInt := rfl
  rw [e1, e2, BitVec.toInt_eq_toNat_cond, BitVec.toInt_eq_toNat_cond, pk_tn hn] at h1
  have hb := (nI n >>> s).toBitVec.isLt
  generalize (nI n >>> s).toBitVec.toNat = y at *
  clear hs e1 e2
  rcases hk with rfl | rfl | rfl | rfl
  all_goals
    split at h1
    all_goals
      split at h1
      all_goals omega
theorem i8_mod (m : Nat) : (nI m).toInt8 = (nI (m % 256)).toInt8 := by
  rw [← Int8.toBitVec_inj, Int32.toBitVec_toInt8, Int32.toBitVec_toInt8, BitVec.signExtend_eq_setWidth_of_le _ (by decide), BitVec.signExtend_eq_setWidth_of_le _ (by decide), nI_bv, nI_bv]
  apply BitVec.eq_of_toNat_eq
  rw [BitVec.toNat_setWidth, BitVec.toNat_setWidth, BitVec.toNat_ofNat, BitVec.toNat_ofNat]
  omega
theorem feed_s : ∀ i, i < 4 → ((8 * nI i &&& 31).toBitVec.smod 32).toNat = 8 * i ∧ (((8 * nI i).toUInt32 &&& Int32.toUInt32 31).toBitVec % 32).toNat = 8 * i := by decide +kernel
theorem feed_b (x : Int32) {i : Nat} (hi : i < 4) : BR (vp_nar .byte ((((x : Int32).toUInt32 >>> ((8 * nI i : Int32).toUInt32 &&& Int32.toUInt32 31)).toInt32 : Int32).toInt8.toInt32)) ((x >>> ((8 * nI i) &&& 31)) &&& 255) := by
  obtain ⟨n, hn, rfl⟩ := any32 x
  obtain ⟨s1, s2⟩ := feed_s i hi
  refine ⟨n / 2 ^ (8 * i) % 256, Nat.mod_lt _ (by decide), ?_, ?_⟩
  · rw [pk_and _ (m := 255) 8 (by decide), show (2 : Nat) ^ 8 = 256 from rfl, sh_mod hn _ (8 * i) (by omega) s1]
  · rw [pk_vb, pk_ushrN hn _ (8 * i) s2, i8_mod]
theorem feed_l (x : Int32) : ∀ n i σc σr t, Inv σc σr → σr 0 10 = nI t → t + i ≤ 120 → i ≤ 4 → i < n → ∃ v τc τr, lw2 (fX5_feed_41 x) n (nI i - 1) σc = some (v, τc) ∧ lw2 (fX6_feed_39 x) n (nI i - 1) σr = some (v, τr) ∧ Inv τc τr := by
  intro n
  induction n with
  | zero => intro i _ _ _ _ _ _ _ h2; omega
  | succ n ih =>
    intro i σc σr t hI e10 ht hi h2
    obtain ⟨hL, hK, ⟨t1, t2, t3⟩, hS, hF⟩ := hI
    have c1 : σc 34 1 = nI t := t1.trans e10
    rw [lw2_s, lw2_s, fX5_feed_41, fX6_feed_39]
    cases i with
    | zero =>
      rw [if_pos (by decide), if_pos (by decide), c1, e10]
      exact ⟨_, _, _, rfl, rfl, hL, hK, ⟨t1, t2, t3⟩, hS, hF⟩
    | succ i =>
      rw [nI_pred, if_neg (nI_pos (by omega)), if_neg (nI_pos (by omega)), fX3_put, c1, e10, gd_t (inB_n (show t < 120 by omega) (by decide)), gd_t (inB_n (show t < 120 by omega) (by decide)), nI_clamp (show t < 2 ^ 31 by omega)]
      simp only [pb_e]
      rw [Option.bind_some, up2_n (show (34 : Nat) ≠ 35 by decide), up2_n (show (0 : Nat) ≠ 7 by decide), c1, e10, nI_1, nI_dn]
      refine ih i _ _ (t + 1) ⟨hL.cong (fun k _ _ => by rw [up2_n (by omega), up2_n (by omega)]) (by rw [up2_n (by omega), up2_n (by omega)]), hK.cong (fun k _ _ => by rw [up2_n (by omega), up2_n (by omega)]) (by rw [up2_n (by omega), up2_n (by omega)]) (by rw [up2_n (by omega), up2_n (by omega)]) (by rw [up2_j (by omega), up2_n (by omega)]), ⟨?_, ?_, fun q hq => ?_⟩, hS.cong (fun k _ _ => by rw [up2_n (by omega), up2_n (by omega)]) (by rw [up2_n (by omega), up2_n (by omega)]) (by rw [up2_n (by omega), up2_n (by omega)]) (by rw [up2_n (by omega), up2_n (by omega)]), hF.cong (by rw [up2_n (by omega), up2_n (by omega)]) (by rw [up2_n (by omega), up2_n (by omega)])⟩ (by rw [up2_e]) (by omega) (by omega) (by omega)
      · rw [up2_e, up2_e]
      · rw [up2_e]; exact ⟨t + 1, by omega, rfl⟩
      · rw [up2_n (show (35 : Nat) ≠ 34 by decide), up2_n (show (7 : Nat) ≠ 0 by decide), up2_a, up2_a]
        by_cases e : q = t
        · rw [if_pos ⟨rfl, e⟩, if_pos ⟨rfl, e⟩]; exact feed_b x (by omega)
        · rw [if_neg (fun z => e z.2), if_neg (fun z => e z.2)]; exact t3 q hq
theorem st_feed (a1 a2 : Int32) : StI Inv (fX5_feed a1 a2) (fX6_feed a1 a2) := by
  intro σc σr hI
  obtain ⟨t, ht, et⟩ := hI.2.2.1.2.1
  rw [fX5_feed, fX6_feed, in_l a2 1 4 (by decide) (by decide), hI.2.2.1.1, et]
  simp only [b2id]
  by_cases h1 : fX5_within a2 1 4 = true
  case neg => rw [if_neg h1, if_neg h1]; exact st_find hI (by decide) (found_0 σc) (finds_0 σr)
  rw [if_pos h1, if_pos h1]
  obtain ⟨N, -, hN, rfl⟩ := bnI (a := 1) (b := 4) rfl rfl (by decide) (by decide) h1
  rw [nI_add]
  by_cases h3 : t + N ≤ 120
  · rw [if_pos (show nI (t + N) ≤ (120 : Int32) from nI_le (b := 120) h3 (by decide)), if_pos (show nI (t + N) ≤ (120 : Int32) from nI_le (b := 120) h3 (by decide)), pb_e, pb_e]
    exact feed_l a1 FU N σc σr t hI et h3 hN (Nat.lt_trans (show N < 10100 by omega) FU_gt)
  · rw [if_neg (show ¬ nI (t + N) ≤ (120 : Int32) from nle_n (a := 120) (by omega) (by omega)), if_neg (show ¬ nI (t + N) ≤ (120 : Int32) from nle_n (a := 120) (by omega) (by omega))]
    exact st_find hI (by decide) (found_1 σc) (finds_1 σr)
/-! copy -/
theorem has_e {ks L : Nat} {σ : Mem} (hL : L ≤ 40) (e : σ ks 2 = nI L) (x y : Int32) : fX2_has ks x y σ = true ↔ ∃ f n, x = nI f ∧ y = nI n ∧ f + n ≤ L := by
  rw [fX2_has, e]
  by_cases h1 : x < 0
  · rw [if_pos h1]
    refine ⟨fun z => (by cases z), fun ⟨f, n, e1, e2, e3⟩ => ?_⟩
    rw [e1] at h1
    exact absurd h1 (nI_pos (by omega))
  rw [if_neg h1]
  by_cases h2 : y < 0
  · rw [if_pos h2]
    refine ⟨fun z => (by cases z), fun ⟨f, n, e1, e2, e3⟩ => ?_⟩
    rw [e2] at h2
    exact absurd h2 (nI_pos (by omega))
  rw [if_neg h2]
  obtain ⟨f, hf, rfl⟩ := nI_of h1
  obtain ⟨n, hn, rfl⟩ := nI_of h2
  by_cases h3 : L < n
  · rw [if_pos (nI_lt h3 hn)]
    refine ⟨fun z => (by cases z), fun ⟨f', n', e1, e2, e3⟩ => ?_⟩
    have := (nI_eq hn (by omega)).mp e2
    omega
  rw [if_neg (nI_nlt (by omega) (by omega)), pk_sub (by omega)]
  by_cases h4 : L - n < f
  · rw [if_pos (nI_lt h4 hf)]
    refine ⟨fun z => (by cases z), fun ⟨f', n', e1, e2, e3⟩ => ?_⟩
    have := (nI_eq hn (by omega)).mp e2
    have := (nI_eq hf (by omega)).mp e1
    omega
  · rw [if_neg (nI_nlt (by omega) (by omega))]
    exact ⟨fun _ => ⟨f, n, rfl, rfl, by omega⟩, fun _ => rfl⟩
theorem lsum_gt {x y z : Int32} : 0 < lg_cmp (x.toInt64 + y.toInt64) z.toInt64 ↔ z.toInt < x.toInt + y.toInt := by
  have b1 := x.toInt_lt
  have b2 := x.le_toInt
  have b3 := y.toInt_lt
  have b4 := y.le_toInt
  rw [lg_gt, Int64.lt_iff_toInt_lt, Int64.toInt_add, Int32.toInt_toInt64, Int32.toInt_toInt64, Int32.toInt_toInt64, Int.bmod_eq_of_le (by omega) (by omega)]
