/-! text: step against next -/
def TK (t a b : Nat) (σc σr : Mem) : Prop := TPb t σc σr ∧ a ≤ b ∧ b ≤ t ∧ σc 34 3 = nI a ∧ σr 0 11 = nI a ∧ σc 34 4 = nI b ∧ σr 0 12 = nI b ∧ σc 34 2 = (if a < t then tkN (by8 σr a) else 0) ∧ (a < t → a < b) ∧ (σc 34 2 = 3 → b = a + 1) ∧ (σc 34 2 = 2 → (∀ i, a ≤ i → i < b → 48 ≤ by8 σr i ∧ by8 σr i ≤ 57) ∧ σc 34 5 = nI (valN (by8 σr) a (b - a)))
def NX (σ : Mem) : Option Mem := pb (up2 σ 0 12 (σ 0 11) : Mem) fun s_41 => ((fX6_isByte (s_41 0 11) 97 122 s_41).bind fun v_53 => ((fX6_isByte (s_41 0 11) 48 57 s_41).bind fun v_66 => (lw1 (fX6_next_70 (b2i v_53) (b2i v_66)) FU s_41)))
theorem sk_l {t : Nat} : ∀ n k σc σr, TPb t σc σr → σc 34 3 = nI k → σr 0 11 = nI k → k ≤ t → t - k < n → ∃ a uc ur, k ≤ a ∧ a ≤ t ∧ lw1 (fX3_step_8) n σc = fX3_step_46 uc ∧ lw1 (fX6_next_8) n σr = NX ur ∧ TPb t uc ur ∧ uc 34 3 = nI a ∧ ur 0 11 = nI a ∧ (∀ q, q ≠ 34 → uc q = σc q) ∧ (∀ j, j ≠ 3 → uc 34 j = σc 34 j) ∧ (∀ q, q ≠ 0 → ur q = σr q) ∧ (∀ j, j ≠ 11 → ur 0 j = σr 0 j) := by
  intro n
  induction n with
  | zero => intro k _ _ _ _ _ _ h2; omega
  | succ n ih =>
    intro k σc σr hT e3 e11 h1 h2
    have ht := hT.2.2.1
    have hrb' : fX6_isByte (nI k) 32 32 σr = _ := hT.rb (k := k) (lo := 32) (hi := 32) (by omega) (by decide) (by decide)
    rw [lw1_s, lw1_s, fX3_step_8, fX6_next_8, hT.1, e3, e11, hrb', Option.bind_some]
    have stop : ¬ (k < t ∧ 32 ≤ by8 σr k ∧ by8 σr k ≤ 32) → (if decide (k < t ∧ 32 ≤ by8 σr k ∧ by8 σr k ≤ 32) = true then (pb (up2 σr 0 11 (nI k + 1) : Mem) fun s_30 => (lw1 (fX6_next_8) n s_30)) else NX σr) = NX σr := by
      intro h
      rw [if_neg (by rw [decide_eq_true_eq]; exact h)]
    have hNX : (pb (up2 σr 0 12 (nI k) : Mem) fun s_41 => ((fX6_isByte (s_41 0 11) 97 122 s_41).bind fun v_53 => ((fX6_isByte (s_41 0 11) 48 57 s_41).bind fun v_66 => (lw1 (fX6_next_70 (b2i v_53) (b2i v_66)) FU s_41)))) = NX σr := by
      rw [NX, e11]
    rw [hNX]
    by_cases e : k = t
    · rw [if_pos (show nI t ≤ nI k from nI_le (by omega) (by omega)), stop (fun z => by omega)]
      exact ⟨k, σc, σr, Nat.le_refl _, h1, rfl, rfl, hT, e3, e11, fun _ _ => rfl, fun _ _ => rfl, fun _ _ => rfl, fun _ _ => rfl⟩
    · obtain ⟨b1, b2, b3⟩ := hT.at (show k < 120 by omega)
      rw [if_neg (nle_n (by omega) (by omega)), gd_t (inB_n (show k < 120 by omega) (by decide)), nI_clamp (by omega), b3]
      by_cases c : by8 σr k = 32
      · rw [if_pos ((sp_e _ b1).mpr c), if_pos (decide_eq_true ⟨by omega, by omega, by omega⟩), pb_e, pb_e, nI_1]
        obtain ⟨a, uc, ur, g1, g2, g3, g4, g5, g6, g7, g8, g9, g10, g11⟩ := ih (k + 1) (up2 σc 34 3 (nI (k + 1))) (up2 σr 0 11 (nI (k + 1))) (hT.mv (up2_j (by decide)) (up2_n (by decide)) (up2_j (by decide)) (up2_n (by decide))) (by rw [up2_e]) (by rw [up2_e]) (by omega) (by omega)
        exact ⟨a, uc, ur, by omega, g2, g3, g4, g5, g6, g7, fun q hq => (g8 q hq).trans (up2_n hq), fun j hj => (g9 j hj).trans (up2_j hj), fun q hq => (g10 q hq).trans (up2_n hq), fun j hj => (g11 j hj).trans (up2_j hj)⟩
      · rw [if_neg (fun z => c ((sp_e _ b1).mp z)), stop (fun z => c (by omega))]
        exact ⟨k, σc, σr, Nat.le_refl _, h1, rfl, rfl, hT, e3, e11, fun _ _ => rfl, fun _ _ => rfl, fun _ _ => rfl, fun _ _ => rfl⟩
def s87 (σ : Mem) (t0 : Int32) (a : Nat) : Mem := up2 (up2 (up2 σ 34 2 t0) 34 4 (nI a)) 34 5 0
theorem s74 {σ : Mem} {t a : Nat} (h1 : σ 34 1 = nI t) (h3 : σ 34 3 = nI a) (t0 : Int32) : fX3_step_74 t0 σ = if t0 = 1 then lw1 (fX3_step_127 (nI t)) FU (s87 σ t0 a) else if t0 = 2 then lw1 (fX3_step_127 (nI t)) FU (s87 σ t0 a) else lw1 (fX3_step_127 (iMin (nI t) (nI (a + 1)))) FU (s87 σ t0 a) := by
  have e : up2 (up2 (up2 σ 34 2 t0) 34 4 (up2 σ 34 2 t0 34 3)) 34 5 0 = s87 σ t0 a := by
    unfold s87
    rw [up2_j (show (3 : Nat) ≠ 2 by decide), h3]
  have e2 : s87 σ t0 a 34 2 = t0 := by
    unfold s87
    rw [up2_j (by decide), up2_j (by decide), up2_e]
  have e1 : s87 σ t0 a 34 1 = nI t := by
    unfold s87
    rw [up2_j (by decide), up2_j (by decide), up2_j (by decide)]; exact h1
  have e3 : s87 σ t0 a 34 3 = nI a := by
    unfold s87
    rw [up2_j (by decide), up2_j (by decide), up2_j (by decide)]; exact h3
  rw [fX3_step_74]
  simp only [pb_e, e, e2, e1, e3, nI_1]
theorem s87_4 (σ : Mem) (t0 : Int32) (a : Nat) : s87 σ t0 a 34 4 = nI a := by
  unfold s87
  rw [up2_j (by decide), up2_e]
theorem s87_5 (σ : Mem) (t0 : Int32) (a : Nat) : s87 σ t0 a 34 5 = 0 := by
  unfold s87
  rw [up2_e]
theorem s87_2 (σ : Mem) (t0 : Int32) (a : Nat) : s87 σ t0 a 34 2 = t0 := by
  unfold s87
  rw [up2_j (by decide), up2_j (by decide), up2_e]
theorem s87_j (σ : Mem) (t0 : Int32) (a : Nat) {j : Nat} (h2 : j ≠ 2) (h4 : j ≠ 4) (h5 : j ≠ 5) : s87 σ t0 a 34 j = σ 34 j := by
  unfold s87
  rw [up2_j h5, up2_j h4, up2_j h2]
theorem s87_n (σ : Mem) (t0 : Int32) (a : Nat) {q : Nat} (h : q ≠ 34) : s87 σ t0 a q = σ q := by
  unfold s87
  rw [up2_n h, up2_n h, up2_n h]
theorem tl_e {t a : Nat} {σc σr : Mem} (hT : TPb t σc σr) (e3 : σc 34 3 = nI a) (e11 : σr 0 11 = nI a) (ha : a ≤ t) : ∃ b τc τr, fX3_step_46 σc = some τc ∧ NX σr = some τr ∧ TK t a b τc τr ∧ (∀ q, q ≠ 34 → τc q = σc q) ∧ (∀ j, j ≠ 2 → j ≠ 4 → j ≠ 5 → τc 34 j = σc 34 j) ∧ (∀ q, q ≠ 0 → τr q = σr q) ∧ (∀ j, j ≠ 12 → τr 0 j = σr 0 j) := by
  have ht := hT.2.2.1
  obtain ⟨n, hn, hn2⟩ := FU_s
  have hTr : TPb t σc (up2 σr 0 12 (nI a)) := hT.mv rfl rfl (up2_j (by decide)) (up2_n (by decide))
  have hby : by8 (up2 σr 0 12 (nI a)) = by8 σr := by8_c (up2_n (by decide))
  have q11 : up2 σr 0 12 (nI a) 0 11 = nI a := by rw [up2_j (by decide)]; exact e11
  have r1 : fX6_isByte (nI a) 97 122 (up2 σr 0 12 (nI a)) = some (decide (a < t ∧ 97 ≤ by8 (up2 σr 0 12 (nI a)) a ∧ by8 (up2 σr 0 12 (nI a)) a ≤ 122)) := hTr.rb (k := a) (lo := 97) (hi := 122) (by omega) (by decide) (by decide)
  have r2 : fX6_isByte (nI a) 48 57 (up2 σr 0 12 (nI a)) = some (decide (a < t ∧ 48 ≤ by8 (up2 σr 0 12 (nI a)) a ∧ by8 (up2 σr 0 12 (nI a)) a ≤ 57)) := hTr.rb (k := a) (lo := 48) (hi := 57) (by omega) (by decide) (by decide)
  rw [hby] at r1 r2
  have hT8 : ∀ t0, TPb t (s87 σc t0 a) (up2 σr 0 12 (nI a)) := fun t0 => hTr.mv (s87_j _ _ _ (by decide) (by decide) (by decide)) (s87_n _ _ _ (by decide)) rfl rfl
  rw [NX, e11, pb_e, q11, r1, r2, Option.bind_some, Option.bind_some, fX3_step_46, hT.1, e3]
  by_cases e : a = t
  · rw [if_pos (show nI t ≤ nI a from nI_le (by omega) (by omega)), s74 hT.1 e3, if_neg (by decide), if_neg (by decide), decide_eq_false (fun z => by omega), decide_eq_false (fun z => by omega), iMin_n (by omega) (by omega), Nat.min_eq_left (by omega), hn, lw1_s, lw1_s, fX3_step_127, s87_4, if_pos (show nI t ≤ nI a from nI_le (by omega) (by omega)), show b2i false = 0 from rfl, fX6_next_70, if_pos (show (0 : Int32) = 0 from rfl), fX6_next_89, if_pos (show (0 : Int32) = 0 from rfl), fX6_next_121, if_pos (show (0 : Int32) = 0 from rfl), if_pos (show (0 : Int32) = 0 from rfl), hTr.2.1, q11, if_pos (show nI t ≤ nI a from nI_le (by omega) (by omega)), pb_e, up2_e, Int32.add_zero]
    refine ⟨a, _, _, rfl, rfl, ⟨(hT8 0).mv rfl rfl (up2_j (by decide)) (up2_n (by decide)), Nat.le_refl _, ha, ?_, ?_, s87_4 _ _ _, by rw [up2_e], ?_, fun z => by omega, fun z => ?_, fun z => ?_⟩, fun q hq => s87_n _ _ _ hq, fun j h2 h4 h5 => s87_j _ _ _ h2 h4 h5, fun q hq => by rw [up2_n hq, up2_n hq], fun j hj => by rw [up2_j hj, up2_j hj]⟩
    · rw [s87_j _ _ _ (by decide) (by decide) (by decide)]; exact e3
    · rw [up2_j (by decide)]; exact q11
    · rw [s87_2, if_neg (by omega)]
    · rw [s87_2] at z; exact absurd z (by decide)
    · rw [s87_2] at z; exact absurd z (by decide)
  · obtain ⟨b1, b2, b3⟩ := hT.at (show a < 120 by omega)
    have hF : t - a < FU := Nat.lt_trans (show t - a < 10100 by omega) FU_gt
    rw [if_neg (nle_n (by omega) (by omega)), gd_t (inB_n (show a < 120 by omega) (by decide)), nI_clamp (by omega), b3, tk_e _ b1, s74 hT.1 e3]
    by_cases c1 : 97 ≤ by8 σr a ∧ by8 σr a ≤ 122
    · have htk : tkN (by8 σr a) = 1 := if_pos c1
      rw [htk, if_pos rfl, decide_eq_true ⟨by omega, c1⟩, decide_eq_false (fun z => by omega), show b2i true = 1 from rfl, show b2i false = 0 from rfl]
      obtain ⟨b, τc, τr, g1, g2, g3, g4, g5, g6, g7, g8, g9⟩ := wd_l FU a (s87 σc 1 a) (up2 σr 0 12 (nI a)) (hT8 1) (s87_2 _ _ _) (s87_4 _ _ _) (by rw [up2_e]) ha hF
      rw [hby] at g5
      have hbt : by8 τr = by8 σr := by8_c ((g9.1 7 (by decide)).trans (up2_n (by decide)))
      have z2 : τc 34 2 = 1 := (g8.2 2 (by decide) (by decide)).trans (s87_2 _ _ _)
      refine ⟨b, τc, τr, g1, g2, ⟨(hT8 1).mv (g8.2 1 (by decide) (by decide)) (g8.1 35 (by decide)) (g9.2 10 (by decide)) (g9.1 7 (by decide)), g3, g4, ?_, ?_, g6, g7, ?_, fun z => g5 z c1.1 c1.2, fun z => ?_, fun z => ?_⟩, fun q hq => (g8.1 q hq).trans (s87_n _ _ _ hq), fun j h2 h4 h5 => (g8.2 j h4 h5).trans (s87_j _ _ _ h2 h4 h5), fun q hq => (g9.1 q hq).trans (up2_n hq), fun j hj => (g9.2 j hj).trans (up2_j hj)⟩
      · rw [g8.2 3 (by decide) (by decide), s87_j _ _ _ (by decide) (by decide) (by decide)]; exact e3
      · rw [g9.2 11 (by decide)]; exact q11
      · rw [z2, if_pos (by omega), hbt, htk]
      · rw [z2] at z; exact absurd z (by decide)
      · rw [z2] at z; exact absurd z (by decide)
    · by_cases c2 : 48 ≤ by8 σr a ∧ by8 σr a ≤ 57
      · have htk : tkN (by8 σr a) = 2 := by
          unfold tkN
          rw [if_neg c1, if_pos c2]
        rw [htk, if_neg (show ¬ (2 : Int32) = 1 by decide), if_pos rfl, decide_eq_false (fun z => c1 z.2), decide_eq_true ⟨by omega, c2⟩, show b2i true = 1 from rfl, show b2i false = 0 from rfl]
        obtain ⟨b, τc, τr, g1, g2, g3, g4, g5, g6, g7, g8, g9, g10, g11⟩ := nm_l (a := a) FU a (s87 σc 2 a) (up2 σr 0 12 (nI a)) (hT8 2) (s87_2 _ _ _) (s87_4 _ _ _) (by rw [up2_e]) (Nat.le_refl _) ha (by rw [s87_5, Nat.sub_self]; rfl) (fun i h1 h2 => by omega) hF
        rw [hby] at g5 g10 g11
        have hbt : by8 τr = by8 σr := by8_c ((g9.1 7 (by decide)).trans (up2_n (by decide)))
        have z2 : τc 34 2 = 2 := (g8.2 2 (by decide) (by decide)).trans (s87_2 _ _ _)
        refine ⟨b, τc, τr, g1, g2, ⟨(hT8 2).mv (g8.2 1 (by decide) (by decide)) (g8.1 35 (by decide)) (g9.2 10 (by decide)) (g9.1 7 (by decide)), g3, g4, ?_, ?_, g6, g7, ?_, fun z => g5 z c2.1 c2.2, fun z => ?_, fun z => ?_⟩, fun q hq => (g8.1 q hq).trans (s87_n _ _ _ hq), fun j h2 h4 h5 => (g8.2 j h4 h5).trans (s87_j _ _ _ h2 h4 h5), fun q hq => (g9.1 q hq).trans (up2_n hq), fun j hj => (g9.2 j hj).trans (up2_j hj)⟩
        · rw [g8.2 3 (by decide) (by decide), s87_j _ _ _ (by decide) (by decide) (by decide)]; exact e3
        · rw [g9.2 11 (by decide)]; exact q11
        · rw [z2, if_pos (by omega), hbt, htk]
        · rw [z2] at z; exact absurd z (by decide)
        · rw [hbt]; exact ⟨g11, g10⟩
      · have htk : tkN (by8 σr a) ≠ 1 ∧ tkN (by8 σr a) ≠ 2 := by
          unfold tkN
          rw [if_neg c1, if_neg c2]
          split <;> exact ⟨by decide, by decide⟩
        obtain ⟨n', rfl⟩ : ∃ q, n = q + 1 := ⟨n - 1, by omega⟩
        have ht8 : s87 σc (tkN (by8 σr a)) a 35 a = (nI (by8 σr a)).toInt8.toInt32 := by rw [s87_n _ _ _ (by decide)]; exact b3
        rw [if_neg htk.1, if_neg htk.2, decide_eq_false (fun z => c1 z.2), decide_eq_false (fun z => c2 z.2), iMin_n (by omega) (by omega), Nat.min_eq_right (by omega), hn, lw1_s, lw1_s, fX3_step_127, s87_4, if_neg (nle_n (by omega) (by omega)), gd_t (inB_n (show a < 120 by omega) (by decide)), nI_clamp (by omega), ht8, tk_e _ b1, s87_2, if_pos rfl, if_neg htk.2, pb_e, nI_1, lw1_s, fX3_step_127, up2_e, if_pos (Int32.le_refl _), show b2i false = 0 from rfl, fX6_next_70, if_pos (show (0 : Int32) = 0 from rfl), fX6_next_89, if_pos (show (0 : Int32) = 0 from rfl), fX6_next_121, if_pos (show (0 : Int32) = 0 from rfl), if_pos (show (0 : Int32) = 0 from rfl), hTr.2.1, q11, if_neg (nle_n (by omega) (by omega)), pb_e, up2_e, nI_1]
        have hbt : by8 (up2 (up2 σr 0 12 (nI a)) 0 12 (nI (a + 1))) = by8 σr := by8_c (by rw [up2_n (by decide), up2_n (by decide)])
        have z2 : up2 (s87 σc (tkN (by8 σr a)) a) 34 4 (nI (a + 1)) 34 2 = tkN (by8 σr a) := by rw [up2_j (by decide), s87_2]
        refine ⟨a + 1, _, _, rfl, rfl, ⟨(hT8 _).mv (up2_j (by decide)) (up2_n (by decide)) (up2_j (by decide)) (up2_n (by decide)), by omega, by omega, ?_, ?_, by rw [up2_e], by rw [up2_e], ?_, fun z => by omega, fun z => rfl, fun z => ?_⟩, fun q hq => by rw [up2_n hq, s87_n _ _ _ hq], fun j h2 h4 h5 => by rw [up2_j h4, s87_j _ _ _ h2 h4 h5], fun q hq => by rw [up2_n hq, up2_n hq], fun j hj => by rw [up2_j hj, up2_j hj]⟩
        · rw [up2_j (by decide), s87_j _ _ _ (by decide) (by decide) (by decide)]; exact e3
        · rw [up2_j (by decide)]; exact q11
        · rw [z2, if_pos (by omega), hbt]
        · rw [z2] at z; exact absurd z htk.2
def FCt (σ τ : Mem) : Prop := (∀ q, q ≠ 34 → τ q = σ q) ∧ τ 34 6 = σ 34 6
def FRt (σ τ : Mem) : Prop := (∀ q, q ≠ 0 → τ q = σ q) ∧ ∀ j, j ≠ 11 → j ≠ 12 → τ 0 j = σ 0 j
theorem step_e {t b0 : Nat} {σc σr : Mem} (hT : TPb t σc σr) (e4 : σc 34 4 = nI b0) (e12 : σr 0 12 = nI b0) (hb : b0 ≤ t) : ∃ a b τc τr, fX3_step σc = some τc ∧ fX6_next σr = some τr ∧ TK t a b τc τr ∧ b0 ≤ a ∧ FCt σc τc ∧ FRt σr τr := by
  have ht := hT.2.2.1
  obtain ⟨a, uc, ur, g1, g2, g3, g4, g5, g6, g7, g8, g9, g10, g11⟩ := sk_l FU b0 (up2 σc 34 3 (nI b0)) (up2 σr 0 11 (nI b0)) (hT.mv (up2_j (by decide)) (up2_n (by decide)) (up2_j (by decide)) (up2_n (by decide))) (by rw [up2_e]) (by rw [up2_e]) hb (Nat.lt_trans (show t - b0 < 10100 by omega) FU_gt)
  obtain ⟨b, τc, τr, k1, k2, k3, k4, k5, k6, k7⟩ := tl_e g5 g6 g7 g2
  refine ⟨a, b, τc, τr, ?_, ?_, k3, g1, ⟨fun q hq => ?_, ?_⟩, ⟨fun q hq => ?_, fun j h1 h2 => ?_⟩⟩
  · rw [fX3_step, e4, pb_e, g3, k1]
  · rw [fX6_next, e12, pb_e, g4, k2]
  · rw [k4 q hq, g8 q hq, up2_n hq]
  · rw [k5 6 (by decide) (by decide) (by decide), g9 6 (by decide), up2_j (by decide)]
  · rw [k6 q hq, g10 q hq, up2_n hq]
  · rw [k7 j h2, g11 j h1, up2_j h1]
