/-! counting bits -/
def cn (S : Int32) : Nat → Nat
  | 0 => 0
  | p + 1 => cn S p + (if bt S p = true then 1 else 0)
theorem cn_le (S : Int32) : ∀ p, cn S p ≤ p := by
  intro p
  induction p with
  | zero => exact Nat.le_refl _
  | succ p ih => rw [cn]; split <;> omega
theorem cn_full (S : Int32) : ∀ p, p ≤ cn S p → ∀ q, q < p → bt S q = true := by
  intro p
  induction p with
  | zero => intro _ q hq; omega
  | succ p ih =>
    intro h q hq
    have := cn_le S p
    rw [cn] at h
    by_cases hb : bt S p = true
    · rw [if_pos hb] at h
      by_cases e : q = p
      · rw [e]; exact hb
      · exact ih (by omega) q (by omega)
    · rw [if_neg hb] at h
      omega
theorem cn_mono {S T : Int32} (h : ∀ q, bt S q = true → bt T q = true) : ∀ p, cn S p ≤ cn T p := by
  intro p
  induction p with
  | zero => exact Nat.le_refl _
  | succ p ih =>
    rw [cn, cn]
    by_cases hb : bt S p = true
    · rw [if_pos hb, if_pos (h p hb)]; omega
    · rw [if_neg hb]; omega
theorem cn_more {S T : Int32} (h : ∀ q, bt S q = true → bt T q = true) {q : Nat} (h1 : ¬ bt S q = true) (h2 : bt T q = true) : ∀ p, q < p → cn S p + 1 ≤ cn T p := by
  intro p
  induction p with
  | zero => intro z; omega
  | succ p ih =>
    intro hq
    rw [cn, cn]
    by_cases e : q = p
    · subst e
      have := cn_mono h q
      rw [if_neg h1, if_pos h2]; omega
    · have := ih (by omega)
      by_cases hb : bt S p = true
      · rw [if_pos hb, if_pos (h p hb)]; omega
      · rw [if_neg hb]; omega
theorem bt_bit : ∀ o, o < 8 → ∀ q, q < 8 → bt (bitI o) q = decide (q = o) := by decide +kernel
theorem bt_0' (q : Nat) : bt 0 q = false := by
  unfold bt
  rw [show (0 : Int32).toBitVec = 0#32 from rfl, BitVec.getLsbD_zero]
theorem caF_b (a : Vec) (E S : Int32) : ∀ o, o ≤ 8 → ∀ q, q < 8 → bt (caF a E S o) q = true → bt E q = true ∧ bt S q = false := by
  intro o
  induction o with
  | zero => intro _ q _ h; rw [caF, bt_0'] at h; cases h
  | succ o ih =>
    intro ho q hq h
    have hi := ih (by omega) q hq
    rw [caF] at h
    by_cases h1 : (bt E o && !bt S o) = true
    · rw [if_pos h1] at h
      split at h
      · exact hi h
      · rw [bt_or, bt_bit o (by omega) q hq] at h
        by_cases e : q = o
        · subst e
          rw [Bool.and_eq_true, Bool.not_eq_true'] at h1
          exact h1
        · rw [decide_eq_false e, Bool.or_false] at h
          exact hi h
    · rw [if_neg h1] at h
      exact hi h
theorem caF_z (a : Vec) (E S : Int32) : ∀ o, o ≤ 8 → caF a E S o = 0 ∨ ∃ q, q < 8 ∧ bt (caF a E S o) q = true := by
  intro o
  induction o with
  | zero => intro _; exact Or.inl rfl
  | succ o ih =>
    intro ho
    have hi := ih (by omega)
    rw [caF]
    split
    · split
      · exact hi
      · refine Or.inr ⟨o, by omega, ?_⟩
        rw [bt_or, bt_bit o (by omega) o (by omega), decide_eq_true rfl, Bool.or_true]
    · exact hi
theorem ca_full {a : Vec} (hW : WFv a) (E : Int32) {S : Int32} (h : 8 ≤ cn S 8) : caught a E S = 0 := by
  have hf := cn_full S 8 h
  rcases caF_z a E S _ hW.p.2 with z | ⟨q, hq, hb⟩
  · exact z
  · have := (caF_b a E S _ hW.p.2 q hq hb).2
    rw [hf q hq] at this
    cases this
theorem ca_or {a : Vec} (hW : WFv a) (E S : Int32) : S ||| caught a E S = S ↔ caught a E S = 0 := by
  constructor
  · intro h
    rcases caF_z a E S _ hW.p.2 with z | ⟨q, hq, hb⟩
    · exact z
    · have h1 := (caF_b a E S _ hW.p.2 q hq hb).2
      have h2 : bt (S ||| caught a E S) q = true := by
        rw [bt_or]
        unfold caught
        rw [hb, Bool.or_true]
      rw [h, h1] at h2
      cases h2
  · intro h
    rw [h, Int32.or_zero]
theorem ca_more {a : Vec} (hW : WFv a) (E S : Int32) (h : ¬ caught a E S = 0) : cn S 8 + 1 ≤ cn (S ||| caught a E S) 8 := by
  rcases caF_z a E S _ hW.p.2 with z | ⟨q, hq, hb⟩
  · exact absurd z h
  · refine cn_more (fun p hp => by rw [bt_or, hp, Bool.true_or]) (q := q) ?_ ?_ 8 hq
    · rw [(caF_b a E S _ hW.p.2 q hq hb).2]; decide
    · rw [bt_or]
      unfold caught
      rw [hb, Bool.or_true]
/-! the rounds in step -/
def RR (a : Vec) (S : Int32) (σc σr : Mem) : Prop := ∀ p, p < nP a → (bt S p = true → σc 32 p = σr 5 p ∧ 0 ≤ σr 5 p) ∧ (bt S p = false → σr 5 p = -1)
def SPC (σ τ : Mem) : Prop := ∀ k, k ≠ 31 → k ≠ 32 → τ k = σ k
def SPR (σ τ : Mem) : Prop := (∀ k, k ≠ 0 → k ≠ 5 → τ k = σ k) ∧ ∀ j, j ≠ 6 → τ 0 j = σ 0 j
theorem ntR_id {σ : Mem} {S : Int32} {n : Nat} (h : ∀ j, j < n → bt S j = true → 0 ≤ σ 5 j) : ntR σ S n = σ := by
  funext q
  unfold ntR
  by_cases e : q = 5
  · rw [e, upR_s]; funext j; rw [if_neg (fun z => z.2.2 (h j z.1 z.2.1))]
  · rw [upR_n e]
theorem spread_l {E : Int32} {r : Nat} {a : Vec} (hW : WFv a) (hr : r + 9 < 31) : ∀ d k S σc σr n m, d + k = 8 → S8 S → k ≤ cn S 8 → RmR σc r a → σr 1 = a → σc 31 2 = nI k → σr 0 6 = nI k → RR a S σc σr → d + 2 ≤ n → d + 3 ≤ m → ∃ T τc τr, lw3 (fX4_spread_17 r E) n S (nI (k + 1)) σc = some (T, τc) ∧ lw3 (fX6_caughtFrom_54 E) m S 1 σr = some (T, τr) ∧ S8 T ∧ SPC σc τc ∧ SPR σr τr ∧ τc 31 2 = τr 0 6 ∧ RR a T τc τr ∧ (∀ q, bt S q = true → bt T q = true) := by
  intro d
  induction d with
  | zero =>
    intro k S σc σr n m hk hS hc hR ha e1 e2 hrr hn hm
    have k8 : k = 8 := by omega
    subst k8
    obtain ⟨n, rfl⟩ : ∃ q, n = q + 1 := ⟨n - 1, by omega⟩
    obtain ⟨m, rfl⟩ : ∃ q, m = q + 1 + 1 := ⟨m - 2, by omega⟩
    have hWr : WFv (σr 1) := by rw [ha]; exact hW
    have z : caught (σr 1) E S = 0 := by rw [ha]; exact ca_full hW E hc
    refine ⟨S, σc, σr, ?_, ?_, hS, fun _ _ _ => rfl, ⟨fun _ _ _ => rfl, fun _ _ => rfl⟩, by rw [e1, e2], hrr, fun _ h => h⟩
    · rw [lw3_s, fX4_spread_17, if_pos (by decide)]
    · rw [lw3_s, fX6_caughtFrom_54, if_neg (show ¬ (1 : Int32) = 0 by decide), r_catch hWr, z, Int32.or_zero, if_pos rfl, fX6_caughtFrom_157, if_pos rfl, pb_e, add0, up2_self, r_note hWr, ntR_id (fun j hj hb => ((hrr j (by rw [← ha]; exact hj)).1 hb).2), lw3_s, fX6_caughtFrom_54, if_pos rfl]
  | succ d ih =>
    intro k S σc σr n m hk hS hc hR ha e1 e2 hrr hn hm
    obtain ⟨n, rfl⟩ : ∃ q, n = q + 1 := ⟨n - 1, by omega⟩
    obtain ⟨m, rfl⟩ : ∃ q, m = q + 1 + 1 := ⟨m - 2, by omega⟩
    have hWr : WFv (σr 1) := by rw [ha]; exact hW
    rw [lw3_s, fX4_spread_17, if_neg (show ¬ (8 : Int32) < nI (k + 1) from fun z => absurd ((nI_ltI (a := 8) (by decide) (by omega)).mp z) (by omega)), c_catch hS hR hW, Option.bind_some]
    by_cases z : caught a E S = 0
    · refine ⟨S, σc, σr, ?_, ?_, hS, fun _ _ _ => rfl, ⟨fun _ _ _ => rfl, fun _ _ => rfl⟩, by rw [e1, e2], hrr, fun _ h => h⟩
      · rw [if_pos z]
      · have z' : caught (σr 1) E S = 0 := by rw [ha]; exact z
        rw [lw3_s, fX6_caughtFrom_54, if_neg (show ¬ (1 : Int32) = 0 by decide), r_catch hWr, z', Int32.or_zero, if_pos rfl, fX6_caughtFrom_157, if_pos rfl, pb_e, add0, up2_self, r_note hWr, ntR_id (fun j hj hb => ((hrr j (by rw [← ha]; exact hj)).1 hb).2), lw3_s, fX6_caughtFrom_54, if_pos rfl]
    · have hW2 : WFv (up2 σr 0 6 (nI (k + 1)) 1) := by rw [up2_n (by omega)]; exact hWr
      rw [if_neg z, pb_e, c_note, Option.bind_some, pb_e, nI_1, lw3_s, fX6_caughtFrom_54, if_neg (show ¬ (1 : Int32) = 0 by decide), r_catch hWr, ha, if_neg (fun q => z ((ca_or hW E S).mp q)), fX6_caughtFrom_157, if_neg (show ¬ (1 : Int32) = 0 by decide), pb_e, e2, nI_1, r_note hW2, up2_n (show 1 ≠ 0 by decide), ha]
      have hca := caught_8 hW E S
      have hrr2 : RR a (S ||| caught a E S) (ntC (up2 σc 31 2 (nI (k + 1))) (caught a E S) (nI (k + 1)) 8) (ntR (up2 σr 0 6 (nI (k + 1))) (S ||| caught a E S) (nP a)) := by
        intro p hp
        have h8 := hW.p.2
        obtain ⟨g1, g2⟩ := hrr p hp
        have hcb := caF_b a E S _ h8 p (by omega)
        unfold ntC ntR
        rw [upR_s, upR_s, up2_n (show 32 ≠ 31 by decide), up2_n (show 5 ≠ 0 by decide), up2_e, bt_or]
        by_cases b1 : bt S p = true
        · have b2 : ¬ bt (caught a E S) p = true := fun q => by have := (hcb q).2; rw [b1] at this; cases this
          obtain ⟨g3, g4⟩ := g1 b1
          refine ⟨fun _ => ?_, fun q => ?_⟩
          · rw [if_neg (fun q => b2 q.2), if_neg (fun q => q.2.2 g4)]; exact ⟨g3, g4⟩
          · rw [b1, Bool.true_or] at q; cases q
        · have b1' : bt S p = false := by cases hb : bt S p <;> simp_all
          have g5 := g2 b1'
          rw [b1', Bool.false_or, g5]
          refine ⟨fun q => ?_, fun q => ?_⟩
          · rw [if_pos ⟨by omega, q⟩, if_pos ⟨hp, q, by decide⟩]; exact ⟨rfl, nI_pos' (by omega)⟩
          · rw [if_neg (fun y => by rw [q] at y; cases y.2.1)]
      obtain ⟨T, τc, τr, f1, f2, f3, f4, f5, f6, f7⟩ := ih (k + 1) (S ||| caught a E S) (ntC (up2 σc 31 2 (nI (k + 1))) (caught a E S) (nI (k + 1)) 8) (ntR (up2 σr 0 6 (nI (k + 1))) (S ||| caught a E S) (nP a)) n (m + 1) (by omega) (hS.or hca) (by have := ca_more hW E S z; omega) (hR.cong (fun q _ _ => by unfold ntC; rw [upR_n (by omega), up2_n (by omega)])) (by unfold ntR; rw [upR_n (by omega), up2_n (by omega)]; exact ha) (by unfold ntC; rw [upR_n (by omega), up2_e]) (by unfold ntR; rw [upR_n (by omega), up2_e]) hrr2 (by omega) (by omega)
      · refine ⟨T, τc, τr, f1, f2, f3, fun q h1 h2 => ?_, ⟨fun q h1 h2 => ?_, fun j hj => ?_⟩, f6, f7.1, fun q h => f7.2 q (by rw [bt_or, h, Bool.true_or])⟩
        · rw [f4 q h1 h2]; unfold ntC; rw [upR_n h2, up2_n h1]
        · rw [f5.1 q h1 h2]; unfold ntR; rw [upR_n h2, up2_n h1]
        · rw [f5.2 j hj]; unfold ntR; rw [upR_n (by omega), up2_j hj]
