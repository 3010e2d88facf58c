/-! noting rounds -/
def ntC (σ : Mem) (S v : Int32) (i : Nat) : Mem := upR σ 32 (fun j => if j < i ∧ bt S j = true then v else σ 32 j)
theorem ntC_1 (σ : Mem) {S v : Int32} {i : Nat} (h : bt S i = true) : up2 (ntC σ S v i) 32 i v = ntC σ S v (i + 1) := by
  funext q j
  rw [up2_a]
  by_cases e : q = 32
  · subst e
    unfold ntC
    rw [upR_s, upR_s]
    by_cases e2 : j = i
    · subst e2; rw [if_pos ⟨rfl, rfl⟩, if_pos ⟨by omega, h⟩]
    · rw [if_neg (fun z => e2 z.2)]
      exact ite_iff ⟨fun z => ⟨by omega, z.2⟩, fun z => ⟨by omega, z.2⟩⟩ _ _
  · rw [if_neg (fun z => e z.1)]
    unfold ntC
    rw [upR_n e, upR_n e]
theorem ntC_2 (σ : Mem) {S v : Int32} {i : Nat} (h : ¬ bt S i = true) : ntC σ S v i = ntC σ S v (i + 1) := by
  unfold ntC
  congr 1
  funext j
  by_cases e2 : j = i
  · subst e2; rw [if_neg (fun z => h z.2), if_neg (fun z => h z.2)]
  · exact ite_iff ⟨fun z => ⟨by omega, z.2⟩, fun z => ⟨by omega, z.2⟩⟩ _ _
theorem note_l {σ : Mem} (S v : Int32) : ∀ n i, i ≤ 8 → 8 - i < n → lw2 (fX4_noteRound_2 S v) n (nI i) (ntC σ S v i) = some (ntC σ S v 8) := by
  intro n
  induction n with
  | zero => intro i _ h2; omega
  | succ n ih =>
    intro i h1 h2
    rw [lw2_s, fX4_noteRound_2]
    by_cases e : i = 8
    · subst e
      rw [if_pos (show (8 : Int32) ≤ nI 8 by decide)]
    · have hi := ih (i + 1) (by omega) (by omega)
      rw [if_neg (show ¬ (8 : Int32) ≤ nI i from nle_n (b := 8) (by omega) (by decide)), isIn_e _ (by omega), gd_t (inB_n (by omega) (by decide)), pb_e, nI_clamp (by omega), nI_1]
      by_cases h : bt S i = true
      · rw [if_pos h, ntC_1 σ h]; exact hi
      · rw [if_neg h, ntC_2 σ h]; exact hi
theorem c_note (σ : Mem) (S v : Int32) : fX4_noteRound S v σ = some (ntC σ S v 8) := by
  have z : ntC σ S v 0 = σ := by
    funext q
    unfold ntC
    by_cases e : q = 32
    · rw [e, upR_s]; funext j; rw [if_neg (by omega)]
    · rw [upR_n e]
  have := note_l (σ := σ) S v FU 0 (by omega) (Nat.lt_trans (show 8 - 0 < 10100 by omega) FU_gt)
  rw [z] at this
  rw [fX4_noteRound]
  exact this
/-- the reference's -/
def ntR (σ : Mem) (S : Int32) (i : Nat) : Mem := upR σ 5 (fun j => if j < i ∧ bt S j = true ∧ ¬ 0 ≤ σ 5 j then σ 0 6 else σ 5 j)
theorem ntR_0 (σ : Mem) (S : Int32) : ntR σ S 0 = σ := by
  funext q
  unfold ntR
  by_cases e : q = 5
  · rw [e, upR_s]; funext j; rw [if_neg (by omega)]
  · rw [upR_n e]
theorem ntR_i (σ : Mem) (S : Int32) (i : Nat) : ntR σ S i 5 i = σ 5 i := by
  unfold ntR
  rw [upR_s, if_neg (by omega)]
theorem ntR_1 (σ : Mem) {S : Int32} {i : Nat} (h : bt S i = true ∧ ¬ 0 ≤ σ 5 i) : up2 (ntR σ S i) 5 i (σ 0 6) = ntR σ S (i + 1) := by
  funext q j
  rw [up2_a]
  by_cases e : q = 5
  · subst e
    unfold ntR
    rw [upR_s, upR_s]
    by_cases e2 : j = i
    · subst e2; rw [if_pos ⟨rfl, rfl⟩, if_pos ⟨by omega, h⟩]
    · rw [if_neg (fun z => e2 z.2)]
      exact ite_iff ⟨fun z => ⟨by omega, z.2⟩, fun z => ⟨by omega, z.2⟩⟩ _ _
  · rw [if_neg (fun z => e z.1)]
    unfold ntR
    rw [upR_n e, upR_n e]
theorem ntR_2 (σ : Mem) {S : Int32} {i : Nat} (h : ¬ (bt S i = true ∧ ¬ 0 ≤ σ 5 i)) : ntR σ S i = ntR σ S (i + 1) := by
  unfold ntR
  congr 1
  funext j
  by_cases e2 : j = i
  · subst e2; rw [if_neg (fun z => h z.2), if_neg (fun z => h z.2)]
  · exact ite_iff ⟨fun z => ⟨by omega, z.2⟩, fun z => ⟨by omega, z.2⟩⟩ _ _
theorem noteR_l {σ : Mem} (hW : WFv (σ 1)) (k54 : Int32 → Int32 → Mem → Option (Int32 × Mem)) (E t S : Int32) : ∀ n i, i ≤ nP (σ 1) → nP (σ 1) - i < n → lw2 (fX6_caughtFrom_181 k54 E t S) n (nI i) (ntR σ S i) = k54 S t (ntR σ S (nP (σ 1))) := by
  intro n
  induction n with
  | zero => intro i _ h2; omega
  | succ n ih =>
    intro i h1 h2
    obtain ⟨e5, h8⟩ := hW.p
    have e1 : ntR σ S i 1 5 = nI (nP (σ 1)) := by unfold ntR; rw [upR_n (by omega)]; exact e5
    rw [lw2_s, fX6_caughtFrom_181, e1]
    by_cases e : i = nP (σ 1)
    · rw [← e, if_pos (Int32.le_refl _)]
    · have hi := ih (i + 1) (by omega) (by omega)
      have q8 : i < 8 := by omega
      have e06 : ntR σ S i 0 6 = σ 0 6 := by unfold ntR; rw [upR_n (by omega)]
      rw [if_neg (nle_n (by omega) (by omega))]
      simp only [gd_t (inB_n q8 (show 8 < 2 ^ 31 by decide)), pb_e, nI_clamp (show i < 2 ^ 31 by omega), nI_1, up2_self, ntR_i, e06]
      by_cases h : bt S i = true
      · rw [if_pos ((bt_1 S q8).mpr h)]
        by_cases h0 : 0 ≤ σ 5 i
        · rw [if_pos h0]
          have := ntR_2 σ (S := S) (i := i) (fun z => z.2 h0)
          rw [show up2 (ntR σ S i) 5 i (σ 5 i) = ntR σ S i by rw [← ntR_i σ S i, up2_self], this]
          exact hi
        · rw [if_neg h0, ntR_1 σ ⟨h, h0⟩]; exact hi
      · rw [if_neg (fun z => h ((bt_1 S q8).mp z))]
        have := ntR_2 σ (S := S) (i := i) (fun z => h z.1)
        rw [show up2 (ntR σ S i) 5 i (σ 5 i) = ntR σ S i by rw [← ntR_i σ S i, up2_self], this]
        exact hi
theorem r_note {σ : Mem} (hW : WFv (σ 1)) (k54 : Int32 → Int32 → Mem → Option (Int32 × Mem)) (E t S : Int32) : lw2 (fX6_caughtFrom_181 k54 E t S) FU 0 σ = k54 S t (ntR σ S (nP (σ 1))) := by
  have h8 := hW.p.2
  have := noteR_l hW k54 E t S FU 0 (by omega) (Nat.lt_trans (show nP (σ 1) - 0 < 10100 by omega) FU_gt)
  rw [ntR_0] at this
  exact this
