/-! count, status -/
def sumS (a : Vec) (w : Nat) : Nat → Int32
  | 0 => 0
  | p + 1 => sumS a w p + it a p w
theorem r_sum_l {σ : Mem} (h : WFv (σ 1)) {w : Nat} (hw : w < 5) : ∀ n p, p ≤ nP (σ 1) → nP (σ 1) - p < n → lw2 (fX6_sumOf_4 (nI w) σ) n (sumS (σ 1) w p) (nI p) = some (sumS (σ 1) w (nP (σ 1))) := by
  intro n
  induction n with
  | zero => intro i _ h2; omega
  | succ n ih =>
    intro p h1 h2
    obtain ⟨e5, h8⟩ := h.p
    rw [lw2_s, fX6_sumOf_4, e5]
    by_cases e : p = nP (σ 1)
    · rw [← e, if_pos (Int32.le_refl _)]
    · rw [if_neg (nle_n (by omega) (by omega)), r_its (by omega) hw, Option.bind_some, pb_e, nI_1]
      exact ih (p + 1) (by omega) (by omega)
theorem r_sum {σ : Mem} (h : WFv (σ 1)) {w : Nat} (hw : w < 5) : fX6_sumOf (nI w) σ = some (sumS (σ 1) w (nP (σ 1))) := by
  have h8 := h.p.2
  rw [fX6_sumOf]
  exact r_sum_l h hw FU 0 (by omega) (Nat.lt_trans (show nP (σ 1) - 0 < 10100 by omega) FU_gt)
theorem c_sum_l {σ : Mem} {r k : Nat} {a : Vec} (h : WFv a) (h0 : σ r 0 = a 5) {w : Nat} (hs : ∀ q, q < 8 → σ k q = it a q w) : ∀ n p, p ≤ nP a → nP a - p < n → lw2 (fX1_together_4 r k σ) n (sumS a w p) (nI p) = some (sumS a w (nP a)) := by
  intro n
  induction n with
  | zero => intro i _ h2; omega
  | succ n ih =>
    intro p h1 h2
    obtain ⟨e5, h8⟩ := h.p
    rw [lw2_s, fX1_together_4, h0, e5]
    by_cases e : p = nP a
    · rw [← e, if_pos (Int32.le_refl _)]
    · rw [if_neg (nle_n (by omega) (by omega)), gd_t (inB_n (by omega) (by decide)), pb_e, nI_1, nI_clamp (by omega), hs p (by omega)]
      exact ih (p + 1) (by omega) (by omega)
theorem c_sum {σ : Mem} {r k : Nat} {a : Vec} (h : WFv a) (h0 : σ r 0 = a 5) {w : Nat} (hs : ∀ q, q < 8 → σ k q = it a q w) : fX1_together r k σ = some (sumS a w (nP a)) := by
  have h8 := h.p.2
  rw [fX1_together]
  exact c_sum_l h h0 hs FU 0 (by omega) (Nat.lt_trans (show nP a - 0 < 10100 by omega) FU_gt)
def heldS (a : Vec) : Nat → Int32
  | 0 => 0
  | k + 1 => if a (63 + k) = -1 then heldS a k else heldS a k + 1
theorem add0 (x : Int32) : x + 0 = x := Int32.add_zero x
theorem spot_c {a : Vec} (h : WFv a) {k : Nat} (hk : k < 10) : 0 ≤ a (63 + k) ↔ ¬ a (63 + k) = -1 := by
  have hn := h.p.2
  rcases h.2.2.2.2.2.2.2 k hk with e | ⟨q, hq, e⟩
  · rw [e]; decide
  · rw [e]
    refine ⟨fun _ z => ?_, fun _ => nI_pos' (by omega)⟩
    have h2 : (0 : Int32) ≤ nI q := nI_pos' (by omega)
    rw [z] at h2
    exact absurd h2 (by decide)
theorem r_held_l {σ : Mem} (h : WFv (σ 1)) : ∀ n k, k ≤ 10 → 10 - k < n → lw2 (fX6_held_4 σ) n (heldS (σ 1) k) (nI k) = some (heldS (σ 1) 10) := by
  intro n
  induction n with
  | zero => intro i _ h2; omega
  | succ n ih =>
    intro k h1 h2
    rw [lw2_s, fX6_held_4]
    by_cases e : k = 10
    · subst e; rw [if_pos (show (10 : Int32) ≤ nI 10 by decide)]
    · rw [if_neg (show ¬ (10 : Int32) ≤ nI k from nle_n (b := 10) (by omega) (by decide)), show (63 + nI k : Int32) = nI (63 + k) by rw [show (63 : Int32) = nI 63 from rfl, nI_add], gd_t (inB_n (by omega) (by decide)), pb_e, pb_e, nI_1, nI_clamp (by omega), add0]
      have hi := ih (k + 1) (by omega) (by omega)
      rw [heldS] at hi
      by_cases e2 : σ 1 (63 + k) = -1
      · rw [if_neg (fun z => (spot_c h (by omega)).mp z e2)]
        rw [if_pos e2] at hi
        exact hi
      · rw [if_pos ((spot_c h (by omega)).mpr e2)]
        rw [if_neg e2] at hi
        exact hi
theorem r_held {σ : Mem} (h : WFv (σ 1)) : fX6_held σ = some (heldS (σ 1) 10) := by
  rw [fX6_held]
  exact r_held_l h FU 0 (by omega) (Nat.lt_trans (show 10 - 0 < 10100 by omega) FU_gt)
theorem c_held_l {σ : Mem} {r : Nat} {a : Vec} (hK : RmK σ r a) : ∀ n k, k ≤ 10 → 10 - k < n → lw2 (fX1_spotsHolding_4 r σ) n (heldS a k) (nI k) = some (heldS a 10) := by
  intro n
  induction n with
  | zero => intro i _ h2; omega
  | succ n ih =>
    intro k h1 h2
    rw [lw2_s, fX1_spotsHolding_4]
    by_cases e : k = 10
    · subst e; rw [if_pos (show (10 : Int32) ≤ nI 10 by decide)]
    · rw [if_neg (show ¬ (10 : Int32) ≤ nI k from nle_n (b := 10) (by omega) (by decide)), gd_t (inB_n (by omega) (by decide)), nI_1, nI_clamp (by omega), hK k (by omega)]
      have hi := ih (k + 1) (by omega) (by omega)
      rw [heldS] at hi
      by_cases e2 : a (63 + k) = -1
      · rw [if_pos e2]
        rw [if_pos e2] at hi
        exact hi
      · rw [if_neg e2]
        rw [if_neg e2] at hi
        exact hi
theorem c_held {σ : Mem} {r : Nat} {a : Vec} (hK : RmK σ r a) : fX1_spotsHolding r σ = some (heldS a 10) := by
  rw [fX1_spotsHolding]
  exact c_held_l hK FU 0 (by omega) (Nat.lt_trans (show 10 - 0 < 10100 by omega) FU_gt)
theorem st_count (a1 : Int32) : StI Inv (fX5_count a1) (fX6_count a1) := by
  intro σc σr hI
  have hR := hI.1.1
  have hW := hI.1.2.1
  have hs : ∀ q, q < 8 → σc 6 q = it (σr 1) q 4 := fun q hq => (hR.2.2.1 q hq).2.2.2.2
  have r4 := r_sum hW (w := 4) (by decide)
  rw [show nI 4 = (4 : Int32) from rfl] at r4
  rw [fX5_count, fX6_count, r4, r_held hW, c_sum hW hR.1.2.2.2.2.1 hs, c_held hR.2.2.2.1, hR.1.2.2.2.2.1, hR.1.2.2.2.2.2, hR.1.2.2.1, hR.1.2.2.2.1, hI.1.2.2.1, hI.2.2.1.1]
  simp only [b2id, Option.bind_some]
  by_cases h0 : a1 = 0
  · rw [if_pos h0, if_pos h0]; exact ⟨_, _, _, rfl, rfl, hI⟩
  rw [if_neg h0, if_neg h0]
  by_cases h0 : a1 = 1
  · rw [if_pos h0, if_pos h0]; exact ⟨_, _, _, rfl, rfl, hI⟩
  rw [if_neg h0, if_neg h0]
  by_cases h0 : a1 = 2
  · rw [if_pos h0, if_pos h0]; exact ⟨_, _, _, rfl, rfl, hI⟩
  rw [if_neg h0, if_neg h0]
  by_cases h0 : a1 = 3
  · rw [if_pos h0, if_pos h0]; exact ⟨_, _, _, rfl, rfl, hI⟩
  rw [if_neg h0, if_neg h0]
  by_cases h0 : a1 = 4
  · rw [if_pos h0, if_pos h0]; exact ⟨_, _, _, rfl, rfl, hI⟩
  rw [if_neg h0, if_neg h0]
  by_cases h0 : a1 = 5
  · rw [if_pos h0, if_pos h0]; exact ⟨_, _, _, rfl, rfl, hI⟩
  rw [if_neg h0, if_neg h0]
  by_cases h0 : a1 = 6
  · rw [if_pos h0, if_pos h0]; exact ⟨_, _, _, rfl, rfl, hI⟩
  rw [if_neg h0, if_neg h0]
  by_cases h0 : a1 = 7
  · rw [if_pos h0, if_pos h0]; exact ⟨_, _, _, rfl, rfl, hI⟩
  rw [if_neg h0, if_neg h0]
  exact st_find hI (by decide) (found_0 σc) (finds_0 σr)
/-! status -/
def sumF (σ : Mem) (k : Nat) : Nat → Int32
  | 0 => 0
  | p + 1 => sumF σ k p + σ k p
theorem c_stat_l {σ : Mem} : ∀ n p, p ≤ 7 → 7 - p < n → lw2 (fX5_status_32 σ) n (sumF σ 45 p) (nI p) = some (sumF σ 45 7, σ) := by
  intro n
  induction n with
  | zero => intro i _ h2; omega
  | succ n ih =>
    intro k h1 h2
    rw [lw2_s, fX5_status_32]
    by_cases e : k = 7
    · subst e; rw [if_pos (show (7 : Int32) ≤ nI 7 by decide)]
    · rw [if_neg (show ¬ (7 : Int32) ≤ nI k from nle_n (b := 7) (by omega) (by decide)), gd_t (inB_n (by omega) (by decide)), pb_e, nI_1, nI_clamp (by omega)]
      exact ih (k + 1) (by omega) (by omega)
theorem r_stat_a {σ : Mem} {x : Int32} (hx : x < 0) : ∀ n p, p ≤ 7 → 7 - p < n → lw2 (fX6_status_24 x σ) n (sumF σ 4 p) (nI p) = some (sumF σ 4 7, σ) := by
  intro n
  induction n with
  | zero => intro i _ h2; omega
  | succ n ih =>
    intro k h1 h2
    rw [lw2_s, fX6_status_24]
    by_cases e : k = 7
    · subst e; rw [if_pos (show (7 : Int32) ≤ nI 7 by decide)]
    · rw [if_neg (show ¬ (7 : Int32) ≤ nI k from nle_n (b := 7) (by omega) (by decide)), if_pos hx, gd_t (inB_n (by omega) (by decide)), pb_e, nI_1, nI_clamp (by omega)]
      exact ih (k + 1) (by omega) (by omega)
theorem r_stat_b {σ : Mem} {j : Nat} (hj : j < 7) : ∀ n p, p ≤ 7 → 7 - p < n → lw2 (fX6_status_24 (nI j) σ) n (if j < p then 0 + σ 4 j else 0) (nI p) = some (0 + σ 4 j, σ) := by
  intro n
  induction n with
  | zero => intro i _ h2; omega
  | succ n ih =>
    intro k h1 h2
    rw [lw2_s, fX6_status_24]
    by_cases e : k = 7
    · subst e; rw [if_pos (show (7 : Int32) ≤ nI 7 by decide), if_pos hj]
    · have hi := ih (k + 1) (by omega) (by omega)
      rw [if_neg (show ¬ (7 : Int32) ≤ nI k from nle_n (b := 7) (by omega) (by decide)), if_neg (show ¬ nI j < 0 from fun z => absurd z (Int32.not_lt.mpr (nI_pos' (by omega)))), pb_e, pb_e, nI_1, add0]
      by_cases e2 : j = k
      · subst e2
        rw [if_pos rfl, if_neg (by omega), gd_t (inB_n (by omega) (by decide)), nI_clamp (by omega)]
        rw [if_pos (by omega)] at hi
        exact hi
      · rw [if_neg (fun z => e2 ((nI_eq (by omega) (by omega)).mp z))]
        rw [ite_iff (show j < k + 1 ↔ j < k by omega)] at hi
        exact hi
theorem sumF_e {σc σr : Mem} (h : InvF σc σr) : ∀ p, p ≤ 7 → sumF σc 45 p = sumF σr 4 p := by
  intro p
  induction p with
  | zero => intro _; rfl
  | succ p ih => intro hp; rw [sumF, sumF, ih (by omega), h p (by omega)]
theorem st_status (a1 : Int32) : StI Inv (fX5_status a1) (fX6_status a1) := by
  intro σc σr hI
  have hF := hI.2.2.2.2
  rw [fX5_status, fX6_status, in_l a1 (-1) 6 (by decide) (by decide)]
  simp only [b2id]
  by_cases h1 : fX5_within a1 (-1) 6 = true
  case neg => rw [if_neg h1, if_neg h1]; exact st_find hI (by decide) (found_0 σc) (finds_0 σr)
  rw [if_pos h1, if_pos h1]
  by_cases h2 : a1 < 0
  · have e1 : lw2 (fX5_status_32 σc) FU 0 0 = some (sumF σc 45 7, σc) := c_stat_l FU 0 (by omega) (Nat.lt_trans (show 7 - 0 < 10100 by omega) FU_gt)
    have e2 : lw2 (fX6_status_24 a1 σr) FU 0 0 = some (sumF σr 4 7, σr) := r_stat_a h2 FU 0 (by omega) (Nat.lt_trans (show 7 - 0 < 10100 by omega) FU_gt)
    rw [if_pos h2, e1, e2]
    exact st_same hI (sumF_e hF 7 (by omega)) rfl rfl
  · obtain ⟨j, hj, rfl⟩ := nI_of h2
    have h6 : j < 7 := by
      have := ((wi_iff _ _ _).mp h1).2
      rw [show (6 : Int32) = nI 6 from rfl, Int32.le_iff_toInt_le, nI_toInt hj, nI_toInt (by decide)] at this
      omega
    have e2 := r_stat_b (σ := σr) h6 FU 0 (by omega) (Nat.lt_trans (show 7 - 0 < 10100 by omega) FU_gt)
    rw [if_neg (by omega), Int32.zero_add] at e2
    rw [if_neg h2, gd_t (inB_n h6 (by decide)), nI_clamp hj]
    exact st_same hI (hF j h6) rfl e2
