theorem FU_gt : 10100 < FU := by decide
theorem nle_n {a b : Nat} (h : a < b) (hb : b < 2 ^ 31) : ¬ nI b ≤ nI a := nI_ge h hb
def onesS (x : Int32) : Nat → Int32
  | 0 => 0
  | k + 1 => onesS x k + ((x >>> (nI k &&& 31)) &&& 1)
theorem r_ones_l (x : Int32) : ∀ n k, k ≤ 8 → 8 - k < n → lw2 (fX6_ones_4 x) n (onesS x k) (nI k) = some (onesS x 8) := by
  intro n
  induction n with
  | zero => intro k h1 h2; omega
  | succ n ih =>
    intro k h1 h2
    rw [lw2_s, fX6_ones_4]
    by_cases e : k = 8
    · subst e
      rw [if_pos (by decide)]
    · rw [if_neg (show ¬ (8 : Int32) ≤ nI k from nle_n (b := 8) (by omega) (by decide)), pb_e, nI_1]
      exact ih (k + 1) (by omega) (by omega)
theorem r_ones (x : Int32) : fX6_ones x = some (onesS x 8) := r_ones_l x FU 0 (by decide) (by decide)
def pc (x : Int32) : Int32 := onesS x 8
theorem bc_pc : ∀ n, n < 256 → fJ6_bitCount_0f7a4 (nI n) = pc (nI n) := by decide +kernel
/-! persons of the reference -/
theorem pm_ix (p w : Nat) : ((23 + 5 * nI p) + nI w : Int32) = nI (23 + 5 * p + w) := by
  rw [show (23 : Int32) = nI 23 from rfl, show (5 : Int32) = nI 5 from rfl, pk_mul, nI_add, nI_add]
theorem r_its {p w : Nat} (hp : p < 8) (hw : w < 5) (σ : Mem) : fX6_its (nI p) (nI w) σ = some (it (σ 1) p w) := by
  rw [fX6_its, pm_ix, gd_t (inB_n (by omega) (by decide)), nI_clamp (by omega)]
  rfl
theorem r_its' {p w : Nat} {x y : Int32} (hx : x = nI p) (hy : y = nI w) (hp : p < 8) (hw : w < 5) (σ : Mem) : fX6_its x y σ = some (it (σ 1) p w) := by rw [hx, hy]; exact r_its hp hw σ
theorem r_sets {p w : Nat} (hp : p < 8) (hw : w < 5) (v : Int32) (σ : Mem) : fX6_sets (nI p) (nI w) v σ = some (up2 σ 1 (23 + 5 * p + w) v) := by
  rw [fX6_sets, pm_ix, gd_t (inB_n (by omega) (by decide)), nI_clamp (by omega), pb_e]
theorem abs_sym : ∀ i, i < 16 → ∀ j, j < 16 → iAbs (nI i - nI j) = iAbs (nI j - nI i) := by decide +kernel
theorem abs_wf {a : Vec} (h : WFv a) {p q : Nat} (hp : p < 8) (hq : q < 8) : iAbs (it a p 1 - it a q 1) = iAbs (it a q 1 - it a p 1) := by
  obtain ⟨i, hi, e1⟩ := (h.2.2.1 p hp).2.1
  obtain ⟨j, hj, e2⟩ := (h.2.2.1 q hq).2.1
  rw [e1, e2]
  exact abs_sym i (by omega) j (by omega)
theorem r_near_l {σ : Mem} (h : WFv (σ 1)) {p : Nat} (hp : p < 8) : ∀ n o, o ≤ nP (σ 1) → nP (σ 1) - o < n → lw2 (fX6_near_4 (nI p) σ) n (nearF (σ 1) p o) (nI o) = some (nearS (σ 1) p) := by
  obtain ⟨hN, h8⟩ := h.p
  intro n
  induction n with
  | zero => intro k h1 h2; omega
  | succ n ih =>
    intro o h1 h2
    rw [lw2_s, fX6_near_4, hN]
    by_cases e : o = nP (σ 1)
    · subst e
      rw [if_pos (nI_le (Nat.le_refl _) (by omega))]
      rfl
    · rw [if_neg (nle_n (by omega) (by omega))]
      have ih' := ih (o + 1) (by omega) (by omega)
      rw [nearF] at ih'
      by_cases ep : o = p
      · subst ep
        rw [if_pos rfl, fX6_near_48, fX6_near_49, if_pos rfl, pb_e, Int32.or_zero, nI_1]
        rw [if_pos rfl] at ih'
        exact ih'
      · rw [if_neg (fun z => ep ((nI_eq (by omega) (by omega)).mp z)), r_its' rfl (show (1 : Int32) = nI 1 from rfl) (by omega) (by decide), Option.bind_some, r_its' rfl (show (1 : Int32) = nI 1 from rfl) hp (by decide), Option.bind_some, abs_wf h (by omega) hp]
        rw [if_neg ep] at ih'
        by_cases ec : σ 1 1 < iAbs (it (σ 1) p 1 - it (σ 1) o 1)
        · rw [if_pos ec] at ih'
          rw [if_pos ec, fX6_near_48, fX6_near_49, if_pos rfl, pb_e, Int32.or_zero, nI_1]
          exact ih'
        · rw [if_neg ec] at ih'
          rw [if_neg ec, fX6_near_49, if_neg (by decide), pb_e, nI_1]
          exact ih'
theorem r_near {σ : Mem} (h : WFv (σ 1)) {p : Nat} (hp : p < 8) : fX6_near (nI p) σ = some (nearS (σ 1) p) := by
  have h8 := h.p.2
  exact r_near_l h hp FU 0 (by omega) (Nat.lt_trans (show nP (σ 1) - 0 < 10100 by omega) FU_gt)
/-! the class: the row of who is near, renewed -/
theorem c_near_in {σ : Mem} {r : Nat} {a : Vec} (hw : WFv a) (h0 : σ r 0 = a 5) (h1 : σ r 11 = a 1) (hs : ∀ q, q < 8 → σ (r + 2) q = it a q 1) {p : Nat} (hp : p < 8) (k2 : Int32 → Mem → Option Mem) : ∀ n o, o ≤ nP a → nP a - o < n → lw2 (fX1_renewNear_14 r k2 (nI p) σ) n (nearF a p o) (nI o) = k2 (nI (p + 1)) (up2 σ (r + 6) p (nearS a p)) := by
  obtain ⟨hN, h8⟩ := hw.p
  intro n
  induction n with
  | zero => intro k h1 h2; omega
  | succ n ih =>
    intro o u1 u2
    rw [lw2_s, fX1_renewNear_14, h0, hN, h1]
    by_cases e : o = nP a
    · subst e
      rw [if_pos (nI_le (Nat.le_refl _) (by omega)), gd_t (inB_n hp (by decide)), pb_e, nI_clamp (by omega), nI_1]
      rfl
    · rw [if_neg (nle_n (by omega) (by omega))]
      have ih' := ih (o + 1) (by omega) (by omega)
      rw [nearF] at ih'
      by_cases ep : o = p
      · subst ep
        rw [if_pos rfl, nI_1]
        rw [if_pos rfl] at ih'
        exact ih'
      · rw [if_neg (fun z => ep ((nI_eq (by omega) (by omega)).mp z)), gd_t (inB_n hp (by decide)), gd_t (inB_n (by omega) (by decide)), nI_clamp (by omega), nI_clamp (by omega), hs p hp, hs o (by omega)]
        rw [if_neg ep] at ih'
        by_cases ec : a 1 < iAbs (it a p 1 - it a o 1)
        · rw [if_pos ec] at ih'
          rw [if_pos ec, nI_1]
          exact ih'
        · rw [if_neg ec] at ih'
          rw [if_neg ec, pb_e, nI_1]
          exact ih'
/-- the near row as far as it is renewed -/
def nearRow (σ : Mem) (r : Nat) (a : Vec) : Nat → Mem
  | 0 => σ
  | p + 1 => up2 (nearRow σ r a p) (r + 6) p (nearS a p)
theorem nearRow_n {σ : Mem} {r : Nat} {a : Vec} (p : Nat) {k : Nat} (h : k ≠ r + 6) : nearRow σ r a p k = σ k := by
  induction p with
  | zero => rfl
  | succ p ih => rw [nearRow, up2_n h, ih]
theorem nearRow_s {σ : Mem} {r : Nat} {a : Vec} (p : Nat) {j : Nat} (h : j < p) : nearRow σ r a p (r + 6) j = nearS a j := by
  induction p with
  | zero => omega
  | succ p ih =>
    rw [nearRow, up2_a]
    by_cases e : j = p
    · rw [if_pos ⟨rfl, e⟩, e]
    · rw [if_neg (fun z => e z.2)]
      exact ih (by omega)
theorem c_renew_l {σ : Mem} {r : Nat} {a : Vec} (hw : WFv a) (h0 : σ r 0 = a 5) (h1 : σ r 11 = a 1) (hs : ∀ q, q < 8 → σ (r + 2) q = it a q 1) : ∀ n p, p ≤ nP a → nP a - p < n → lw2 (fX1_renewNear_2 r) n (nI p) (nearRow σ r a p) = some (nearRow σ r a (nP a)) := by
  obtain ⟨hN, h8⟩ := hw.p
  intro n
  induction n with
  | zero => intro k h1 h2; omega
  | succ n ih =>
    intro p u1 u2
    have e0 : nearRow σ r a p r = σ r := nearRow_n p (by omega)
    have e2 : nearRow σ r a p (r + 2) = σ (r + 2) := nearRow_n p (by omega)
    rw [lw2_s, fX1_renewNear_2, e0, h0, hN]
    by_cases e : p = nP a
    · subst e
      rw [if_pos (nI_le (Nat.le_refl _) (by omega))]
    · rw [if_neg (nle_n (by omega) (by omega))]
      have h := c_near_in (σ := nearRow σ r a p) hw (by rw [e0]; exact h0) (by rw [e0]; exact h1) (by rw [e2]; exact hs) (p := p) (by omega) (lw2 (fX1_renewNear_2 r) n) FU 0 (by omega) (Nat.lt_trans (show nP a - 0 < 10100 by omega) FU_gt)
      refine Eq.trans h ?_
      exact ih (p + 1) (by omega) (by omega)
theorem c_renew {σ : Mem} {r : Nat} {a : Vec} (hw : WFv a) (h0 : σ r 0 = a 5) (h1 : σ r 11 = a 1) (hs : ∀ q, q < 8 → σ (r + 2) q = it a q 1) : fX1_renewNear r σ = some (nearRow σ r a (nP a)) := by
  have h8 := hw.p.2
  exact c_renew_l hw h0 h1 hs FU 0 (by omega) (Nat.lt_trans (show nP a - 0 < 10100 by omega) FU_gt)
