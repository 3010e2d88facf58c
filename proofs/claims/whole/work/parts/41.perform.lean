/-! the class tells a joke in room r -/
def C1 (σ : Mem) (r : Nat) (a : Vec) (t f T : Int32) (p : Nat) (σ' : Mem) : Prop :=
  (∀ k, k ≠ r → k ≠ r + 5 → k ≠ 33 → σ' k = σ k) ∧ (∀ j, j ≠ 12 → σ' r j = σ r j) ∧ σ' r 12 = trF a t f T p ∧ (∀ q, q < 8 → σ' (r + 5) q = if q < p then it a q 4 - pdF a t f T q else it a q 4) ∧ (∀ q, q < p → σ' 33 q = pdF a t f T q)
theorem c1_l {σ : Mem} {r : Nat} {a : Vec} {T : Int32} {j : Nat} (hr : r + 9 < 31) (hR : RmR σ r a) (hW : WFv a) (hj : j < 8) : ∀ n p σ', p ≤ nP a → nP a - p < n → C1 σ r a (a (7 + 2 * j)) (a (7 + 2 * j + 1)) T p σ' → ∃ τ, lw2 (fX4_perform_10 r (nI j) T) n (nI p) σ' = lw2 (fX4_perform_83 r T) FU 0 τ ∧ C1 σ r a (a (7 + 2 * j)) (a (7 + 2 * j + 1)) T (nP a) τ := by
  obtain ⟨e5, h8⟩ := hW.p
  intro n
  induction n with
  | zero => intro p σ' _ h2; omega
  | succ n ih =>
    intro p σ' h1 h2 hC
    obtain ⟨c0, c1, c2, c3, c4⟩ := hC
    rw [lw2_s, fX4_perform_10, c1 0 (by decide), hR.1.2.2.2.2.1, e5]
    by_cases e : p = nP a
    · refine ⟨σ', by rw [e, if_pos (Int32.le_refl _)], ?_⟩
      rw [← e]
      exact ⟨c0, c1, c2, c3, c4⟩
    · have q8 : p < 8 := by omega
      obtain ⟨ej0, ej1⟩ := hR.2.1 j hj
      have s7 : σ' (r + 7) = σ (r + 7) := c0 _ (by omega) (by omega) (by omega)
      have s8 : σ' (r + 8) = σ (r + 8) := c0 _ (by omega) (by omega) (by omega)
      have s1 : σ' (r + 1) = σ (r + 1) := c0 _ (by omega) (by omega) (by omega)
      have s3 : σ' (r + 3) = σ (r + 3) := c0 _ (by omega) (by omega) (by omega)
      have s4 : σ' (r + 4) = σ (r + 4) := c0 _ (by omega) (by omega) (by omega)
      have s6 : σ' (r + 6) = σ (r + 6) := c0 _ (by omega) (by omega) (by omega)
      have hst : fX1_strengthFor r (nI p) (a (7 + 2 * j)) (a (7 + 2 * j + 1)) σ' = some (stS a (a (7 + 2 * j)) (a (7 + 2 * j + 1)) p) := by
        rw [← c_strong (hW.2.2.2.1 j hj).1 (a (7 + 2 * j + 1)) hR.2.2.1 hW q8, fX1_strengthFor, fX1_strengthFor, s3, s4]
      have hdu : ∀ v, fX1_dueFrom r (nI p) v σ' = some (duS a v p) := by
        intro v
        rw [← c_due v hR hW q8 (by omega), fX1_dueFrom, fX1_dueFrom, s1, s6, c1 10 (by decide)]
      rw [if_neg (nle_n (by omega) (by omega)), gd_t (inB_n hj (by decide)), gd_t (inB_n hj (by decide)), nI_clamp (show j < 2 ^ 31 by omega), s7, s8, ej0, ej1, hst, Option.bind_some, isIn_e T q8]
      by_cases hb : bt T p = true
      · rw [if_pos hb, hdu, Option.bind_some, fX4_collect]
        simp only [gd_t (inB_n q8 (show 8 < 2 ^ 31 by decide)), nI_clamp (show p < 2 ^ 31 by omega), pb_e, bnd2_s, nI_1]
        have hX : iMin (duS a (stS a (a (7 + 2 * j)) (a (7 + 2 * j + 1)) p) p) (iMin (σ' (r + 5) p) (999999 - σ' r 12)) = pdF a (a (7 + 2 * j)) (a (7 + 2 * j + 1)) T p := by
          rw [c3 p q8, if_neg (Nat.lt_irrefl _), c2]
          unfold pdF pdS
          rw [if_pos hb]
        rw [hX]
        refine ih (p + 1) _ (by omega) (by omega) ⟨fun k h1 h2 h3 => ?_, fun i hi => ?_, ?_, fun q hq => ?_, fun q hq => ?_⟩
        · rw [up2_n h3, up2_n h1, up2_n h2]; exact c0 k h1 h2 h3
        · rw [up2_n (by omega), up2_j hi, up2_n (by omega)]; exact c1 i hi
        · rw [up2_n (by omega), up2_e, up2_n (by omega), c2, tr_1]
        · rw [up2_n (by omega), up2_n (by omega), up2_a]
          by_cases eq : q = p
          · subst eq
            rw [if_pos ⟨rfl, rfl⟩, if_pos (by omega), c3 q q8, if_neg (Nat.lt_irrefl _)]
          · rw [if_neg (fun z => eq z.2), c3 q hq]
            exact ite_iff (by omega) _ _
        · rw [up2_a]
          by_cases eq : q = p
          · rw [if_pos ⟨rfl, eq⟩, eq]
          · rw [if_neg (fun z => eq z.2), up2_n (by omega), up2_n (by omega)]
            exact c4 q (by omega)
      · have h0 : pdF a (a (7 + 2 * j)) (a (7 + 2 * j + 1)) T p = 0 := by
          unfold pdF pdS
          rw [if_neg hb]
        rw [if_neg hb, gd_t (inB_n q8 (by decide)), nI_clamp (show p < 2 ^ 31 by omega), pb_e, nI_1]
        refine ih (p + 1) _ (by omega) (by omega) ⟨fun k h1 h2 h3 => ?_, fun i hi => ?_, ?_, fun q hq => ?_, fun q hq => ?_⟩
        · rw [up2_n h3]; exact c0 k h1 h2 h3
        · rw [up2_n (by omega)]; exact c1 i hi
        · rw [up2_n (by omega), c2, tr_1, h0, Int32.add_zero]
        · rw [up2_n (by omega), c3 q hq]
          by_cases eq : q = p
          · subst eq
            rw [if_neg (Nat.lt_irrefl _), if_pos (by omega), h0, Int32.sub_zero]
          · exact ite_iff (by omega) _ _
        · rw [up2_a]
          by_cases eq : q = p
          · rw [if_pos ⟨rfl, eq⟩, eq, h0]
          · rw [if_neg (fun z => eq z.2)]
            exact c4 q (by omega)
def C2 (τ : Mem) (r : Nat) (a : Vec) (T : Int32) (p : Nat) (σ' : Mem) : Prop :=
  (∀ k, k ≠ r + 4 → σ' k = τ k) ∧ ∀ q, q < 8 → σ' (r + 4) q = if q < p then mdS a T q else it a q 3
theorem c2_l {τ : Mem} {r : Nat} {a : Vec} {T : Int32} (hW : WFv a) (h0 : τ r 0 = a 5) : ∀ n p σ', p ≤ nP a → nP a - p < n → C2 τ r a T p σ' → ∃ υ, lw2 (fX4_perform_83 r T) n (nI p) σ' = some (T, up2 υ r 13 (iMin 99999 (υ r 13 + 1))) ∧ C2 τ r a T (nP a) υ := by
  obtain ⟨e5, h8⟩ := hW.p
  intro n
  induction n with
  | zero => intro p σ' _ h2; omega
  | succ n ih =>
    intro p σ' h1 h2 hC
    obtain ⟨c0, c1⟩ := hC
    rw [lw2_s, fX4_perform_83, c0 r (by omega), h0, e5]
    by_cases e : p = nP a
    · refine ⟨σ', by rw [e, if_pos (Int32.le_refl _), pb_e, c0 r (by omega)], ?_⟩
      rw [← e]
      exact ⟨c0, c1⟩
    · have q8 : p < 8 := by omega
      have key : ∀ t0 : Int32, (if bt T p = true then (1 : Int32) else -1) = t0 → ∃ υ, fX4_perform_106 r (lw2 (fX4_perform_83 r T) n) T (nI p) t0 σ' = some (T, up2 υ r 13 (iMin 99999 (υ r 13 + 1))) ∧ C2 τ r a T (nP a) υ := by
        intro t0 ht
        rw [fX4_perform_106, gd_t (inB_n q8 (by decide)), gd_t (inB_n q8 (by decide)), pb_e, nI_clamp (by omega), nI_1, c1 p q8, if_neg (Nat.lt_irrefl _)]
        refine ih (p + 1) _ (by omega) (by omega) ⟨fun k hk => ?_, fun q hq => ?_⟩
        · rw [up2_n hk]; exact c0 k hk
        · rw [up2_a]
          by_cases eq : q = p
          · subst eq
            rw [if_pos ⟨rfl, rfl⟩, if_pos (by omega), ← ht]
            rfl
          · rw [if_neg (fun z => eq z.2), c1 q hq]
            exact ite_iff (by omega) _ _
      rw [if_neg (nle_n (by omega) (by omega)), isIn_e T q8]
      by_cases hb : bt T p = true
      · rw [if_pos hb]; exact key 1 (if_pos hb)
      · rw [if_neg hb]; exact key (-1) (if_neg hb)
/-! the reference tells it -/
def R1 (σ : Mem) (t f T : Int32) (p : Nat) (σ' : Mem) : Prop :=
  (∀ k, k ≠ 1 → k ≠ 6 → σ' k = σ k) ∧ σ' 1 = upd (σ 1) 2 (trF (σ 1) t f T p) ∧ ∀ q, q < p → σ' 6 q = pdF (σ 1) t f T q
theorem r1_l {σ : Mem} (hW : WFv (σ 1)) (t f T : Int32) : ∀ n p σ', p ≤ nP (σ 1) → nP (σ 1) - p < n → R1 σ t f T p σ' → ∃ τ, lw2 (fX6_tells_37 t f T) n (nI p) σ' = lw2 (fX6_tells_141 T) FU 0 τ ∧ R1 σ t f T (nP (σ 1)) τ := by
  obtain ⟨e5, h8⟩ := hW.p
  intro n
  induction n with
  | zero => intro p σ' _ h2; omega
  | succ n ih =>
    intro p σ' h1 h2 hC
    obtain ⟨c0, c1, c2⟩ := hC
    have g5 : σ' 1 5 = nI (nP (σ 1)) := by rw [c1, pk_un (by omega)]; exact e5
    rw [lw2_s, fX6_tells_37, g5]
    by_cases e : p = nP (σ 1)
    · refine ⟨σ', by rw [e, if_pos (Int32.le_refl _)], ?_⟩
      rw [← e]
      exact ⟨c0, c1, c2⟩
    · have q8 : p < 8 := by omega
      have tn := tr_n hW t f T p (by omega)
      have hW' : WFv (σ' 1) := by rw [c1]; exact hW.n2 tn
      have key : ∀ x : Int32, iMin x (iMin (it (σ 1) p 4) (999999 - trF (σ 1) t f T p)) = pdF (σ 1) t f T p → ∃ τ, fX6_tells_83 (lw2 (fX6_tells_37 t f T) n) t f T (nI p) x σ' = lw2 (fX6_tells_141 T) FU 0 τ ∧ R1 σ t f T (nP (σ 1)) τ := by
        intro x hx
        rw [fX6_tells_83, r_its' rfl (y := 4) (w := 4) rfl q8 (by decide), Option.bind_some, gd_t (inB_n q8 (by decide)), pb_e, gd_t (inB_n q8 (by decide)), pb_e, nI_clamp (by omega), nI_1, c1, pk_us, it_lo (by omega), hx]
        refine ih (p + 1) _ (by omega) (by omega) ⟨fun k h1 h2 => ?_, ?_, fun q hq => ?_⟩
        · rw [up2_n h1, up2_n h2]; exact c0 k h1 h2
        · rw [up2_s, up2_n (by omega), up2_e, c1, pk_us, upd_upd, tr_1]
        · rw [up2_n (by omega), up2_a]
          by_cases eq : q = p
          · rw [if_pos ⟨rfl, eq⟩, eq]
          · rw [if_neg (fun z => eq z.2)]
            exact c2 q (by omega)
      rw [if_neg (nle_n (by omega) (by omega))]
      by_cases hb : bt T p = true
      · rw [if_pos ((bt_1 T q8).mpr hb), fX6_tells_64, if_neg (by decide), r_due t f hW' q8, Option.bind_some, c1, du_u2 hW _ _ q8, st_u2]
        refine key _ ?_
        unfold pdF pdS
        rw [if_pos hb]
      · rw [if_neg (fun z => hb ((bt_1 T q8).mp z)), fX6_tells_64, if_pos rfl]
        refine key _ ?_
        rw [pd_0 hW q8 tn]
        unfold pdF pdS
        rw [if_neg hb]
def R2 (τ : Mem) (a : Vec) (t f T : Int32) (p : Nat) (σ' : Mem) : Prop :=
  (∀ k, k ≠ 1 → σ' k = τ k) ∧ (∀ q, q < p → it (σ' 1) q 4 = it a q 4 - pdF a t f T q ∧ it (σ' 1) q 3 = mdS a T q) ∧ ∀ i, (∀ q, q < p → i ≠ 23 + 5 * q + 3 ∧ i ≠ 23 + 5 * q + 4) → σ' 1 i = τ 1 i
theorem r2_l {τ : Mem} {a : Vec} {t f T v : Int32} (hW : WFv a) (ha : τ 1 = upd a 2 v) (h6 : ∀ q, q < nP a → τ 6 q = pdF a t f T q) : ∀ n p σ', p ≤ nP a → nP a - p < n → R2 τ a t f T p σ' → ∃ υ, lw2 (fX6_tells_141 T) n (nI p) σ' = some (T, up2 υ 1 3 (υ 1 3 + 1)) ∧ R2 τ a t f T (nP a) υ := by
  obtain ⟨e5, h8⟩ := hW.p
  intro n
  induction n with
  | zero => intro p σ' _ h2; omega
  | succ n ih =>
    intro p σ' h1 h2 hC
    obtain ⟨c0, c1, c2⟩ := hC
    have g5 : σ' 1 5 = nI (nP a) := by rw [c2 5 (fun q _ => by omega), ha, pk_un (by omega)]; exact e5
    rw [lw2_s, fX6_tells_141, g5]
    by_cases e : p = nP a
    · refine ⟨σ', by rw [e, if_pos (Int32.le_refl _), pb_e], ?_⟩
      rw [← e]
      exact ⟨c0, c1, c2⟩
    · have q8 : p < 8 := by omega
      have i4 : it (σ' 1) p 4 = it a p 4 := by unfold it; rw [c2 _ (fun q _ => by omega), ha, pk_un (by omega)]
      have i3 : it (σ' 1) p 3 = it a p 3 := by unfold it; rw [c2 _ (fun q _ => by omega), ha, pk_un (by omega)]
      have s6 : σ' 6 p = pdF a t f T p := by rw [c0 6 (by decide)]; exact h6 p (by omega)
      have fin : ∀ y : Int32, y = mdS a T p → ∃ υ, lw2 (fX6_tells_141 T) n (nI (p + 1)) (up2 (up2 σ' 1 (23 + 5 * p + 4) (it a p 4 - pdF a t f T p)) 1 (23 + 5 * p + 3) y) = some (T, up2 υ 1 3 (υ 1 3 + 1)) ∧ R2 τ a t f T (nP a) υ := by
        intro y hy
        refine ih (p + 1) _ (by omega) (by omega) ⟨fun k hk => ?_, fun q hq => ?_, fun i hi => ?_⟩
        · rw [up2_n hk, up2_n hk]; exact c0 k hk
        · rw [up2_s, up2_s, it_u (by decide) (by decide), it_u (by decide) (by decide), it_u (by decide) (by decide), it_u (by decide) (by decide)]
          by_cases eq : q = p
          · subst eq
            rw [if_neg (fun z => absurd z.2 (by decide)), if_pos ⟨rfl, rfl⟩, if_pos ⟨rfl, rfl⟩]
            exact ⟨rfl, hy⟩
          · rw [if_neg (fun z => eq z.1), if_neg (fun z => eq z.1), if_neg (fun z => eq z.1), if_neg (fun z => eq z.1)]
            exact c1 q (by omega)
        · have := hi p (by omega)
          rw [up2_j this.1, up2_j this.2]
          exact c2 i (fun q hq => hi q (by omega))
      rw [if_neg (nle_n (by omega) (by omega))]
      have w3 : it (up2 σ' 1 (23 + 5 * p + 4) (it a p 4 - pdF a t f T p) 1) p 3 = it a p 3 := by
        rw [up2_s, it_u (by decide) (by decide), if_neg (fun z => absurd z.2 (by decide))]; exact i3
      by_cases hb : bt T p = true
      · rw [if_pos ((bt_1 T q8).mpr hb), fX6_tells_168, r_its' rfl (y := 4) (w := 4) rfl q8 (by decide), Option.bind_some, gd_t (inB_n q8 (by decide)), nI_clamp (by omega), i4, s6, show (4 : Int32) = nI 4 from rfl, r_sets q8 (by decide), Option.bind_some, show (3 : Int32) = nI 3 from rfl, r_its q8 (by decide), Option.bind_some, if_neg (by decide), r_sets q8 (by decide), Option.bind_some, nI_1, w3]
        exact fin _ (by unfold mdS; rw [if_pos hb])
      · rw [if_neg (fun z => hb ((bt_1 T q8).mp z)), fX6_tells_168, r_its' rfl (y := 4) (w := 4) rfl q8 (by decide), Option.bind_some, gd_t (inB_n q8 (by decide)), nI_clamp (by omega), i4, s6, show (4 : Int32) = nI 4 from rfl, r_sets q8 (by decide), Option.bind_some, show (3 : Int32) = nI 3 from rfl, r_its q8 (by decide), Option.bind_some, if_pos rfl, r_sets q8 (by decide), Option.bind_some, nI_1, w3]
        exact fin _ (by unfold mdS; rw [if_neg hb])
