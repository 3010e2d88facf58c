/-! text: the tape, one token -/
def TPb (t : Nat) (σc σr : Mem) : Prop := σc 34 1 = nI t ∧ σr 0 10 = nI t ∧ t ≤ 120 ∧ ∀ i, i < 120 → BR (σc 35 i) (σr 7 i)
def by8 (σ : Mem) (k : Nat) : Nat := (σ 7 k).toNatClampNeg
theorem TPb.at {t : Nat} {σc σr : Mem} (h : TPb t σc σr) {k : Nat} (hk : k < 120) : by8 σr k < 256 ∧ σr 7 k = nI (by8 σr k) ∧ σc 35 k = (nI (by8 σr k)).toInt8.toInt32 := by
  obtain ⟨n, hn, e1, e2⟩ := h.2.2.2 k hk
  unfold by8
  rw [e1, nI_clamp (by omega)]
  exact ⟨hn, rfl, e2⟩
theorem TPb.mv {t : Nat} {σc σr τc τr : Mem} (h : TPb t σc σr) (e1 : τc 34 1 = σc 34 1) (e2 : τc 35 = σc 35) (e3 : τr 0 10 = σr 0 10) (e4 : τr 7 = σr 7) : TPb t τc τr := by
  unfold TPb at *
  rw [e1, e2, e3, e4]
  exact h
theorem by8_c {σ τ : Mem} (h : τ 7 = σ 7) : by8 τ = by8 σ := by
  funext i
  unfold by8
  rw [h]
def tkN (n : Nat) : Int32 := if 97 ≤ n ∧ n ≤ 122 then 1 else if 48 ≤ n ∧ n ≤ 57 then 2 else if n = 59 then 3 else 4
theorem tk_e : ∀ n, n < 256 → fX3_tokenOf ((nI n).toInt8.toInt32) = tkN n := by decide +kernel
theorem sp_e : ∀ n, n < 256 → ((nI n).toInt8.toInt32 = 32 ↔ n = 32) := by decide +kernel
theorem i8_s : ∀ n, n < 128 → (nI n).toInt8.toInt32 = nI n := by decide +kernel
theorem r_byte {σ : Mem} {t k lo hi : Nat} (e10 : σ 0 10 = nI t) (ht : t ≤ 120) (hb : ∀ i, i < 120 → by8 σ i < 256 ∧ σ 7 i = nI (by8 σ i)) (hk : k ≤ 120) (hlo : lo < 2 ^ 31) (hhi : hi < 2 ^ 31) : fX6_isByte (nI k) (nI lo) (nI hi) σ = some (decide (k < t ∧ lo ≤ by8 σ k ∧ by8 σ k ≤ hi)) := by
  rw [fX6_isByte, e10]
  by_cases h : t ≤ k
  · rw [if_pos (nI_le h (by omega)), decide_eq_false (fun z => by omega)]
  · obtain ⟨b1, b2⟩ := hb k (by omega)
    rw [if_neg (nle_n (by omega) (by omega)), gd_t (inB_n (by omega) (by decide)), nI_clamp (by omega), in_w]
    by_cases h2 : lo ≤ by8 σ k ∧ by8 σ k ≤ hi
    · rw [if_pos ((wi_n hlo hhi).mpr ⟨by8 σ k, h2.1, h2.2, b2⟩), decide_eq_true ⟨by omega, h2⟩]
    · rw [if_neg ?_, decide_eq_false (fun z => h2 z.2)]
      intro z
      obtain ⟨j, j1, j2, ej⟩ := (wi_n hlo hhi).mp z
      rw [b2] at ej
      have := (nI_eq (by omega) (by omega)).mp ej
      omega
theorem TPb.rb {t k lo hi : Nat} {σc σr : Mem} (h : TPb t σc σr) (hk : k ≤ 120) (hlo : lo < 2 ^ 31) (hhi : hi < 2 ^ 31) : fX6_isByte (nI k) (nI lo) (nI hi) σr = some (decide (k < t ∧ lo ≤ by8 σr k ∧ by8 σr k ≤ hi)) := r_byte h.2.1 h.2.2.1 (fun i hi => ⟨(h.at hi).1, (h.at hi).2.1⟩) hk hlo hhi
def FCl (σ τ : Mem) : Prop := (∀ k, k ≠ 34 → τ k = σ k) ∧ ∀ j, j ≠ 4 → j ≠ 5 → τ 34 j = σ 34 j
def FRl (σ τ : Mem) : Prop := (∀ k, k ≠ 0 → τ k = σ k) ∧ ∀ j, j ≠ 12 → τ 0 j = σ 0 j
theorem n121 (x1 x2 : Int32) (h : x1 ≠ 0 ∨ x2 ≠ 0) (σ : Mem) : fX6_next_121 x1 x2 σ = some (up2 σ 0 12 (σ 0 12)) := by
  rw [fX6_next_121]
  by_cases h1 : x1 = 0
  · rw [if_pos h1]
    have h2 : x2 ≠ 0 := h.resolve_left (fun z => z h1)
    rw [if_neg h2, pb_e, Int32.add_zero]
  · rw [if_neg h1, pb_e, Int32.add_zero]
theorem FRl.own (σ : Mem) (v : Int32) : FRl σ (up2 σ 0 12 v) := ⟨fun k hk => up2_n hk, fun j hj => up2_j hj⟩
theorem wd_l {t : Nat} : ∀ n k σc σr, TPb t σc σr → σc 34 2 = 1 → σc 34 4 = nI k → σr 0 12 = nI k → k ≤ t → t - k < n → ∃ b τc τr, lw1 (fX3_step_127 (nI t)) n σc = some τc ∧ lw1 (fX6_next_70 1 0) n σr = some τr ∧ k ≤ b ∧ b ≤ t ∧ (k < t → 97 ≤ by8 σr k → by8 σr k ≤ 122 → k < b) ∧ τc 34 4 = nI b ∧ τr 0 12 = nI b ∧ FCl σc τc ∧ FRl σr τr := by
  intro n
  induction n with
  | zero => intro k _ _ _ _ _ _ _ h2; omega
  | succ n ih =>
    intro k σc σr hT e2 e4 e12 h1 h2
    have ht := hT.2.2.1
    have hrb := hT.rb (k := k) (lo := 97) (hi := 122) (by omega) (by decide) (by decide)
    have hrb' : fX6_isByte (nI k) 97 122 σr = _ := hrb
    rw [lw1_s, lw1_s, fX3_step_127, fX6_next_70, e4, e2, e12, if_neg (show ¬ (1 : Int32) = 0 by decide), hrb', Option.bind_some]
    have stop : ¬ (k < t ∧ 97 ≤ by8 σr k ∧ by8 σr k ≤ 122) → (if decide (k < t ∧ 97 ≤ by8 σr k ∧ by8 σr k ≤ 122) = true then (pb (up2 σr 0 12 (nI k + 1) : Mem) fun s_115 => (lw1 (fX6_next_70 1 0) n s_115)) else fX6_next_89 (lw1 (fX6_next_70 1 0) n) 1 0 σr) = some (up2 σr 0 12 (σr 0 12)) := by
      intro h
      rw [if_neg (by rw [decide_eq_true_eq]; exact h), fX6_next_89, if_pos rfl, n121 1 0 (Or.inl (by decide))]
    by_cases e : k = t
    · rw [if_pos (show nI t ≤ nI k from nI_le (by omega) (by omega)), stop (fun z => by omega)]
      exact ⟨k, σc, _, rfl, rfl, Nat.le_refl _, h1, fun z => by omega, e4, by rw [up2_e]; exact e12, ⟨fun _ _ => rfl, fun _ _ _ => rfl⟩, FRl.own _ _⟩
    · obtain ⟨b1, b2, b3⟩ := hT.at (show k < 120 by omega)
      rw [if_neg (nle_n (by omega) (by omega)), gd_t (inB_n (show k < 120 by omega) (by decide)), nI_clamp (by omega), b3, tk_e _ b1]
      by_cases c : 97 ≤ by8 σr k ∧ by8 σr k ≤ 122
      · rw [show tkN (by8 σr k) = 1 from if_pos c, if_pos rfl, if_neg (show ¬ (1 : Int32) = 2 by decide), if_pos (decide_eq_true ⟨by omega, c⟩), pb_e, pb_e, nI_1]
        obtain ⟨b, τc, τr, g1, g2, g3, g4, g5, g6, g7, g8, g9⟩ := ih (k + 1) (up2 σc 34 4 (nI (k + 1))) (up2 σr 0 12 (nI (k + 1))) (hT.mv (up2_j (by decide)) (up2_n (by decide)) (up2_j (by decide)) (up2_n (by decide))) (by rw [up2_j (by decide)]; exact e2) (by rw [up2_e]) (by rw [up2_e]) (by omega) (by omega)
        exact ⟨b, τc, τr, g1, g2, by omega, g4, fun _ _ _ => by omega, g6, g7, ⟨fun q hq => (g8.1 q hq).trans (up2_n hq), fun j h4 h5 => (g8.2 j h4 h5).trans (up2_j h4)⟩, ⟨fun q hq => (g9.1 q hq).trans (up2_n hq), fun j hj => (g9.2 j hj).trans (up2_j hj)⟩⟩
      · have hne : ¬ tkN (by8 σr k) = 1 := by
          unfold tkN
          rw [if_neg c]
          split
          · decide
          · split <;> decide
        rw [if_neg hne, stop (fun z => c z.2)]
        exact ⟨k, σc, _, rfl, rfl, Nat.le_refl _, h1, fun _ z1 z2 => absurd ⟨z1, z2⟩ c, e4, by rw [up2_e]; exact e12, ⟨fun _ _ => rfl, fun _ _ _ => rfl⟩, FRl.own _ _⟩
def valN (g : Nat → Nat) (a : Nat) : Nat → Nat
  | 0 => 0
  | m + 1 => min 10000 (valN g a m * 10 + (g (a + m) - 48))
theorem valN_le (g : Nat → Nat) (a : Nat) : ∀ m, valN g a m ≤ 10000 := by
  intro m
  cases m with
  | zero => exact Nat.zero_le _
  | succ m => exact Nat.min_le_left _ _
theorem nm_l {t a : Nat} : ∀ n k σc σr, TPb t σc σr → σc 34 2 = 2 → σc 34 4 = nI k → σr 0 12 = nI k → a ≤ k → k ≤ t → σc 34 5 = nI (valN (by8 σr) a (k - a)) → (∀ i, a ≤ i → i < k → 48 ≤ by8 σr i ∧ by8 σr i ≤ 57) → t - k < n → ∃ b τc τr, lw1 (fX3_step_127 (nI t)) n σc = some τc ∧ lw1 (fX6_next_70 0 1) n σr = some τr ∧ k ≤ b ∧ b ≤ t ∧ (k < t → 48 ≤ by8 σr k → by8 σr k ≤ 57 → k < b) ∧ τc 34 4 = nI b ∧ τr 0 12 = nI b ∧ FCl σc τc ∧ FRl σr τr ∧ τc 34 5 = nI (valN (by8 σr) a (b - a)) ∧ ∀ i, a ≤ i → i < b → 48 ≤ by8 σr i ∧ by8 σr i ≤ 57 := by
  intro n
  induction n with
  | zero => intro k _ _ _ _ _ _ _ _ _ _ h2; omega
  | succ n ih =>
    intro k σc σr hT e2 e4 e12 ha h1 e5 hd h2
    have ht := hT.2.2.1
    have hrb := hT.rb (k := k) (lo := 48) (hi := 57) (by omega) (by decide) (by decide)
    have hrb' : fX6_isByte (nI k) 48 57 σr = _ := hrb
    rw [lw1_s, lw1_s, fX3_step_127, fX6_next_70, e4, e2, if_pos (show (0 : Int32) = 0 from rfl), fX6_next_89, if_neg (show ¬ (1 : Int32) = 0 by decide), e12, hrb', Option.bind_some, n121 0 1 (Or.inr (by decide))]
    by_cases e : k = t
    · rw [if_pos (show nI t ≤ nI k from nI_le (by omega) (by omega)), if_neg (by rw [decide_eq_true_eq]; exact fun z => by omega)]
      exact ⟨k, σc, _, rfl, rfl, Nat.le_refl _, h1, fun z => by omega, e4, by rw [up2_e]; exact e12, ⟨fun _ _ => rfl, fun _ _ _ => rfl⟩, FRl.own _ _, e5, hd⟩
    · obtain ⟨b1, b2, b3⟩ := hT.at (show k < 120 by omega)
      rw [if_neg (nle_n (by omega) (by omega)), gd_t (inB_n (show k < 120 by omega) (by decide)), gd_t (inB_n (show k < 120 by omega) (by decide)), nI_clamp (by omega), b3, tk_e _ b1]
      by_cases c : 48 ≤ by8 σr k ∧ by8 σr k ≤ 57
      · have htk : tkN (by8 σr k) = 2 := by
          unfold tkN
          rw [if_neg (by omega), if_pos c]
        have hv := valN_le (by8 σr) a (k - a)
        have ev : iMin 10000 (σc 34 5 * 10 + (nI (by8 σr k) - 48)) = nI (valN (by8 σr) a (k + 1 - a)) := by
          rw [e5, show (10 : Int32) = nI 10 from rfl, pk_mul, show (48 : Int32) = nI 48 from rfl, pk_sub c.1, nI_add, show (10000 : Int32) = nI 10000 from rfl, iMin_n (by decide) (by omega), show k + 1 - a = (k - a) + 1 by omega, valN, show a + (k - a) = k by omega]
        rw [htk, if_pos rfl, if_pos rfl, if_pos (decide_eq_true ⟨by omega, c⟩), pb_e, pb_e, pb_e, i8_s _ (by omega), ev, up2_j (show (4 : Nat) ≠ 5 by decide), e4, nI_1]
        have hby : by8 (up2 σr 0 12 (nI (k + 1))) = by8 σr := by8_c (up2_n (by decide))
        obtain ⟨b, τc, τr, g1, g2, g3, g4, g5, g6, g7, g8, g9, g10, g11⟩ := ih (k + 1) (up2 (up2 σc 34 5 (nI (valN (by8 σr) a (k + 1 - a)))) 34 4 (nI (k + 1))) (up2 σr 0 12 (nI (k + 1))) (hT.mv (by rw [up2_j (by decide), up2_j (by decide)]) (by rw [up2_n (by decide), up2_n (by decide)]) (up2_j (by decide)) (up2_n (by decide))) (by rw [up2_j (by decide), up2_j (by decide)]; exact e2) (by rw [up2_e]) (by rw [up2_e]) (by omega) (by omega) (by rw [up2_j (by decide), up2_e, hby]) (fun i z1 z2 => by
          rw [hby]
          by_cases ei : i = k
          · rw [ei]; exact c
          · exact hd i z1 (by omega)) (by omega)
        rw [hby] at g10 g11
        exact ⟨b, τc, τr, g1, g2, by omega, g4, fun _ _ _ => by omega, g6, g7, ⟨fun q hq => (g8.1 q hq).trans (by rw [up2_n hq, up2_n hq]), fun j h4 h5 => (g8.2 j h4 h5).trans (by rw [up2_j h4, up2_j h5])⟩, ⟨fun q hq => (g9.1 q hq).trans (up2_n hq), fun j hj => (g9.2 j hj).trans (up2_j hj)⟩, g10, g11⟩
      · have hne : ¬ tkN (by8 σr k) = 2 := by
          unfold tkN
          by_cases d : 97 ≤ by8 σr k ∧ by8 σr k ≤ 122
          · rw [if_pos d]; decide
          · rw [if_neg d, if_neg c]
            split <;> decide
        rw [if_neg hne, if_neg (by rw [decide_eq_true_eq]; exact fun z => c z.2)]
        exact ⟨k, σc, _, rfl, rfl, Nat.le_refl _, h1, fun _ z1 z2 => absurd ⟨z1, z2⟩ c, e4, by rw [up2_e]; exact e12, ⟨fun _ _ => rfl, fun _ _ _ => rfl⟩, FRl.own _ _, e5, hd⟩
