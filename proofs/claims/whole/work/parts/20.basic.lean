/-! LEVEL 2: pure functions. Numbers, ranges -/
theorem inB_n {j n : Nat} (h : j < n) (hn : n < 2 ^ 31) : inB (nI j) n = true := by
  simp only [inB, Bool.and_eq_true, decide_eq_true_eq]
  exact ⟨nI_pos' (by omega), by rw [nI_clamp (by omega)]; exact h⟩
theorem lg_lt (x y : Int64) : lg_cmp x y < 0 ↔ x < y := by
  have h := lg_cmp_ge x y
  rw [Int32.le_iff_toInt_le, Int64.le_iff_toInt_le] at h
  rw [Int32.lt_iff_toInt_lt, Int64.lt_iff_toInt_lt]
  omega
theorem lg_gt (x y : Int64) : 0 < lg_cmp x y ↔ y < x := by
  unfold lg_cmp
  by_cases h : y < x
  · rw [if_pos h]; exact ⟨fun _ => h, fun _ => by decide⟩
  · rw [if_neg h]
    refine ⟨fun z => ?_, fun z => absurd z h⟩
    split at z <;> exact absurd z (by decide)
theorem in_w (x a b : Int32) : fX6_in x.toInt64 a.toInt64 b.toInt64 = fX5_within x a b := by
  unfold fX6_in fX5_within
  have e1 : (lg_cmp x.toInt64 a.toInt64 < 0) = (x < a) := propext (by rw [lg_lt, Int64.lt_iff_toInt_lt, Int32.lt_iff_toInt_lt, Int32.toInt_toInt64, Int32.toInt_toInt64])
  have e2 : (0 < lg_cmp x.toInt64 b.toInt64) = (b < x) := propext (by rw [lg_gt, Int64.lt_iff_toInt_lt, Int32.lt_iff_toInt_lt, Int32.toInt_toInt64, Int32.toInt_toInt64])
  simp only [e1, e2]
theorem in_l (x a b : Int32) {a' b' : Int64} (ha : a.toInt64 = a') (hb : b.toInt64 = b') : fX6_in x.toInt64 a' b' = fX5_within x a b := by rw [← ha, ← hb]; exact in_w x a b
theorem wi_iff (x a b : Int32) : fX5_within x a b = true ↔ a ≤ x ∧ x ≤ b := by
  unfold fX5_within
  simp only [Int32.lt_iff_toInt_lt, Int32.le_iff_toInt_le]
  by_cases h1 : x.toInt < a.toInt
  · rw [if_pos h1]
    exact ⟨fun h => (by cases h), fun h => (by omega)⟩
  · rw [if_neg h1]
    by_cases h2 : b.toInt < x.toInt
    · rw [if_pos h2]
      exact ⟨fun h => (by cases h), fun h => (by omega)⟩
    · rw [if_neg h2]
      exact ⟨fun _ => (by omega), fun _ => rfl⟩
theorem wi_n {x : Int32} {a b : Nat} (ha : a < 2 ^ 31) (hb : b < 2 ^ 31) : fX5_within x (nI a) (nI b) = true ↔ ∃ j, a ≤ j ∧ j ≤ b ∧ x = nI j := by
  rw [wi_iff, Int32.le_iff_toInt_le, Int32.le_iff_toInt_le, nI_toInt ha, nI_toInt hb]
  constructor
  · rintro ⟨h1, h2⟩
    have h0 : ¬ x < 0 := by rw [Int32.lt_iff_toInt_lt, Int32.toInt_zero]; omega
    obtain ⟨j, hj, rfl⟩ := nI_of h0
    rw [nI_toInt hj] at h1 h2
    exact ⟨j, by omega, by omega, rfl⟩
  · rintro ⟨j, h1, h2, rfl⟩
    rw [nI_toInt (by omega)]
    omega
/-- v is one of 0 .. n - 1 -/
theorem wi_c {x : Int32} {n : Nat} (hn : n < 2 ^ 30) : fX5_within x 0 (nI n - 1) = true ↔ ∃ j, j < n ∧ x = nI j := by
  rw [wi_iff, Int32.le_iff_toInt_le, Int32.le_iff_toInt_le, Int32.toInt_zero, show (nI n - 1 : Int32) = nI n - nI 1 from rfl, pk_sub_toInt hn (by decide)]
  constructor
  · rintro ⟨h1, h2⟩
    have h0 : ¬ x < 0 := by rw [Int32.lt_iff_toInt_lt, Int32.toInt_zero]; omega
    obtain ⟨j, hj, rfl⟩ := nI_of h0
    rw [nI_toInt hj] at h1 h2
    exact ⟨j, by omega, rfl⟩
  · rintro ⟨j, h1, rfl⟩
    rw [nI_toInt (by omega)]
    omega
theorem isKind_e (x : Int32) : fX6_isKind x = fX5_isKind x := in_l x 0 6 (by decide) (by decide)
theorem isSeat_e (x : Int32) : fX6_isSeat x = fX5_isSeat x := in_l x 0 15 (by decide) (by decide)
theorem isTopics_e (x : Int32) : fX6_isTopics x = fX5_isTopics x := in_l x 1 63 (by decide) (by decide)
theorem isFun_e (x : Int32) : fX6_isFun x = fX5_isFun x := in_l x 0 9 (by decide) (by decide)
theorem isPerson_e (x : Int32) (σ : Mem) : fX6_isPerson x σ = fX5_within x 0 (σ 1 5 - 1) := in_l x 0 _ (by decide) rfl
theorem isJoke_e (x : Int32) (σ : Mem) : fX6_isJoke x σ = fX5_within x 0 (σ 1 6 - 1) := in_l x 0 _ (by decide) rfl
/-! memory -/
theorem up2_s (σ : Mem) (k i : Nat) (v : Int32) : up2 σ k i v k = upd (σ k) i v := upR_s
theorem up2_n {σ : Mem} {k i q : Nat} {v : Int32} (h : q ≠ k) : up2 σ k i v q = σ q := upR_n h
theorem up2_e (σ : Mem) (k i : Nat) (v : Int32) : up2 σ k i v k i = v := by rw [up2_s, pk_us]
theorem up2_j {σ : Mem} {k i j : Nat} {v : Int32} (h : j ≠ i) : up2 σ k i v k j = σ k j := by rw [up2_s, pk_un h]
theorem up2_a (σ : Mem) (k i : Nat) (v : Int32) (q j : Nat) : up2 σ k i v q j = if q = k ∧ j = i then v else σ q j := by
  by_cases h : q = k
  · subst h
    by_cases h2 : j = i
    · subst h2; rw [up2_e, if_pos ⟨rfl, rfl⟩]
    · rw [up2_j h2, if_neg (fun z => h2 z.2)]
  · rw [up2_n h, if_neg (fun z => h z.1)]
theorem up2_self (σ : Mem) (k i : Nat) : up2 σ k i (σ k i) = σ := by
  funext q j
  rw [up2_a]
  split
  · rename_i h; rw [h.1, h.2]
  · rfl
theorem gd_e {α : Type} {c : Prop} [Decidable c] {b : Option α} : gd c b = if c then b else none := rfl
/-! findings -/
theorem finds_s {k : Nat} (hk : k < 7) (σ : Mem) : fX6_finds (nI k) σ = some (-1000001 - nI k, up2 σ 4 k (σ 4 k + 1)) := by
  unfold fX6_finds
  rw [gd_t (inB_n hk (by decide)), gd_t (inB_n hk (by decide)), nI_clamp (by omega)]
  rfl
theorem sub_sub_i (a x : Int32) : a - (a - x) = x := by
  apply Int32.toBitVec_inj.mp
  rw [Int32.toBitVec_sub, Int32.toBitVec_sub, BitVec.sub_eq_add_neg, BitVec.sub_eq_add_neg, BitVec.neg_add, BitVec.sub_eq_add_neg, BitVec.neg_neg, ← BitVec.add_assoc, BitVec.add_right_neg, BitVec.zero_add]
theorem found_a {k : Nat} (hk : k < 7) : fX5_within (nI k) 0 6 = true := (wi_n (a := 0) (b := 6) (by decide) (by decide)).mpr ⟨k, by omega, by omega, rfl⟩
theorem found_b {y : Int32} {k : Nat} (hk : k < 7) (hy : y = nI k) (x : Int32) (σ : Mem) : (if fX5_within y 0 6 = true then (gd (inB y 7 = true) (gd (inB y 7 = true) (pb (up2 σ 45 y.toNatClampNeg ((σ 45 y.toNatClampNeg) + 1) : Mem) fun s_24 => (some (x, s_24))))) else (some (x, σ))) = some (x, up2 σ 45 k (σ 45 k + 1)) := by
  rw [hy, if_pos (found_a hk), gd_t (inB_n hk (by decide)), gd_t (inB_n hk (by decide)), nI_clamp (by omega)]
  rfl
theorem found_c {x : Int32} {k : Nat} (hx : x = -1000001 - nI k) : (-1000001 - x : Int32) = nI k := by rw [hx, sub_sub_i]
theorem found_d (x : Int32) (σ : Mem) : fX5_found x σ = pb ((-1000001) - x : Int32) (fun y => (if fX5_within y 0 6 = true then (gd (inB y 7 = true) (gd (inB y 7 = true) (pb (up2 σ 45 y.toNatClampNeg ((σ 45 y.toNatClampNeg) + 1) : Mem) fun s_24 => (some (x, s_24))))) else (some (x, σ)))) := by rw [fX5_found]
theorem pb_e {α β : Type} (e : α) (f : α → β) : pb e f = f e := rfl
theorem found_s {k : Nat} (hk : k < 7) {x : Int32} (hx : x = -1000001 - nI k) (σ : Mem) : fX5_found x σ = some (x, up2 σ 45 k (σ 45 k + 1)) := by
  rw [found_d, found_c hx, pb_e]
  exact found_b hk rfl x σ
theorem found_0 (σ : Mem) : fX5_found (-1000001) σ = some (-1000001, up2 σ 45 0 (σ 45 0 + 1)) := found_s (by decide) (by decide +kernel) σ
theorem found_1 (σ : Mem) : fX5_found (-1000002) σ = some (-1000002, up2 σ 45 1 (σ 45 1 + 1)) := found_s (by decide) (by decide +kernel) σ
