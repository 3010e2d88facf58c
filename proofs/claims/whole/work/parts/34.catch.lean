/-! who is caught in one round -/
theorem nI_bv (m : Nat) : (nI m).toBitVec = BitVec.ofNat 32 m := rfl
theorem and_n (m n : Nat) : nI m &&& nI n = nI (m &&& n) := by
  rw [← Int32.toBitVec_inj, Int32.toBitVec_and, nI_bv, nI_bv, nI_bv, BitVec.ofNat_and]
theorem or_n (m n : Nat) : nI m ||| nI n = nI (m ||| n) := by
  rw [← Int32.toBitVec_inj, Int32.toBitVec_or, nI_bv, nI_bv, nI_bv, BitVec.ofNat_or]
def S8 (x : Int32) : Prop := ∃ n, n < 256 ∧ x = nI n
theorem S8.and {x : Int32} (h : S8 x) (y : Int32) (hy : S8 y) : S8 (x &&& y) := by
  obtain ⟨m, hm, rfl⟩ := h
  obtain ⟨n, hn, rfl⟩ := hy
  exact ⟨m &&& n, Nat.lt_of_le_of_lt Nat.and_le_left hm, and_n m n⟩
theorem S8.or {x y : Int32} (h : S8 x) (hy : S8 y) : S8 (x ||| y) := by
  obtain ⟨m, hm, rfl⟩ := h
  obtain ⟨n, hn, rfl⟩ := hy
  exact ⟨m ||| n, Nat.or_lt_two_pow (n := 8) hm hn, or_n m n⟩
theorem S8.pc {x : Int32} (h : S8 x) : fJ6_bitCount_0f7a4 x = pc x := by
  obtain ⟨m, hm, rfl⟩ := h
  exact bc_pc m hm
def caF (a : Vec) (E S : Int32) : Nat → Int32
  | 0 => 0
  | o + 1 => if (bt E o && !bt S o) = true then (if pc (nearS a o &&& S) < fX0_number (it a o 0) (it a o 3) then caF a E S o else caF a E S o ||| bitI o) else caF a E S o
def caught (a : Vec) (E S : Int32) : Int32 := caF a E S (nP a)
theorem c_catch_l {E S : Int32} (hS : S8 S) {σ : Mem} {r : Nat} {a : Vec} (hR : RmR σ r a) (hW : WFv a) : ∀ n p, p ≤ nP a → nP a - p < n → lw2 (fX4_catchersFrom_6 r S (E &&& (S ^^^ (-1))) σ) n (caF a E S p) (nI p) = some (caught a E S) := by
  intro n
  induction n with
  | zero => intro i _ h2; omega
  | succ n ih =>
    intro p h1 h2
    obtain ⟨e5, h8⟩ := hW.p
    rw [lw2_s, fX4_catchersFrom_6, hR.1.2.2.2.2.1, e5]
    by_cases e : p = nP a
    · rw [← e, if_pos (Int32.le_refl _)]; unfold caught; rw [← e]
    · have hi := ih (p + 1) (by omega) (by omega)
      rw [caF] at hi
      have q8 : p < 8 := by omega
      obtain ⟨e0, -, -, e3, -⟩ := hR.2.2.1 p q8
      rw [if_neg (nle_n (by omega) (by omega)), gd_t (inB_n q8 (by decide)), pb_e, gd_t (inB_n q8 (by decide)), gd_t (inB_n q8 (by decide)), pb_e, nI_1, nI_clamp (by omega), e0, e3, hR.2.2.2.2 p (by omega), (S8.and (nearS_n hW p) S hS).pc, isIn_e _ q8, bt_and, bt_not _ q8]
      by_cases h3 : (bt E p && !bt S p) = true
      · rw [if_pos h3]
        rw [if_pos h3] at hi
        by_cases h4 : pc (nearS a p &&& S) < fX0_number (it a p 0) (it a p 3)
        · rw [if_pos h4]; rw [if_pos h4] at hi; exact hi
        · rw [if_neg h4]; rw [if_neg h4] at hi; exact hi
      · rw [if_neg h3]; rw [if_neg h3] at hi; exact hi
theorem c_catch {E S : Int32} (hS : S8 S) {σ : Mem} {r : Nat} {a : Vec} (hR : RmR σ r a) (hW : WFv a) : fX4_catchersFrom r S (E &&& (S ^^^ (-1))) σ = some (caught a E S) := by
  have h8 := hW.p.2
  rw [fX4_catchersFrom]
  exact c_catch_l hS hR hW FU 0 (by omega) (Nat.lt_trans (show nP a - 0 < 10100 by omega) FU_gt)
theorem caF_8 (a : Vec) (E S : Int32) : ∀ o, o ≤ 8 → S8 (caF a E S o) := by
  intro o
  induction o with
  | zero => intro _; exact ⟨0, by decide, rfl⟩
  | succ o ih =>
    intro ho
    have hi := ih (by omega)
    rw [caF]
    split
    · split
      · exact hi
      · obtain ⟨n, hn, e⟩ := hi
        obtain ⟨e2, h2⟩ := or_bit n hn o (by omega)
        exact ⟨_, h2, by rw [e, e2]⟩
    · exact hi
theorem caught_8 {a : Vec} (h : WFv a) (E S : Int32) : S8 (caught a E S) := caF_8 a E S _ h.p.2
/-- the reference's inner loop: it goes on from S, and then to `fX6_caughtFrom_157` -/
theorem r_catch_l {E S : Int32} {σ : Mem} (hW : WFv (σ 1)) (k54 : Int32 → Int32 → Mem → Option (Int32 × Mem)) : ∀ n p, p ≤ nP (σ 1) → nP (σ 1) - p < n → lw2 (fX6_caughtFrom_65 k54 E S σ) n (S ||| caF (σ 1) E S p) (nI p) = (if S ||| caught (σ 1) E S = S then fX6_caughtFrom_157 k54 E (S ||| caught (σ 1) E S) 0 σ else fX6_caughtFrom_157 k54 E (S ||| caught (σ 1) E S) 1 σ) := by
  intro n
  induction n with
  | zero => intro i _ h2; omega
  | succ n ih =>
    intro p h1 h2
    obtain ⟨e5, h8⟩ := hW.p
    rw [lw2_s, fX6_caughtFrom_65, e5]
    by_cases e : p = nP (σ 1)
    · rw [← e, if_pos (Int32.le_refl _)]; unfold caught; rw [← e]
    · have hi := ih (p + 1) (by omega) (by omega)
      rw [caF] at hi
      have q8 : p < 8 := by omega
      rw [if_neg (nle_n (by omega) (by omega)), fX6_caughtFrom_99, fX6_caughtFrom_100, fX6_caughtFrom_100, if_pos rfl, if_neg (show ¬ (1 : Int32) = 0 by decide), r_near hW q8, Option.bind_some, r_ones, Option.bind_some, r_number q8, Option.bind_some, pb_e, pb_e, nI_1, Int32.or_zero, Int32.or_assoc]
      by_cases h3 : bt E p = true
      · rw [if_pos ((bt_1 E q8).mpr h3)]
        by_cases h4 : bt S p = false
        · rw [if_pos ((bt_0 S q8).mpr h4)]
          rw [if_pos (by rw [h3, h4]; rfl)] at hi
          by_cases h5 : onesS (nearS (σ 1) p &&& S) 8 < fX0_number (it (σ 1) p 0) (it (σ 1) p 3)
          · rw [if_pos h5]; unfold pc at hi; rw [if_pos h5] at hi; exact hi
          · rw [if_neg h5]; unfold pc at hi; rw [if_neg h5] at hi; exact hi
        · rw [if_neg (fun z => h4 ((bt_0 S q8).mp z))]
          rw [if_neg (fun z => h4 (by cases hb : bt S p <;> simp_all))] at hi
          exact hi
      · rw [if_neg (fun z => h3 ((bt_1 E q8).mp z))]
        rw [if_neg (fun z => h3 (by cases hb : bt E p <;> simp_all))] at hi
        exact hi
theorem r_catch {E S : Int32} {σ : Mem} (hW : WFv (σ 1)) (k54 : Int32 → Int32 → Mem → Option (Int32 × Mem)) : lw2 (fX6_caughtFrom_65 k54 E S σ) FU S 0 = (if S ||| caught (σ 1) E S = S then fX6_caughtFrom_157 k54 E (S ||| caught (σ 1) E S) 0 σ else fX6_caughtFrom_157 k54 E (S ||| caught (σ 1) E S) 1 σ) := by
  have h8 := hW.p.2
  have := r_catch_l (E := E) (S := S) hW k54 FU 0 (by omega) (Nat.lt_trans (show nP (σ 1) - 0 < 10100 by omega) FU_gt)
  rw [caF, Int32.or_zero] at this
  exact this
