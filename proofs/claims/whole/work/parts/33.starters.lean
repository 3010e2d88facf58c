/-! who laughs by themselves -/
def stF (a : Vec) (t f : Int32) : Nat → Int32
  | 0 => 0
  | o + 1 => if stS a t f o < fX0_bound (it a o 0) (it a o 4) then stF a t f o else stF a t f o ||| bitI o
def starts (a : Vec) (t f : Int32) : Int32 := stF a t f (nP a)
theorem r_by_l (t f : Int32) {σ : Mem} (hW : WFv (σ 1)) : ∀ n p, p ≤ nP (σ 1) → nP (σ 1) - p < n → lw2 (fX6_byThemselves_5 t f σ) n (stF (σ 1) t f p) (nI p) = some (starts (σ 1) t f) := by
  intro n
  induction n with
  | zero => intro i _ h2; omega
  | succ n ih =>
    intro p h1 h2
    obtain ⟨e5, h8⟩ := hW.p
    rw [lw2_s, fX6_byThemselves_5, e5]
    by_cases e : p = nP (σ 1)
    · rw [← e, if_pos (Int32.le_refl _)]; unfold starts; rw [← e]
    · have hi := ih (p + 1) (by omega) (by omega)
      rw [stF] at hi
      rw [if_neg (nle_n (by omega) (by omega)), r_strong _ _ (by omega), Option.bind_some, r_bound (by omega), Option.bind_some, pb_e, pb_e, nI_1, Int32.or_zero]
      by_cases h3 : stS (σ 1) t f p < fX0_bound (it (σ 1) p 0) (it (σ 1) p 4)
      · rw [if_pos h3]; rw [if_pos h3] at hi; exact hi
      · rw [if_neg h3]; rw [if_neg h3] at hi; exact hi
theorem r_by (t f : Int32) {σ : Mem} (hW : WFv (σ 1)) : fX6_byThemselves t f σ = some (starts (σ 1) t f) := by
  have h8 := hW.p.2
  rw [fX6_byThemselves]
  exact r_by_l t f hW FU 0 (by omega) (Nat.lt_trans (show nP (σ 1) - 0 < 10100 by omega) FU_gt)
theorem c_by_l {t : Int32} (ht : rng t 63) (f : Int32) {σ : Mem} {r : Nat} {a : Vec} (hR : RmR σ r a) (hW : WFv a) : ∀ n p, p ≤ nP a → nP a - p < n → lw2 (fX4_startersOf_6 r t f σ) n (stF a t f p) (nI p) = some (starts a t f) := by
  intro n
  induction n with
  | zero => intro i _ h2; omega
  | succ n ih =>
    intro p h1 h2
    obtain ⟨e5, h8⟩ := hW.p
    rw [lw2_s, fX4_startersOf_6, hR.1.2.2.2.2.1, e5]
    by_cases e : p = nP a
    · rw [← e, if_pos (Int32.le_refl _)]; unfold starts; rw [← e]
    · have hi := ih (p + 1) (by omega) (by omega)
      rw [stF] at hi
      have q8 : p < 8 := by omega
      obtain ⟨e0, -, -, -, e4⟩ := hR.2.2.1 p q8
      rw [if_neg (nle_n (by omega) (by omega)), c_strong ht f hR.2.2.1 hW q8, Option.bind_some, gd_t (inB_n q8 (by decide)), gd_t (inB_n q8 (by decide)), pb_e, nI_1, nI_clamp (by omega), e0, e4]
      by_cases h3 : stS a t f p < fX0_bound (it a p 0) (it a p 4)
      · rw [if_pos h3]; rw [if_pos h3] at hi; exact hi
      · rw [if_neg h3]; rw [if_neg h3] at hi; exact hi
theorem c_by {t : Int32} (ht : rng t 63) (f : Int32) {σ : Mem} {r : Nat} {a : Vec} (hR : RmR σ r a) (hW : WFv a) : fX4_startersOf r t f σ = some (starts a t f) := by
  have h8 := hW.p.2
  rw [fX4_startersOf]
  exact c_by_l ht f hR hW FU 0 (by omega) (Nat.lt_trans (show nP a - 0 < 10100 by omega) FU_gt)
theorem stF_n (a : Vec) (t f : Int32) : ∀ o, o ≤ 8 → ∃ n, n < 256 ∧ stF a t f o = nI n := by
  intro o
  induction o with
  | zero => intro _; exact ⟨0, by decide, rfl⟩
  | succ o ih =>
    intro ho
    obtain ⟨n, hn, e⟩ := ih (by omega)
    rw [stF]
    split
    · exact ⟨n, hn, e⟩
    · obtain ⟨e2, h2⟩ := or_bit n hn o (by omega)
      exact ⟨_, h2, by rw [e, e2]⟩
theorem starts_n {a : Vec} (h : WFv a) (t f : Int32) : ∃ n, n < 256 ∧ starts a t f = nI n := stF_n a t f _ h.p.2
/-! bits -/
def bt (x : Int32) (p : Nat) : Bool := x.toBitVec.getLsbD p
theorem sh_n : ∀ p, p < 8 → ((nI p &&& 31).toBitVec.smod 32#32).toNat = p := by decide +kernel
theorem bt_e (x : Int32) {p : Nat} (hp : p < 8) : ((x >>> (nI p &&& 31)) &&& 1).toBitVec = BitVec.setWidth 32 (BitVec.ofBool (bt x p)) := by
  rw [Int32.toBitVec_and, Int32.toBitVec_shiftRight, show (1 : Int32).toBitVec = 1#32 from rfl, BitVec.and_one_eq_setWidth_ofBool_getLsbD]
  congr 2
  rw [show (32 : BitVec 32) = 32#32 from rfl, BitVec.sshiftRight', BitVec.getLsbD_sshiftRight, sh_n p hp]
  simp only [bt]
  simp
  omega
theorem bt_1 (x : Int32) {p : Nat} (hp : p < 8) : ((x >>> (nI p &&& 31)) &&& 1) = 1 ↔ bt x p = true := by
  rw [← Int32.toBitVec_inj, bt_e x hp]
  cases bt x p <;> decide
theorem bt_0 (x : Int32) {p : Nat} (hp : p < 8) : ((x >>> (nI p &&& 31)) &&& 1) = 0 ↔ bt x p = false := by
  rw [← Int32.toBitVec_inj, bt_e x hp]
  cases bt x p <;> decide
theorem isIn_e (x : Int32) {p : Nat} (hp : p < 8) : fX5_isIn x (nI p) = bt x p := by
  rw [fX5_isIn]
  by_cases h : bt x p = true
  · rw [if_pos ((bt_1 x hp).mpr h), h]
  · rw [if_neg (fun z => h ((bt_1 x hp).mp z))]
    cases hb : bt x p
    · rfl
    · exact absurd hb h
theorem bt_and (x y : Int32) (p : Nat) : bt (x &&& y) p = (bt x p && bt y p) := by
  unfold bt
  rw [Int32.toBitVec_and, BitVec.getLsbD_and]
theorem bt_or (x y : Int32) (p : Nat) : bt (x ||| y) p = (bt x p || bt y p) := by
  unfold bt
  rw [Int32.toBitVec_or, BitVec.getLsbD_or]
theorem bt_not (x : Int32) {p : Nat} (hp : p < 8) : bt (x ^^^ (-1)) p = !bt x p := by
  unfold bt
  rw [Int32.toBitVec_xor, BitVec.getLsbD_xor, show (-1 : Int32).toBitVec = BitVec.allOnes 32 by decide +kernel, BitVec.getLsbD_allOnes, decide_eq_true (show p < 32 by omega), Bool.xor_true]
