/-! text: words -/
theorem alT_m {g : Nat → Bool} {m : Nat} (h : alT g m = false) : ∀ l, m ≤ l → alT g l = false := by
  intro l
  induction l with
  | zero => intro z; rw [show m = 0 by omega] at h; exact h
  | succ l ih =>
    intro z
    by_cases e : m = l + 1
    · rw [← e]; exact h
    · rw [alT, ih (by omega), Bool.false_and]
theorem alT_i {g : Nat → Bool} {i : Nat} : ∀ l, i < l → alT g l = true → g i = true := by
  intro l
  induction l with
  | zero => intro z; omega
  | succ l ih =>
    intro z h
    rw [alT, Bool.and_eq_true] at h
    by_cases e : i = l
    · rw [e]; exact h.2
    · exact ih (by omega) h.1
theorem str_c : ∀ i, i < 15 → ∀ k, k < strL i → strC i k = nI (strC i k).toNatClampNeg ∧ (strC i k).toNatClampNeg < 128 := by decide +kernel
theorem str_0 : ∀ i, i < 14 → 97 ≤ (strC i 0).toNatClampNeg ∧ (strC i 0).toNatClampNeg ≤ 122 := by decide +kernel
theorem str_l : ∀ i, i < 15 → 1 ≤ strL i ∧ strL i ≤ 9 := by decide +kernel
theorem i8_n : ∀ n, n < 256 → 128 ≤ n → (nI n).toInt8.toInt32 < 0 := by decide +kernel
theorem ch_e {n c : Nat} (hn : n < 256) (hc : c < 128) : (nI n).toInt8.toInt32 = nI c ↔ nI n = nI c := by
  by_cases h : n < 128
  · rw [i8_s n h]
  · refine ⟨fun z => ?_, fun z => ?_⟩
    · have := i8_n n hn (by omega)
      rw [z] at this
      exact absurd this (nI_pos (by omega))
    · have := (nI_eq (by omega) (by omega)).mp z
      omega
def wdT (σ : Mem) (i a : Nat) : Nat → Bool := fun k => decide (σ 7 (a + k) = strC i k)
theorem r_word_l {σ : Mem} {i a b : Nat} (hi : i < 15) (e11 : σ 0 11 = nI a) (hb : b ≤ 120) (hl : a + strL i ≤ b) : ∀ n m, m ≤ strL i → strL i + 1 - m < n → lw2 (fX6_isWord_31 i σ) n (b2i (alT (wdT σ i a) m)) (nI m) = some (alT (wdT σ i a) (strL i)) := by
  have hL := str_l i hi
  intro n
  induction n with
  | zero => intro m _ h2; omega
  | succ n ih =>
    intro m h1 h2
    rw [lw2_s, fX6_isWord_31]
    cases ha : alT (wdT σ i a) m with
    | false =>
      rw [if_pos (show b2i false = 0 from rfl), gd_t (show b2i false = 0 ∨ b2i false = 1 from Or.inl rfl), alT_m ha _ h1]
      rfl
    | true =>
      rw [if_neg (show ¬ b2i true = 0 by decide)]
      by_cases e : m = strL i
      · rw [if_pos (show nI (strL i) ≤ nI m by rw [e]; exact Int32.le_refl _), gd_t (show b2i true = 0 ∨ b2i true = 1 from Or.inr rfl), ← e, ha]
        rfl
      · have hi' := ih (m + 1) (by omega) (by omega)
        rw [alT, ha, Bool.true_and] at hi'
        rw [if_neg (nle_n (by omega) (by omega)), e11, nI_add, gd_t (inB_n (show a + m < 120 by omega) (by decide)), gd_t (inB_n (show m < strL i by omega) (by omega)), nI_clamp (show a + m < 2 ^ 31 by omega), nI_clamp (show m < 2 ^ 31 by omega), nI_1]
        by_cases x : σ 7 (a + m) = strC i m
        · rw [if_pos x]
          rw [show wdT σ i a m = true from decide_eq_true x] at hi'
          exact hi'
        · rw [if_neg x]
          rw [show wdT σ i a m = false from decide_eq_false x] at hi'
          exact hi'
theorem r_word {σ : Mem} {i a b : Nat} (hi : i < 15) (e11 : σ 0 11 = nI a) (e12 : σ 0 12 = nI b) (hab : a ≤ b) (hb : b ≤ 120) (h13 : σ 0 13 = 0) : fX6_isWord i σ = some (decide (b - a = strL i) && alT (wdT σ i a) (strL i)) := by
  have hL := str_l i hi
  obtain ⟨n, hn, hn2⟩ := FU_s
  rw [fX6_isWord, h13, if_pos rfl, e11, e12, pk_sub hab]
  by_cases h : b - a = strL i
  · rw [if_pos (by rw [h]), decide_eq_true h, Bool.true_and]
    exact r_word_l hi e11 hb (by omega) FU 0 (by omega) (Nat.lt_trans (show strL i + 1 - 0 < 10100 by omega) FU_gt)
  · rw [if_neg (fun z => h ((nI_eq (by omega) (by omega)).mp z)), decide_eq_false h, Bool.false_and, hn, lw2_s, fX6_isWord_31, if_pos rfl, gd_t (Or.inl rfl)]
    rfl
theorem c_word_l {t : Nat} {σc σr : Mem} (hT : TPb t σc σr) {i a : Nat} (hi : i < 15) (e3 : σc 34 3 = nI a) (hl : a + strL i ≤ t) : ∀ n m, m ≤ strL i → strL i - m < n → alT (wdT σr i a) m = true → lw1 (fX3_isWord_28 i σc) n (nI m) = some (alT (wdT σr i a) (strL i)) := by
  have hL := str_l i hi
  have ht := hT.2.2.1
  intro n
  induction n with
  | zero => intro m _ h2; omega
  | succ n ih =>
    intro m h1 h2 ha
    rw [lw1_s, fX3_isWord_28]
    by_cases e : m = strL i
    · rw [if_pos (show nI (strL i) ≤ nI m by rw [e]; exact Int32.le_refl _), ← e, ha]
    · obtain ⟨b1, b2, b3⟩ := hT.at (show a + m < 120 by omega)
      obtain ⟨c1, c2⟩ := str_c i hi m (by omega)
      have hx : (σc 35 (a + m) = strC i m) ↔ σr 7 (a + m) = strC i m := by
        rw [b3, b2, c1]
        exact ch_e b1 c2
      rw [if_neg (nle_n (by omega) (by omega)), e3, nI_add, gd_t (inB_n (show a + m < 120 by omega) (by decide)), gd_t (inB_n (show m < strL i by omega) (by omega)), nI_clamp (show a + m < 2 ^ 31 by omega), nI_clamp (show m < 2 ^ 31 by omega), nI_1]
      by_cases x : σr 7 (a + m) = strC i m
      · rw [if_pos (hx.mpr x)]
        exact ih (m + 1) (by omega) (by omega) (by rw [alT, ha, show wdT σr i a m = true from decide_eq_true x]; rfl)
      · rw [if_neg (fun z => x (hx.mp z)), alT_f (i := m) (decide_eq_false x) _ (by omega)]
theorem word_e {t a b : Nat} {σc σr : Mem} (h : TK t a b σc σr) (h13 : σr 0 13 = 0) {i : Nat} (hi : i < 14) : ∃ v, fX3_isWord i σc = some v ∧ fX6_isWord i σr = some v ∧ (v = true → a < t) := by
  obtain ⟨hT, hab, hbt, e3, e11, e4, e12, e2, hlt, -, -⟩ := h
  have ht := hT.2.2.1
  have hL := str_l i (by omega)
  refine ⟨_, ?_, r_word (by omega) e11 e12 hab (by omega) h13, fun z => ?_⟩
  · rw [fX3_isWord]
    by_cases hl : b - a = strL i
    · rw [decide_eq_true hl, Bool.true_and]
      have hat : a < t := by omega
      obtain ⟨b1, b2, b3⟩ := hT.at (show a < 120 by omega)
      rw [if_pos hat] at e2
      by_cases h1 : σc 34 2 = 1
      · rw [if_pos h1, e4, e3, pk_sub hab, if_pos (by rw [hl])]
        exact c_word_l hT (by omega) e3 (by omega) FU 0 (by omega) (Nat.lt_trans (show strL i - 0 < 10100 by omega) FU_gt) rfl
      · rw [if_neg h1]
        cases hal : alT (wdT σr i a) (strL i) with
        | false => rfl
        | true =>
          have g0 := alT_i (i := 0) (strL i) (by omega) hal
          have g1 : σr 7 (a + 0) = strC i 0 := of_decide_eq_true g0
          obtain ⟨c1, c2⟩ := str_c i (by omega) 0 (by omega)
          have c3 := str_0 i hi
          rw [Nat.add_zero, b2, c1] at g1
          have := (nI_eq (by omega) (by omega)).mp g1
          rw [e2] at h1
          exact absurd (if_pos (by omega)) h1
    · rw [decide_eq_false hl, Bool.false_and, e4, e3, pk_sub hab, if_neg (fun z => hl ((nI_eq (by omega) (by omega)).mp z)), ite_self]
  · rw [Bool.and_eq_true] at z
    have := of_decide_eq_true z.1
    omega
theorem tk_3 {n : Nat} : tkN n = 3 ↔ n = 59 := by
  unfold tkN
  by_cases c1 : 97 ≤ n ∧ n ≤ 122
  · rw [if_pos c1]; exact ⟨fun z => absurd z (by decide), fun z => by omega⟩
  · rw [if_neg c1]
    by_cases c2 : 48 ≤ n ∧ n ≤ 57
    · rw [if_pos c2]; exact ⟨fun z => absurd z (by decide), fun z => by omega⟩
    · rw [if_neg c2]
      by_cases c3 : n = 59
      · rw [if_pos c3]; exact ⟨fun _ => c3, fun _ => rfl⟩
      · rw [if_neg c3]; exact ⟨fun z => absurd z (by decide), fun z => absurd z c3⟩
theorem tk_2 {n : Nat} : tkN n = 2 ↔ (48 ≤ n ∧ n ≤ 57) := by
  unfold tkN
  by_cases c1 : 97 ≤ n ∧ n ≤ 122
  · rw [if_pos c1]; exact ⟨fun z => absurd z (by decide), fun z => by omega⟩
  · rw [if_neg c1]
    by_cases c2 : 48 ≤ n ∧ n ≤ 57
    · rw [if_pos c2]; exact ⟨fun _ => c2, fun _ => rfl⟩
    · rw [if_neg c2]
      by_cases c3 : n = 59
      · rw [if_pos c3]; exact ⟨fun z => absurd z (by decide), fun z => absurd z c2⟩
      · rw [if_neg c3]; exact ⟨fun z => absurd z (by decide), fun z => absurd z c2⟩
theorem sign_e {t a b : Nat} {σc σr : Mem} (h : TK t a b σc σr) (h13 : σr 0 13 = 0) : fX6_isWord 14 σr = some (decide (σc 34 2 = 3)) := by
  obtain ⟨hT, hab, hbt, e3, e11, e4, e12, e2, hlt, h3, -⟩ := h
  have ht := hT.2.2.1
  rw [r_word (by decide) e11 e12 hab (by omega) h13, show strL 14 = 1 from rfl, alT, alT, Bool.true_and]
  by_cases hat : a < t
  · obtain ⟨b1, b2, b3⟩ := hT.at (show a < 120 by omega)
    rw [if_pos hat] at e2
    have hw : wdT σr 14 a 0 = decide (by8 σr a = 59) := by
      unfold wdT
      rw [Nat.add_zero, b2, show strC 14 0 = nI 59 from rfl]
      exact decide_eq_decide.mpr (nI_eq (by omega) (by decide))
    rw [hw]
    by_cases c : by8 σr a = 59
    · have z3 : σc 34 2 = 3 := by rw [e2]; exact tk_3.mpr c
      rw [decide_eq_true c, decide_eq_true z3, decide_eq_true (show b - a = 1 by have := h3 z3; omega)]
      rfl
    · have z3 : ¬ σc 34 2 = 3 := by rw [e2]; exact fun z => c (tk_3.mp z)
      rw [decide_eq_false c, decide_eq_false z3, Bool.and_false]
  · rw [if_neg hat] at e2
    rw [decide_eq_false (show ¬ σc 34 2 = 3 by rw [e2]; decide), decide_eq_false (show ¬ b - a = 1 by omega), Bool.false_and]
/-! numbers -/
def rvN (g : Nat → Nat) (a : Nat) : Nat → Nat
  | 0 => 0
  | m + 1 => if rvN g a m ≤ 9999 then 10 * rvN g a m + (g (a + m) - 48) else rvN g a m
theorem rv_val (g : Nat → Nat) (a : Nat) : ∀ m, (∀ i, i < m → g (a + i) - 48 ≤ 9) → (rvN g a m ≤ 9999 ∧ valN g a m = rvN g a m) ∨ (9999 < rvN g a m ∧ rvN g a m ≤ 100000 ∧ valN g a m = 10000) := by
  intro m
  induction m with
  | zero => intro _; exact Or.inl ⟨Nat.zero_le _, rfl⟩
  | succ m ih =>
    intro h
    have hd := h m (by omega)
    rw [rvN, valN]
    rcases ih (fun i hi => h i (by omega)) with ⟨h1, h2⟩ | ⟨h1, h2, h3⟩
    · rw [if_pos h1, h2]
      omega
    · rw [if_neg (by omega), h3]
      omega
theorem must_t {σ : Mem} (h13 : σ 0 13 = 0) : fX6_must true σ = fX6_next σ := by
  have e : up2 σ 0 13 0 = σ := by
    have := up2_self σ 0 13
    rw [h13] at this
    exact this
  rw [fX6_must, h13, if_pos rfl, if_pos rfl, fX6_must_17, gd_t (Or.inl rfl), pb_e, e, h13, if_pos rfl, bid]
theorem must_17 (σ : Mem) : fX6_must_17 1 σ = some (up2 σ 0 13 1) := by
  rw [fX6_must_17, gd_t (Or.inr rfl), pb_e, up2_e, if_neg (by decide)]
theorem must_f {σ : Mem} (h13 : σ 0 13 = 0) : fX6_must false σ = some (up2 σ 0 13 1) := by
  rw [fX6_must, h13, if_pos rfl, if_neg (by decide), fX6_must_12, must_17]
theorem must_w {σ : Mem} (h13 : σ 0 13 = 1) (v : Bool) : fX6_must v σ = some σ := by
  have e : up2 σ 0 13 1 = σ := by
    have := up2_self σ 0 13
    rw [h13] at this
    exact this
  rw [fX6_must, h13, if_neg (by decide), fX6_must_12, must_17, e]
theorem r_num_l {σ : Mem} {lo hi : Int32} {a b : Nat} (e12 : σ 0 12 = nI b) (hb : b ≤ 120) (h7 : ∀ i, i < 120 → by8 σ i < 256 ∧ σ 7 i = nI (by8 σ i)) (hd : ∀ i, a ≤ i → i < b → 48 ≤ by8 σ i ∧ by8 σ i ≤ 57) : ∀ n m, a + m ≤ b → b - (a + m) < n → lw2 (fX6_numberRead_27 lo hi σ) n (nI (rvN (by8 σ) a m)) (nI (a + m)) = fX6_numberRead_73 lo hi (nI (rvN (by8 σ) a (b - a))) σ := by
  intro n
  induction n with
  | zero => intro m _ h2; omega
  | succ n ih =>
    intro m h1 h2
    rw [lw2_s, fX6_numberRead_27, e12]
    by_cases e : a + m = b
    · rw [if_pos (show nI b ≤ nI (a + m) from nI_le (by omega) (by omega)), show b - a = m by omega]
    · have hi' := ih (m + 1) (by omega) (by omega)
      rw [show a + (m + 1) = a + m + 1 from rfl] at hi'
      have hd' := hd (a + m) (by omega) (by omega)
      have hr := rv_val (by8 σ) a m (fun i h => by have := hd (a + i) (by omega) (by omega); omega)
      rw [if_neg (nle_n (by omega) (by omega)), if_neg (nI_pos (by omega)), nI_1]
      by_cases h9 : rvN (by8 σ) a m ≤ 9999
      · rw [rvN, if_pos h9] at hi'
        rw [if_pos (show nI (rvN (by8 σ) a m) ≤ (9999 : Int32) from nI_le (b := 9999) h9 (by decide)), gd_t (inB_n (show a + m < 120 by omega) (by decide)), pb_e, nI_clamp (by omega), (h7 (a + m) (by omega)).2, show (10 : Int32) = nI 10 from rfl, pk_mul, nI_add, show (48 : Int32) = nI 48 from rfl, pk_sub (by omega), show 10 * rvN (by8 σ) a m + by8 σ (a + m) - 48 = 10 * rvN (by8 σ) a m + (by8 σ (a + m) - 48) by omega]
        exact hi'
      · rw [rvN, if_neg h9] at hi'
        rw [if_neg (show ¬ nI (rvN (by8 σ) a m) ≤ (9999 : Int32) from nle_n (a := 9999) (by omega) (by omega))]
        exact hi'
theorem w_num {σ : Mem} {lo hi : Int32} {t a b : Nat} (e10 : σ 0 10 = nI t) (ht : t ≤ 120) (e11 : σ 0 11 = nI a) (e12 : σ 0 12 = nI b) (hab : a ≤ b) (hb : b ≤ 120) (h13 : σ 0 13 = 1) : ∃ v, fX6_numberRead lo hi σ = some (v, σ) := by
  have h73 : ∀ x, fX6_numberRead_73 lo hi x σ = some (x, σ) := fun x => by rw [fX6_numberRead_73, must_w h13, Option.bind_some]
  have hl : ∀ n k x, b - k < n → k ≤ b → ∃ v, lw2 (fX6_numberRead_27 lo hi σ) n x (nI k) = some (v, σ) := by
    intro n
    induction n with
    | zero => intro k x h2; omega
    | succ n ih =>
      intro k x h2 hk
      rw [lw2_s, fX6_numberRead_27, e12, h73, nI_1]
      by_cases e : k = b
      · rw [if_pos (show nI b ≤ nI k from nI_le (by omega) (by omega))]; exact ⟨_, rfl⟩
      · rw [if_neg (nle_n (by omega) (by omega))]
        by_cases h1 : x < 0
        · rw [if_pos h1]; exact ⟨_, rfl⟩
        · rw [if_neg h1]
          by_cases h3 : x ≤ 9999
          · rw [if_pos h3, gd_t (inB_n (show k < 120 by omega) (by decide)), pb_e]
            exact ih (k + 1) _ (by omega) (by omega)
          · rw [if_neg h3]
            exact ih (k + 1) _ (by omega) (by omega)
  have hF : b - a < FU := Nat.lt_trans (show b - a < 10100 by omega) FU_gt
  have hby : ∃ v, fX6_isByte (nI a) 48 57 σ = some v := by
    rw [fX6_isByte, e10]
    by_cases h : t ≤ a
    · rw [if_pos (nI_le h (by omega))]; exact ⟨_, rfl⟩
    · rw [if_neg (nle_n (by omega) (by omega)), gd_t (inB_n (show a < 120 by omega) (by decide))]
      split <;> exact ⟨_, rfl⟩
  obtain ⟨v, hv⟩ := hby
  rw [fX6_numberRead, e11, hv, Option.bind_some, pb_e, pb_e, pb_e]
  cases v with
  | false => rw [if_neg (by decide)]; exact hl FU a _ hF hab
  | true => rw [if_pos rfl]; exact hl FU a _ hF hab
theorem num_e {t a b lo hi : Nat} {σc σr : Mem} (h : TK t a b σc σr) (h13 : σr 0 13 = 0) (hlo : lo ≤ 1) (hhi : hi ≤ 9999) : (∃ v τc τr a' b', fX3_readNumber (nI lo) (nI hi) σc = some (true, τc) ∧ fX6_numberRead (nI lo) (nI hi) σr = some (nI v, τr) ∧ lo ≤ v ∧ v ≤ hi ∧ τc 34 6 = nI v ∧ TK t a' b' τc τr ∧ b ≤ a' ∧ (∀ q, q ≠ 34 → τc q = σc q) ∧ FRt σr τr) ∨ (∃ v, fX3_readNumber (nI lo) (nI hi) σc = some (false, σc) ∧ fX6_numberRead (nI lo) (nI hi) σr = some (v, up2 σr 0 13 1)) := by
  have h0 := h
  obtain ⟨hT, hab, hbt, e3, e11, e4, e12, e2, hlt, -, hnum⟩ := h
  have ht := hT.2.2.1
  have h7 : ∀ i, i < 120 → by8 σr i < 256 ∧ σr 7 i = nI (by8 σr i) := fun i hi => ⟨(hT.at hi).1, (hT.at hi).2.1⟩
  obtain ⟨n, hn, hn2⟩ := FU_s
  have hrb' : fX6_isByte (nI a) 48 57 σr = _ := hT.rb (k := a) (lo := 48) (hi := 57) (by omega) (by decide) (by decide)
  rw [fX3_readNumber, fX6_numberRead, e11, hrb', Option.bind_some]
  simp only [pb_e]
  by_cases h2 : σc 34 2 = 2
  · have hat : a < t := by
      by_cases z : a < t
      · exact z
      · rw [if_neg z] at e2; rw [e2] at h2; exact absurd h2 (by decide)
    obtain ⟨hd, hv⟩ := hnum h2
    rw [if_pos hat] at e2
    have hdg : 48 ≤ by8 σr a ∧ by8 σr a ≤ 57 := hd a (Nat.le_refl _) (hlt hat)
    have hr := rv_val (by8 σr) a (b - a) (fun i h => by have := hd (a + i) (by omega) (by omega); omega)
    have hl := r_num_l (lo := nI lo) (hi := nI hi) (a := a) e12 (by omega) h7 hd FU 0 (by omega) (Nat.lt_trans (show b - (a + 0) < 10100 by omega) FU_gt)
    have hl' : lw2 (fX6_numberRead_27 (nI lo) (nI hi) σr) FU 0 (nI a) = _ := hl
    rw [if_pos h2, if_pos (decide_eq_true ⟨hat, hdg⟩), hl', fX6_numberRead_73, in_w, hv]
    have hw : fX5_within (nI (rvN (by8 σr) a (b - a))) (nI lo) (nI hi) = fX5_within (nI (valN (by8 σr) a (b - a))) (nI lo) (nI hi) := by
      rcases hr with ⟨r1, r2⟩ | ⟨r1, r2, r3⟩
      · rw [r2]
      · rw [r3]
        have f1 : ¬ fX5_within (nI (rvN (by8 σr) a (b - a))) (nI lo) (nI hi) = true := fun z => by
          obtain ⟨j, j1, j2, ej⟩ := (wi_n (by omega) (by omega)).mp z
          have := (nI_eq (by omega) (by omega)).mp ej
          omega
        have f2 : ¬ fX5_within (nI 10000) (nI lo) (nI hi) = true := fun z => by
          obtain ⟨j, j1, j2, ej⟩ := (wi_n (by omega) (by omega)).mp z
          have := (nI_eq (by omega) (by omega)).mp ej
          omega
        rw [Bool.eq_false_iff.mpr f1, Bool.eq_false_iff.mpr f2]
    rw [hw]
    by_cases hin : fX5_within (nI (valN (by8 σr) a (b - a))) (nI lo) (nI hi) = true
    · left
      obtain ⟨v, v1, v2, ev⟩ := (wi_n (by omega) (by omega)).mp hin
      have hvl := valN_le (by8 σr) a (b - a)
      have ev2 := (nI_eq (by omega) (by omega)).mp ev
      have er : rvN (by8 σr) a (b - a) = v := by omega
      obtain ⟨a', b', τc, τr, g1, g2, g3, g4, g5, g6⟩ := step_e (t := t) (b0 := b) (σc := up2 σc 34 6 (nI v)) (σr := σr) (hT.mv (up2_j (by decide)) (up2_n (by decide)) rfl rfl) (by rw [up2_j (by decide)]; exact e4) e12 hbt
      refine ⟨v, τc, τr, a', b', ?_, ?_, v1, v2, by rw [g5.2, up2_e], g3, g4, fun q hq => (g5.1 q hq).trans (up2_n hq), g6⟩
      · rw [if_pos hin, ev, g1, Option.bind_some]
      · rw [hin, must_t h13, g2, Option.bind_some, er]
    · right
      refine ⟨nI (rvN (by8 σr) a (b - a)), ?_, ?_⟩
      · rw [if_neg hin]
      · rw [Bool.eq_false_iff.mpr hin, must_f h13, Option.bind_some]
  · right
    have hnd : ¬ (a < t ∧ 48 ≤ by8 σr a ∧ by8 σr a ≤ 57) := fun z => by
      rw [if_pos z.1] at e2
      exact h2 (by rw [e2]; exact tk_2.mpr z.2)
    have h73 : fX6_numberRead_73 (nI lo) (nI hi) (-1) σr = some (-1, up2 σr 0 13 1) := by
      have f1 : ¬ fX5_within (-1) (nI lo) (nI hi) = true := fun z => by
        obtain ⟨j, j1, j2, ej⟩ := (wi_n (by omega) (by omega)).mp z
        exact nI_m1 (by omega) ej.symm
      rw [fX6_numberRead_73, in_w, Bool.eq_false_iff.mpr f1, must_f h13, Option.bind_some]
    refine ⟨-1, by rw [if_neg h2], ?_⟩
    rw [if_neg (by rw [decide_eq_true_eq]; exact hnd), hn, lw2_s, fX6_numberRead_27, if_pos (show (-1 : Int32) < 0 by decide), ite_self]
    exact h73
