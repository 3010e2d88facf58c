/-! a joke told: what is due, what is paid -/
theorem min30_n (v : Int32) : ∃ m, 1 ≤ m ∧ m ≤ 30 ∧ iMin 30 (iMax 1 v) = nI m := by
  refine (wi_n (a := 1) (b := 30) (by decide) (by decide)).mp ?_
  rw [wi_iff, Int32.le_iff_toInt_le, Int32.le_iff_toInt_le, nI_toInt (by decide), nI_toInt (by decide)]
  have e1 : (1 : Int32).toInt = 1 := by decide
  have e2 : (30 : Int32).toInt = 30 := by decide
  unfold iMin iMax
  by_cases h1 : (1 : Int32) < v
  · rw [if_pos h1]
    rw [Int32.lt_iff_toInt_lt] at h1
    by_cases h2 : v < 30
    · rw [if_pos h2]
      rw [Int32.lt_iff_toInt_lt] at h2
      omega
    · rw [if_neg h2]; omega
  · rw [if_neg h1, if_pos (by decide)]; omega
theorem sec_n (k v : Int32) : rng (fX0_seconds k v) 65 := by
  obtain ⟨m, h1, h2, e⟩ := min30_n v
  rw [fX0_seconds, pb_e, e]
  have d2 : nI m / 2 + 1 = nI (m / 2 + 1) := by rw [show (2 : Int32) = nI 2 from rfl, pk_div (by omega) (by decide) (by decide), nI_1]
  have d3 : nI m * 2 = nI (m * 2) := by rw [show (2 : Int32) = nI 2 from rfl, pk_mul]
  have d4 : nI (m * 2) + 5 = nI (m * 2 + 5) := by rw [show (5 : Int32) = nI 5 from rfl, nI_add]
  rw [d2, d3, d4]
  repeat' split
  · exact ⟨_, by omega, rfl⟩
  · exact ⟨_, by omega, rfl⟩
  · exact ⟨_, by omega, rfl⟩
  · exact ⟨0, by omega, rfl⟩
  · exact ⟨_, by omega, rfl⟩
  · exact ⟨1, by omega, rfl⟩
  · exact ⟨_, by omega, rfl⟩
theorem pc_w : ∀ n, n < 256 → fX5_within (pc (nI n)) 0 8 = true := by decide +kernel
theorem s8_rng {x : Int32} (h : S8 x) : rng (pc x) 8 := by
  obtain ⟨n, hn, rfl⟩ := h
  exact rng_of rfl (by decide) (pc_w n hn)
theorem due_n {a : Vec} (hW : WFv a) (v : Int32) (p : Nat) : rng (duS a v p) 1040 := by
  obtain ⟨m, hm, e1⟩ := sec_n (it a p 0) v
  obtain ⟨r, hr, e2⟩ := hW.2.2.2.2.1
  obtain ⟨c, hc, e3⟩ := s8_rng (nearS_n hW p)
  unfold duS
  have b1 : m * r ≤ 65 * 20 := Nat.mul_le_mul hm hr
  have b2 : m * r * c ≤ 65 * 20 * 8 := Nat.mul_le_mul b1 hc
  rw [e1, e2, e3, pk_mul, pk_mul, show (10 : Int32) = nI 10 from rfl, pk_div (by omega) (by decide) (by decide)]
  exact ⟨_, by omega, rfl⟩
def pdS (a : Vec) (t f T : Int32) (p : Nat) (x : Int32) : Int32 := if bt T p = true then iMin (duS a (stS a t f p) p) (iMin (it a p 4) (999999 - x)) else 0
def trF (a : Vec) (t f T : Int32) : Nat → Int32
  | 0 => a 2
  | p + 1 => trF a t f T p + pdS a t f T p (trF a t f T p)
def pdF (a : Vec) (t f T : Int32) (p : Nat) : Int32 := pdS a t f T p (trF a t f T p)
theorem tr_1 (a : Vec) (t f T : Int32) (p : Nat) : trF a t f T (p + 1) = trF a t f T p + pdF a t f T p := rfl
theorem rich_n {x : Nat} (h : x ≤ 999999) : (999999 : Int32) - nI x = nI (999999 - x) := by
  rw [show (999999 : Int32) = nI 999999 from rfl, pk_sub h]
theorem pd_n {a : Vec} (hW : WFv a) (t f T : Int32) {p : Nat} (hp : p < 8) {x : Nat} (hx : x ≤ 999999) : ∃ d y, pdS a t f T p (nI x) = nI d ∧ it a p 4 = nI y ∧ d ≤ y ∧ y ≤ 9999 ∧ x + d ≤ 999999 := by
  obtain ⟨y, hy, ey⟩ := (hW.2.2.1 p hp).2.2.2.2
  obtain ⟨e, he, ee⟩ := due_n hW (stS a t f p) p
  unfold pdS
  by_cases hb : bt T p = true
  · rw [if_pos hb, ee, ey, rich_n hx, iMin_n (by omega) (by omega), iMin_n (by omega) (by omega)]
    exact ⟨_, y, rfl, rfl, by omega, hy, by omega⟩
  · rw [if_neg hb]
    exact ⟨0, y, rfl, ey, by omega, hy, by omega⟩
theorem pd_0 {a : Vec} (hW : WFv a) {p : Nat} (hp : p < 8) {x : Int32} (hx : rng x 999999) : iMin 0 (iMin (it a p 4) (999999 - x)) = 0 := by
  obtain ⟨y, hy, ey⟩ := (hW.2.2.1 p hp).2.2.2.2
  obtain ⟨z, hz, ez⟩ := hx
  rw [ez, ey, rich_n hz, iMin_n (by omega) (by omega), show (0 : Int32) = nI 0 from rfl, iMin_n (by omega) (by omega), Nat.min_eq_left (by omega)]
theorem tr_n {a : Vec} (hW : WFv a) (t f T : Int32) : ∀ p, p ≤ 8 → rng (trF a t f T p) 999999 := by
  intro p
  induction p with
  | zero => intro _; exact hW.2.2.2.2.2.2.1
  | succ p ih =>
    intro hp
    obtain ⟨x, hx, e⟩ := ih (by omega)
    obtain ⟨d, y, e2, -, -, -, h3⟩ := pd_n hW t f T (p := p) (by omega) hx
    rw [trF, e, e2, nI_add]
    exact ⟨_, h3, rfl⟩
theorem pf_n {a : Vec} (hW : WFv a) (t f T : Int32) {p : Nat} (hp : p < 8) : ∃ d y, pdF a t f T p = nI d ∧ it a p 4 = nI y ∧ d ≤ y ∧ y ≤ 9999 := by
  obtain ⟨x, hx, e⟩ := tr_n hW t f T p (by omega)
  unfold pdF
  rw [e]
  obtain ⟨d, y, e2, e3, h1, h2, -⟩ := pd_n hW t f T hp hx
  exact ⟨d, y, e2, e3, h1, h2⟩
def mdS (a : Vec) (T : Int32) (q : Nat) : Int32 := iMax 0 (iMin 9 (it a q 3 + if bt T q = true then 1 else -1))
theorem md_w : ∀ m, m < 10 → fX5_within (iMax 0 (iMin 9 (nI m + 1))) 0 9 = true ∧ fX5_within (iMax 0 (iMin 9 (nI m + (-1)))) 0 9 = true := by decide +kernel
theorem md_n {a : Vec} (hW : WFv a) (T : Int32) {q : Nat} (hq : q < 8) : rng (mdS a T q) 9 := by
  obtain ⟨m, hm, e⟩ := (hW.2.2.1 q hq).2.2.2.1
  unfold mdS
  rw [e]
  by_cases hb : bt T q = true
  · rw [if_pos hb]; exact rng_of rfl (by decide) (md_w m (by omega)).1
  · rw [if_neg hb]; exact rng_of rfl (by decide) (md_w m (by omega)).2
theorem upd_upd (a : Vec) (i : Nat) (v w : Int32) : upd (upd a i v) i w = upd a i w := by
  funext j
  by_cases e : j = i
  · rw [e, pk_us, pk_us]
  · rw [pk_un e, pk_un e, pk_un e]
theorem WFv.n2 {a : Vec} (h : WFv a) {v : Int32} (hv : rng v 999999) : WFv (upd a 2 v) := h.set _ v (fun e => by omega) (fun e => by omega) (fun p _ => ⟨fun e => by omega, fun e => by omega, fun e => by omega, fun e => by omega, fun e => by omega⟩) (fun q _ => ⟨fun e => by omega, fun e => by omega⟩) (fun e => by omega) (fun e => by omega) (fun _ => hv) (fun k _ e => by omega)
theorem st_u2 (a : Vec) (v t f : Int32) (p : Nat) : stS (upd a 2 v) t f p = stS a t f p := by
  unfold stS
  rw [it_lo (by omega), it_lo (by omega)]
theorem du_u2 {a : Vec} (h : WFv a) (v s : Int32) {p : Nat} (hp : p < 8) : duS (upd a 2 v) s p = duS a s p := by
  unfold duS
  rw [it_lo (by omega), pk_un (by omega), nearS_cong (a := a) h.p.2 (pk_un (by omega)) (pk_un (by omega)) (fun q _ => it_lo (by omega)) hp]
