/-! strength, seconds, due -/
def stS (a : Vec) (t f : Int32) (p : Nat) : Int32 := f * pc (t &&& it a p 2) + it a p 3
def duS (a : Vec) (v : Int32) (p : Nat) : Int32 := ((fX0_seconds (it a p 0) v * a 0) * pc (nearS a p)) / 10
theorem r_strong (t f : Int32) {σ : Mem} {p : Nat} (hp : p < 8) : fX6_strong t f (nI p) σ = some (stS (σ 1) t f p) := by
  rw [fX6_strong, r_its' rfl (y := 2) (w := 2) rfl hp (by decide), Option.bind_some, r_ones, Option.bind_some, r_its' rfl (y := 3) (w := 3) rfl hp (by decide), Option.bind_some]
  rfl
theorem and_64 : ∀ m, m < 64 → ∀ n, n < 64 → nI m &&& nI n = nI (m &&& n) := by decide +kernel
theorem bc_and {x y : Int32} (hx : rng x 63) (hy : rng y 63) : fJ6_bitCount_0f7a4 (x &&& y) = pc (x &&& y) := by
  obtain ⟨m, hm, rfl⟩ := hx
  obtain ⟨n, hn, rfl⟩ := hy
  rw [and_64 m (by omega) n (by omega)]
  exact bc_pc _ (Nat.lt_of_le_of_lt Nat.and_le_left (by omega))
theorem c_strong {t : Int32} (ht : rng t 63) (f : Int32) {σ : Mem} {r : Nat} {a : Vec} (hR : RmP σ r a) (hW : WFv a) {p : Nat} (hp : p < 8) : fX1_strengthFor r (nI p) t f σ = some (stS a t f p) := by
  obtain ⟨-, -, e2, e3, -⟩ := hR p hp
  rw [fX1_strengthFor, gd_t (inB_n hp (by decide)), gd_t (inB_n hp (by decide)), nI_clamp (by omega), e2, e3, bc_and ht (hW.2.2.1 p hp).2.2.1]
  rfl
theorem minmax (v : Int32) : iMin 30 (iMax 1 v) = iMax 1 (iMin 30 v) := by
  unfold iMin iMax
  by_cases a : (1 : Int32) < v
  · rw [if_pos a]
    by_cases b : v < 30
    · rw [if_pos b, if_pos a]
    · rw [if_neg b, if_pos (by decide)]
  · have b : v < 30 := by
      rw [Int32.lt_iff_toInt_lt] at *
      rw [show (1 : Int32).toInt = 1 by decide] at a
      rw [show (30 : Int32).toInt = 30 by decide]
      omega
    rw [if_neg a, if_pos (by decide), if_pos b, if_neg a]
theorem r_seconds (t f : Int32) {σ : Mem} {p : Nat} (hp : p < 8) : fX6_seconds t f (nI p) σ = some (fX0_seconds (it (σ 1) p 0) (stS (σ 1) t f p)) := by
  rw [fX6_seconds, r_strong t f hp, Option.bind_some, pb_e, r_its' rfl (y := 0) (w := 0) rfl hp (by decide), Option.bind_some, fX0_seconds, pb_e, minmax]
  generalize it (σ 1) p 0 = k
  generalize iMax 1 (iMin 30 (stS (σ 1) t f p)) = b
  rw [Int32.mul_comm 2 b]
  repeat' split
  all_goals rfl
theorem r_due (t f : Int32) {σ : Mem} (hW : WFv (σ 1)) {p : Nat} (hp : p < 8) : fX6_due t f (nI p) σ = some (duS (σ 1) (stS (σ 1) t f p) p) := by
  rw [fX6_due, r_seconds t f hp, Option.bind_some, r_near hW hp, Option.bind_some, r_ones, Option.bind_some]
  rfl
theorem bc_near {a : Vec} (hW : WFv a) (p : Nat) : fJ6_bitCount_0f7a4 (nearS a p) = pc (nearS a p) := by
  obtain ⟨n, hn, e⟩ := nearS_n hW p
  rw [e]
  exact bc_pc n hn
theorem c_due (v : Int32) {σ : Mem} {r : Nat} {a : Vec} (hR : RmR σ r a) (hW : WFv a) {p : Nat} (hp : p < 8) (hpn : p < nP a) : fX1_dueFrom r (nI p) v σ = some (duS a v p) := by
  obtain ⟨e0, -⟩ := hR.2.2.1 p hp
  rw [fX1_dueFrom, gd_t (inB_n hp (by decide)), gd_t (inB_n hp (by decide)), nI_clamp (by omega), e0, hR.1.1, hR.2.2.2.2 p hpn, bc_near hW]
  rfl
theorem jk_0 (j : Nat) : (7 + 2 * nI j : Int32) = nI (7 + 2 * j) := by rw [show (7 : Int32) = nI 7 from rfl, show (2 : Int32) = nI 2 from rfl, pk_mul, nI_add]
theorem st_strength (a1 a2 a3 : Int32) : StI Inv (fX5_strength a1 a2 a3) (fX6_strength a1 a2 a3) := by
  intro σc σr hI
  have hR := hI.1.1
  have hW := hI.1.2.1
  rw [fX5_strength, fX6_strength, hasJ hR, hasP hR, in_l a3 0 2 (by decide) (by decide)]
  simp only [b2id]
  by_cases h1 : fX6_isJoke a1 σr = true
  case neg => rw [if_neg h1, if_neg h1]; exact st_find hI (by decide) (found_0 σc) (finds_0 σr)
  rw [if_pos h1, if_pos h1]
  by_cases h2 : fX6_isPerson a2 σr = true
  case neg => rw [if_neg h2, if_neg h2]; exact st_find hI (by decide) (found_0 σc) (finds_0 σr)
  rw [if_pos h2, if_pos h2]
  obtain ⟨j, -, hj, rfl⟩ := isJ_n hW h1
  obtain ⟨p, hpn, hp, rfl⟩ := isP_n hW h2
  have ej := hR.2.1 j hj
  have e0 : σc 8 j = σr 1 (7 + 2 * j) := ej.1
  have e1 : σc 9 j = σr 1 (7 + 2 * j + 1) := ej.2
  have ek : σc 2 p = it (σr 1) p 0 := (hR.2.2.1 p hp).1
  rw [jk_0, nI_1, gd_t (inB_n hj (by decide)), gd_t (inB_n hj (by decide)), gd_t (inB_n (show 7 + 2 * j < 73 by omega) (by decide)), pb_e, gd_t (inB_n (show 7 + 2 * j + 1 < 73 by omega) (by decide)), pb_e, nI_clamp (by omega), nI_clamp (show 7 + 2 * j < 2 ^ 31 by omega), nI_clamp (show 7 + 2 * j + 1 < 2 ^ 31 by omega), e0, e1, c_strong (hW.2.2.2.1 j hj).1 _ hR.2.2.1 hW hp, Option.bind_some, r_strong _ _ hp, r_seconds _ _ hp, r_due _ _ hW hp, Option.bind_some, Option.bind_some, Option.bind_some, gd_t (inB_n hp (by decide)), nI_clamp (show p < 2 ^ 31 by omega), ek, c_due _ hR hW hp hpn, Option.bind_some]
  by_cases h3 : fX5_within a3 0 2 = true
  case neg =>
    have hne : ∀ y : Int32, fX5_within y 0 2 = true → ¬ a3 = y := fun y hy e => h3 (e ▸ hy)
    rw [if_neg h3, if_neg (hne 0 (by decide)), if_neg (hne 1 (by decide)), if_neg (hne 2 (by decide))]
    exact st_find hI (by decide) (found_0 σc) (finds_0 σr)
  rw [if_pos h3]
  obtain ⟨w, -, hw, rfl⟩ := bnI (a := 0) (b := 2) rfl rfl (by decide) (by decide) h3
  by_cases w0 : nI w = 0
  · rw [if_pos w0, if_pos w0]; exact ⟨_, _, _, rfl, rfl, hI⟩
  rw [if_neg w0, if_neg w0]
  by_cases w1 : nI w = 1
  · rw [if_pos w1, if_pos w1]; exact ⟨_, _, _, rfl, rfl, hI⟩
  rw [if_neg w1, if_neg w1]
  have w2 : nI w = 2 := by
    rcases (show w = 0 ∨ w = 1 ∨ w = 2 by omega) with rfl | rfl | rfl
    · exact absurd rfl w0
    · exact absurd rfl w1
    · rfl
  rw [if_pos w2]
  exact ⟨_, _, _, rfl, rfl, hI⟩
