/-! the whole of it -/
def in5 (σ : Mem) (S : Int32) (i : Nat) : Mem := upR σ 5 (fun j => if j < i then (if bt S j = true then 0 else -1) else σ 5 j)
theorem in5_0 (σ : Mem) (S : Int32) : in5 σ S 0 = σ := by
  funext q
  unfold in5
  by_cases e : q = 5
  · rw [e, upR_s]; funext j; rw [if_neg (by omega)]
  · rw [upR_n e]
theorem in5_1 (σ : Mem) {S v : Int32} {i : Nat} (h : (if bt S i = true then (0 : Int32) else -1) = v) : up2 (in5 σ S i) 5 i v = in5 σ S (i + 1) := by
  funext q j
  rw [up2_a]
  by_cases e : q = 5
  · subst e
    unfold in5
    rw [upR_s, upR_s]
    by_cases e2 : j = i
    · subst e2; rw [if_pos ⟨rfl, rfl⟩, if_pos (by omega), h]
    · rw [if_neg (fun z => e2 z.2)]
      exact ite_iff (by omega) _ _
  · rw [if_neg (fun z => e z.1)]
    unfold in5
    rw [upR_n e, upR_n e]
theorem r_in_l {σ : Mem} (hW : WFv (σ 1)) (E S : Int32) : ∀ n i, i ≤ nP (σ 1) → nP (σ 1) - i < n → lw2 (fX6_caughtFrom_12 E S) n (nI i) (in5 σ S i) = lw3 (fX6_caughtFrom_54 E) FU S 1 (in5 σ S (nP (σ 1))) := by
  intro n
  induction n with
  | zero => intro i _ h2; omega
  | succ n ih =>
    intro i h1 h2
    obtain ⟨e5, h8⟩ := hW.p
    have e1 : in5 σ S i 1 5 = nI (nP (σ 1)) := by unfold in5; rw [upR_n (by omega)]; exact e5
    rw [lw2_s, fX6_caughtFrom_12, e1]
    by_cases e : i = nP (σ 1)
    · rw [← e, if_pos (Int32.le_refl _)]
    · have hi := ih (i + 1) (by omega) (by omega)
      have q8 : i < 8 := by omega
      rw [if_neg (nle_n (by omega) (by omega))]
      simp only [gd_t (inB_n q8 (show 8 < 2 ^ 31 by decide)), pb_e, nI_clamp (show i < 2 ^ 31 by omega), nI_1]
      by_cases h : bt S i = true
      · rw [if_pos ((bt_1 S q8).mpr h), in5_1 σ (if_pos h)]; exact hi
      · rw [if_neg (fun z => h ((bt_1 S q8).mp z)), in5_1 σ (if_neg h)]; exact hi
theorem spread_e {S E : Int32} {σc σr : Mem} {r : Nat} {a : Vec} (hS : S8 S) (hE : S &&& E = S) (hR : RmR σc r a) (hr : r + 9 < 31) (hW : WFv a) (ha : σr 1 = a) : ∃ T τc τr, fX4_spread r S E σc = some (T, τc) ∧ fX6_caughtFrom S E σr = some (T, τr) ∧ S8 T ∧ SPC σc τc ∧ SPR σr τr ∧ τc 31 2 = τr 0 6 ∧ RR a T τc τr ∧ (∀ q, bt S q = true → bt T q = true) := by
  have h8 := hW.p.2
  have hW2 : WFv (up2 σr 0 6 0 1) := by rw [up2_n (by omega), ha]; exact hW
  have hp2 : nP (up2 σr 0 6 0 1) = nP a := by rw [up2_n (by omega), ha]
  have g := r_in_l hW2 E S FU 0 (by omega) (Nat.lt_trans (show nP (up2 σr 0 6 0 1) - 0 < 10100 by omega) FU_gt)
  rw [in5_0, hp2] at g
  have hF : 8 + 3 ≤ FU := Nat.le_of_lt (Nat.lt_trans (by decide) FU_gt)
  have hrr : RR a S (ntC (up2 σc 31 2 0) S 0 8) (in5 (up2 σr 0 6 0) S (nP a)) := by
    intro p hp
    unfold ntC in5
    rw [upR_s, upR_s, if_pos hp]
    refine ⟨fun q => ?_, fun q => ?_⟩
    · rw [if_pos ⟨by omega, q⟩, if_pos q]; exact ⟨rfl, by decide⟩
    · rw [if_neg (by rw [q]; decide)]
  obtain ⟨T, τc, τr, f1, f2, f3, f4, f5, f6, f7⟩ := spread_l (E := E) (r := r) hW hr 8 0 S (ntC (up2 σc 31 2 0) S 0 8) (in5 (up2 σr 0 6 0) S (nP a)) FU FU (by omega) hS (by omega) (hR.cong (fun q _ _ => by unfold ntC; rw [upR_n (by omega), up2_n (by omega)])) (by unfold in5; rw [upR_n (by omega), up2_n (by omega)]; exact ha) (by unfold ntC; rw [upR_n (by omega), up2_e]; rfl) (by unfold in5; rw [upR_n (by omega), up2_e]; rfl) hrr (by omega) hF
  refine ⟨T, τc, τr, ?_, ?_, f3, fun q h1 h2 => ?_, ⟨fun q h1 h2 => ?_, fun j hj => ?_⟩, f6, f7⟩
  · rw [fX4_spread, pb_e, c_note, Option.bind_some]; exact f1
  · rw [fX6_caughtFrom, pb_e, pb_e, hE]; exact g.trans f2
  · rw [f4 q h1 h2]; unfold ntC; rw [upR_n h2, up2_n h1]
  · rw [f5.1 q h1 h2]; unfold in5; rw [upR_n h2, up2_n h1]
  · rw [f5.2 j hj]; unfold in5; rw [upR_n (by omega), up2_j hj]
theorem Inv.sp {σc σr τc τr : Mem} (h : Inv σc σr) (hc : SPC σc τc) (hr : SPR σr τr) : Inv τc τr :=
  h.live (fun k _ => hc k (by omega) (by omega)) ⟨fun k _ => hr.1 k (by omega) (by omega), hr.2 3 (by decide), hr.2 10 (by decide)⟩ (h.1.cong (fun k _ _ => hc k (by omega) (by omega)) (hr.1 1 (by decide) (by decide)))
/-! everybody -/
theorem all_n : ∀ P, P < 9 → (1 <<< (nI P &&& 31) : Int32) - 1 = nI (2 ^ P - 1) := by decide +kernel
theorem r_all {σ : Mem} (hW : WFv (σ 1)) : fX6_everybody σ = nI (2 ^ nP (σ 1) - 1) := by
  have h8 := hW.p.2
  rw [fX6_everybody, hW.p.1]
  exact all_n _ (by omega)
theorem c_all {σ : Mem} {r : Nat} {a : Vec} (hR : RmR σ r a) (hW : WFv a) : fX1_everybody r σ = nI (2 ^ nP a - 1) := by
  have h8 := hW.p.2
  rw [fX1_everybody, hR.1.2.2.2.2.1, hW.p.1]
  exact all_n _ (by omega)
theorem sub_all {P n : Nat} (h : n < 2 ^ P) : nI n &&& nI (2 ^ P - 1) = nI n := by
  rw [and_n, Nat.and_two_pow_sub_one_eq_mod, Nat.mod_eq_of_lt h]
theorem stF_lt (a : Vec) (t f : Int32) : ∀ o, o ≤ 8 → ∃ n, n < 2 ^ o ∧ stF a t f o = nI n := by
  intro o
  induction o with
  | zero => intro _; exact ⟨0, by decide, rfl⟩
  | succ o ih =>
    intro ho
    obtain ⟨n, hn, e⟩ := ih (by omega)
    have h2 : 2 ^ o < 2 ^ (o + 1) := Nat.pow_lt_pow_right (by decide) (by omega)
    have h3 : 2 ^ o ≤ 2 ^ 8 := Nat.pow_le_pow_right (by decide) (by omega)
    rw [stF]
    split
    · exact ⟨n, by omega, e⟩
    · exact ⟨n ||| 2 ^ o, Nat.or_lt_two_pow (by omega) h2, by rw [e, (or_bit n (by omega) o (by omega)).1]⟩
theorem pow_8 {P : Nat} (h : P ≤ 8) : 2 ^ P ≤ 256 := Nat.pow_le_pow_right (n := 2) (by decide) h
/-- both laugh at the same: topics t, fun f -/
theorem laugh_e {t f : Int32} (ht : rng t 63) {σc σr : Mem} {r : Nat} {a : Vec} (hR : RmR σc r a) (hr : r + 9 < 31) (hW : WFv a) (ha : σr 1 = a) : ∃ T τc τr, fX4_spread r (starts a t f) (nI (2 ^ nP a - 1)) σc = some (T, τc) ∧ fX6_laughAt t f σr = some (T, τr) ∧ S8 T ∧ SPC σc τc ∧ SPR σr τr ∧ τc 31 2 = τr 0 6 ∧ RR a T τc τr := by
  have hWr : WFv (σr 1) := by rw [ha]; exact hW
  obtain ⟨n, hn, e⟩ := stF_lt a t f _ hW.p.2
  have h256 := pow_8 hW.p.2
  have e' : starts a t f = nI n := e
  obtain ⟨T, τc, τr, f1, f2, f3, f4, f5, f6, f7, -⟩ := spread_e (S := starts a t f) (E := nI (2 ^ nP a - 1)) ⟨n, by omega, e'⟩ (by rw [e']; exact sub_all hn) hR hr hW ha
  refine ⟨T, τc, τr, f1, ?_, f3, f4, f5, f6, f7⟩
  rw [fX6_laughAt, r_by t f hWr, Option.bind_some, r_all hWr, b2id, ha]
  exact f2
theorem st_caught (a1 : Int32) : StI Inv (fX5_caught a1) (fX6_caught a1) := by
  intro σc σr hI
  have hR := hI.1.1
  have hW := hI.1.2.1
  have h256 := pow_8 hW.p.2
  rw [fX5_caught, fX6_caught, c_all hR hW, r_all hW, in_l a1 0 (nI (2 ^ nP (σr 1) - 1)) (by decide) rfl]
  simp only [b2id]
  by_cases h1 : fX5_within a1 0 (nI (2 ^ nP (σr 1) - 1)) = true
  case neg => rw [if_neg h1, if_neg h1]; exact st_find hI (by decide) (found_0 σc) (finds_0 σr)
  rw [if_pos h1, if_pos h1]
  have hp : 0 < 2 ^ nP (σr 1) := Nat.pow_pos (by decide)
  obtain ⟨j, hj, rfl⟩ := rng_of rfl (by omega) h1
  obtain ⟨T, τc, τr, f1, f2, f3, f4, f5, f6, f7⟩ := spread_e (S := nI j) (E := nI (2 ^ nP (σr 1) - 1)) ⟨j, by omega, rfl⟩ (sub_all (by omega)) hR (by decide) hW rfl
  exact ⟨_, _, _, f1, f2, hI.sp f4 f5⟩
