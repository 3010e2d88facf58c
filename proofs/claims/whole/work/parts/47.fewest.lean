/-! the smallest of some sets, sought from below and from above -/
theorem bnd2_some {β γ : Type} {f : Option (γ × Mem)} {g : γ → β} {b : β} {τ : Mem} (h : bnd2 f (fun v s => some (g v, s)) = some (b, τ)) : ∃ v, f = some (v, τ) ∧ g v = b := by
  cases f with
  | none => cases h
  | some z =>
    obtain ⟨v, s⟩ := z
    rw [bnd2_s] at h
    have e : g v = b ∧ s = τ := by simpa using h
    exact ⟨v, by rw [e.2], e.1⟩
def cnt (k : Nat) : Nat := (pc (nI k)).toNatClampNeg
theorem cnt_n {k : Nat} (h : k < 256) : pc (nI k) = nI (cnt k) ∧ cnt k ≤ 8 := rng_n (s8_rng ⟨k, h, rfl⟩) (by decide)
theorem cnt_le {a b : Nat} (ha : a < 256) (hb : b < 256) : pc (nI a) ≤ pc (nI b) ↔ cnt a ≤ cnt b := by
  obtain ⟨e1, h1⟩ := cnt_n ha
  obtain ⟨e2, h2⟩ := cnt_n hb
  rw [e1, e2]
  exact nI_leI (by omega) (by omega)
theorem cnt_f : ∀ P, P < 9 → ∀ m, m < 2 ^ P → pc (nI m) = pc (nI (2 ^ P - 1)) → m = 2 ^ P - 1 := by decide +kernel
theorem cnt_m : ∀ P, P < 9 → ∀ m, m < 2 ^ P → pc (nI m) ≤ pc (nI (2 ^ P - 1)) := by decide +kernel
def key (k : Nat) : Nat := cnt k * 256 + k
theorem key_a0 {x y z m b k : Nat} (h1 : x < y) (h2 : y * 256 + b ≤ z * 256 + k) (h3 : m < 256) : x * 256 + m ≤ z * 256 + k := Nat.le_trans (Nat.le_trans (Nat.add_le_add_left (Nat.le_of_lt h3) _) (Nat.succ_mul x 256 ▸ Nat.mul_le_mul_right 256 h1)) (Nat.le_trans (Nat.le_add_right _ b) h2)
theorem key_a {m b k : Nat} (h1 : cnt m < cnt b) (h2 : key b ≤ key k) (h3 : m < 256) : key m ≤ key k := key_a0 h1 h2 h3
def Best (A : Nat) (Q : Nat → Bool) (R : Nat) : Prop := (R = A ∨ Q R = true) ∧ R ≤ A ∧ key R ≤ key A ∧ ∀ k, k ≤ A → Q k = true → key R ≤ key k
theorem best_u {A : Nat} {Q : Nat → Bool} {R S : Nat} (hA : A < 256) (h : Best A Q R) (g : Best A Q S) : R = S := by
  have h1 : key R ≤ key S := by
    rcases g.1 with e | e
    · rw [e]; exact h.2.2.1
    · exact h.2.2.2 S g.2.1 e
  have h2 : key S ≤ key R := by
    rcases h.1 with e | e
    · rw [e]; exact g.2.2.1
    · exact g.2.2.2 R h.2.1 e
  have := h.2.1
  have := g.2.1
  unfold key at h1 h2
  omega
theorem up_l {A : Nat} {Q : Nat → Bool} {SC : Mem → Prop} {L : Nat → Nat → Nat → Mem → Option (Int32 × Mem)} (hA : A < 256) (hf : ∀ m, m ≤ A → cnt m = cnt A → m = A) (hm : ∀ m, m ≤ A → cnt m ≤ cnt A)
    (hend : ∀ n b σ, SC σ → L (n + 1) b (A + 1) σ = some (nI b, σ))
    (hstep : ∀ n b m σ, SC σ → m ≤ A → b ≤ A → ∃ τ, SC τ ∧ L (n + 1) b m σ = L n (if cnt m < cnt b ∧ Q m = true then m else b) (m + 1) τ) :
    ∀ n m b σ, m ≤ A + 1 → A + 1 - m < n → SC σ → (b = A ∨ (b < m ∧ Q b = true)) → b ≤ A → (∀ k, k < m → Q k = true → key b ≤ key k) → ∃ R τ, SC τ ∧ L n b m σ = some (nI R, τ) ∧ Best A Q R := by
  intro n
  induction n with
  | zero => intro m _ _ _ h2; omega
  | succ n ih =>
    intro m b σ h1 h2 hs hb hbA hk
    by_cases e : m = A + 1
    · subst e
      refine ⟨b, σ, hs, hend n b σ hs, hb.imp id (fun z => z.2), hbA, ?_, fun k hk1 hq => hk k (by omega) hq⟩
      have := hm b hbA
      unfold key
      omega
    · obtain ⟨τ, t1, t2⟩ := hstep n b m σ hs (by omega) hbA
      rw [t2]
      by_cases hc : cnt m < cnt b ∧ Q m = true
      · rw [if_pos hc]
        refine ih (m + 1) m τ (by omega) (by omega) t1 (Or.inr ⟨by omega, hc.2⟩) (by omega) (fun k hk1 hq => ?_)
        by_cases ek : k = m
        · rw [ek]; exact Nat.le_refl _
        · have z1 := hk k (by omega) hq
          have z2 := hc.1
          exact key_a z2 z1 (Nat.lt_of_le_of_lt (show m ≤ A by omega) hA)
      · rw [if_neg hc]
        refine ih (m + 1) b τ (by omega) (by omega) t1 (hb.imp id (fun z => ⟨by omega, z.2⟩)) hbA (fun k hk1 hq => ?_)
        by_cases ek : k = m
        · subst ek
          have hge : cnt b ≤ cnt k := Nat.le_of_not_lt (fun z => hc ⟨z, hq⟩)
          rcases hb with rfl | hb
          · have := hm k (by omega)
            rw [hf k (by omega) (by omega)]
            exact Nat.le_refl _
          · unfold key
            omega
        · exact hk k (by omega) hq
theorem down_l {A : Nat} {Q : Nat → Bool} {SC : Mem → Prop} {L : Nat → Nat → Nat → Mem → Option (Int32 × Mem)} (hA : A < 256)
    (hend : ∀ n b σ, SC σ → L (n + 1) b 0 σ = some (nI b, σ))
    (hstep : ∀ n b i σ, SC σ → i ≤ A → b ≤ A → ∃ τ, SC τ ∧ L (n + 1) b (i + 1) σ = L n (if cnt i ≤ cnt b ∧ Q i = true then i else b) i τ) :
    ∀ n i b σ, i ≤ A + 1 → i < n → SC σ → (b = A ∨ Q b = true) → b ≤ A → i ≤ b + 1 → key b ≤ key A → (∀ k, i ≤ k → k ≤ A → Q k = true → key b ≤ key k) → ∃ R τ, SC τ ∧ L n b i σ = some (nI R, τ) ∧ Best A Q R := by
  intro n
  induction n with
  | zero => intro m _ _ _ h2; omega
  | succ n ih =>
    intro i b σ h1 h2 hs hb hbA hib hkA hk
    cases i with
    | zero => exact ⟨b, σ, hs, hend n b σ hs, hb, hbA, hkA, fun k hk1 hq => hk k (by omega) hk1 hq⟩
    | succ i =>
      obtain ⟨τ, t1, t2⟩ := hstep n b i σ hs (by omega) hbA
      rw [t2]
      by_cases hc : cnt i ≤ cnt b ∧ Q i = true
      · have hkk : key i ≤ key b := by
          have := hc.1
          unfold key
          omega
        rw [if_pos hc]
        refine ih i i τ (by omega) (by omega) t1 (Or.inr hc.2) (by omega) (by omega) (by omega) (fun k hk1 hk2 hq => ?_)
        by_cases ek : k = i
        · rw [ek]; exact Nat.le_refl _
        · have := hk k (by omega) hk2 hq
          omega
      · rw [if_neg hc]
        refine ih i b τ (by omega) (by omega) t1 hb hbA (by omega) hkA (fun k hk1 hk2 hq => ?_)
        by_cases ek : k = i
        · subst ek
          have hlt : cnt b < cnt k := Nat.lt_of_not_le (fun z => hc ⟨z, hq⟩)
          unfold key
          omega
        · exact hk k (by omega) hk2 hq
theorem smaller_e {a b : Nat} (ha : a < 256) (hb : b < 256) : fX5_isSmaller (nI a) (nI b) = true ↔ cnt a < cnt b := by
  rw [fX5_isSmaller, bc_pc a ha, bc_pc b hb]
  by_cases h : cnt b ≤ cnt a
  · rw [if_pos ((cnt_le hb ha).mpr h)]
    exact ⟨fun z => (by cases z), fun z => (by omega)⟩
  · rw [if_neg (fun z => h ((cnt_le hb ha).mp z))]
    exact ⟨fun _ => (by omega), fun _ => rfl⟩
/-! fewest -/
theorem s_all {σ0 σ : Mem} (hW : WFv (σ0 1)) (h : SRt σ0 σ) : fX6_everybody σ = nI (2 ^ nP (σ0 1) - 1) := by
  have h8 := hW.p.2
  rw [fX6_everybody, h.2.2 5 (by decide), hW.p.1]
  exact all_n _ (by omega)
theorem st_fewest : StI Inv fX5_fewest fX6_fewest := by
  intro σc σr hI
  have hR := hI.1.1
  have hW := hI.1.2.1
  have h8 := hW.p.2
  have h256 := pow_8 h8
  have hpos : 0 < 2 ^ nP (σr 1) := Nat.pow_pos (by decide)
  have cf1 := cnt_f _ (show nP (σr 1) < 9 by omega)
  have cm1 := cnt_m _ (show nP (σr 1) < 9 by omega)
  have call := fun σ (h : SRt σr σ) => s_all hW h
  rw [fX5_fewest, fX6_fewest, c_all hR hW, r_all hW, pb_e, pb_e, pb_e]
  have hsub : ∀ k, k ≤ 2 ^ nP (σr 1) - 1 → nI k &&& nI (2 ^ nP (σr 1) - 1) = nI k := fun k hk => sub_all (by omega)
  have hlt : ∀ k, k ≤ 2 ^ nP (σr 1) - 1 → k < 2 ^ nP (σr 1) := fun k hk => by omega
  have hA : 2 ^ nP (σr 1) - 1 < 256 := by omega
  generalize 2 ^ nP (σr 1) - 1 = A at *
  have hf : ∀ m, m ≤ A → cnt m = cnt A → m = A := fun m hm e => cf1 m (hlt m hm) (by rw [(cnt_n (k := m) (by omega)).1, (cnt_n hA).1, e])
  have hmm : ∀ m, m ≤ A → cnt m ≤ cnt A := fun m hm => (cnt_le (by omega) hA).mp (cm1 m (hlt m hm))
  obtain ⟨F, g1, g2⟩ := opp (β := Int32) (SC := SCt σc) (SR := SRt σr) (N := A + 1) (cf := fun k σ => fX4_spread 1 (nI k) (nI A) σ) (rf := fun k σ => fX6_caughtFrom (nI k) (nI A) σ) (SCt.rf σc) (SRt.rf σr) (fun k hk uc ur hc hr => by
    have hJ := hI.st hc hr
    obtain ⟨T, τc, τr, f1, f2, f3, f4, f5, -⟩ := spread_e (S := nI k) (E := nI A) ⟨k, by omega, rfl⟩ (hsub k (by omega)) hJ.1.1 (by decide) hJ.1.2.1 rfl
    exact ⟨T, τc, τr, f1, f2, hc.sp f4, hr.sp f5⟩)
  obtain ⟨R, τc, k1, k2, k3⟩ := up_l (A := A) (Q := fun k => decide (F k = nI A)) (SC := SCt σc) (L := fun n b m σ => lw3 (fX5_fewest_12 (nI A)) n (nI b) (nI m) σ) hA hf hmm
    (fun n b σ _ => by
      show lw3 _ _ _ _ _ = _
      rw [lw3_s, fX5_fewest_12, if_pos (nI_lt (by omega) (by omega))])
    (fun n b m σ hs hm hb => by
      show ∃ τ, SCt σc τ ∧ lw3 _ _ _ _ _ = lw3 _ _ _ _ _
      rw [lw3_s, fX5_fewest_12, if_neg (nI_nlt hm (by omega)), nI_1]
      by_cases hsm : cnt m < cnt b
      · obtain ⟨τ, f1, f2⟩ := g1 m (by omega) σ hs
        rw [if_pos ((smaller_e (by omega) (by omega)).mpr hsm), f1, bnd2_s]
        refine ⟨τ, f2, ?_⟩
        by_cases hq : F m = nI A
        · rw [if_pos hq, if_pos ⟨hsm, decide_eq_true hq⟩]
        · rw [if_neg hq, if_neg (fun z => hq (of_decide_eq_true z.2))]
      · rw [if_neg (fun z => hsm ((smaller_e (by omega) (by omega)).mp z))]
        exact ⟨σ, hs, by rw [if_neg (fun z => hsm z.1)]⟩)
    FU 0 A σc (by omega) (Nat.lt_trans (show A + 1 - 0 < 10100 by omega) FU_gt) (SCt.rf σc) (Or.inl rfl) (Nat.le_refl _) (fun k hk => by omega)
  obtain ⟨S, τr, j1, j2, j3⟩ := down_l (A := A) (Q := fun k => decide (F k = nI A)) (SC := SRt σr) (L := fun n b i σ => lw3 (fX6_fewest_10) n (nI b) (nI i - 1) σ) hA
    (fun n b σ _ => by
      show lw3 _ _ _ _ _ = _
      rw [lw3_s, fX6_fewest_10, if_pos (by decide)])
    (fun n b i σ hs hi hb => by
      show ∃ τ, SRt σr τ ∧ lw3 _ _ _ _ _ = lw3 _ _ _ _ _
      obtain ⟨τ, f1, f2⟩ := g2 i (by omega) σ hs
      rw [lw3_s, fX6_fewest_10, nI_pred, if_neg (nI_pos (by omega)), call σ hs, f1, bnd2_s, call τ f2]
      refine ⟨τ, f2, ?_⟩
      have em : nI i + -1 = nI i - 1 := (Int32.sub_eq_add_neg _ _).symm
      by_cases hq : F i = nI A
      · rw [if_pos hq, fX6_fewest_35, if_neg (by decide), r_pc, r_pc, Option.bind_some, Option.bind_some, em]
        by_cases hle : cnt i ≤ cnt b
        · rw [if_neg (Int32.not_lt.mpr ((cnt_le (by omega) (by omega)).mpr hle)), if_pos ⟨hle, decide_eq_true hq⟩]
        · rw [if_pos (Int32.not_le.mp (fun z => hle ((cnt_le (by omega) (by omega)).mp z))), if_neg (fun z => hle z.1)]
      · rw [if_neg hq, fX6_fewest_35, if_pos rfl, em, if_neg (fun z => hq (of_decide_eq_true z.2))])
    FU (A + 1) A σr (Nat.le_refl _) (Nat.lt_trans (show A + 1 < 10100 by omega) FU_gt) (SRt.rf σr) (Or.inl rfl) (Nat.le_refl _) (Nat.le_refl _) (Nat.le_refl _) (fun k h1 h2 => by omega)
  have k2' : lw3 (fX5_fewest_12 (nI A)) FU (nI A) 0 σc = some (nI R, τc) := k2
  have j2' : lw3 (fX6_fewest_10) FU (nI A) (nI (A + 1) - 1) σr = some (nI S, τr) := j2
  rw [nI_pred] at j2'
  rw [k2', j2', best_u hA k3 j3]
  exact ⟨_, _, _, rfl, rfl, hI.st k1 j1⟩
/-! away -/
theorem any32 (x : Int32) : ∃ n, n < 2 ^ 32 ∧ x = nI n := by
  refine ⟨x.toBitVec.toNat, x.toBitVec.isLt, ?_⟩
  rw [← Int32.toBitVec_inj, nI_bv]
  apply BitVec.eq_of_toNat_eq
  rw [BitVec.toNat_ofNat, Nat.mod_eq_of_lt x.toBitVec.isLt]
theorem s8_and {x : Int32} (h : S8 x) (y : Int32) : S8 (x &&& y) := by
  obtain ⟨m, hm, rfl⟩ := h
  obtain ⟨n, hn, rfl⟩ := any32 y
  exact ⟨m &&& n, Nat.lt_of_le_of_lt Nat.and_le_left hm, and_n m n⟩
theorem caught_and (x E : Int32) (σ : Mem) : fX6_caughtFrom x E σ = fX6_caughtFrom (x &&& E) E σ := by
  simp only [fX6_caughtFrom, pb_e, Int32.and_assoc, Int32.and_self]
theorem st_away (a1 a2 : Int32) : StI Inv (fX5_away a1 a2) (fX6_away a1 a2) := by
  intro σc σr hI
  have hR := hI.1.1
  have hW := hI.1.2.1
  have h8 := hW.p.2
  have h256 := pow_8 h8
  have hpos : 0 < 2 ^ nP (σr 1) := Nat.pow_pos (by decide)
  have cf1 := cnt_f _ (show nP (σr 1) < 9 by omega)
  have cm1 := cnt_m _ (show nP (σr 1) < 9 by omega)
  have call := fun σ (h : SRt σr σ) => s_all hW h
  rw [fX5_away, fX6_away, hasJ hR, in_l a2 0 8 (by decide) (by decide)]
  simp only [b2id]
  by_cases h1 : fX6_isJoke a1 σr = true
  case neg => rw [if_neg h1, if_neg h1]; exact st_find hI (by decide) (found_0 σc) (finds_0 σr)
  rw [if_pos h1, if_pos h1]
  by_cases h2 : fX5_within a2 0 8 = true
  case neg => rw [if_neg h2, if_neg h2]; exact st_find hI (by decide) (found_0 σc) (finds_0 σr)
  rw [if_pos h2, if_pos h2]
  obtain ⟨j, -, hj, rfl⟩ := isJ_n hW h1
  have e0 : σc 8 j = σr 1 (7 + 2 * j) := (hR.2.1 j hj).1
  have e1 : σc 9 j = σr 1 (7 + 2 * j + 1) := (hR.2.1 j hj).2
  rw [jk_0, nI_1, gd_t (inB_n hj (by decide)), gd_t (inB_n hj (by decide)), gd_t (inB_n (show 7 + 2 * j < 73 by omega) (by decide)), gd_t (inB_n (show 7 + 2 * j + 1 < 73 by omega) (by decide)), nI_clamp (show j < 2 ^ 31 by omega), nI_clamp (show 7 + 2 * j < 2 ^ 31 by omega), nI_clamp (show 7 + 2 * j + 1 < 2 ^ 31 by omega), e0, e1, c_by (hW.2.2.2.1 j hj).1 _ hR hW, r_by _ _ hW, Option.bind_some, Option.bind_some, c_all hR hW, r_all hW, pb_e, pb_e, pb_e]
  obtain ⟨s, hs, es⟩ := stF_lt (σr 1) (σr 1 (7 + 2 * j)) (σr 1 (7 + 2 * j + 1)) _ hW.p.2
  have es' : starts (σr 1) (σr 1 (7 + 2 * j)) (σr 1 (7 + 2 * j + 1)) = nI s := es
  rw [es']
  have hsA : nI s &&& nI (2 ^ nP (σr 1) - 1) = nI s := sub_all hs
  have hs8 : S8 (nI s) := ⟨s, by omega, rfl⟩
  have hlt : ∀ k, k ≤ 2 ^ nP (σr 1) - 1 → k < 2 ^ nP (σr 1) := fun k hk => by omega
  have hA : 2 ^ nP (σr 1) - 1 < 256 := by omega
  clear es es' hs h256 hpos
  generalize 2 ^ nP (σr 1) - 1 = A at *
  have hf : ∀ m, m ≤ A → cnt m = cnt A → m = A := fun m hm e => cf1 m (hlt m hm) (by rw [(cnt_n (k := m) (by omega)).1, (cnt_n hA).1, e])
  have hmm : ∀ m, m ≤ A → cnt m ≤ cnt A := fun m hm => (cnt_le (by omega) hA).mp (cm1 m (hlt m hm))
  obtain ⟨F, g1, g2⟩ := opp (β := Int32) (SC := SCt σc) (SR := SRt σr) (N := A + 1) (cf := fun k σ => bnd2 (fX4_spread 1 (nI s &&& (nI k ^^^ (-1))) (nI A &&& (nI k ^^^ (-1))) σ) fun v t => some (fJ6_bitCount_0f7a4 v, t)) (rf := fun k σ => bnd2 (fX6_caughtFrom (nI s) (nI A &&& (nI k ^^^ (-1))) σ) fun v t => some (pc v, t)) (SCt.rf σc) (SRt.rf σr) (fun k hk uc ur hc hr => by
    have hJ := hI.st hc hr
    have ee : nI s &&& (nI A &&& (nI k ^^^ (-1))) = nI s &&& (nI k ^^^ (-1)) := by rw [← Int32.and_assoc, hsA]
    obtain ⟨T, τc, τr, f1, f2, f3, f4, f5, -⟩ := spread_e (S := nI s &&& (nI k ^^^ (-1))) (E := nI A &&& (nI k ^^^ (-1))) (s8_and hs8 _) (by rw [← ee, Int32.and_assoc, Int32.and_self]) hJ.1.1 (by decide) hJ.1.2.1 rfl
    refine ⟨pc T, τc, τr, ?_, ?_, hc.sp f4, hr.sp f5⟩
    · show bnd2 _ _ = _
      rw [f1, bnd2_s, f3.pc]
    · show bnd2 _ _ = _
      rw [caught_and, ee, f2, bnd2_s])
  obtain ⟨R, τc, k1, k2, k3⟩ := up_l (A := A) (Q := fun k => decide (F k ≤ a2)) (SC := SCt σc) (L := fun n b m σ => lw3 (fX5_away_71 a2 (nI s) (nI A)) n (nI b) (nI m) σ) hA hf hmm
    (fun n b σ _ => by
      show lw3 _ _ _ _ _ = _
      rw [lw3_s, fX5_away_71, if_pos (nI_lt (by omega) (by omega))])
    (fun n b m σ hs hm hb => by
      show ∃ τ, SCt σc τ ∧ lw3 _ _ _ _ _ = lw3 _ _ _ _ _
      rw [lw3_s, fX5_away_71, if_neg (nI_nlt hm (by omega)), nI_1]
      by_cases hsm : cnt m < cnt b
      · obtain ⟨τ, f1, f2⟩ := g1 m (by omega) σ hs
        obtain ⟨v, f3, f4⟩ := bnd2_some f1
        rw [if_pos ((smaller_e (by omega) (by omega)).mpr hsm), f3, bnd2_s, f4]
        refine ⟨τ, f2, ?_⟩
        by_cases hq : F m ≤ a2
        · rw [if_neg (Int32.not_lt.mpr hq), if_pos ⟨hsm, decide_eq_true hq⟩]
        · rw [if_pos (Int32.not_le.mp hq), if_neg (fun z => hq (of_decide_eq_true z.2))]
      · rw [if_neg (fun z => hsm ((smaller_e (by omega) (by omega)).mp z))]
        exact ⟨σ, hs, by rw [if_neg (fun z => hsm z.1)]⟩)
    FU 0 A σc (by omega) (Nat.lt_trans (show A + 1 - 0 < 10100 by omega) FU_gt) (SCt.rf σc) (Or.inl rfl) (Nat.le_refl _) (fun k hk => by omega)
  obtain ⟨S, τr, j1, j2, j3⟩ := down_l (A := A) (Q := fun k => decide (F k ≤ a2)) (SC := SRt σr) (L := fun n b i σ => lw3 (fX6_away_67 a2 (nI s)) n (nI b) (nI i - 1) σ) hA
    (fun n b σ _ => by
      show lw3 _ _ _ _ _ = _
      rw [lw3_s, fX6_away_67, if_pos (by decide)])
    (fun n b i σ hs hi hb => by
      show ∃ τ, SRt σr τ ∧ lw3 _ _ _ _ _ = lw3 _ _ _ _ _
      obtain ⟨τ, f1, f2⟩ := g2 i (by omega) σ hs
      obtain ⟨v, f3, f4⟩ := bnd2_some f1
      have em : nI i + -1 = nI i - 1 := (Int32.sub_eq_add_neg _ _).symm
      rw [lw3_s, fX6_away_67, nI_pred, if_neg (nI_pos (by omega)), fX6_leftWithout, call σ hs, b2id, f3, bnd2_s, r_pc, Option.bind_some, f4, r_pc, r_pc, Option.bind_some, Option.bind_some, em]
      refine ⟨τ, f2, ?_⟩
      by_cases hq : F i ≤ a2
      · rw [if_neg (Int32.not_lt.mpr hq)]
        by_cases hle : cnt i ≤ cnt b
        · rw [if_neg (Int32.not_lt.mpr ((cnt_le (by omega) (by omega)).mpr hle)), if_pos ⟨hle, decide_eq_true hq⟩]
        · rw [if_pos (Int32.not_le.mp (fun z => hle ((cnt_le (by omega) (by omega)).mp z))), if_neg (fun z => hle z.1)]
      · rw [if_pos (Int32.not_le.mp hq), if_neg (fun z => hq (of_decide_eq_true z.2))])
    FU (A + 1) A σr (Nat.le_refl _) (Nat.lt_trans (show A + 1 < 10100 by omega) FU_gt) (SRt.rf σr) (Or.inl rfl) (Nat.le_refl _) (Nat.le_refl _) (Nat.le_refl _) (fun k h1 h2 => by omega)
  have k2' : lw3 (fX5_away_71 a2 (nI s) (nI A)) FU (nI A) 0 σc = some (nI R, τc) := k2
  have j2' : lw3 (fX6_away_67 a2 (nI s)) FU (nI A) (nI (A + 1) - 1) σr = some (nI S, τr) := j2
  rw [nI_pred] at j2'
  rw [k2', j2', best_u hA k3 j3]
  exact ⟨_, _, _, rfl, rfl, hI.st k1 j1⟩
