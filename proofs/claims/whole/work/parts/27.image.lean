/-! a room takes over another -/
theorem takeOver_s {σ : Mem} {r r1 : Nat} (hd : r + 9 < r1 ∨ r1 + 9 < r) : ∃ τ, fX1_takeOver r r1 σ = some τ ∧ (∀ k, (k < r ∨ r + 9 < k) → τ k = σ k) ∧ (τ r 0 = σ r1 0 ∧ τ r 7 = σ r1 7 ∧ τ r 10 = σ r1 10 ∧ τ r 11 = σ r1 11 ∧ τ r 12 = σ r1 12 ∧ τ r 13 = σ r1 13 ∧ τ r 14 = σ r1 14) ∧ (∀ p, p < 8 → τ (r + 1) p = σ (r1 + 1) p ∧ τ (r + 2) p = σ (r1 + 2) p ∧ τ (r + 3) p = σ (r1 + 3) p ∧ τ (r + 4) p = σ (r1 + 4) p ∧ τ (r + 5) p = σ (r1 + 5) p ∧ τ (r + 6) p = σ (r1 + 6) p ∧ τ (r + 7) p = σ (r1 + 7) p ∧ τ (r + 8) p = σ (r1 + 8) p) ∧ ∀ k, k < 10 → τ (r + 9) k = σ (r1 + 9) k := by
  rw [fX1_takeOver]
  have q0 : ∀ k, (k < r ∨ r + 9 < k) → σ k = σ k := fun _ _ => rfl
  rw [pb_e]
  generalize e1 : up2 σ r 0 (σ r1 0) = s1
  have n1 : ∀ k, k ≠ r → s1 k = σ k := fun k h => by rw [← e1]; exact up2_n h
  have j1 : ∀ j, j ≠ 0 → s1 r j = σ r j := fun j h => by rw [← e1]; exact up2_j h
  have v1 : s1 r 0 = σ r1 0 := by rw [← e1]; exact up2_e _ _ _ _
  have q1 : ∀ k, (k < r ∨ r + 9 < k) → s1 k = σ k := fun k h => (n1 k (by omega)).trans (q0 k h)
  clear e1
  rw [pb_e]
  generalize e2 : upR s1 (r + 1) (va_cpy (s1 (r1 + 1)) (s1 (r + 1)) 0 0 8) = s2
  have n2 : ∀ k, k ≠ r + 1 → s2 k = s1 k := fun k h => by rw [← e2]; exact upR_n h
  have v2 : ∀ p, p < 8 → s2 (r + 1) p = s1 (r1 + 1) p := fun p h => by rw [← e2, upR_s, pk_cpy_in (by omega) (by omega)]; exact congrArg (s1 (r1 + 1)) (by omega)
  have q2 : ∀ k, (k < r ∨ r + 9 < k) → s2 k = σ k := fun k h => (n2 k (by omega)).trans (q1 k h)
  clear e2
  rw [pb_e]
  generalize e3 : upR s2 (r + 2) (va_cpy (s2 (r1 + 2)) (s2 (r + 2)) 0 0 8) = s3
  have n3 : ∀ k, k ≠ r + 2 → s3 k = s2 k := fun k h => by rw [← e3]; exact upR_n h
  have v3 : ∀ p, p < 8 → s3 (r + 2) p = s2 (r1 + 2) p := fun p h => by rw [← e3, upR_s, pk_cpy_in (by omega) (by omega)]; exact congrArg (s2 (r1 + 2)) (by omega)
  have q3 : ∀ k, (k < r ∨ r + 9 < k) → s3 k = σ k := fun k h => (n3 k (by omega)).trans (q2 k h)
  clear e3
  rw [pb_e]
  generalize e4 : upR s3 (r + 3) (va_cpy (s3 (r1 + 3)) (s3 (r + 3)) 0 0 8) = s4
  have n4 : ∀ k, k ≠ r + 3 → s4 k = s3 k := fun k h => by rw [← e4]; exact upR_n h
  have v4 : ∀ p, p < 8 → s4 (r + 3) p = s3 (r1 + 3) p := fun p h => by rw [← e4, upR_s, pk_cpy_in (by omega) (by omega)]; exact congrArg (s3 (r1 + 3)) (by omega)
  have q4 : ∀ k, (k < r ∨ r + 9 < k) → s4 k = σ k := fun k h => (n4 k (by omega)).trans (q3 k h)
  clear e4
  rw [pb_e]
  generalize e5 : upR s4 (r + 4) (va_cpy (s4 (r1 + 4)) (s4 (r + 4)) 0 0 8) = s5
  have n5 : ∀ k, k ≠ r + 4 → s5 k = s4 k := fun k h => by rw [← e5]; exact upR_n h
  have v5 : ∀ p, p < 8 → s5 (r + 4) p = s4 (r1 + 4) p := fun p h => by rw [← e5, upR_s, pk_cpy_in (by omega) (by omega)]; exact congrArg (s4 (r1 + 4)) (by omega)
  have q5 : ∀ k, (k < r ∨ r + 9 < k) → s5 k = σ k := fun k h => (n5 k (by omega)).trans (q4 k h)
  clear e5
  rw [pb_e]
  generalize e6 : upR s5 (r + 5) (va_cpy (s5 (r1 + 5)) (s5 (r + 5)) 0 0 8) = s6
  have n6 : ∀ k, k ≠ r + 5 → s6 k = s5 k := fun k h => by rw [← e6]; exact upR_n h
  have v6 : ∀ p, p < 8 → s6 (r + 5) p = s5 (r1 + 5) p := fun p h => by rw [← e6, upR_s, pk_cpy_in (by omega) (by omega)]; exact congrArg (s5 (r1 + 5)) (by omega)
  have q6 : ∀ k, (k < r ∨ r + 9 < k) → s6 k = σ k := fun k h => (n6 k (by omega)).trans (q5 k h)
  clear e6
  rw [pb_e]
  generalize e7 : upR s6 (r + 6) (va_cpy (s6 (r1 + 6)) (s6 (r + 6)) 0 0 8) = s7
  have n7 : ∀ k, k ≠ r + 6 → s7 k = s6 k := fun k h => by rw [← e7]; exact upR_n h
  have v7 : ∀ p, p < 8 → s7 (r + 6) p = s6 (r1 + 6) p := fun p h => by rw [← e7, upR_s, pk_cpy_in (by omega) (by omega)]; exact congrArg (s6 (r1 + 6)) (by omega)
  have q7 : ∀ k, (k < r ∨ r + 9 < k) → s7 k = σ k := fun k h => (n7 k (by omega)).trans (q6 k h)
  clear e7
  rw [pb_e]
  generalize e8 : up2 s7 r 7 (s7 r1 7) = s8
  have n8 : ∀ k, k ≠ r → s8 k = s7 k := fun k h => by rw [← e8]; exact up2_n h
  have j8 : ∀ j, j ≠ 7 → s8 r j = s7 r j := fun j h => by rw [← e8]; exact up2_j h
  have v8 : s8 r 7 = s7 r1 7 := by rw [← e8]; exact up2_e _ _ _ _
  have q8 : ∀ k, (k < r ∨ r + 9 < k) → s8 k = σ k := fun k h => (n8 k (by omega)).trans (q7 k h)
  clear e8
  rw [pb_e]
  generalize e9 : upR s8 (r + 7) (va_cpy (s8 (r1 + 7)) (s8 (r + 7)) 0 0 8) = s9
  have n9 : ∀ k, k ≠ r + 7 → s9 k = s8 k := fun k h => by rw [← e9]; exact upR_n h
  have v9 : ∀ p, p < 8 → s9 (r + 7) p = s8 (r1 + 7) p := fun p h => by rw [← e9, upR_s, pk_cpy_in (by omega) (by omega)]; exact congrArg (s8 (r1 + 7)) (by omega)
  have q9 : ∀ k, (k < r ∨ r + 9 < k) → s9 k = σ k := fun k h => (n9 k (by omega)).trans (q8 k h)
  clear e9
  rw [pb_e]
  generalize e10 : upR s9 (r + 8) (va_cpy (s9 (r1 + 8)) (s9 (r + 8)) 0 0 8) = s10
  have n10 : ∀ k, k ≠ r + 8 → s10 k = s9 k := fun k h => by rw [← e10]; exact upR_n h
  have v10 : ∀ p, p < 8 → s10 (r + 8) p = s9 (r1 + 8) p := fun p h => by rw [← e10, upR_s, pk_cpy_in (by omega) (by omega)]; exact congrArg (s9 (r1 + 8)) (by omega)
  have q10 : ∀ k, (k < r ∨ r + 9 < k) → s10 k = σ k := fun k h => (n10 k (by omega)).trans (q9 k h)
  clear e10
  rw [pb_e]
  generalize e11 : up2 s10 r 10 (s10 r1 10) = s11
  have n11 : ∀ k, k ≠ r → s11 k = s10 k := fun k h => by rw [← e11]; exact up2_n h
  have j11 : ∀ j, j ≠ 10 → s11 r j = s10 r j := fun j h => by rw [← e11]; exact up2_j h
  have v11 : s11 r 10 = s10 r1 10 := by rw [← e11]; exact up2_e _ _ _ _
  have q11 : ∀ k, (k < r ∨ r + 9 < k) → s11 k = σ k := fun k h => (n11 k (by omega)).trans (q10 k h)
  clear e11
  rw [pb_e]
  generalize e12 : up2 s11 r 11 (s11 r1 11) = s12
  have n12 : ∀ k, k ≠ r → s12 k = s11 k := fun k h => by rw [← e12]; exact up2_n h
  have j12 : ∀ j, j ≠ 11 → s12 r j = s11 r j := fun j h => by rw [← e12]; exact up2_j h
  have v12 : s12 r 11 = s11 r1 11 := by rw [← e12]; exact up2_e _ _ _ _
  have q12 : ∀ k, (k < r ∨ r + 9 < k) → s12 k = σ k := fun k h => (n12 k (by omega)).trans (q11 k h)
  clear e12
  rw [pb_e]
  generalize e13 : up2 s12 r 12 (s12 r1 12) = s13
  have n13 : ∀ k, k ≠ r → s13 k = s12 k := fun k h => by rw [← e13]; exact up2_n h
  have j13 : ∀ j, j ≠ 12 → s13 r j = s12 r j := fun j h => by rw [← e13]; exact up2_j h
  have v13 : s13 r 12 = s12 r1 12 := by rw [← e13]; exact up2_e _ _ _ _
  have q13 : ∀ k, (k < r ∨ r + 9 < k) → s13 k = σ k := fun k h => (n13 k (by omega)).trans (q12 k h)
  clear e13
  rw [pb_e]
  generalize e14 : up2 s13 r 13 (s13 r1 13) = s14
  have n14 : ∀ k, k ≠ r → s14 k = s13 k := fun k h => by rw [← e14]; exact up2_n h
  have j14 : ∀ j, j ≠ 13 → s14 r j = s13 r j := fun j h => by rw [← e14]; exact up2_j h
  have v14 : s14 r 13 = s13 r1 13 := by rw [← e14]; exact up2_e _ _ _ _
  have q14 : ∀ k, (k < r ∨ r + 9 < k) → s14 k = σ k := fun k h => (n14 k (by omega)).trans (q13 k h)
  clear e14
  rw [pb_e]
  generalize e15 : up2 s14 r 14 (s14 r1 14) = s15
  have n15 : ∀ k, k ≠ r → s15 k = s14 k := fun k h => by rw [← e15]; exact up2_n h
  have j15 : ∀ j, j ≠ 14 → s15 r j = s14 r j := fun j h => by rw [← e15]; exact up2_j h
  have v15 : s15 r 14 = s14 r1 14 := by rw [← e15]; exact up2_e _ _ _ _
  have q15 : ∀ k, (k < r ∨ r + 9 < k) → s15 k = σ k := fun k h => (n15 k (by omega)).trans (q14 k h)
  clear e15
  rw [pb_e]
  generalize e16 : upR s15 (r + 9) (va_cpy (s15 (r1 + 9)) (s15 (r + 9)) 0 0 10) = s16
  have n16 : ∀ k, k ≠ r + 9 → s16 k = s15 k := fun k h => by rw [← e16]; exact upR_n h
  have v16 : ∀ p, p < 10 → s16 (r + 9) p = s15 (r1 + 9) p := fun p h => by rw [← e16, upR_s, pk_cpy_in (by omega) (by omega)]; exact congrArg (s15 (r1 + 9)) (by omega)
  have q16 : ∀ k, (k < r ∨ r + 9 < k) → s16 k = σ k := fun k h => (n16 k (by omega)).trans (q15 k h)
  clear e16
  refine ⟨s16, rfl, q16, ⟨by rw [n16 _ (by omega), j15 _ (by decide), j14 _ (by decide), j13 _ (by decide), j12 _ (by decide), j11 _ (by decide), n10 _ (by omega), n9 _ (by omega), j8 _ (by decide), n7 _ (by omega), n6 _ (by omega), n5 _ (by omega), n4 _ (by omega), n3 _ (by omega), n2 _ (by omega), v1, q0 _ (by omega)], by rw [n16 _ (by omega), j15 _ (by decide), j14 _ (by decide), j13 _ (by decide), j12 _ (by decide), j11 _ (by decide), n10 _ (by omega), n9 _ (by omega), v8, q7 _ (by omega)], by rw [n16 _ (by omega), j15 _ (by decide), j14 _ (by decide), j13 _ (by decide), j12 _ (by decide), v11, q10 _ (by omega)], by rw [n16 _ (by omega), j15 _ (by decide), j14 _ (by decide), j13 _ (by decide), v12, q11 _ (by omega)], by rw [n16 _ (by omega), j15 _ (by decide), j14 _ (by decide), v13, q12 _ (by omega)], by rw [n16 _ (by omega), j15 _ (by decide), v14, q13 _ (by omega)], by rw [n16 _ (by omega), v15, q14 _ (by omega)]⟩, fun p hp => ⟨by rw [n16 _ (by omega), n15 _ (by omega), n14 _ (by omega), n13 _ (by omega), n12 _ (by omega), n11 _ (by omega), n10 _ (by omega), n9 _ (by omega), n8 _ (by omega), n7 _ (by omega), n6 _ (by omega), n5 _ (by omega), n4 _ (by omega), n3 _ (by omega), v2 _ hp, q1 _ (by omega)], by rw [n16 _ (by omega), n15 _ (by omega), n14 _ (by omega), n13 _ (by omega), n12 _ (by omega), n11 _ (by omega), n10 _ (by omega), n9 _ (by omega), n8 _ (by omega), n7 _ (by omega), n6 _ (by omega), n5 _ (by omega), n4 _ (by omega), v3 _ hp, q2 _ (by omega)], by rw [n16 _ (by omega), n15 _ (by omega), n14 _ (by omega), n13 _ (by omega), n12 _ (by omega), n11 _ (by omega), n10 _ (by omega), n9 _ (by omega), n8 _ (by omega), n7 _ (by omega), n6 _ (by omega), n5 _ (by omega), v4 _ hp, q3 _ (by omega)], by rw [n16 _ (by omega), n15 _ (by omega), n14 _ (by omega), n13 _ (by omega), n12 _ (by omega), n11 _ (by omega), n10 _ (by omega), n9 _ (by omega), n8 _ (by omega), n7 _ (by omega), n6 _ (by omega), v5 _ hp, q4 _ (by omega)], by rw [n16 _ (by omega), n15 _ (by omega), n14 _ (by omega), n13 _ (by omega), n12 _ (by omega), n11 _ (by omega), n10 _ (by omega), n9 _ (by omega), n8 _ (by omega), n7 _ (by omega), v6 _ hp, q5 _ (by omega)], by rw [n16 _ (by omega), n15 _ (by omega), n14 _ (by omega), n13 _ (by omega), n12 _ (by omega), n11 _ (by omega), n10 _ (by omega), n9 _ (by omega), n8 _ (by omega), v7 _ hp, q6 _ (by omega)], by rw [n16 _ (by omega), n15 _ (by omega), n14 _ (by omega), n13 _ (by omega), n12 _ (by omega), n11 _ (by omega), n10 _ (by omega), v9 _ hp, q8 _ (by omega)], by rw [n16 _ (by omega), n15 _ (by omega), n14 _ (by omega), n13 _ (by omega), n12 _ (by omega), n11 _ (by omega), v10 _ hp, q9 _ (by omega)]⟩, fun p hp => by rw [v16 _ hp, q15 _ (by omega)]⟩
theorem takeOver_R {σ : Mem} {r r1 : Nat} {a : Vec} (hd : r + 9 < r1 ∨ r1 + 9 < r) (h : RmR σ r1 a) (hw : WFv a) : ∃ τ, fX1_takeOver r r1 σ = some τ ∧ RmR τ r a ∧ τ r 13 = σ r1 13 ∧ ∀ k, (k < r ∨ r + 9 < k) → τ k = σ k := by
  obtain ⟨τ, e, h1, ⟨f0, f7, f10, f11, f12, f13, f14⟩, hp, hk⟩ := takeOver_s (σ := σ) hd
  obtain ⟨⟨g10, g11, g12, g14, g0, g7⟩, hJ, hP, hK, hN⟩ := h
  have h8 := hw.p.2
  refine ⟨τ, e, ⟨⟨f10.trans g10, f11.trans g11, f12.trans g12, f14.trans g14, f0.trans g0, f7.trans g7⟩, fun j hj => ?_, fun p hp' => ?_, fun k hk' => (hk k hk').trans (hK k hk'), fun p hp' => ((hp p (by omega)).2.2.2.2.2.1).trans (hN p hp')⟩, f13, h1⟩
  · obtain ⟨-, -, -, -, -, -, a7, a8⟩ := hp j hj
    exact ⟨a7.trans (hJ j hj).1, a8.trans (hJ j hj).2⟩
  · obtain ⟨a1, a2, a3, a4, a5, -⟩ := hp p hp'
    obtain ⟨b1, b2, b3, b4, b5⟩ := hP p hp'
    exact ⟨a1.trans b1, a2.trans b2, a3.trans b3, a4.trans b4, a5.trans b5⟩
/-! the reference's copy -/
def cpR (σ : Mem) (k0 k1 i : Nat) : Mem := upR σ k1 (fun j => if j < i then σ k0 j else σ k1 j)
theorem cpR_step {σ : Mem} {k0 k1 i : Nat} (h : k0 ≠ k1) : up2 (cpR σ k0 k1 i) k1 i (cpR σ k0 k1 i k0 i) = cpR σ k0 k1 (i + 1) := by
  funext q j
  rw [up2_a]
  by_cases e : q = k1
  · subst e
    unfold cpR
    rw [upR_s, upR_s, upR_n h]
    by_cases e2 : j = i
    · rw [if_pos ⟨rfl, e2⟩, if_pos (by omega), e2]
    · rw [if_neg (fun z => e2 z.2)]
      exact ite_iff (by omega) _ _
  · rw [if_neg (fun z => e z.1)]
    unfold cpR
    rw [upR_n e, upR_n e]
theorem become_l {σ : Mem} {k0 k1 : Nat} (h : k0 ≠ k1) : ∀ n i, i ≤ 73 → 73 - i < n → lw2 (fX6_become_2 k0 k1) n (nI i) (cpR σ k0 k1 i) = some (cpR σ k0 k1 73) := by
  intro n
  induction n with
  | zero => intro i _ h2; omega
  | succ n ih =>
    intro i h1 h2
    rw [lw2_s, fX6_become_2]
    by_cases e : i = 73
    · subst e
      rw [if_pos (show (73 : Int32) ≤ nI 73 by decide)]
    · rw [if_neg (show ¬ (73 : Int32) ≤ nI i from nle_n (b := 73) (by omega) (by decide)), gd_t (inB_n (by omega) (by decide)), gd_t (inB_n (by omega) (by decide)), pb_e, nI_clamp (by omega), cpR_step h, nI_1]
      exact ih (i + 1) (by omega) (by omega)
theorem r_become {σ : Mem} {k0 k1 : Nat} (h : k0 ≠ k1) : fX6_become k0 k1 σ = some (cpR σ k0 k1 73) := by
  have z : cpR σ k0 k1 0 = σ := by
    funext q
    unfold cpR
    by_cases e : q = k1
    · rw [e, upR_s]; funext j; rw [if_neg (by omega)]
    · rw [upR_n e]
  have := become_l (σ := σ) h FU 0 (by omega) (Nat.lt_trans (show 73 - 0 < 10100 by omega) FU_gt)
  rw [z] at this
  rw [fX6_become]
  exact this
theorem it_v {a b : Vec} (e : ∀ j, j < 73 → b j = a j) {p w : Nat} (hp : p < 8) (hw : w < 5) : it b p w = it a p w := e _ (by omega)
theorem RmR.vec {σ : Mem} {r : Nat} {a b : Vec} (h : RmR σ r a) (hw : WFv a) (e : ∀ j, j < 73 → b j = a j) : RmR σ r b := by
  have hn : nP b = nP a := by unfold nP; rw [e 5 (by decide)]
  obtain ⟨hS, hJ, hP, hK, hN⟩ := h
  refine ⟨?_, fun j hj => ?_, fun p hp => ?_, fun k hk => ?_, fun p hp => ?_⟩
  · unfold RmS at *
    rw [e 0 (by decide), e 1 (by decide), e 2 (by decide), e 4 (by decide), e 5 (by decide), e 6 (by decide)]
    exact hS
  · rw [e _ (by omega), e _ (by omega)]; exact hJ j hj
  · rw [it_v e hp (by decide), it_v e hp (by decide), it_v e hp (by decide), it_v e hp (by decide), it_v e hp (by decide)]; exact hP p hp
  · rw [e _ (by omega)]; exact hK k hk
  · rw [hn] at hp
    have h8 := hw.p.2
    rw [nearS_cong h8 (e 5 (by decide)) (e 1 (by decide)) (fun q hq => it_v e hq (by decide)) (by omega)]
    exact hN p hp
theorem WFv.vec {a b : Vec} (h : WFv a) (e : ∀ j, j < 73 → b j = a j) : WFv b := by
  have hn : nP b = nP a := by unfold nP; rw [e 5 (by decide)]
  obtain ⟨w5, w6, wp, wj, w0, w1, w2, wk⟩ := h
  refine ⟨?_, ?_, fun p hp => ?_, fun j hj => ?_, ?_, ?_, ?_, fun k hk => ?_⟩
  · rw [e 5 (by decide)]; exact w5
  · rw [e 6 (by decide)]; exact w6
  · unfold WFp
    rw [it_v e hp (by decide), it_v e hp (by decide), it_v e hp (by decide), it_v e hp (by decide), it_v e hp (by decide)]; exact wp p hp
  · unfold WFj
    rw [e _ (by omega), e _ (by omega)]; exact wj j hj
  · rw [e 0 (by decide)]; exact w0
  · rw [e 1 (by decide)]; exact w1
  · rw [e 2 (by decide)]; exact w2
  · rw [e _ (by omega), hn]; exact wk k hk
theorem cpR_v (σ : Mem) (k0 k1 : Nat) : ∀ j, j < 73 → cpR σ k0 k1 73 k1 j = σ k0 j := fun j hj => by unfold cpR; rw [upR_s, if_pos hj]
theorem cpR_n (σ : Mem) (k0 : Nat) {k1 k : Nat} (h : k ≠ k1) : cpR σ k0 k1 73 k = σ k := upR_n h
/-! image, undo -/
theorem st_image : StI Inv fX5_image fX6_image := by
  intro σc σr hI
  obtain ⟨⟨hR, hW, hT, hTr⟩, hK, hTp, hS, hF⟩ := hI
  obtain ⟨τ, e1, e2, e3, e4⟩ := takeOver_R (r := 21) (Or.inr (by decide)) hR hW
  have v := cpR_v σr 1 2
  rw [fX5_image, fX6_image, e1, r_become (by decide), Option.bind_some, Option.bind_some, pb_e, pb_e]
  refine ⟨_, _, _, rfl, rfl, ?_, ?_, ?_, ?_, ?_⟩
  · refine InvL.cong (σc := σc) (σr := σr) ⟨hR, hW, hT, hTr⟩ (fun k _ _ => ?_) ?_
    · rw [up2_n (by omega), e4 k (by omega)]
    · rw [up2_n (by omega), cpR_n _ _ (by omega)]
  · unfold InvK
    rw [up2_e, up2_e, up2_n (by omega), up2_n (by omega)]
    refine ⟨rfl, Or.inr rfl, fun _ => ⟨(e2.cong (fun k _ _ => up2_n (by omega))).vec hW v, hW.vec v, ?_, ?_⟩⟩
    · rw [e3, hT, v 3 (by decide)]
    · rw [v 3 (by decide)]; exact hTr
  · refine hTp.cong ?_ ?_ ?_ ?_
    · rw [up2_n (by omega), e4 _ (by omega)]
    · rw [up2_n (by omega), e4 _ (by omega)]
    · rw [up2_n (by omega), cpR_n _ _ (by omega)]
    · rw [up2_j (by omega), cpR_n _ _ (by omega)]
  · refine hS.cong (fun k _ _ => ?_) ?_ ?_ ?_
    · rw [up2_n (by omega), e4 _ (by omega)]
    · rw [up2_n (by omega), cpR_n _ _ (by omega)]
    · rw [up2_n (by omega), cpR_n _ _ (by omega)]
    · rw [up2_n (by omega), cpR_n _ _ (by omega)]
  · refine hF.cong ?_ ?_
    · rw [up2_n (by omega), e4 _ (by omega)]
    · rw [up2_n (by omega), cpR_n _ _ (by omega)]
theorem st_undo : StI Inv fX5_undo fX6_undo := by
  intro σc σr hI
  have hI0 := hI
  obtain ⟨hL, hK, hTp, hS, hF⟩ := hI
  rw [fX5_undo, fX6_undo, hK.1]
  simp only [b2id]
  by_cases h0 : σr 0 3 = 0
  · rw [if_pos h0, if_pos h0]; exact st_find hI0 (by decide) (found_3 σc) (finds_3 σr)
  rw [if_neg h0, if_neg h0]
  obtain ⟨hR, hW, hT, hTr⟩ := hK.2.2 (hK.2.1.resolve_left h0)
  obtain ⟨τ, e1, e2, e3, e4⟩ := takeOver_R (r := 1) (Or.inl (by decide)) hR hW
  have v := cpR_v σr 2 1
  rw [e1, r_become (by decide), Option.bind_some, Option.bind_some, e3, v 3 (by decide), hT]
  refine ⟨_, _, _, rfl, rfl, ?_, ?_, ?_, ?_, ?_⟩
  · unfold InvL
    refine ⟨e2.vec hW v, hW.vec v, ?_, ?_⟩
    · rw [e3, hT, v 3 (by decide)]
    · rw [v 3 (by decide)]; exact hTr
  · exact hK.cong (fun k _ _ => e4 k (by omega)) (by rw [e4 _ (by omega)]) (cpR_n _ _ (by omega)) (by rw [cpR_n _ _ (by omega)])
  · exact hTp.cong (by rw [e4 _ (by omega)]) (e4 _ (by omega)) (cpR_n _ _ (by omega)) (by rw [cpR_n _ _ (by omega)])
  · exact hS.cong (fun k _ _ => e4 k (by omega)) (cpR_n _ _ (by omega)) (cpR_n _ _ (by omega)) (cpR_n _ _ (by omega))
  · exact hF.cong (e4 _ (by omega)) (cpR_n _ _ (by omega))
