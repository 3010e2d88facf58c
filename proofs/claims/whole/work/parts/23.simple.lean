theorem b2id (f : Option (Int32 × Mem)) : bnd2 f (fun v s => some (v, s)) = f := by cases f <;> rfl
theorem bid {α : Type} (f : Option α) : (f.bind fun s => some s) = f := by cases f <;> rfl
/-! vectors -/
theorem it_u {a : Vec} {n w p w' : Nat} {v : Int32} (hw : w < 5) (hw' : w' < 5) : it (upd a (23 + 5 * n + w) v) p w' = if p = n ∧ w' = w then v else it a p w' := by
  unfold it
  by_cases h : p = n ∧ w' = w
  · rw [if_pos h, h.1, h.2, pk_us]
  · rw [if_neg h, pk_un (by omega)]
theorem it_lo {a : Vec} {i p w : Nat} {v : Int32} (h : i < 23) : it (upd a i v) p w = it a p w := by
  unfold it
  rw [pk_un (by omega)]
theorem it_hi {a : Vec} {i p w : Nat} {v : Int32} (h : 63 ≤ i) (hp : p < 8) (hw : w < 5) : it (upd a i v) p w = it a p w := by
  unfold it
  rw [pk_un (by omega)]
theorem u_lo {a : Vec} {n w i : Nat} {v : Int32} (h : i < 23) : upd a (23 + 5 * n + w) v i = a i := pk_un (by omega)
theorem u_hi {a : Vec} {n w i : Nat} {v : Int32} (hn : n < 8) (hw : w < 5) (h : 63 ≤ i) : upd a (23 + 5 * n + w) v i = a i := pk_un (by omega)
/-! all but near; renewing it -/
def RmX (σ : Mem) (r : Nat) (a : Vec) : Prop := RmS σ r a ∧ RmJ σ r a ∧ RmP σ r a ∧ RmK σ r a
theorem RmR.x {σ : Mem} {r : Nat} {a : Vec} (h : RmR σ r a) : RmX σ r a := ⟨h.1, h.2.1, h.2.2.1, h.2.2.2.1⟩
theorem RmX.cong {σ τ : Mem} {r : Nat} {a : Vec} (h : RmX σ r a) (e : ∀ k, r ≤ k → k ≤ r + 9 → k ≠ r + 6 → τ k = σ k) : RmX τ r a := by
  have e0 := e r (by omega) (by omega) (by omega)
  have e1 := e (r + 1) (by omega) (by omega) (by omega)
  have e2 := e (r + 2) (by omega) (by omega) (by omega)
  have e3 := e (r + 3) (by omega) (by omega) (by omega)
  have e4 := e (r + 4) (by omega) (by omega) (by omega)
  have e5 := e (r + 5) (by omega) (by omega) (by omega)
  have e7 := e (r + 7) (by omega) (by omega) (by omega)
  have e8 := e (r + 8) (by omega) (by omega) (by omega)
  have e9 := e (r + 9) (by omega) (by omega) (by omega)
  unfold RmX RmS RmJ RmP RmK at *
  rw [e0, e1, e2, e3, e4, e5, e7, e8, e9]
  exact h
theorem renew {σ : Mem} {r : Nat} {a : Vec} (hw : WFv a) (h : RmX σ r a) : ∃ τ, fX1_renewNear r σ = some τ ∧ RmR τ r a ∧ ∀ k, k ≠ r + 6 → τ k = σ k := by
  refine ⟨_, c_renew hw h.1.2.2.2.2.1 h.1.2.1 (fun q hq => (h.2.2.1 q hq).2.1), ?_, fun k hk => nearRow_n _ hk⟩
  have hx : RmX (nearRow σ r a (nP a)) r a := h.cong (fun k _ _ h6 => nearRow_n _ h6)
  exact ⟨hx.1, hx.2.1, hx.2.2.1, hx.2.2.2, fun p hp => nearRow_s _ hp⟩
/-! the invariant, when only rooms have changed -/
def SameC (σ τ : Mem) : Prop := ∀ k, (k = 0 ∨ (21 ≤ k ∧ k ≤ 30) ∨ 34 ≤ k) → τ k = σ k
def SameR (σ τ : Mem) : Prop := (∀ k, (k = 2 ∨ k = 4 ∨ (7 ≤ k ∧ k ≤ 10)) → τ k = σ k) ∧ τ 0 3 = σ 0 3 ∧ τ 0 10 = σ 0 10
theorem SameC.rf (σ : Mem) : SameC σ σ := fun _ _ => rfl
theorem SameR.rf (σ : Mem) : SameR σ σ := ⟨fun _ _ => rfl, rfl, rfl⟩
theorem SameC.tr {σ τ υ : Mem} (h : SameC σ τ) (h2 : SameC τ υ) : SameC σ υ := fun k hk => (h2 k hk).trans (h k hk)
theorem SameR.tr {σ τ υ : Mem} (h : SameR σ τ) (h2 : SameR τ υ) : SameR σ υ := ⟨fun k hk => (h2.1 k hk).trans (h.1 k hk), h2.2.1.trans h.2.1, h2.2.2.trans h.2.2⟩
theorem Inv.live {σc σr τc τr : Mem} (h : Inv σc σr) (ec : SameC σc τc) (er : SameR σr τr) (hL : InvL τc τr) : Inv τc τr := by
  obtain ⟨-, hK, hT, hS, hF⟩ := h
  obtain ⟨er, er3, er10⟩ := er
  refine ⟨hL, ?_, ?_, ?_, ?_⟩
  · unfold InvK at *
    rw [er3, er 2 (by omega), ec 0 (by omega), ec 21 (by omega)]
    exact ⟨hK.1, hK.2.1, fun h => ⟨(hK.2.2 h).1.cong (fun q h1 h2 => ec q (by omega)), (hK.2.2 h).2⟩⟩
  · unfold InvT at *
    rw [er10, er 7 (by omega), ec 34 (by omega), ec 35 (by omega)]
    exact hT
  · unfold InvS at *
    intro s hs
    rw [er 8 (by omega), er 9 (by omega), er 10 (by omega), ec (37 + 2 * s) (by omega), ec (38 + 2 * s) (by omega)]
    exact hS s hs
  · unfold InvF at *
    rw [er 4 (by omega), ec 45 (by omega)]
    exact hF
theorem bnI {x : Int32} {a b : Nat} {A B : Int32} (hA : A = nI a) (hB : B = nI b) (ha : a < 2 ^ 31) (hb : b < 2 ^ 31) (h : fX5_within x A B = true) : ∃ j, a ≤ j ∧ j ≤ b ∧ x = nI j := by
  rw [hA, hB] at h
  exact (wi_n ha hb).mp h
theorem rng_of {x : Int32} {b : Nat} {B : Int32} (hB : B = nI b) (hb : b < 2 ^ 31) (h : fX5_within x 0 B = true) : rng x b := by
  obtain ⟨j, _, h2, e⟩ := bnI (a := 0) rfl hB (by decide) hb h
  exact ⟨j, h2, e⟩
/-! one write in both rooms -/
theorem ite_iff {α : Type} {c d : Prop} [Decidable c] [Decidable d] (h : c ↔ d) (x y : α) : (if c then x else y) = if d then x else y := by
  by_cases hc : c
  · rw [if_pos hc, if_pos (h.mp hc)]
  · rw [if_neg hc, if_neg (fun z => hc (h.mpr z))]
theorem nearF_cong {a b : Vec} (h1 : b 1 = a 1) (hs : ∀ q, q < 8 → it b q 1 = it a q 1) {p : Nat} (hp : p < 8) : ∀ o, o ≤ 8 → nearF b p o = nearF a p o := by
  intro o
  induction o with
  | zero => intro _; rfl
  | succ o ih =>
    intro ho
    rw [nearF, nearF, ih (by omega), h1, hs p hp, hs o (by omega)]
theorem nearS_cong {a b : Vec} (hw : nP a ≤ 8) (h5 : b 5 = a 5) (h1 : b 1 = a 1) (hs : ∀ q, q < 8 → it b q 1 = it a q 1) {p : Nat} (hp : p < 8) : nearS b p = nearS a p := by
  have : nP b = nP a := by unfold nP; rw [h5]
  unfold nearS
  rw [this, nearF_cong h1 hs hp _ hw]
theorem RmX.p {σ : Mem} {r : Nat} {a : Vec} (h : RmX σ r a) {p w : Nat} (hp : p < 8) (hw : w < 5) (v : Int32) : RmX (up2 σ (r + 1 + w) p v) r (upd a (23 + 5 * p + w) v) := by
  obtain ⟨hS, hJ, hP, hK⟩ := h
  refine ⟨?_, ?_, ?_, ?_⟩
  · unfold RmS at *
    rw [up2_n (by omega), u_lo (by decide), u_lo (by decide), u_lo (by decide), u_lo (by decide), u_lo (by decide), u_lo (by decide)]
    exact hS
  · intro j hj
    rw [up2_n (by omega), up2_n (by omega), u_lo (by omega), u_lo (by omega)]
    exact hJ j hj
  · intro q hq
    obtain ⟨h0, h1, h2, h3, h4⟩ := hP q hq
    rw [it_u hw (by decide), it_u hw (by decide), it_u hw (by decide), it_u hw (by decide), it_u hw (by decide)]
    simp only [up2_a]
    rw [h0, h1, h2, h3, h4]
    refine ⟨?_, ?_, ?_, ?_, ?_⟩
    all_goals
      exact ite_iff (Iff.intro (fun z => ⟨z.2, by omega⟩) (fun z => ⟨by omega, z.1⟩)) _ _
  · intro k hk
    rw [up2_n (by omega), u_hi hp hw (by omega)]
    exact hK k hk
theorem RmX.j0 {σ : Mem} {r : Nat} {a : Vec} (h : RmX σ r a) {j : Nat} (hj : j < 8) (v : Int32) : RmX (up2 σ (r + 7) j v) r (upd a (7 + 2 * j) v) := by
  obtain ⟨hS, hJ, hP, hK⟩ := h
  refine ⟨?_, ?_, ?_, ?_⟩
  · unfold RmS at *
    rw [up2_n (by omega), pk_un (by omega), pk_un (by omega), pk_un (by omega), pk_un (by omega), pk_un (by omega), pk_un (by omega)]
    exact hS
  · intro q hq
    obtain ⟨h0, h1⟩ := hJ q hq
    refine ⟨?_, by rw [up2_n (by omega), pk_un (by omega)]; exact h1⟩
    rw [up2_a, h0]
    by_cases e : q = j
    · subst e; rw [if_pos ⟨rfl, rfl⟩, pk_us]
    · rw [if_neg (fun z => e z.2), pk_un (by omega)]
  · intro q hq
    rw [up2_n (by omega), up2_n (by omega), up2_n (by omega), up2_n (by omega), up2_n (by omega), it_lo (by omega), it_lo (by omega), it_lo (by omega), it_lo (by omega), it_lo (by omega)]
    exact hP q hq
  · intro k hk
    rw [up2_n (by omega), pk_un (by omega)]
    exact hK k hk
theorem RmX.j1 {σ : Mem} {r : Nat} {a : Vec} (h : RmX σ r a) {j : Nat} (hj : j < 8) (v : Int32) : RmX (up2 σ (r + 8) j v) r (upd a (7 + 2 * j + 1) v) := by
  obtain ⟨hS, hJ, hP, hK⟩ := h
  refine ⟨?_, ?_, ?_, ?_⟩
  · unfold RmS at *
    rw [up2_n (by omega), pk_un (by omega), pk_un (by omega), pk_un (by omega), pk_un (by omega), pk_un (by omega), pk_un (by omega)]
    exact hS
  · intro q hq
    obtain ⟨h0, h1⟩ := hJ q hq
    refine ⟨by rw [up2_n (by omega), pk_un (by omega)]; exact h0, ?_⟩
    rw [up2_a, h1]
    by_cases e : q = j
    · subst e; rw [if_pos ⟨rfl, rfl⟩, pk_us]
    · rw [if_neg (fun z => e z.2), pk_un (by omega)]
  · intro q hq
    rw [up2_n (by omega), up2_n (by omega), up2_n (by omega), up2_n (by omega), up2_n (by omega), it_lo (by omega), it_lo (by omega), it_lo (by omega), it_lo (by omega), it_lo (by omega)]
    exact hP q hq
  · intro k hk
    rw [up2_n (by omega), pk_un (by omega)]
    exact hK k hk
theorem RmX.k {σ : Mem} {r : Nat} {a : Vec} (h : RmX σ r a) {k : Nat} (hk : k < 10) (v : Int32) : RmX (up2 σ (r + 9) k v) r (upd a (63 + k) v) := by
  obtain ⟨hS, hJ, hP, hK⟩ := h
  refine ⟨?_, ?_, ?_, ?_⟩
  · unfold RmS at *
    rw [up2_n (by omega), pk_un (by omega), pk_un (by omega), pk_un (by omega), pk_un (by omega), pk_un (by omega), pk_un (by omega)]
    exact hS
  · intro q hq
    rw [up2_n (by omega), up2_n (by omega), pk_un (by omega), pk_un (by omega)]
    exact hJ q hq
  · intro q hq
    rw [up2_n (by omega), up2_n (by omega), up2_n (by omega), up2_n (by omega), up2_n (by omega), it_hi (by omega) hq (by decide), it_hi (by omega) hq (by decide), it_hi (by omega) hq (by decide), it_hi (by omega) hq (by decide), it_hi (by omega) hq (by decide)]
    exact hP q hq
  · intro q hq
    rw [up2_a, hK q hq]
    by_cases e : q = k
    · subst e; rw [if_pos ⟨rfl, rfl⟩, pk_us]
    · rw [if_neg (fun z => e z.2), pk_un (by omega)]
/-- which place of the vector a field of the room is -/
def plc : Nat → Nat
  | 10 => 0
  | 11 => 1
  | 12 => 2
  | 14 => 4
  | 0 => 5
  | 7 => 6
  | _ => 3
theorem RmX.s {σ : Mem} {r : Nat} {a : Vec} (h : RmX σ r a) (f : Nat) (hf : f = 10 ∨ f = 11 ∨ f = 12 ∨ f = 13 ∨ f = 14 ∨ f = 0 ∨ f = 7) (v : Int32) : RmX (up2 σ r f v) r (upd a (plc f) v) := by
  obtain ⟨hS, hJ, hP, hK⟩ := h
  have hl : plc f < 7 := by rcases hf with rfl | rfl | rfl | rfl | rfl | rfl | rfl <;> decide
  refine ⟨?_, ?_, ?_, ?_⟩
  · unfold RmS at *
    rw [up2_s]
    obtain ⟨h1, h2, h3, h4, h5, h6⟩ := hS
    rcases hf with rfl | rfl | rfl | rfl | rfl | rfl | rfl <;> simp [upd, plc, h1, h2, h3, h4, h5, h6]
  · intro q hq
    rw [up2_n (by omega), up2_n (by omega), pk_un (by omega), pk_un (by omega)]
    exact hJ q hq
  · intro q hq
    rw [up2_n (by omega), up2_n (by omega), up2_n (by omega), up2_n (by omega), up2_n (by omega), it_lo (by omega), it_lo (by omega), it_lo (by omega), it_lo (by omega), it_lo (by omega)]
    exact hP q hq
  · intro q hq
    rw [up2_n (by omega), pk_un (by omega)]
    exact hK q hq
/-! bounds, after one write -/
theorem rngu {a : Vec} {i k n : Nat} {v : Int32} (h : rng (a k) n) (hv : k = i → rng v n) : rng (upd a i v k) n := by
  by_cases e : k = i
  · rw [e, pk_us]; exact hv e
  · rw [pk_un e]; exact h
theorem WFv.set {a : Vec} (h : WFv a) (i : Nat) (v : Int32) (h5 : i = 5 → rng v 8 ∧ nP a ≤ v.toNatClampNeg) (h6 : i = 6 → rng v 8)
    (hp : ∀ p, p < 8 → (i = 23 + 5 * p + 0 → rng v 6) ∧ (i = 23 + 5 * p + 1 → rng v 15) ∧ (i = 23 + 5 * p + 2 → rng v 63) ∧ (i = 23 + 5 * p + 3 → rng v 9) ∧ (i = 23 + 5 * p + 4 → rng v 9999))
    (hj : ∀ j, j < 8 → (i = 7 + 2 * j → rng v 63) ∧ (i = 7 + 2 * j + 1 → rng v 9))
    (h0 : i = 0 → rng v 20) (h1 : i = 1 → rng v 15) (h2 : i = 2 → rng v 999999)
    (hk : ∀ k, k < 10 → i = 63 + k → v = -1 ∨ ∃ q, q < nP a ∧ v = nI q) : WFv (upd a i v) := by
  obtain ⟨w5, w6, wp, wj, w0, w1, w2, wk⟩ := h
  have hn : nP a ≤ nP (upd a i v) := by
    unfold nP
    by_cases e : 5 = i
    · rw [e, pk_us]; rw [← e]; exact (h5 e.symm).2
    · rw [pk_un e]; exact Nat.le_refl _
  refine ⟨rngu w5 (fun e => (h5 e.symm).1), rngu w6 (fun e => h6 e.symm), fun p hp' => ?_, fun j hj' => ?_, rngu w0 (fun e => h0 e.symm), rngu w1 (fun e => h1 e.symm), rngu w2 (fun e => h2 e.symm), fun k hk' => ?_⟩
  · obtain ⟨q0, q1, q2, q3, q4⟩ := hp p hp'
    obtain ⟨r0, r1, r2, r3, r4⟩ := wp p hp'
    exact ⟨rngu r0 (fun e => q0 e.symm), rngu r1 (fun e => q1 e.symm), rngu r2 (fun e => q2 e.symm), rngu r3 (fun e => q3 e.symm), rngu r4 (fun e => q4 e.symm)⟩
  · exact ⟨rngu (wj j hj').1 (fun e => (hj j hj').1 e.symm), rngu (wj j hj').2 (fun e => (hj j hj').2 e.symm)⟩
  · by_cases e : 63 + k = i
    · rw [e, pk_us]
      rcases hk k hk' e.symm with z | ⟨q, hq, z⟩
      · exact Or.inl z
      · exact Or.inr ⟨q, by omega, z⟩
    · rw [pk_un e]
      rcases wk k hk' with z | ⟨q, hq, z⟩
      · exact Or.inl z
      · exact Or.inr ⟨q, by omega, z⟩
theorem WFv.j0 {a : Vec} (h : WFv a) {j : Nat} (hj : j < 8) {v : Int32} (hv : rng v 63) : WFv (upd a (7 + 2 * j) v) := h.set _ v (fun e => by omega) (fun e => by omega) (fun p _ => ⟨fun e => by omega, fun e => by omega, fun e => by omega, fun e => by omega, fun e => by omega⟩) (fun q _ => ⟨fun _ => hv, fun e => by omega⟩) (fun e => by omega) (fun e => by omega) (fun e => by omega) (fun k _ e => by omega)
theorem WFv.j1 {a : Vec} (h : WFv a) {j : Nat} (hj : j < 8) {v : Int32} (hv : rng v 9) : WFv (upd a (7 + 2 * j + 1) v) := h.set _ v (fun e => by omega) (fun e => by omega) (fun p _ => ⟨fun e => by omega, fun e => by omega, fun e => by omega, fun e => by omega, fun e => by omega⟩) (fun q _ => ⟨fun e => by omega, fun _ => hv⟩) (fun e => by omega) (fun e => by omega) (fun e => by omega) (fun k _ e => by omega)
theorem WFv.n6 {a : Vec} (h : WFv a) {v : Int32} (hv : rng v 8) : WFv (upd a 6 v) := h.set _ v (fun e => by omega) (fun _ => hv) (fun p _ => ⟨fun e => by omega, fun e => by omega, fun e => by omega, fun e => by omega, fun e => by omega⟩) (fun q _ => ⟨fun e => by omega, fun e => by omega⟩) (fun e => by omega) (fun e => by omega) (fun e => by omega) (fun k _ e => by omega)
def bdW : Nat → Nat
  | 0 => 6
  | 1 => 15
  | 2 => 63
  | 3 => 9
  | _ => 9999
theorem WFv.pw {a : Vec} (h : WFv a) {p w : Nat} (hp : p < 8) (hw : w < 5) {v : Int32} (hv : rng v (bdW w)) : WFv (upd a (23 + 5 * p + w) v) := by
  refine h.set _ v (fun e => by omega) (fun e => by omega) (fun q _ => ⟨fun e => ?_, fun e => ?_, fun e => ?_, fun e => ?_, fun e => ?_⟩) (fun q _ => ⟨fun e => by omega, fun e => by omega⟩) (fun e => by omega) (fun e => by omega) (fun e => by omega) (fun k _ e => by omega)
  · rw [show w = 0 by omega] at hv; exact hv
  · rw [show w = 1 by omega] at hv; exact hv
  · rw [show w = 2 by omega] at hv; exact hv
  · rw [show w = 3 by omega] at hv; exact hv
  · rw [show w = 4 by omega] at hv; exact hv
/-- the near row stays when neither reach nor number nor seats change -/
theorem RmR.stay {σ τ : Mem} {r : Nat} {a b : Vec} (h : RmR σ r a) (hw : WFv a) (hx : RmX τ r b) (e6 : τ (r + 6) = σ (r + 6)) (h5 : b 5 = a 5) (h1 : b 1 = a 1) (hs : ∀ q, q < 8 → it b q 1 = it a q 1) : RmR τ r b := by
  have hn : nP b = nP a := by unfold nP; rw [h5]
  refine ⟨hx.1, hx.2.1, hx.2.2.1, hx.2.2.2, fun p hp => ?_⟩
  have h8 := hw.p.2
  rw [hn] at hp
  rw [e6, nearS_cong h8 h5 h1 hs (by omega)]
  exact h.2.2.2.2 p hp
/-! joke -/
theorem st_joke (a1 a2 : Int32) : StI Inv (fX5_joke a1 a2) (fX6_joke a1 a2) := by
  intro σc σr hI
  have hI0 := hI
  obtain ⟨⟨hR, hW, hT, hTr⟩, -⟩ := hI
  obtain ⟨hN, h8⟩ := hW.j
  have e7 : σc 1 7 = nI (nJ (σr 1)) := hR.1.2.2.2.2.2.trans hN
  rw [fX5_joke, fX6_joke]
  simp only [b2id, isTopics_e, isFun_e]
  by_cases h1 : fX5_isTopics a1 = true
  case neg => rw [if_neg h1, if_neg h1]; exact st_find hI0 (by decide) (found_0 σc) (finds_0 σr)
  rw [if_pos h1, if_pos h1]
  by_cases h2 : fX5_isFun a2 = true
  case neg => rw [if_neg h2, if_neg h2]; exact st_find hI0 (by decide) (found_0 σc) (finds_0 σr)
  rw [if_pos h2, if_pos h2, e7, hN]
  by_cases h3 : nJ (σr 1) = 8
  · rw [h3, if_neg (by decide), if_pos (show nI 8 = (8 : Int32) from rfl)]; exact st_find hI0 (by decide) (found_1 σc) (finds_1 σr)
  rw [if_pos (show nI (nJ (σr 1)) < 8 from nI_lt (b := 8) (by omega) (by decide)), if_neg (show ¬ nI (nJ (σr 1)) = (8 : Int32) from fun z => h3 ((nI_eq (b := 8) (by omega) (by decide)).mp z))]
  have t1 : ∃ j, 1 ≤ j ∧ j ≤ 63 ∧ a1 = nI j := bnI (a := 1) (b := 63) rfl rfl (by decide) (by decide) h1
  have t1' : rng a1 63 := ⟨t1.choose, t1.choose_spec.2.1, t1.choose_spec.2.2⟩
  have t2 : rng a2 9 := rng_of rfl (by decide) h2
  rw [fX1_addJoke, fX6_addsJoke]
  simp only [pb_e, e7, hN]
  generalize hn : nJ (σr 1) = n at *
  rw [show (7 + 2 * nI n : Int32) = nI (7 + 2 * n) by rw [show (7 : Int32) = nI 7 from rfl, show (2 : Int32) = nI 2 from rfl, pk_mul, nI_add], nI_1, nI_1, nI_clamp (by omega), nI_clamp (by omega), nI_clamp (by omega), gd_t (inB_n (by omega) (by decide)), gd_t (inB_n (by omega) (by decide)), gd_t (inB_n (by omega) (by decide)), gd_t (inB_n (by omega) (by decide))]
  refine ⟨_, _, _, rfl, rfl, hI0.live (fun k hk => ?_) ⟨fun k hk => ?_, ?_, ?_⟩ ?_⟩
  · rw [up2_n (by omega), up2_n (by omega), up2_n (by omega)]
  · rw [up2_n (by omega), up2_n (by omega), up2_n (by omega)]
  · rw [up2_n (by omega), up2_n (by omega), up2_n (by omega)]
  · rw [up2_n (by omega), up2_n (by omega), up2_n (by omega)]
  · have q7 : n < 8 := by omega
    have x1 := ((hR.x.s 7 (by omega) (nI (n + 1))).j0 q7 a1).j1 q7 a2
    rw [show plc 7 = 6 from rfl] at x1
    have w1 := ((hW.n6 ⟨n + 1, by omega, rfl⟩ : WFv (upd (σr 1) 6 (nI (n + 1)))).j0 q7 t1').j1 q7 t2
    unfold InvL
    rw [up2_s, up2_s, up2_s]
    refine ⟨hR.stay hW x1 ?_ ?_ ?_ (fun q hq => ?_), w1, ?_, ?_⟩
    · rw [up2_n (by omega), up2_n (by omega), up2_n (by omega)]
    · rw [pk_un (by omega), pk_un (by omega), pk_un (by omega)]
    · rw [pk_un (by omega), pk_un (by omega), pk_un (by omega)]
    · rw [it_lo (by omega), it_lo (by omega), it_lo (by omega)]
    · rw [up2_n (by omega), up2_n (by omega), up2_j (by omega), pk_un (by omega), pk_un (by omega), pk_un (by omega)]
      exact hT
    · rw [pk_un (by omega), pk_un (by omega), pk_un (by omega)]
      exact hTr
