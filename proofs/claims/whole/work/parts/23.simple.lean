theorem b2id (f : Option (Int32 × Mem)) : bnd2 f (fun v s => some (v, s)) = f := by cases f <;> rfl
theorem bid {α : Type} (f : Option α) : (f.bind fun s => some s) = f := by cases f <;> rfl
/-! vectors -/
theorem it_u {a : Vec} {n w p w' : Nat} {v : Int32} (hw : w < 5) (hw' : w' < 5) : it (upd a (23 + 5 * n + w) v) p w' = if p = n ∧ w' = w then v else it a p w' := by
  unfold it
  by_cases h : p = n ∧ w' = w
  · rw [if_pos h, h.1, h.2, pk_us]
  · rw [if_neg h, pk_un (by omega)]
theorem it_lo {a : Vec} {i p w : Nat} {v : Int32} (h : i < 23) : it (upd a i v) p w = it a p w := by
  unfold it
  rw [pk_un (by omega)]
theorem it_hi {a : Vec} {i p w : Nat} {v : Int32} (h : 63 ≤ i) (hp : p < 8) (hw : w < 5) : it (upd a i v) p w = it a p w := by
  unfold it
  rw [pk_un (by omega)]
theorem u_lo {a : Vec} {n w i : Nat} {v : Int32} (h : i < 23) : upd a (23 + 5 * n + w) v i = a i := pk_un (by omega)
theorem u_hi {a : Vec} {n w i : Nat} {v : Int32} (hn : n < 8) (hw : w < 5) (h : 63 ≤ i) : upd a (23 + 5 * n + w) v i = a i := pk_un (by omega)
/-! all but near; renewing it -/
def RmX (σ : Mem) (r : Nat) (a : Vec) : Prop := RmS σ r a ∧ RmJ σ r a ∧ RmP σ r a ∧ RmK σ r a
theorem RmR.x {σ : Mem} {r : Nat} {a : Vec} (h : RmR σ r a) : RmX σ r a := ⟨h.1, h.2.1, h.2.2.1, h.2.2.2.1⟩
theorem RmX.cong {σ τ : Mem} {r : Nat} {a : Vec} (h : RmX σ r a) (e : ∀ k, r ≤ k → k ≤ r + 9 → k ≠ r + 6 → τ k = σ k) : RmX τ r a := by
  have e0 := e r (by omega) (by omega) (by omega)
  have e1 := e (r + 1) (by omega) (by omega) (by omega)
  have e2 := e (r + 2) (by omega) (by omega) (by omega)
  have e3 := e (r + 3) (by omega) (by omega) (by omega)
  have e4 := e (r + 4) (by omega) (by omega) (by omega)
  have e5 := e (r + 5) (by omega) (by omega) (by omega)
  have e7 := e (r + 7) (by omega) (by omega) (by omega)
  have e8 := e (r + 8) (by omega) (by omega) (by omega)
  have e9 := e (r + 9) (by omega) (by omega) (by omega)
  unfold RmX RmS RmJ RmP RmK at *
  rw [e0, e1, e2, e3, e4, e5, e7, e8, e9]
  exact h
theorem renew {σ : Mem} {r : Nat} {a : Vec} (hw : WFv a) (h : RmX σ r a) : ∃ τ, fX1_renewNear r σ = some τ ∧ RmR τ r a ∧ ∀ k, k ≠ r + 6 → τ k = σ k := by
  refine ⟨_, c_renew hw h.1.2.2.2.2.1 h.1.2.1 (fun q hq => (h.2.2.1 q hq).2.1), ?_, fun k hk => nearRow_n _ hk⟩
  have hx : RmX (nearRow σ r a (nP a)) r a := h.cong (fun k _ _ h6 => nearRow_n _ h6)
  exact ⟨hx.1, hx.2.1, hx.2.2.1, hx.2.2.2, fun p hp => nearRow_s _ hp⟩
/-! the invariant, when only rooms have changed -/
def SameC (σ τ : Mem) : Prop := ∀ k, (k = 0 ∨ (21 ≤ k ∧ k ≤ 30) ∨ 34 ≤ k) → τ k = σ k
def SameR (σ τ : Mem) : Prop := (∀ k, (k = 2 ∨ k = 4 ∨ (7 ≤ k ∧ k ≤ 10)) → τ k = σ k) ∧ τ 0 3 = σ 0 3 ∧ τ 0 10 = σ 0 10
theorem SameC.rf (σ : Mem) : SameC σ σ := fun _ _ => rfl
theorem SameR.rf (σ : Mem) : SameR σ σ := ⟨fun _ _ => rfl, rfl, rfl⟩
theorem SameC.tr {σ τ υ : Mem} (h : SameC σ τ) (h2 : SameC τ υ) : SameC σ υ := fun k hk => (h2 k hk).trans (h k hk)
theorem SameR.tr {σ τ υ : Mem} (h : SameR σ τ) (h2 : SameR τ υ) : SameR σ υ := ⟨fun k hk => (h2.1 k hk).trans (h.1 k hk), h2.2.1.trans h.2.1, h2.2.2.trans h.2.2⟩
theorem Inv.live {σc σr τc τr : Mem} (h : Inv σc σr) (ec : SameC σc τc) (er : SameR σr τr) (hL : InvL τc τr) : Inv τc τr := by
  obtain ⟨-, hK, hT, hS, hF⟩ := h
  obtain ⟨er, er3, er10⟩ := er
  refine ⟨hL, ?_, ?_, ?_, ?_⟩
  · unfold InvK at *
    rw [er3, er 2 (by omega), ec 0 (by omega), ec 21 (by omega)]
    exact ⟨hK.1, hK.2.1, fun h => ⟨(hK.2.2 h).1.cong (fun q h1 h2 => ec q (by omega)), (hK.2.2 h).2⟩⟩
  · unfold InvT at *
    rw [er10, er 7 (by omega), ec 34 (by omega), ec 35 (by omega)]
    exact hT
  · unfold InvS at *
    intro s hs
    rw [er 8 (by omega), er 9 (by omega), er 10 (by omega), ec (37 + 2 * s) (by omega), ec (38 + 2 * s) (by omega)]
    exact hS s hs
  · unfold InvF at *
    rw [er 4 (by omega), ec 45 (by omega)]
    exact hF
theorem bnI {x : Int32} {a b : Nat} {A B : Int32} (hA : A = nI a) (hB : B = nI b) (ha : a < 2 ^ 31) (hb : b < 2 ^ 31) (h : fX5_within x A B = true) : ∃ j, a ≤ j ∧ j ≤ b ∧ x = nI j := by
  rw [hA, hB] at h
  exact (wi_n ha hb).mp h
theorem rng_of {x : Int32} {b : Nat} {B : Int32} (hB : B = nI b) (hb : b < 2 ^ 31) (h : fX5_within x 0 B = true) : rng x b := by
  obtain ⟨j, _, h2, e⟩ := bnI (a := 0) rfl hB (by decide) hb h
  exact ⟨j, h2, e⟩
/-! joke -/
theorem st_joke (a1 a2 : Int32) : StI Inv (fX5_joke a1 a2) (fX6_joke a1 a2) := by
  intro σc σr hI
  have hI0 := hI
  obtain ⟨⟨hR, hW, hT, hTr⟩, -⟩ := hI
  obtain ⟨hN, h8⟩ := hW.j
  have e7 : σc 1 7 = nI (nJ (σr 1)) := hR.1.2.2.2.2.2.trans hN
  rw [fX5_joke, fX6_joke]
  simp only [b2id, isTopics_e, isFun_e]
  by_cases h1 : fX5_isTopics a1 = true
  swap
  · rw [if_neg h1, if_neg h1]; exact st_find hI0 (by decide) (found_0 σc) (finds_0 σr)
  rw [if_pos h1, if_pos h1]
  by_cases h2 : fX5_isFun a2 = true
  swap
  · rw [if_neg h2, if_neg h2]; exact st_find hI0 (by decide) (found_0 σc) (finds_0 σr)
  rw [if_pos h2, if_pos h2, e7, hN]
  by_cases h3 : nJ (σr 1) = 8
  · rw [h3, if_neg (by decide), if_pos rfl]; exact st_find hI0 (by decide) (found_1 σc) (finds_1 σr)
  rw [if_pos (show nI (nJ (σr 1)) < 8 from nI_lt (b := 8) (by omega) (by decide)), if_neg (fun z => h3 ((nI_eq (b := 8) (by omega) (by decide)).mp z))]
  have t1 : ∃ j, 1 ≤ j ∧ j ≤ 63 ∧ a1 = nI j := bnI (a := 1) (b := 63) rfl rfl (by decide) (by decide) h1
  have t2 : rng a2 9 := rng_of rfl (by decide) h2
  rw [fX1_addJoke, fX6_addsJoke]
  simp only [pb_e, e7, hN]
  generalize hn : nJ (σr 1) = n at *
  rw [show (7 + 2 * nI n : Int32) = nI (7 + 2 * n) by rw [show (7 : Int32) = nI 7 from rfl, show (2 : Int32) = nI 2 from rfl, pk_mul, nI_add], nI_1, nI_1, nI_clamp (by omega), nI_clamp (by omega), nI_clamp (by omega), gd_t (inB_n (by omega) (by decide)), gd_t (inB_n (by omega) (by decide)), gd_t (inB_n (by omega) (by decide)), gd_t (inB_n (by omega) (by decide))]
  refine ⟨_, _, _, rfl, rfl, hI0.live (fun k hk => ?_) ⟨fun k hk => ?_, ?_, ?_⟩ ?_⟩
  · rw [up2_n (by omega), up2_n (by omega), up2_n (by omega)]
  · rw [up2_n (by omega), up2_n (by omega), up2_n (by omega)]
  · rw [up2_n (by omega), up2_n (by omega), up2_n (by omega)]
  · rw [up2_n (by omega), up2_n (by omega), up2_n (by omega)]
  · sorry
