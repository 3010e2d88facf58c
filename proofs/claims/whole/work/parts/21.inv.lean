theorem found_2 (σ : Mem) : fX5_found (-1000003) σ = some (-1000003, up2 σ 45 2 (σ 45 2 + 1)) := found_s (by decide) (by decide +kernel) σ
theorem found_3 (σ : Mem) : fX5_found (-1000004) σ = some (-1000004, up2 σ 45 3 (σ 45 3 + 1)) := found_s (by decide) (by decide +kernel) σ
theorem found_4 (σ : Mem) : fX5_found (-1000005) σ = some (-1000005, up2 σ 45 4 (σ 45 4 + 1)) := found_s (by decide) (by decide +kernel) σ
theorem found_5 (σ : Mem) : fX5_found (-1000006) σ = some (-1000006, up2 σ 45 5 (σ 45 5 + 1)) := found_s (by decide) (by decide +kernel) σ
theorem found_6 (σ : Mem) : fX5_found (-1000007) σ = some (-1000007, up2 σ 45 6 (σ 45 6 + 1)) := found_s (by decide) (by decide +kernel) σ
theorem finds_k {k : Nat} (hk : k < 7) {x v : Int32} (hx : x = nI k) (hv : -1000001 - nI k = v) (σ : Mem) : fX6_finds x σ = some (v, up2 σ 4 k (σ 4 k + 1)) := by rw [hx, finds_s hk, hv]
theorem finds_0 (σ : Mem) : fX6_finds 0 σ = some (-1000001, up2 σ 4 0 (σ 4 0 + 1)) := finds_k (by decide) rfl (by decide +kernel) σ
theorem finds_1 (σ : Mem) : fX6_finds 1 σ = some (-1000002, up2 σ 4 1 (σ 4 1 + 1)) := finds_k (by decide) rfl (by decide +kernel) σ
theorem finds_2 (σ : Mem) : fX6_finds 2 σ = some (-1000003, up2 σ 4 2 (σ 4 2 + 1)) := finds_k (by decide) rfl (by decide +kernel) σ
theorem finds_3 (σ : Mem) : fX6_finds 3 σ = some (-1000004, up2 σ 4 3 (σ 4 3 + 1)) := finds_k (by decide) rfl (by decide +kernel) σ
theorem finds_4 (σ : Mem) : fX6_finds 4 σ = some (-1000005, up2 σ 4 4 (σ 4 4 + 1)) := finds_k (by decide) rfl (by decide +kernel) σ
theorem finds_5 (σ : Mem) : fX6_finds 5 σ = some (-1000006, up2 σ 4 5 (σ 4 5 + 1)) := finds_k (by decide) rfl (by decide +kernel) σ
theorem finds_6 (σ : Mem) : fX6_finds 6 σ = some (-1000007, up2 σ 4 6 (σ 4 6 + 1)) := finds_k (by decide) rfl (by decide +kernel) σ
/-! the room as a vector, in the reference's order -/
abbrev Vec : Type := Nat → Int32
def rng (x : Int32) (n : Nat) : Prop := ∃ j, j ≤ n ∧ x = nI j
def nP (a : Vec) : Nat := (a 5).toNatClampNeg
def nJ (a : Vec) : Nat := (a 6).toNatClampNeg
def it (a : Vec) (p w : Nat) : Int32 := a (23 + 5 * p + w)
def bitI (p : Nat) : Int32 := 1 <<< (nI p &&& 31)
def nearF (a : Vec) (p : Nat) : Nat → Int32
  | 0 => 0
  | o + 1 => if o = p then nearF a p o else if a 1 < iAbs (it a p 1 - it a o 1) then nearF a p o else nearF a p o ||| bitI o
def nearS (a : Vec) (p : Nat) : Int32 := nearF a p (nP a)
def WFp (a : Vec) (p : Nat) : Prop := rng (it a p 0) 6 ∧ rng (it a p 1) 15 ∧ rng (it a p 2) 63 ∧ rng (it a p 3) 9 ∧ rng (it a p 4) 9999
def WFj (a : Vec) (j : Nat) : Prop := rng (a (7 + 2 * j)) 63 ∧ rng (a (7 + 2 * j + 1)) 9
def WFv (a : Vec) : Prop := rng (a 5) 8 ∧ rng (a 6) 8 ∧ (∀ p, p < 8 → WFp a p) ∧ (∀ j, j < 8 → WFj a j) ∧ rng (a 0) 20 ∧ rng (a 1) 15 ∧ rng (a 2) 999999 ∧ ∀ k, k < 10 → a (63 + k) = -1 ∨ ∃ q, q < nP a ∧ a (63 + k) = nI q
def RmN (σ : Mem) (r : Nat) (a : Vec) : Prop := ∀ p, p < nP a → σ (r + 6) p = nearS a p
def RmS (σ : Mem) (r : Nat) (a : Vec) : Prop := σ r 10 = a 0 ∧ σ r 11 = a 1 ∧ σ r 12 = a 2 ∧ σ r 14 = a 4 ∧ σ r 0 = a 5 ∧ σ r 7 = a 6
def RmJ (σ : Mem) (r : Nat) (a : Vec) : Prop := ∀ j, j < 8 → σ (r + 7) j = a (7 + 2 * j) ∧ σ (r + 8) j = a (7 + 2 * j + 1)
def RmP (σ : Mem) (r : Nat) (a : Vec) : Prop := ∀ p, p < 8 → σ (r + 1) p = it a p 0 ∧ σ (r + 2) p = it a p 1 ∧ σ (r + 3) p = it a p 2 ∧ σ (r + 4) p = it a p 3 ∧ σ (r + 5) p = it a p 4
def RmK (σ : Mem) (r : Nat) (a : Vec) : Prop := ∀ k, k < 10 → σ (r + 9) k = a (63 + k)
def RmR (σ : Mem) (r : Nat) (a : Vec) : Prop := RmS σ r a ∧ RmJ σ r a ∧ RmP σ r a ∧ RmK σ r a ∧ RmN σ r a
def BR (x y : Int32) : Prop := ∃ n, n < 256 ∧ y = nI n ∧ x = (nI n).toInt8.toInt32
def InvL (σc σr : Mem) : Prop := RmR σc 1 (σr 1) ∧ WFv (σr 1) ∧ σc 1 13 = σr 1 3 ∧ rng (σr 1 3) 99999
def InvK (σc σr : Mem) : Prop := σc 0 3 = σr 0 3 ∧ (σr 0 3 = 0 ∨ σr 0 3 = 1) ∧ (σr 0 3 = 1 → RmR σc 21 (σr 2) ∧ WFv (σr 2) ∧ σc 21 13 = σr 2 3 ∧ rng (σr 2 3) 99999)
def InvT (σc σr : Mem) : Prop := σc 34 1 = σr 0 10 ∧ rng (σr 0 10) 120 ∧ ∀ i, i < 120 → BR (σc 35 i) (σr 7 i)
def InvS (σc σr : Mem) : Prop := ∀ s, s < 4 → σc (37 + 2 * s) 1 = σr 8 s ∧ (σr 8 s = 0 ∨ σr 8 s = 8 ∨ σr 8 s = 16 ∨ σr 8 s = 32) ∧ σc (37 + 2 * s) 2 = σr 9 s ∧ rng (σr 9 s) 40 ∧ ∀ i, i < 40 → σc (38 + 2 * s) i = σr 10 (40 * s + i)
def InvF (σc σr : Mem) : Prop := ∀ k, k < 7 → σc 45 k = σr 4 k
def Inv (σc σr : Mem) : Prop := InvL σc σr ∧ InvK σc σr ∧ InvT σc σr ∧ InvS σc σr ∧ InvF σc σr
theorem RmR.cong {σ τ : Mem} {r : Nat} {a : Vec} (h : RmR σ r a) (e : ∀ k, r ≤ k → k ≤ r + 9 → τ k = σ k) : RmR τ r a := by
  have e0 := e r (by omega) (by omega)
  have e1 := e (r + 1) (by omega) (by omega)
  have e2 := e (r + 2) (by omega) (by omega)
  have e3 := e (r + 3) (by omega) (by omega)
  have e4 := e (r + 4) (by omega) (by omega)
  have e5 := e (r + 5) (by omega) (by omega)
  have e6 := e (r + 6) (by omega) (by omega)
  have e7 := e (r + 7) (by omega) (by omega)
  have e8 := e (r + 8) (by omega) (by omega)
  have e9 := e (r + 9) (by omega) (by omega)
  unfold RmR RmS RmJ RmP RmK RmN at *
  rw [e0, e1, e2, e3, e4, e5, e6, e7, e8, e9]
  exact h
/-- all but the findings depends on these cells alone -/
theorem Inv.find {σc σr : Mem} (h : Inv σc σr) {k : Nat} (hk : k < 7) : Inv (up2 σc 45 k (σc 45 k + 1)) (up2 σr 4 k (σr 4 k + 1)) := by
  obtain ⟨hL, hK, hT, hS, hF⟩ := h
  have ec : ∀ q, q ≠ 45 → up2 σc 45 k (σc 45 k + 1) q = σc q := fun q hq => up2_n hq
  have er : ∀ q, q ≠ 4 → up2 σr 4 k (σr 4 k + 1) q = σr q := fun q hq => up2_n hq
  refine ⟨?_, ?_, ?_, ?_, ?_⟩
  · unfold InvL at *
    rw [er 1 (by decide), ec 1 (by decide)]
    exact ⟨hL.1.cong (fun q h1 h2 => ec q (by omega)), hL.2⟩
  · unfold InvK at *
    rw [er 0 (by decide), er 2 (by decide), ec 0 (by decide), ec 21 (by decide)]
    exact ⟨hK.1, hK.2.1, fun h => ⟨(hK.2.2 h).1.cong (fun q h1 h2 => ec q (by omega)), (hK.2.2 h).2⟩⟩
  · unfold InvT at *
    rw [er 0 (by decide), er 7 (by decide), ec 34 (by decide), ec 35 (by decide)]
    exact hT
  · unfold InvS at *
    intro s hs
    rw [er 8 (by decide), er 9 (by decide), er 10 (by decide), ec (37 + 2 * s) (by omega), ec (38 + 2 * s) (by omega)]
    exact hS s hs
  · intro j hj
    rw [up2_a, up2_a]
    by_cases e : j = k
    · subst e
      rw [if_pos ⟨rfl, rfl⟩, if_pos ⟨rfl, rfl⟩, hF j hj]
    · rw [if_neg (fun z => e z.2), if_neg (fun z => e z.2)]
      exact hF j hj
theorem rng_n {x : Int32} {n : Nat} (h : rng x n) (hn : n < 2 ^ 31) : x = nI x.toNatClampNeg ∧ x.toNatClampNeg ≤ n := by
  obtain ⟨j, hj, rfl⟩ := h
  rw [nI_clamp (by omega)]
  exact ⟨rfl, hj⟩
theorem WFv.p {a : Vec} (h : WFv a) : a 5 = nI (nP a) ∧ nP a ≤ 8 := rng_n h.1 (by decide)
theorem WFv.j {a : Vec} (h : WFv a) : a 6 = nI (nJ a) ∧ nJ a ≤ 8 := rng_n h.2.1 (by decide)
/-! a finding in both -/
theorem st_find {σc σr : Mem} (hI : Inv σc σr) {k : Nat} (hk : k < 7) {v : Int32} {f g : Option (Int32 × Mem)} (hf : f = some (v, up2 σc 45 k (σc 45 k + 1))) (hg : g = some (v, up2 σr 4 k (σr 4 k + 1))) : ∃ v τc τr, f = some (v, τc) ∧ g = some (v, τr) ∧ Inv τc τr := ⟨v, _, _, hf, hg, hI.find hk⟩
