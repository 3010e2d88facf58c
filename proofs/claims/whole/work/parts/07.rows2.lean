theorem wAbv : Cond.fieldLink RX0 11 "LaughTax$Kinds" "ABOVE" "[I" ∈ TB := tb_t 693 (by decide +kernel) (by decide +kernel)
theorem wNat : Cond.native arraycopyName ∈ TB := tb_t 423 (by decide +kernel) (by decide +kernel)
theorem wSta : Cond.static arraycopyName ∈ TB := tb_t 422 (by decide +kernel) (by decide +kernel)
theorem wSys : Cond.initialized "java/lang/System" ∈ TB := tb_t 10 (by decide +kernel) (by decide +kernel)
theorem wmX5_290 : Cond.methodLink RX5 290 arraycopyName ∈ TB := tb_t 721 (by decide +kernel) (by decide +kernel)
theorem wmX1_52 : Cond.methodLink RX1 52 arraycopyName ∈ TB := tb_t 421 (by decide +kernel) (by decide +kernel)
theorem b2i_01 (b : Bool) : b2i b = 0 ∨ b2i b = 1 := by cases b <;> decide
def cpOk (sp dp n : Int32) (n0 n1 : Nat) : Bool := decide (0 ≤ sp) && (decide (0 ≤ dp) && (decide (0 ≤ n) && (decide (sp.toNatClampNeg + n.toNatClampNeg ≤ n0) && decide (dp.toNatClampNeg + n.toNatClampNeg ≤ n1))))
section
variable {M : MC} {w : WE} {sh : List Shp} {cc : ByteArray} {nL : Nat} {own : String} {ret : Option FieldType} {d : Nat} {α : Type} {ι : α → Option Value × Mem} {pc : Nat} {lv : List (Option Value)} {st : List Value} {σ : Mem} {b : Option α}
theorem Cp.aaldh (X : Cx M w sh cc nL own ret d) {k n b0 : Nat} (hs : sh[k]? = some (.inl (2, n, b0))) {i : Int32} (hd : decode cc pc = .ok (.aaload, 1)) (kk : inB i n = true → Cp M w sh nL ι (pc + 1) lv (.ref (wad w (b0 + 2 * i.toNatClampNeg)) :: st) σ b) : Cp M w sh nL ι pc lv (.int i :: .ref (wad w k) :: st) σ (gd (inB i n = true) b) := Cp.grd (fun h => by
  have h2 := Cp.aald X hs hd (kk h)
  rw [gd_t h] at h2
  exact h2)
theorem Cp.grd01 {v : Int32} (k : v = b2i (decide (v = 1)) → Cp M w sh nL ι pc lv st σ b) : Cp M w sh nL ι pc lv st σ (gd (v = 0 ∨ v = 1) b) := Cp.grd (fun h => k (by rcases h with rfl | rfl <;> decide))
theorem Cp.acp (X : Cx M w sh cc nL own ret d) {index : Nat} {stk : List Value} {k0 k1 n0 n1 b0 b1 : Nat} {sp dp n : Int32} (hl : Cond.methodLink own index arraycopyName ∈ TB) (hs0 : sh[k0]? = some (.inl (0, n0, b0))) (hs1 : sh[k1]? = some (.inl (0, n1, b1))) (hdd : 1 ≤ d) (hd : decode cc pc = .ok (.invokestatic index, 3)) (hstk : stk = .int n :: .int dp :: .ref (wad w k1) :: .int sp :: .ref (wad w k0) :: [])
    (kk : Cp M w sh nL ι (pc + 3) lv [] (upR σ k1 (va_cpy (σ k0) (σ k1) sp.toNatClampNeg dp.toNatClampNeg n.toNatClampNeg)) b) : Cp M w sh nL ι pc lv stk σ (gd (cpOk sp dp n n0 n1 = true) b) := Cp.grd (fun h a ha ls H locs hlv hP hS => by
  subst hstk
  simp only [cpOk, Bool.and_eq_true, decide_eq_true_eq] at h
  obtain ⟨h1, h2, h3, h4, h5⟩ := h
  refine va_copyi (n0 := n0) (n1 := n1) (f := σ k0) (g := σ k1) (ty := .int) X.x X.b (by rw [X.ml]; exact hlv.1.symm) X.o (X.t _ hl) (X.t _ wNat) (X.t _ wSta) (X.t _ wSys) X.k hP (X.ok.D σ) hS k0 k1 0 0 (wM_at hs0) (wM_at hs1) rfl rfl (by decide) (Int32.not_lt.mpr h1) (Int32.not_lt.mpr h2) (Int32.not_lt.mpr h3) h4 h5 (fun i _ => rfl) (by rw [X.R]; exact hdd) (by rw [X.R]; exact Nat.le_trans (Nat.le_of_ble_eq_true rfl) (Nat.mul_le_mul_left 36 hdd)) hd (fun H1 locs1 hP1 _ hS1 => ?_)
  refine kk a ha ls H1 locs1 hlv ?_ hS1
  rw [wM_set (e := .inl (wI w, n1, .inl (va_cpy (σ k0) (σ k1) sp.toNatClampNeg dp.toNatClampNeg n.toNatClampNeg))) (f := va_cpy (σ k0) (σ k1) sp.toNatClampNeg dp.toNatClampNeg n.toNatClampNeg) hs1 rfl] at hP1
  exact hP1)
theorem Cp.acpc (s1 d1 m1 : Nat) (X : Cx M w sh cc nL own ret d) {index : Nat} {stk : List Value} {k0 k1 n0 n1 b0 b1 : Nat} {sp dp n : Int32} (hl : Cond.methodLink own index arraycopyName ∈ TB) (hs0 : sh[k0]? = some (.inl (0, n0, b0))) (hs1 : sh[k1]? = some (.inl (0, n1, b1))) (e1 : sp.toNatClampNeg = s1) (e2 : dp.toNatClampNeg = d1) (e3 : n.toNatClampNeg = m1) (hc : cpOk sp dp n n0 n1 = true) (hdd : 1 ≤ d) (hd : decode cc pc = .ok (.invokestatic index, 3)) (hstk : stk = .int n :: .int dp :: .ref (wad w k1) :: .int sp :: .ref (wad w k0) :: [])
    (kk : Cp M w sh nL ι (pc + 3) lv [] (upR σ k1 (va_cpy (σ k0) (σ k1) s1 d1 m1)) b) : Cp M w sh nL ι pc lv stk σ b := by
  subst e1; subst e2; subst e3
  have h := Cp.acp X hl hs0 hs1 hdd hd hstk kk
  rw [gd_t hc] at h
  exact h
end
section
variable {M : MC} {w : WE} {sh : List Shp} {cc : ByteArray} {nL : Nat} {ret : Option FieldType} {d : Nat} {α : Type} {ι : α → Option Value × Mem} {pc : Nat} {lv : List (Option Value)} {st : List Value} {σ : Mem} {b : Option α}
theorem Cp.getAbv (X : Cx M w sh cc nL RX0 ret d) (hd : decode cc pc = .ok (.getstatic 11, 3)) (kk : Cp M w sh nL ι (pc + 3) lv (.ref (wT w) :: st) σ b) : Cp M w sh nL ι pc lv st σ b := fun a ha ls H locs hlv hP hS => va_gets X.x X.b X.e.1.1 hS X.o (X.t _ wAbv) (fun _ h => h) hd (kk a ha ls H locs hlv hP hS)
theorem Cp.ldAbv (X : Cx M w sh cc nL RX0 ret d) {i : Int32} (hd : decode cc pc = .ok (.iaload, 1)) (kk : Cp M w sh nL ι (pc + 1) lv (.int (abv i.toNatClampNeg) :: st) σ b) : Cp M w sh nL ι pc lv (.int i :: .ref (wT w) :: st) σ (gd (inB i 7 = true) b) := Cp.grd (fun h a ha ls H locs hlv hP hS => va_ti X.x X.b X.e.1.2 hS (inB_vp h) rfl hd (kk a ha ls H locs hlv hP hS))
end
