def iMin (x y : Int32) : Int32 := if y < x then y else x
def iMax (x y : Int32) : Int32 := if x < y then y else x
def iAbs (x : Int32) : Int32 := if 0 ≤ x then x else 0 - x
theorem wMat : Cond.initialized "java/lang/Math" ∈ TB := tb_t 7 (by decide +kernel) (by decide +kernel)
theorem wMs_min : Cond.static Lib.Math.min.name ∈ TB := tb_t 247 (by decide +kernel) (by decide +kernel)
theorem wMc_min : Cond.code Lib.Math.min.name Lib.Math.min.code 2 (some .int) ∈ TB := tb_t 248 (by decide +kernel) (by decide +kernel)
theorem wMs_max : Cond.static Lib.Math.max.name ∈ TB := tb_t 319 (by decide +kernel) (by decide +kernel)
theorem wMc_max : Cond.code Lib.Math.max.name Lib.Math.max.code 2 (some .int) ∈ TB := tb_t 320 (by decide +kernel) (by decide +kernel)
theorem wMs_abs : Cond.static Lib.Math.abs.name ∈ TB := tb_t 233 (by decide +kernel) (by decide +kernel)
theorem wMc_abs : Cond.code Lib.Math.abs.name Lib.Math.abs.code 1 (some .int) ∈ TB := tb_t 234 (by decide +kernel) (by decide +kernel)
theorem wqX5_183 : Cond.methodLink RX5 183 Lib.Math.min.name ∈ TB := tb_t 398 (by decide +kernel) (by decide +kernel)
theorem wqX5_308 : Cond.methodLink RX5 308 Lib.Math.max.name ∈ TB := tb_t 544 (by decide +kernel) (by decide +kernel)
theorem wqX0_15 : Cond.methodLink RX0 15 Lib.Math.min.name ∈ TB := tb_t 246 (by decide +kernel) (by decide +kernel)
theorem wqX0_21 : Cond.methodLink RX0 21 Lib.Math.max.name ∈ TB := tb_t 318 (by decide +kernel) (by decide +kernel)
theorem wqX1_70 : Cond.methodLink RX1 70 Lib.Math.abs.name ∈ TB := tb_t 232 (by decide +kernel) (by decide +kernel)
theorem wqX2_22 : Cond.methodLink RX2 22 Lib.Math.min.name ∈ TB := tb_t 526 (by decide +kernel) (by decide +kernel)
theorem wqX3_150 : Cond.methodLink RX3 150 Lib.Math.min.name ∈ TB := tb_t 579 (by decide +kernel) (by decide +kernel)
theorem wqX4_96 : Cond.methodLink RX4 96 Lib.Math.min.name ∈ TB := tb_t 373 (by decide +kernel) (by decide +kernel)
theorem wqX4_101 : Cond.methodLink RX4 101 Lib.Math.max.name ∈ TB := tb_t 374 (by decide +kernel) (by decide +kernel)
theorem wqX6_68 : Cond.methodLink RX6 68 Lib.Math.min.name ∈ TB := tb_t 861 (by decide +kernel) (by decide +kernel)
theorem wqX6_73 : Cond.methodLink RX6 73 Lib.Math.abs.name ∈ TB := tb_t 870 (by decide +kernel) (by decide +kernel)
theorem wqX6_83 : Cond.methodLink RX6 83 Lib.Math.max.name ∈ TB := tb_t 928 (by decide +kernel) (by decide +kernel)
section
variable {M : MC} {w : WE} {sh : List Shp} {cc : ByteArray} {nL : Nat} {own : String} {ret : Option FieldType} {d : Nat} {α : Type} {ι : α → Option Value × Mem} {pc : Nat} {lv : List (Option Value)} {st : List Value} {σ : Mem} {b : Option α}
theorem roomS {d k : Nat} (hd : 1 ≤ d) (h : k ≤ 8) : k + 13 ≤ 36 * d := by omega
theorem Cp.mmin (X : Cx M w sh cc nL own ret d) {index : Nat} {x y : Int32} (hl : Cond.methodLink own index Lib.Math.min.name ∈ TB) (hdd : 1 ≤ d) (hd : decode cc pc = .ok (.invokestatic index, 3)) (hsum : (st.map fun v => v.category).sum ≤ 8) (kk : Cp M w sh nL ι (pc + 3) lv (.int (iMin x y) :: st) σ b) : Cp M w sh nL ι pc lv (.int y :: .int x :: st) σ b := fun a ha ls H locs hlv hP hS => va_mmin X.x X.b (by rw [X.ml]; exact hlv.1.symm) X.o (X.t _ hl) (X.t _ wMs_min) (X.t _ wMat) (X.t _ wMc_min) (by rw [X.R]; exact hdd) (by rw [X.R]; have h9 := roomS hdd hsum; show _ ≤ 36 * d; omega) (Nat.zero_le _) (Nat.zero_le _) hd (kk a ha ls H locs hlv hP hS)
theorem Cp.mmax (X : Cx M w sh cc nL own ret d) {index : Nat} {x y : Int32} (hl : Cond.methodLink own index Lib.Math.max.name ∈ TB) (hdd : 1 ≤ d) (hd : decode cc pc = .ok (.invokestatic index, 3)) (hsum : (st.map fun v => v.category).sum ≤ 8) (kk : Cp M w sh nL ι (pc + 3) lv (.int (iMax x y) :: st) σ b) : Cp M w sh nL ι pc lv (.int y :: .int x :: st) σ b := fun a ha ls H locs hlv hP hS => va_mmax X.x X.b (by rw [X.ml]; exact hlv.1.symm) X.o (X.t _ hl) (X.t _ wMs_max) (X.t _ wMat) (X.t _ wMc_max) (by rw [X.R]; exact hdd) (by rw [X.R]; have h9 := roomS hdd hsum; show _ ≤ 36 * d; omega) (Nat.zero_le _) (Nat.zero_le _) hd (kk a ha ls H locs hlv hP hS)
theorem Cp.mabs (X : Cx M w sh cc nL own ret d) {index : Nat} {x : Int32} (hl : Cond.methodLink own index Lib.Math.abs.name ∈ TB) (hdd : 1 ≤ d) (hd : decode cc pc = .ok (.invokestatic index, 3)) (hsum : (st.map fun v => v.category).sum ≤ 8) (kk : Cp M w sh nL ι (pc + 3) lv (.int (iAbs x) :: st) σ b) : Cp M w sh nL ι pc lv (.int x :: st) σ b := fun a ha ls H locs hlv hP hS => va_mabs X.x X.b (by rw [X.ml]; exact hlv.1.symm) X.o (X.t _ hl) (X.t _ wMs_abs) (X.t _ wMat) (X.t _ wMc_abs) (by rw [X.R]; exact hdd) (by rw [X.R]; have h9 := roomS hdd hsum; show _ ≤ 36 * d; omega) (Nat.zero_le _) (Nat.zero_le _) hd (kk a ha ls H locs hlv hP hS)
end
