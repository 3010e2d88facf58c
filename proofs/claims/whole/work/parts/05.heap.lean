abbrev iI (σ : Mem) : Int32 → Option Value × Mem := fun v => (some (.int v), σ)
abbrev iB (σ : Mem) : Bool → Option Value × Mem := fun v => (some (.int (b2i v)), σ)
abbrev iL (σ : Mem) : Int64 → Option Value × Mem := fun v => (some (.long v), σ)
abbrev iS (w : WE) (σ : Mem) : Nat → Option Value × Mem := fun v => (some (.ref (wK w v)), σ)
abbrev iU (σ : Mem) : Unit → Option Value × Mem := fun _ => (none, σ)
abbrev iIM : Int32 × Mem → Option Value × Mem := fun v => (some (.int v.1), v.2)
abbrev iBM : Bool × Mem → Option Value × Mem := fun v => (some (.int (b2i v.1)), v.2)
abbrev iLM : Int64 × Mem → Option Value × Mem := fun v => (some (.long v.1), v.2)
abbrev iVM : Mem → Option Value × Mem := fun τ => (none, τ)
def bnd2 {β γ α : Type} (f : Option (β × γ)) (g : β → γ → Option α) : Option α := f.bind (fun z => g z.1 z.2)
theorem bnd2_s {β γ α : Type} (x : β) (y : γ) (g : β → γ → Option α) : bnd2 (some (x, y)) g = g x y := rfl
def ClOk (ci : Nat) (C : String) (T : u_T) (N : Nat) (ty0 : Nat → FieldType) : Prop := vwCl[ci]? = some (C, T, N) ∧ (∀ x ∈ u_ws C T N, x ∈ TB) ∧ (∀ k, k < N → parseFieldDescriptor (T k).2.2.1 = some (ty0 k)) ∧ (∀ a, a < N → ∀ b, b < N → a ≠ b → (T a).2.1 ≠ (T b).2.1)
def inB (i : Int32) (n : Nat) : Bool := decide (0 ≤ i) && decide (i.toNatClampNeg < n)
theorem inB_vp {i : Int32} {n : Nat} (h : inB i n = true) : vp_in i n := by
  simp only [inB, Bool.and_eq_true, decide_eq_true_eq] at h
  rintro (q | q)
  · exact absurd h.1 (Int32.not_le.mpr q)
  · omega
section
variable {M : MC} {w : WE} {sh : List Shp} {cc : ByteArray} {nL : Nat} {own : String} {ret : Option FieldType} {d : Nat} {α : Type} {ι : α → Option Value × Mem} {pc : Nat} {lv : List (Option Value)} {st : List Value} {σ : Mem} {b : Option α}

theorem Cp.getI (X : Cx M w sh cc nL own ret d) {ci : Nat} {C : String} {T : u_T} {N : Nat} {ty0 : Nat → FieldType} (hC : ClOk ci C T N ty0) {k : Nat} {fs : List (Option Nat)} (hs : sh[k]? = some (.inr (ci, fs))) {index : Nat} (j : Nat) (hj : j < N) (hl : Cond.fieldLink own index (T j).1 (T j).2.1 (T j).2.2.1 ∈ TB) (hf : fs[j]? = some none) (hd : decode cc pc = .ok (.getfield index, 3)) (kk : Cp M w sh nL ι (pc + 3) lv (.int (σ k j) :: st) σ b) : Cp M w sh nL ι pc lv (.ref (wad w k) :: st) σ b := fun a ha ls H locs hlv hP hS => va_get (ci := ci) (fs := fs.mapIdx (fv (wad w) (σ k))) X.x X.b X.t hC.2.1 X.o X.k hP k (wM_at hs) hC.1 j hj (X.t _ hl) (fun _ h => h) (by rw [List.getElem?_mapIdx, hf]; rfl) hd (kk a ha ls H locs hlv hP hS)
theorem Cp.getR (X : Cx M w sh cc nL own ret d) {ci : Nat} {C : String} {T : u_T} {N : Nat} {ty0 : Nat → FieldType} (hC : ClOk ci C T N ty0) {k q : Nat} {fs : List (Option Nat)} (hs : sh[k]? = some (.inr (ci, fs))) {index : Nat} (j : Nat) (hj : j < N) (hl : Cond.fieldLink own index (T j).1 (T j).2.1 (T j).2.2.1 ∈ TB) (hf : fs[j]? = some (some q)) (hd : decode cc pc = .ok (.getfield index, 3)) (kk : Cp M w sh nL ι (pc + 3) lv (.ref (wad w q) :: st) σ b) : Cp M w sh nL ι pc lv (.ref (wad w k) :: st) σ b := fun a ha ls H locs hlv hP hS => va_get (ci := ci) (fs := fs.mapIdx (fv (wad w) (σ k))) X.x X.b X.t hC.2.1 X.o X.k hP k (wM_at hs) hC.1 j hj (X.t _ hl) (fun _ h => h) (by rw [List.getElem?_mapIdx, hf]; rfl) hd (kk a ha ls H locs hlv hP hS)
theorem Cp.putV (X : Cx M w sh cc nL own ret d) {ci : Nat} {C : String} {T : u_T} {N : Nat} {ty0 : Nat → FieldType} (hC : ClOk ci C T N ty0) {k : Nat} {fs : List (Option Nat)} (hs : sh[k]? = some (.inr (ci, fs))) {index : Nat} (j : Nat) (hj : j < N) (hl : Cond.fieldLink own index (T j).1 (T j).2.1 (T j).2.2.1 ∈ TB) (hf : fs[j]? = some none) (hfin : (T j).2.2.2 = false) {ty : FieldType} (hty : parseFieldDescriptor (T j).2.2.1 = some ty) {v : Int32} (hn : narrow ty (.int v) = .int v) (hfit : fits ty (.int v) = true) (hd : decode cc pc = .ok (.putfield index, 3)) (kk : Cp M w sh nL ι (pc + 3) lv st (up2 σ k j v) b) : Cp M w sh nL ι pc lv (.int v :: .ref (wad w k) :: st) σ b := fun a ha ls H locs hlv hP hS => by
  refine va_put (ci := ci) (fs := fs.mapIdx (fv (wad w) (σ k))) X.x X.b X.t hC.2.1 ty0 hC.2.2.1 hC.2.2.2 X.o X.k hP (X.ok.D σ) hS k (wM_at hs) hC.1 j hj (X.t _ hl) (fun _ h => h) hfin hty hn hfit (by rw [List.length_mapIdx]; exact (List.getElem?_eq_some_iff.mp hf).1) hd (fun H1 locs1 hP1 _ hS1 => ?_)
  refine kk a ha ls H1 locs1 hlv ?_ hS1
  rw [wM_set (f := upd (σ k) j v) hs (by rw [fv_set hf]; rfl)] at hP1
  exact hP1
theorem Cp.putI (X : Cx M w sh cc nL own ret d) {ci : Nat} {C : String} {T : u_T} {N : Nat} {ty0 : Nat → FieldType} (hC : ClOk ci C T N ty0) {k : Nat} {fs : List (Option Nat)} (hs : sh[k]? = some (.inr (ci, fs))) {index : Nat} (j : Nat) (hj : j < N) (hl : Cond.fieldLink own index (T j).1 (T j).2.1 (T j).2.2.1 ∈ TB) (hf : fs[j]? = some none) (hfin : (T j).2.2.2 = false) (hty : parseFieldDescriptor (T j).2.2.1 = some .int) {v : Int32} (hd : decode cc pc = .ok (.putfield index, 3)) (kk : Cp M w sh nL ι (pc + 3) lv st (up2 σ k j v) b) : Cp M w sh nL ι pc lv (.int v :: .ref (wad w k) :: st) σ b := Cp.putV X hC hs j hj hl hf hfin hty rfl rfl hd kk
theorem Cp.putZ (X : Cx M w sh cc nL own ret d) {ci : Nat} {C : String} {T : u_T} {N : Nat} {ty0 : Nat → FieldType} (hC : ClOk ci C T N ty0) {k : Nat} {fs : List (Option Nat)} (hs : sh[k]? = some (.inr (ci, fs))) {index : Nat} (j : Nat) (hj : j < N) (hl : Cond.fieldLink own index (T j).1 (T j).2.1 (T j).2.2.1 ∈ TB) (hf : fs[j]? = some none) (hfin : (T j).2.2.2 = false) (hty : parseFieldDescriptor (T j).2.2.1 = some .boolean) {v : Int32} (hd : decode cc pc = .ok (.putfield index, 3)) (kk : Cp M w sh nL ι (pc + 3) lv st (up2 σ k j v) b) : Cp M w sh nL ι pc lv (.int v :: .ref (wad w k) :: st) σ (gd (v = 0 ∨ v = 1) b) := Cp.grd (fun h => by
  rcases h with rfl | rfl
  · exact Cp.putV X hC hs j hj hl hf hfin hty (by decide +kernel) (by decide +kernel) hd kk
  · exact Cp.putV X hC hs j hj hl hf hfin hty (by decide +kernel) (by decide +kernel) hd kk)
theorem Cp.putZc (X : Cx M w sh cc nL own ret d) {ci : Nat} {C : String} {T : u_T} {N : Nat} {ty0 : Nat → FieldType} (hC : ClOk ci C T N ty0) {k : Nat} {fs : List (Option Nat)} (hs : sh[k]? = some (.inr (ci, fs))) {index : Nat} (j : Nat) (hj : j < N) (hl : Cond.fieldLink own index (T j).1 (T j).2.1 (T j).2.2.1 ∈ TB) (hf : fs[j]? = some none) (hfin : (T j).2.2.2 = false) (hty : parseFieldDescriptor (T j).2.2.1 = some .boolean) {v : Int32} (hv : v = 0 ∨ v = 1) (hd : decode cc pc = .ok (.putfield index, 3)) (kk : Cp M w sh nL ι (pc + 3) lv st (up2 σ k j v) b) : Cp M w sh nL ι pc lv (.int v :: .ref (wad w k) :: st) σ b := by
  have h := Cp.putZ X hC hs j hj hl hf hfin hty hd kk
  rw [gd_t hv] at h
  exact h
theorem Cp.getIN (X : Cx M w sh cc nL own ret d) {ci : Nat} {C : String} {T : u_T} {N : Nat} {ty0 : Nat → FieldType} (hC : ClOk ci C T N ty0) {k : Nat} {fs : List (Option Nat)} (hs : sh[k]? = some (.inr (ci, fs))) {index : Nat} {host : String} (j : Nat) (hj : j < N) (hl : Cond.fieldLinkNest own index (T j).1 (T j).2.1 (T j).2.2.1 host ∈ TB) (hf : fs[j]? = some none) (hd : decode cc pc = .ok (.getfield index, 3)) (kk : Cp M w sh nL ι (pc + 3) lv (.int (σ k j) :: st) σ b) : Cp M w sh nL ι pc lv (.ref (wad w k) :: st) σ b := fun a ha ls H locs hlv hP hS => va_getN (ci := ci) (fs := fs.mapIdx (fv (wad w) (σ k))) X.x X.b X.t hC.2.1 X.o X.k hP k (wM_at hs) hC.1 j hj (X.t _ hl) (fun _ h => h) (by rw [List.getElem?_mapIdx, hf]; rfl) hd (kk a ha ls H locs hlv hP hS)
theorem Cp.getRN (X : Cx M w sh cc nL own ret d) {ci : Nat} {C : String} {T : u_T} {N : Nat} {ty0 : Nat → FieldType} (hC : ClOk ci C T N ty0) {k q : Nat} {fs : List (Option Nat)} (hs : sh[k]? = some (.inr (ci, fs))) {index : Nat} {host : String} (j : Nat) (hj : j < N) (hl : Cond.fieldLinkNest own index (T j).1 (T j).2.1 (T j).2.2.1 host ∈ TB) (hf : fs[j]? = some (some q)) (hd : decode cc pc = .ok (.getfield index, 3)) (kk : Cp M w sh nL ι (pc + 3) lv (.ref (wad w q) :: st) σ b) : Cp M w sh nL ι pc lv (.ref (wad w k) :: st) σ b := fun a ha ls H locs hlv hP hS => va_getN (ci := ci) (fs := fs.mapIdx (fv (wad w) (σ k))) X.x X.b X.t hC.2.1 X.o X.k hP k (wM_at hs) hC.1 j hj (X.t _ hl) (fun _ h => h) (by rw [List.getElem?_mapIdx, hf]; rfl) hd (kk a ha ls H locs hlv hP hS)
theorem Cp.putVN (X : Cx M w sh cc nL own ret d) {ci : Nat} {C : String} {T : u_T} {N : Nat} {ty0 : Nat → FieldType} (hC : ClOk ci C T N ty0) {k : Nat} {fs : List (Option Nat)} (hs : sh[k]? = some (.inr (ci, fs))) {index : Nat} {host : String} (j : Nat) (hj : j < N) (hl : Cond.fieldLinkNest own index (T j).1 (T j).2.1 (T j).2.2.1 host ∈ TB) (hf : fs[j]? = some none) (hfin : (T j).2.2.2 = false) {ty : FieldType} (hty : parseFieldDescriptor (T j).2.2.1 = some ty) {v : Int32} (hn : narrow ty (.int v) = .int v) (hfit : fits ty (.int v) = true) (hd : decode cc pc = .ok (.putfield index, 3)) (kk : Cp M w sh nL ι (pc + 3) lv st (up2 σ k j v) b) : Cp M w sh nL ι pc lv (.int v :: .ref (wad w k) :: st) σ b := fun a ha ls H locs hlv hP hS => by
  refine va_putN (ci := ci) (fs := fs.mapIdx (fv (wad w) (σ k))) X.x X.b X.t hC.2.1 ty0 hC.2.2.1 hC.2.2.2 X.o X.k hP (X.ok.D σ) hS k (wM_at hs) hC.1 j hj (X.t _ hl) (fun _ h => h) hfin hty hn hfit (by rw [List.length_mapIdx]; exact (List.getElem?_eq_some_iff.mp hf).1) hd (fun H1 locs1 hP1 _ hS1 => ?_)
  refine kk a ha ls H1 locs1 hlv ?_ hS1
  rw [wM_set (f := upd (σ k) j v) hs (by rw [fv_set hf]; rfl)] at hP1
  exact hP1
theorem Cp.putIN (X : Cx M w sh cc nL own ret d) {ci : Nat} {C : String} {T : u_T} {N : Nat} {ty0 : Nat → FieldType} (hC : ClOk ci C T N ty0) {k : Nat} {fs : List (Option Nat)} (hs : sh[k]? = some (.inr (ci, fs))) {index : Nat} {host : String} (j : Nat) (hj : j < N) (hl : Cond.fieldLinkNest own index (T j).1 (T j).2.1 (T j).2.2.1 host ∈ TB) (hf : fs[j]? = some none) (hfin : (T j).2.2.2 = false) (hty : parseFieldDescriptor (T j).2.2.1 = some .int) {v : Int32} (hd : decode cc pc = .ok (.putfield index, 3)) (kk : Cp M w sh nL ι (pc + 3) lv st (up2 σ k j v) b) : Cp M w sh nL ι pc lv (.int v :: .ref (wad w k) :: st) σ b := Cp.putVN X hC hs j hj hl hf hfin hty rfl rfl hd kk
theorem Cp.putZN (X : Cx M w sh cc nL own ret d) {ci : Nat} {C : String} {T : u_T} {N : Nat} {ty0 : Nat → FieldType} (hC : ClOk ci C T N ty0) {k : Nat} {fs : List (Option Nat)} (hs : sh[k]? = some (.inr (ci, fs))) {index : Nat} {host : String} (j : Nat) (hj : j < N) (hl : Cond.fieldLinkNest own index (T j).1 (T j).2.1 (T j).2.2.1 host ∈ TB) (hf : fs[j]? = some none) (hfin : (T j).2.2.2 = false) (hty : parseFieldDescriptor (T j).2.2.1 = some .boolean) {v : Int32} (hd : decode cc pc = .ok (.putfield index, 3)) (kk : Cp M w sh nL ι (pc + 3) lv st (up2 σ k j v) b) : Cp M w sh nL ι pc lv (.int v :: .ref (wad w k) :: st) σ (gd (v = 0 ∨ v = 1) b) := Cp.grd (fun h => by
  rcases h with rfl | rfl
  · exact Cp.putVN X hC hs j hj hl hf hfin hty (by decide +kernel) (by decide +kernel) hd kk
  · exact Cp.putVN X hC hs j hj hl hf hfin hty (by decide +kernel) (by decide +kernel) hd kk)
theorem Cp.putZcN (X : Cx M w sh cc nL own ret d) {ci : Nat} {C : String} {T : u_T} {N : Nat} {ty0 : Nat → FieldType} (hC : ClOk ci C T N ty0) {k : Nat} {fs : List (Option Nat)} (hs : sh[k]? = some (.inr (ci, fs))) {index : Nat} {host : String} (j : Nat) (hj : j < N) (hl : Cond.fieldLinkNest own index (T j).1 (T j).2.1 (T j).2.2.1 host ∈ TB) (hf : fs[j]? = some none) (hfin : (T j).2.2.2 = false) (hty : parseFieldDescriptor (T j).2.2.1 = some .boolean) {v : Int32} (hv : v = 0 ∨ v = 1) (hd : decode cc pc = .ok (.putfield index, 3)) (kk : Cp M w sh nL ι (pc + 3) lv st (up2 σ k j v) b) : Cp M w sh nL ι pc lv (.int v :: .ref (wad w k) :: st) σ b := by
  have h := Cp.putZN X hC hs j hj hl hf hfin hty hd kk
  rw [gd_t hv] at h
  exact h
theorem Cp.iald (X : Cx M w sh cc nL own ret d) {k n b0 : Nat} (hs : sh[k]? = some (.inl (0, n, b0))) {i : Int32} (hd : decode cc pc = .ok (.iaload, 1)) (kk : Cp M w sh nL ι (pc + 1) lv (.int (σ k i.toNatClampNeg) :: st) σ b) : Cp M w sh nL ι pc lv (.int i :: .ref (wad w k) :: st) σ (gd (inB i n = true) b) := Cp.grd (fun h a ha ls H locs hlv hP hS => va_iald (n := n) (f := σ k) X.x X.b X.k hP k 0 (wM_at hs) rfl (inB_vp h) hd (kk a ha ls H locs hlv hP hS))
theorem Cp.ialdc (X : Cx M w sh cc nL own ret d) {k n b0 : Nat} (hs : sh[k]? = some (.inl (0, n, b0))) {i : Int32} {j : Nat} (hi : inB i n = true) (hj : i.toNatClampNeg = j) (hd : decode cc pc = .ok (.iaload, 1)) (kk : Cp M w sh nL ι (pc + 1) lv (.int (σ k j) :: st) σ b) : Cp M w sh nL ι pc lv (.int i :: .ref (wad w k) :: st) σ b := by
  subst hj
  have h := Cp.iald X hs hd kk
  rw [gd_t hi] at h
  exact h
theorem Cp.bald (X : Cx M w sh cc nL own ret d) {k n b0 : Nat} (hs : sh[k]? = some (.inl (1, n, b0))) {i : Int32} (hd : decode cc pc = .ok (.baload, 1)) (kk : Cp M w sh nL ι (pc + 1) lv (.int (σ k i.toNatClampNeg) :: st) σ b) : Cp M w sh nL ι pc lv (.int i :: .ref (wad w k) :: st) σ (gd (inB i n = true) b) := Cp.grd (fun h a ha ls H locs hlv hP hS => va_bald (n := n) (f := σ k) X.x X.b X.k hP k 1 (wM_at hs) rfl (inB_vp h) hd (kk a ha ls H locs hlv hP hS))
theorem Cp.aald (X : Cx M w sh cc nL own ret d) {k n b0 : Nat} (hs : sh[k]? = some (.inl (2, n, b0))) {i : Int32} (hd : decode cc pc = .ok (.aaload, 1)) (kk : Cp M w sh nL ι (pc + 1) lv (.ref (wad w (b0 + 2 * i.toNatClampNeg)) :: st) σ b) : Cp M w sh nL ι pc lv (.int i :: .ref (wad w k) :: st) σ (gd (inB i n = true) b) := Cp.grd (fun h a ha ls H locs hlv hP hS => va_aldq (n := n) (f := fun j => some (wad w (b0 + 2 * j))) X.x X.b X.k hP k 2 (wM_at hs) rfl (inB_vp h) hd (kk a ha ls H locs hlv hP hS))
theorem Cp.iast (X : Cx M w sh cc nL own ret d) {k n b0 : Nat} (hs : sh[k]? = some (.inl (0, n, b0))) {i x : Int32} (hd : decode cc pc = .ok (.iastore, 1)) (kk : Cp M w sh nL ι (pc + 1) lv st (up2 σ k i.toNatClampNeg x) b) : Cp M w sh nL ι pc lv (.int x :: .int i :: .ref (wad w k) :: st) σ (gd (inB i n = true) b) := Cp.grd (fun h a ha ls H locs hlv hP hS => va_iast (n := n) (f := σ k) X.x X.b X.k hP (X.ok.D σ) hS k 0 (wM_at hs) rfl (inB_vp h) hd (fun H1 locs1 hP1 _ hS1 => kk a ha ls H1 locs1 hlv (by rw [wM_set (e := .inl (wI w, n, .inl (upd (σ k) i.toNatClampNeg x))) (f := upd (σ k) i.toNatClampNeg x) hs rfl] at hP1; exact hP1) hS1))
theorem Cp.iastc (X : Cx M w sh cc nL own ret d) {k n b0 : Nat} (hs : sh[k]? = some (.inl (0, n, b0))) {i x : Int32} {j : Nat} (hi : inB i n = true) (hj : i.toNatClampNeg = j) (hd : decode cc pc = .ok (.iastore, 1)) (kk : Cp M w sh nL ι (pc + 1) lv st (up2 σ k j x) b) : Cp M w sh nL ι pc lv (.int x :: .int i :: .ref (wad w k) :: st) σ b := by
  subst hj
  have h := Cp.iast X hs hd kk
  rw [gd_t hi] at h
  exact h
theorem Cp.bast (X : Cx M w sh cc nL own ret d) {k n b0 : Nat} (hs : sh[k]? = some (.inl (1, n, b0))) {i x : Int32} (hd : decode cc pc = .ok (.bastore, 1)) (kk : Cp M w sh nL ι (pc + 1) lv st (up2 σ k i.toNatClampNeg (vp_nar .byte x)) b) : Cp M w sh nL ι pc lv (.int x :: .int i :: .ref (wad w k) :: st) σ (gd (inB i n = true) b) := Cp.grd (fun h a ha ls H locs hlv hP hS => va_bast (n := n) (f := σ k) X.x X.b X.k hP (X.ok.D σ) hS k 1 (wM_at hs) rfl (inB_vp h) hd (fun H1 locs1 hP1 _ hS1 => kk a ha ls H1 locs1 hlv (by rw [wM_set (e := .inl (wB w, n, .inl (upd (σ k) i.toNatClampNeg (vp_nar .byte x)))) (f := upd (σ k) i.toNatClampNeg (vp_nar .byte x)) hs rfl] at hP1; exact hP1) hS1))
theorem Cp.nameI {e : Int32} {f : Int32 → Option α} (k : ∀ x, Cp M w sh nL ι pc lv (.int x :: st) σ (f x)) : Cp M w sh nL ι pc lv (.int e :: st) σ (pb e f) := k e
theorem Cp.nameB {e : Bool} {f : Bool → Option α} (k : ∀ x, Cp M w sh nL ι pc lv (.int (b2i x) :: st) σ (f x)) : Cp M w sh nL ι pc lv (.int (b2i e) :: st) σ (pb e f) := k e
theorem Cp.nameL {e : Int64} {f : Int64 → Option α} (k : ∀ x, Cp M w sh nL ι pc lv (.long x :: st) σ (f x)) : Cp M w sh nL ι pc lv (.long e :: st) σ (pb e f) := k e
theorem Cp.nameIT {e : Int32} {f : Int32 → α} (k : ∀ x, Cp M w sh nL ι pc lv (.int x :: st) σ (some (f x))) : Cp M w sh nL ι pc lv (.int e :: st) σ (some (pb e f)) := k e
theorem Cp.nameBT {e : Bool} {f : Bool → α} (k : ∀ x, Cp M w sh nL ι pc lv (.int (b2i x) :: st) σ (some (f x))) : Cp M w sh nL ι pc lv (.int (b2i e) :: st) σ (some (pb e f)) := k e
theorem Cp.nameLT {e : Int64} {f : Int64 → α} (k : ∀ x, Cp M w sh nL ι pc lv (.long x :: st) σ (some (f x))) : Cp M w sh nL ι pc lv (.long e :: st) σ (some (pb e f)) := k e
theorem Cp.ite {c : Prop} [Decidable c] {b1 b2 : Option α} (kt : c → Cp M w sh nL ι pc lv st σ b1) (kf : ¬ c → Cp M w sh nL ι pc lv st σ b2) : Cp M w sh nL ι pc lv st σ (if c then b1 else b2) := by
  split
  · rename_i h; exact kt h
  · rename_i h; exact kf h
theorem Cp.iteT {c : Prop} [Decidable c] {v1 v2 : α} (kt : c → Cp M w sh nL ι pc lv st σ (some v1)) (kf : ¬ c → Cp M w sh nL ι pc lv st σ (some v2)) : Cp M w sh nL ι pc lv st σ (some (if c then v1 else v2)) := by
  split
  · rename_i h; exact kt h
  · rename_i h; exact kf h
theorem Cp.tswI (X : Cx M w sh cc nL own ret d) {x : Int32} {dflt lo hi off : Int} {offs : Array Int} {len : Nat} (v : Int32) (tgt : Nat) (h : x = v) (hd : decode cc pc = .ok (.tableswitch dflt lo hi offs, len)) (h1 : ¬ v.toInt < lo) (h2 : ¬ hi < v.toInt) (ho : offs[(v.toInt - lo).toNat]? = some off) (ht : (pc : Int) + off = (tgt : Int)) (k : Cp M w sh nL ι tgt lv st σ b) : Cp M w sh nL ι pc lv (.int x :: st) σ b := fun a ha ls H locs hl hP hS => by
  subst h
  exact lv_tableIn X.x X.b hd h1 h2 ho ht (k a ha ls H locs hl hP hS)
theorem Cp.tswD (X : Cx M w sh cc nL own ret d) {x : Int32} {dflt lo hi : Int} {offs : Array Int} {len : Nat} (tgt : Nat) (h : x.toInt < lo ∨ hi < x.toInt) (hd : decode cc pc = .ok (.tableswitch dflt lo hi offs, len)) (ht : (pc : Int) + dflt = (tgt : Int)) (k : Cp M w sh nL ι tgt lv st σ b) : Cp M w sh nL ι pc lv (.int x :: st) σ b := fun a ha ls H locs hl hP hS => lv_tableOut X.x X.b hd h ht (k a ha ls H locs hl hP hS)
theorem Cp.idivg (X : Cx M w sh cc nL own ret d) {x y : Int32} (hd : decode cc pc = .ok (.idiv, 1)) (k : Cp M w sh nL ι (pc + 1) lv (.int (x / y) :: st) σ b) : Cp M w sh nL ι pc lv (.int y :: .int x :: st) σ (gd (¬ y = 0) b) := Cp.grd (fun h => Cp.idiv X hd h k)
theorem Cp.iremg (X : Cx M w sh cc nL own ret d) {x y : Int32} (hd : decode cc pc = .ok (.irem, 1)) (k : Cp M w sh nL ι (pc + 1) lv (.int (x - x / y * y) :: st) σ b) : Cp M w sh nL ι pc lv (.int y :: .int x :: st) σ (gd (¬ y = 0) b) := Cp.grd (fun h => Cp.irem X hd h k)
theorem Cp.ldivg (X : Cx M w sh cc nL own ret d) {x y : Int64} (hd : decode cc pc = .ok (.ldiv, 1)) (k : Cp M w sh nL ι (pc + 1) lv (.long (x / y) :: st) σ b) : Cp M w sh nL ι pc lv (.long y :: .long x :: st) σ (gd (¬ y = 0) b) := Cp.grd (fun h => Cp.ldiv X hd h k)
theorem Cp.lremg (X : Cx M w sh cc nL own ret d) {x y : Int64} (hd : decode cc pc = .ok (.lrem, 1)) (k : Cp M w sh nL ι (pc + 1) lv (.long (x - x / y * y) :: st) σ b) : Cp M w sh nL ι pc lv (.long y :: .long x :: st) σ (gd (¬ y = 0) b) := Cp.grd (fun h => Cp.lrem X hd h k)
/-! returns -/
theorem Cp.iret (X : Cx M w sh cc nL own (some .int) d) {v : Int32} {a : α} (hd : decode cc pc = .ok (.ireturn, 1)) (hι : ι a = (some (.int v), σ)) : Cp M w sh nL ι pc lv [.int v] σ (some a) := fun a' ha ls H locs hlv hP hS => by
  cases ha
  rw [hι]
  exact W.iret X.x X.b X.r (fun t ht _ => ⟨rfl, by rw [ht]; exact hP, hS.F ht⟩) hS.2.2 hd X.lk
theorem Cp.zret {ty : FieldType} (X : Cx M w sh cc nL own (some ty) d) {v : Int32} {a : α} (hn : narrow ty (.int v) = .int v) (hd : decode cc pc = .ok (.ireturn, 1)) (hι : ι a = (some (.int v), σ)) : Cp M w sh nL ι pc lv [.int v] σ (some a) := fun a' ha ls H locs hlv hP hS => by
  cases ha
  rw [hι]
  exact W.zret X.x X.b X.r hn (fun t ht _ => ⟨rfl, by rw [ht]; exact hP, hS.F ht⟩) hS.2.2 hd X.lk
theorem nar_b2i (v : Bool) : narrow .boolean (.int (b2i v)) = .int (b2i v) := by cases v <;> decide +kernel
theorem Cp.bret (X : Cx M w sh cc nL own (some .boolean) d) {v : Bool} {a : α} (hd : decode cc pc = .ok (.ireturn, 1)) (hι : ι a = (some (.int (b2i v)), σ)) : Cp M w sh nL ι pc lv [.int (b2i v)] σ (some a) := Cp.zret X (nar_b2i v) hd hι
theorem Cp.bretI (X : Cx M w sh cc nL own (some .boolean) d) {v : Int32} {g : Bool → α} (hd : decode cc pc = .ok (.ireturn, 1)) (hι : ∀ x : Bool, ι (g x) = (some (.int (b2i x)), σ)) : Cp M w sh nL ι pc lv [.int v] σ (gd (v = 0 ∨ v = 1) (some (g (decide (v = 1))))) := Cp.grd (fun h => by
  rcases h with rfl | rfl
  · exact Cp.bret X (v := false) hd (hι _)
  · exact Cp.bret X (v := true) hd (hι _))
theorem Cp.lret (X : Cx M w sh cc nL own (some .long) d) {v : Int64} {a : α} (hd : decode cc pc = .ok (.lreturn, 1)) (hι : ι a = (some (.long v), σ)) : Cp M w sh nL ι pc lv [.long v] σ (some a) := fun a' ha ls H locs hlv hP hS => by
  cases ha
  rw [hι]
  exact W.lret X.x X.b X.r (fun t ht _ => ⟨rfl, by rw [ht]; exact hP, hS.F ht⟩) hS.2.2 hd X.lk
theorem Cp.vret (X : Cx M w sh cc nL own none d) {a : α} (hd : decode cc pc = .ok (.return_, 1)) (hι : ι a = (none, σ)) : Cp M w sh nL ι pc lv [] σ (some a) := fun a' ha ls H locs hlv hP hS => by
  cases ha
  rw [hι]
  exact W.vret X.x X.b X.r (fun t ht _ => ⟨rfl, by rw [ht]; exact hP, hS.F ht⟩) hS.2.2 hd X.lk
theorem Cp.aret {n : String} (X : Cx M w sh cc nL own (some (.object n)) d) {v : Nat} {a : α} (hd : decode cc pc = .ok (.areturn, 1)) (hι : ι a = (some (.ref v), σ)) : Cp M w sh nL ι pc lv [.ref v] σ (some a) := fun a' ha ls H locs hlv hP hS => by
  cases ha
  rw [hι]
  exact W.aret X.x X.b X.r (Or.inl ⟨_, rfl⟩) (Or.inr ⟨_, rfl⟩) (fun t ht _ => ⟨rfl, by rw [ht]; exact hP, hS.F ht⟩) hS.2.2 hd X.lk
end
/-! contracts and calls -/
def PcM (w : WE) (sh : List Shp) (σ : Mem) (U : State) : Prop := Wd w sh σ U.heap ∧ va_K (wD w) vwCl (tysW w) U ∧ wa0 w ≤ U.heap.size ∧ Ext w U U.heap
def Ctr (l : Launch) (w : WE) (sh : List Shp) (y : MethodName) (cc : ByteArray) (nL : Nat) (ret : Option FieldType) (d : Nat) (av : List Value) (σ : Mem) (z : Option Value × Mem) : Prop := Met l y (Cond.code y cc nL ret :: TB) (rmD d) (va_Pc av (PcM w sh σ)) (QcM w sh z) 0 0 (AA w)
theorem Ctr.of {l : Launch} {w : WE} {sh : List Shp} {y : MethodName} {cc : ByteArray} {nL : Nat} {ret : Option FieldType} {d : Nat} {av : List Value} {σ : Mem} {z : Option Value × Mem} (lv0 : List (Option Value)) (hy : plainName y.cls = true) (hok : OkW w sh) (hlv : lv_args 0 av = lvl 0 lv0) (hlen : (lg_sl av).length ≤ nL) (h : ∀ M : MC, ml M = l → Cx M w sh cc nL y.cls ret d → St M w sh nL z 0 lv0 [] σ) : Ctr l w sh y cc nL ret d av σ z := by
  refine Met.ofW (cc := cc) (maxL := nL) (ret := ret) hy rfl ?_
  intro p e s m args below meth c s₁ B hml hv
  obtain ⟨rfl, hP, hK, ha0, hE⟩ := hv
  have hts := atoms_spec (ws := Cond.code y cc nL ret :: TB) B.pre
  have hown : s.vm.findClass y.cls = some m.cls := findClass_of_methodNamed B.named
  have hl := lv_entry av (n := nL) hlen
  rw [lg_entry_eq]
  rw [hlv] at hl
  exact h (p, l, e, rmD d, s, m, av.toArray, below, meth, c) rfl ⟨B.exec, B.bytes, hml, hown, fun x hx => hts x (List.mem_cons_of_mem _ hx), hK, hok, ha0, hE, B.returns, B.notSynchronized, rfl⟩ _ s.heap [] hl hP va_S.rf
theorem PcM.blind {w : WE} {sh : List Shp} {σ : Mem} {av : List Value} : FrameBlind (va_Pc av (PcM w sh σ)) := fun a U g mk q => by
  obtain ⟨q0, qP, qK, q1, qE⟩ := q
  exact ⟨q0, qP, va_K.moved (u := U) (U := U.calling g mk a) (Vm.Alike.refl U.vm) qK, q1, Ext.same (u := U) (U := U.calling g mk a) rfl qE⟩
section
variable {M : MC} {w : WE} {sh : List Shp} {cc : ByteArray} {nL : Nat} {own : String} {ret : Option FieldType} {d : Nat} {σ : Mem}
theorem Cx.pre (X : Cx M w sh cc nL own ret d) {H : Heap} {locs : List Loc} (hP : Wd w sh σ H) (hS : va_S (AA w) (mS M).heap H locs) {av : List Value} : ∀ U : State, U.heap = H → (mS M).WarmedH U.vm → va_Pc av (PcM w sh σ) av.toArray U := fun U hU hW => by
  refine ⟨rfl, by rw [hU]; exact hP, va_K.moved hW.alike X.k, by rw [hU]; exact Nat.le_trans X.a0 hS.1, ?_⟩
  rw [hU]
  exact Ext.warm hW (X.e.kept hS.2.1)
/-- behind a call -/
theorem cqM (X : Cx M w sh cc nL own ret d) {H : Heap} {locs : List Loc} {pc : Nat} {ls : Array Slot} {st0 rest : List Value} {a : Array Value} {z : Option Value × Mem} {Q : State → Prop} (hr : va_Run (mp M) (ml M) (me M) (mR M) (mS M) (mm M) (ma M) (mb M) (mt M) (mc M) H locs 0 0 0 0 (F0 (mm M) pc ls st0) rest (QcM w sh z a) (AA w)) (hS : va_S (AA w) (mS M).heap H locs)
    (kk : ∀ (H1 : Heap) (locs1 : List Loc), Wd w sh z.2 H1 → va_S (AA w) (mS M).heap H1 locs1 → WM M H1 locs1 Q (F0 (mm M) (pc + 3) ls (z.1.toList ++ rest))) : WM M H locs Q (F0 (mm M) pc ls st0) := by
  intro T hT XT
  obtain ⟨v, st₀, t, T', L, h0, X', hL, e1, e2, ⟨hv, hP1, hz, hk⟩, stp⟩ := hr T hT XT
  cases hv
  rw [h0] at hz hk
  obtain ⟨t2, a1, b1⟩ := kk T'.heap (locs ++ L) (by rw [e1]; exact hP1)
    ⟨Nat.le_trans hS.1 (by rw [e1]; exact hz), fun q h1 h2 => by rw [e1, hk q (Nat.lt_of_lt_of_le h1 hS.1) h2]; exact hS.2.1 q h1 h2, fun q hq => by
      rcases List.mem_append.mp hq with h | h
      · exact hS.2.2 q h
      · exact hL q h⟩ T' rfl X'
  exact ⟨t2, stp t2 a1, b1⟩
end
/-- what a call needs of the callee -/
def CalB (y : MethodName) (cc' : ByteArray) (nL' : Nat) (ret' : Option FieldType) (n : Nat) : Prop := Cond.code y cc' nL' ret' ∈ TB ∧ Cond.initialized y.cls ∈ TB ∧ y.cls ≠ "java/lang/invoke/MethodHandle" ∧ y.cls ≠ "java/lang/invoke/VarHandle" ∧ (parseMethodDescriptor y.desc).map (fun d => d.parameters.length) = some n
def CalV (y : MethodName) (cc' : ByteArray) (nL' : Nat) (ret' : Option FieldType) (n : Nat) : Prop := CalB y cc' nL' ret' n ∧ Cond.instanceMethod y ∈ TB ∧ Cond.selects y.cls y y ∈ TB
def CalS (y : MethodName) (cc' : ByteArray) (nL' : Nat) (ret' : Option FieldType) (n : Nat) : Prop := CalB y cc' nL' ret' n ∧ Cond.static y ∈ TB
theorem CalB.len {y : MethodName} {cc' : ByteArray} {nL' : Nat} {ret' : Option FieldType} {n : Nat} (h : CalB y cc' nL' ret' n) : ∀ sig, parseMethodDescriptor y.desc = some sig → n = sig.parameters.length := fun sig hs => by
  have h2 := h.2.2.2.2
  rw [hs] at h2
  exact (Option.some.inj h2).symm
/-- room for a call -/
def fitR (d d' nL' : Nat) : Bool := decide (d' + 1 ≤ d) && decide (8 + (nL' + 11) + 36 * d' ≤ 36 * d)
theorem fitR_1 {d d' nL' : Nat} (h : fitR d d' nL' = true) : d' + 1 ≤ d ∧ 8 + (nL' + 11) + 36 * d' ≤ 36 * d := by simpa [fitR] using h
section
variable {M : MC} {w : WE} {sh : List Shp} {cc : ByteArray} {nL : Nat} {own : String} {ret : Option FieldType} {d : Nat} {σ : Mem} {y : MethodName} {cc' : ByteArray} {nL' : Nat} {ret' : Option FieldType} {d' : Nat} {z : Option Value × Mem} {Q : State → Prop} {pc n index : Nat} {ls : Array Slot} {H : Heap} {locs : List Loc} {rest : List Value}
theorem warmTB (X : Cx M w sh cc nL own ret d) (hc : Cond.code y cc' nL' ret' ∈ TB) : ∀ x ∈ (Cond.code y cc' nL' ret' :: TB), ∀ (a' : Array Value) (U : State), (mS M).WarmedH U.vm → x.before a' U = true := fun x hx a' U hW => by
  have hx2 : x ∈ TB := by
    rcases List.mem_cons.mp hx with rfl | h
    · exact hc
    · exact h
  exact tb_warm X.t hW x hx2
theorem runVM (X : Cx M w sh cc nL own ret d) {k ci : Nat} {q : vw_C} {fs : List (Option Nat)} {As : List Value} (hC : CalV y cc' nL' ret' n) (hk : Ctr (ml M) w sh y cc' nL' ret' d' (.ref (wad w k) :: As) σ z) (hs : sh[k]? = some (.inr (ci, fs))) (hq : vwCl[ci]? = some q) (hq1 : q.1 = y.cls) (hl : Cond.methodLink own index y ∈ TB) (hf : fitR d d' nL' = true) (hn : As.length = n) (hd : decode cc pc = .ok (.invokevirtual index, 3)) (hsum : (rest.map fun v => v.category).sum ≤ 8) (hlv : ls.size = nL) (hP : Wd w sh σ H) (hS : va_S (AA w) (mS M).heap H locs)
    (kk : ∀ (H1 : Heap) (locs1 : List Loc), Wd w sh z.2 H1 → va_S (AA w) (mS M).heap H1 locs1 → WM M H1 locs1 Q (F0 (mm M) (pc + 3) ls (z.1.toList ++ rest))) : WM M H locs Q (F0 (mm M) pc ls (As.reverse ++ .ref (wad w k) :: rest)) := by
  obtain ⟨r1, r2⟩ := fitR_1 hf
  refine cqM X (va_runV (C := y.cls) (As := As) (rest := rest) ⟨X.x, X.b, X.ml, X.o, X.t⟩ hk ⟨⟨rfl, rfl, by rw [X.R]; exact r1, by rw [X.R]; exact r2, warmTB X hC.1.1, List.mem_cons_self, X.t _ hC.1.1, X.t _ hC.1.2.1, ⟨hC.1.2.2.1, hC.1.2.2.2.1⟩, hC.1.len, X.t _ hl⟩, X.t _ hC.2.1, X.t _ hC.2.2⟩ ⟨PcM.blind, ?_, X.pre hP hS⟩ rfl hn hlv rfl (lv_room hsum) hd (by rw [X.R]; exact ⟨Nat.le_refl _, Nat.le_refl _⟩)) hS kk
  have h := va_recv X.k hP hq (wM_at (w := w) (σ := σ) hs)
  rw [hq1] at h
  exact h
theorem runSM (X : Cx M w sh cc nL own ret d) {As : List Value} (hC : CalS y cc' nL' ret' n) (hk : Ctr (ml M) w sh y cc' nL' ret' d' As σ z) (hl : Cond.methodLink own index y ∈ TB) (hf : fitR d d' nL' = true) (hn : As.length = n) (hd : decode cc pc = .ok (.invokestatic index, 3)) (hsum : (rest.map fun v => v.category).sum ≤ 8) (hlv : ls.size = nL) (hP : Wd w sh σ H) (hS : va_S (AA w) (mS M).heap H locs)
    (kk : ∀ (H1 : Heap) (locs1 : List Loc), Wd w sh z.2 H1 → va_S (AA w) (mS M).heap H1 locs1 → WM M H1 locs1 Q (F0 (mm M) (pc + 3) ls (z.1.toList ++ rest))) : WM M H locs Q (F0 (mm M) pc ls (As.reverse ++ rest)) := by
  obtain ⟨r1, r2⟩ := fitR_1 hf
  exact cqM X (va_runS (As := As) (rest := rest) ⟨X.x, X.b, X.ml, X.o, X.t⟩ hk ⟨⟨rfl, rfl, by rw [X.R]; exact r1, by rw [X.R]; exact r2, warmTB X hC.1.1, List.mem_cons_self, X.t _ hC.1.1, X.t _ hC.1.2.1, ⟨hC.1.2.2.1, hC.1.2.2.2.1⟩, hC.1.len, X.t _ hl⟩, X.t _ hC.2⟩ ⟨PcM.blind, X.pre hP hS⟩ rfl hn hlv rfl (lv_room hsum) hd (by rw [X.R]; exact ⟨Nat.le_refl _, Nat.le_refl _⟩)) hS kk
theorem runSNM (X : Cx M w sh cc nL own ret d) {host : String} {As : List Value} (hC : CalS y cc' nL' ret' n) (hk : Ctr (ml M) w sh y cc' nL' ret' d' As σ z) (hl : Cond.methodLinkNest own index y host ∈ TB) (hf : fitR d d' nL' = true) (hn : As.length = n) (hd : decode cc pc = .ok (.invokestatic index, 3)) (hsum : (rest.map fun v => v.category).sum ≤ 8) (hlv : ls.size = nL) (hP : Wd w sh σ H) (hS : va_S (AA w) (mS M).heap H locs)
    (kk : ∀ (H1 : Heap) (locs1 : List Loc), Wd w sh z.2 H1 → va_S (AA w) (mS M).heap H1 locs1 → WM M H1 locs1 Q (F0 (mm M) (pc + 3) ls (z.1.toList ++ rest))) : WM M H locs Q (F0 (mm M) pc ls (As.reverse ++ rest)) := by
  obtain ⟨r1, r2⟩ := fitR_1 hf
  exact cqM X (va_runSN (As := As) (rest := rest) ⟨X.x, X.b, X.ml, X.o, X.t⟩ hk ⟨⟨⟨rfl, rfl, by rw [X.R]; exact r1, by rw [X.R]; exact r2, warmTB X hC.1.1, List.mem_cons_self⟩, X.t _ hC.1.1, X.t _ hC.1.2.1, ⟨hC.1.2.2.1, hC.1.2.2.2.1⟩, hC.1.len, X.t _ hl⟩, X.t _ hC.2, trivial⟩ ⟨PcM.blind, X.pre hP hS⟩ rfl hn hlv rfl (lv_room hsum) hd (by rw [X.R]; exact ⟨Nat.le_refl _, Nat.le_refl _⟩)) hS kk
end
section
variable {M : MC} {w : WE} {sh : List Shp} {cc : ByteArray} {nL : Nat} {own : String} {ret : Option FieldType} {d : Nat} {α : Type} {ι : α → Option Value × Mem} {pc : Nat} {lv : List (Option Value)} {stk : List Value} (st : List Value) {σ : Mem} {b : Option α} {y : MethodName} {cc' : ByteArray} {nL' : Nat} {ret' : Option FieldType} {d' n index : Nat}
theorem Cp.cVI (X : Cx M w sh cc nL own ret d) {k ci : Nat} {q : vw_C} {fs : List (Option Nat)} (As : List Value) (hC : CalV y cc' nL' ret' n) {f : Option Int32} {g : Int32 → Option α} (hk : ∀ v, f = some v → Ctr (ml M) w sh y cc' nL' ret' d' (.ref (wad w k) :: As) σ ((iI σ) v)) (hs : sh[k]? = some (.inr (ci, fs))) (hq : vwCl[ci]? = some q) (hq1 : q.1 = y.cls) (hl : Cond.methodLink own index y ∈ TB) (hf : fitR d d' nL' = true) (hn : As.length = n) (hd : decode cc pc = .ok (.invokevirtual index, 3)) (hstk : stk = As.reverse ++ .ref (wad w k) :: st) (hsum : (st.map fun v => v.category).sum ≤ 8) (kk : ∀ v : Int32, Cp M w sh nL ι (pc + 3) lv (.int v :: st) σ (g v)) : Cp M w sh nL ι pc lv stk σ (f.bind g) := fun a ha ls H locs hlv hP hS => by
  subst hstk
  obtain ⟨z0, h0, h1⟩ := Option.bind_eq_some_iff.mp ha
  exact runVM X hC (hk z0 h0) hs hq hq1 hl hf hn hd hsum hlv.1 hP hS (fun H1 locs1 hP1 hS1 => kk z0 a h1 ls H1 locs1 hlv hP1 hS1)
theorem Cp.cVB (X : Cx M w sh cc nL own ret d) {k ci : Nat} {q : vw_C} {fs : List (Option Nat)} (As : List Value) (hC : CalV y cc' nL' ret' n) {f : Option Bool} {g : Bool → Option α} (hk : ∀ v, f = some v → Ctr (ml M) w sh y cc' nL' ret' d' (.ref (wad w k) :: As) σ ((iB σ) v)) (hs : sh[k]? = some (.inr (ci, fs))) (hq : vwCl[ci]? = some q) (hq1 : q.1 = y.cls) (hl : Cond.methodLink own index y ∈ TB) (hf : fitR d d' nL' = true) (hn : As.length = n) (hd : decode cc pc = .ok (.invokevirtual index, 3)) (hstk : stk = As.reverse ++ .ref (wad w k) :: st) (hsum : (st.map fun v => v.category).sum ≤ 8) (kk : ∀ v : Bool, Cp M w sh nL ι (pc + 3) lv (.int (b2i v) :: st) σ (g v)) : Cp M w sh nL ι pc lv stk σ (f.bind g) := fun a ha ls H locs hlv hP hS => by
  subst hstk
  obtain ⟨z0, h0, h1⟩ := Option.bind_eq_some_iff.mp ha
  exact runVM X hC (hk z0 h0) hs hq hq1 hl hf hn hd hsum hlv.1 hP hS (fun H1 locs1 hP1 hS1 => kk z0 a h1 ls H1 locs1 hlv hP1 hS1)
theorem Cp.cVL (X : Cx M w sh cc nL own ret d) {k ci : Nat} {q : vw_C} {fs : List (Option Nat)} (As : List Value) (hC : CalV y cc' nL' ret' n) {f : Option Int64} {g : Int64 → Option α} (hk : ∀ v, f = some v → Ctr (ml M) w sh y cc' nL' ret' d' (.ref (wad w k) :: As) σ ((iL σ) v)) (hs : sh[k]? = some (.inr (ci, fs))) (hq : vwCl[ci]? = some q) (hq1 : q.1 = y.cls) (hl : Cond.methodLink own index y ∈ TB) (hf : fitR d d' nL' = true) (hn : As.length = n) (hd : decode cc pc = .ok (.invokevirtual index, 3)) (hstk : stk = As.reverse ++ .ref (wad w k) :: st) (hsum : (st.map fun v => v.category).sum ≤ 8) (kk : ∀ v : Int64, Cp M w sh nL ι (pc + 3) lv (.long v :: st) σ (g v)) : Cp M w sh nL ι pc lv stk σ (f.bind g) := fun a ha ls H locs hlv hP hS => by
  subst hstk
  obtain ⟨z0, h0, h1⟩ := Option.bind_eq_some_iff.mp ha
  exact runVM X hC (hk z0 h0) hs hq hq1 hl hf hn hd hsum hlv.1 hP hS (fun H1 locs1 hP1 hS1 => kk z0 a h1 ls H1 locs1 hlv hP1 hS1)
theorem Cp.cVIM (X : Cx M w sh cc nL own ret d) {k ci : Nat} {q : vw_C} {fs : List (Option Nat)} (As : List Value) (hC : CalV y cc' nL' ret' n) {f : Option (Int32 × Mem)} {g : Int32 → Mem → Option α} (hk : ∀ v, f = some v → Ctr (ml M) w sh y cc' nL' ret' d' (.ref (wad w k) :: As) σ ((iIM) v)) (hs : sh[k]? = some (.inr (ci, fs))) (hq : vwCl[ci]? = some q) (hq1 : q.1 = y.cls) (hl : Cond.methodLink own index y ∈ TB) (hf : fitR d d' nL' = true) (hn : As.length = n) (hd : decode cc pc = .ok (.invokevirtual index, 3)) (hstk : stk = As.reverse ++ .ref (wad w k) :: st) (hsum : (st.map fun v => v.category).sum ≤ 8) (kk : ∀ (v : Int32) (τ : Mem), Cp M w sh nL ι (pc + 3) lv (.int v :: st) τ (g v τ)) : Cp M w sh nL ι pc lv stk σ (bnd2 f g) := fun a ha ls H locs hlv hP hS => by
  subst hstk
  obtain ⟨z0, h0, h1⟩ := Option.bind_eq_some_iff.mp ha
  exact runVM X hC (hk z0 h0) hs hq hq1 hl hf hn hd hsum hlv.1 hP hS (fun H1 locs1 hP1 hS1 => kk z0.1 z0.2 a h1 ls H1 locs1 hlv hP1 hS1)
theorem Cp.cVBM (X : Cx M w sh cc nL own ret d) {k ci : Nat} {q : vw_C} {fs : List (Option Nat)} (As : List Value) (hC : CalV y cc' nL' ret' n) {f : Option (Bool × Mem)} {g : Bool → Mem → Option α} (hk : ∀ v, f = some v → Ctr (ml M) w sh y cc' nL' ret' d' (.ref (wad w k) :: As) σ ((iBM) v)) (hs : sh[k]? = some (.inr (ci, fs))) (hq : vwCl[ci]? = some q) (hq1 : q.1 = y.cls) (hl : Cond.methodLink own index y ∈ TB) (hf : fitR d d' nL' = true) (hn : As.length = n) (hd : decode cc pc = .ok (.invokevirtual index, 3)) (hstk : stk = As.reverse ++ .ref (wad w k) :: st) (hsum : (st.map fun v => v.category).sum ≤ 8) (kk : ∀ (v : Bool) (τ : Mem), Cp M w sh nL ι (pc + 3) lv (.int (b2i v) :: st) τ (g v τ)) : Cp M w sh nL ι pc lv stk σ (bnd2 f g) := fun a ha ls H locs hlv hP hS => by
  subst hstk
  obtain ⟨z0, h0, h1⟩ := Option.bind_eq_some_iff.mp ha
  exact runVM X hC (hk z0 h0) hs hq hq1 hl hf hn hd hsum hlv.1 hP hS (fun H1 locs1 hP1 hS1 => kk z0.1 z0.2 a h1 ls H1 locs1 hlv hP1 hS1)
theorem Cp.cVV (X : Cx M w sh cc nL own ret d) {k ci : Nat} {q : vw_C} {fs : List (Option Nat)} (As : List Value) (hC : CalV y cc' nL' ret' n) {f : Option Mem} {g : Mem → Option α} (hk : ∀ v, f = some v → Ctr (ml M) w sh y cc' nL' ret' d' (.ref (wad w k) :: As) σ ((iVM) v)) (hs : sh[k]? = some (.inr (ci, fs))) (hq : vwCl[ci]? = some q) (hq1 : q.1 = y.cls) (hl : Cond.methodLink own index y ∈ TB) (hf : fitR d d' nL' = true) (hn : As.length = n) (hd : decode cc pc = .ok (.invokevirtual index, 3)) (hstk : stk = As.reverse ++ .ref (wad w k) :: st) (hsum : (st.map fun v => v.category).sum ≤ 8) (kk : ∀ τ : Mem, Cp M w sh nL ι (pc + 3) lv st τ (g τ)) : Cp M w sh nL ι pc lv stk σ (f.bind g) := fun a ha ls H locs hlv hP hS => by
  subst hstk
  obtain ⟨z0, h0, h1⟩ := Option.bind_eq_some_iff.mp ha
  exact runVM X hC (hk z0 h0) hs hq hq1 hl hf hn hd hsum hlv.1 hP hS (fun H1 locs1 hP1 hS1 => kk z0 a h1 ls H1 locs1 hlv hP1 hS1)
theorem Cp.cVIT (X : Cx M w sh cc nL own ret d) {k ci : Nat} {q : vw_C} {fs : List (Option Nat)} (As : List Value) (hC : CalV y cc' nL' ret' n) {v : Int32} (hk : Ctr (ml M) w sh y cc' nL' ret' d' (.ref (wad w k) :: As) σ (some (.int v), σ)) (hs : sh[k]? = some (.inr (ci, fs))) (hq : vwCl[ci]? = some q) (hq1 : q.1 = y.cls) (hl : Cond.methodLink own index y ∈ TB) (hf : fitR d d' nL' = true) (hn : As.length = n) (hd : decode cc pc = .ok (.invokevirtual index, 3)) (hstk : stk = As.reverse ++ .ref (wad w k) :: st) (hsum : (st.map fun v => v.category).sum ≤ 8) (kk : Cp M w sh nL ι (pc + 3) lv (.int v :: st) σ b) : Cp M w sh nL ι pc lv stk σ b := fun a ha ls H locs hlv hP hS => by subst hstk; exact runVM X hC hk hs hq hq1 hl hf hn hd hsum hlv.1 hP hS (fun H1 locs1 hP1 hS1 => kk a ha ls H1 locs1 hlv hP1 hS1)
theorem Cp.cVBT (X : Cx M w sh cc nL own ret d) {k ci : Nat} {q : vw_C} {fs : List (Option Nat)} (As : List Value) (hC : CalV y cc' nL' ret' n) {v : Bool} (hk : Ctr (ml M) w sh y cc' nL' ret' d' (.ref (wad w k) :: As) σ (some (.int (b2i v)), σ)) (hs : sh[k]? = some (.inr (ci, fs))) (hq : vwCl[ci]? = some q) (hq1 : q.1 = y.cls) (hl : Cond.methodLink own index y ∈ TB) (hf : fitR d d' nL' = true) (hn : As.length = n) (hd : decode cc pc = .ok (.invokevirtual index, 3)) (hstk : stk = As.reverse ++ .ref (wad w k) :: st) (hsum : (st.map fun v => v.category).sum ≤ 8) (kk : Cp M w sh nL ι (pc + 3) lv (.int (b2i v) :: st) σ b) : Cp M w sh nL ι pc lv stk σ b := fun a ha ls H locs hlv hP hS => by subst hstk; exact runVM X hC hk hs hq hq1 hl hf hn hd hsum hlv.1 hP hS (fun H1 locs1 hP1 hS1 => kk a ha ls H1 locs1 hlv hP1 hS1)
theorem Cp.cVLT (X : Cx M w sh cc nL own ret d) {k ci : Nat} {q : vw_C} {fs : List (Option Nat)} (As : List Value) (hC : CalV y cc' nL' ret' n) {v : Int64} (hk : Ctr (ml M) w sh y cc' nL' ret' d' (.ref (wad w k) :: As) σ (some (.long v), σ)) (hs : sh[k]? = some (.inr (ci, fs))) (hq : vwCl[ci]? = some q) (hq1 : q.1 = y.cls) (hl : Cond.methodLink own index y ∈ TB) (hf : fitR d d' nL' = true) (hn : As.length = n) (hd : decode cc pc = .ok (.invokevirtual index, 3)) (hstk : stk = As.reverse ++ .ref (wad w k) :: st) (hsum : (st.map fun v => v.category).sum ≤ 8) (kk : Cp M w sh nL ι (pc + 3) lv (.long v :: st) σ b) : Cp M w sh nL ι pc lv stk σ b := fun a ha ls H locs hlv hP hS => by subst hstk; exact runVM X hC hk hs hq hq1 hl hf hn hd hsum hlv.1 hP hS (fun H1 locs1 hP1 hS1 => kk a ha ls H1 locs1 hlv hP1 hS1)
theorem Cp.cVRT (X : Cx M w sh cc nL own ret d) {k ci : Nat} {q : vw_C} {fs : List (Option Nat)} (As : List Value) (hC : CalV y cc' nL' ret' n) {v : Nat} (hk : Ctr (ml M) w sh y cc' nL' ret' d' (.ref (wad w k) :: As) σ (some (.ref v), σ)) (hs : sh[k]? = some (.inr (ci, fs))) (hq : vwCl[ci]? = some q) (hq1 : q.1 = y.cls) (hl : Cond.methodLink own index y ∈ TB) (hf : fitR d d' nL' = true) (hn : As.length = n) (hd : decode cc pc = .ok (.invokevirtual index, 3)) (hstk : stk = As.reverse ++ .ref (wad w k) :: st) (hsum : (st.map fun v => v.category).sum ≤ 8) (kk : Cp M w sh nL ι (pc + 3) lv (.ref v :: st) σ b) : Cp M w sh nL ι pc lv stk σ b := fun a ha ls H locs hlv hP hS => by subst hstk; exact runVM X hC hk hs hq hq1 hl hf hn hd hsum hlv.1 hP hS (fun H1 locs1 hP1 hS1 => kk a ha ls H1 locs1 hlv hP1 hS1)
theorem Cp.cVVT (X : Cx M w sh cc nL own ret d) {k ci : Nat} {q : vw_C} {fs : List (Option Nat)} (As : List Value) (hC : CalV y cc' nL' ret' n) {τ : Mem} (hk : Ctr (ml M) w sh y cc' nL' ret' d' (.ref (wad w k) :: As) σ (none, τ)) (hs : sh[k]? = some (.inr (ci, fs))) (hq : vwCl[ci]? = some q) (hq1 : q.1 = y.cls) (hl : Cond.methodLink own index y ∈ TB) (hf : fitR d d' nL' = true) (hn : As.length = n) (hd : decode cc pc = .ok (.invokevirtual index, 3)) (hstk : stk = As.reverse ++ .ref (wad w k) :: st) (hsum : (st.map fun v => v.category).sum ≤ 8) (kk : Cp M w sh nL ι (pc + 3) lv st τ b) : Cp M w sh nL ι pc lv stk σ b := fun a ha ls H locs hlv hP hS => by subst hstk; exact runVM X hC hk hs hq hq1 hl hf hn hd hsum hlv.1 hP hS (fun H1 locs1 hP1 hS1 => kk a ha ls H1 locs1 hlv hP1 hS1)
theorem Cp.cVIMT (X : Cx M w sh cc nL own ret d) {k ci : Nat} {q : vw_C} {fs : List (Option Nat)} (As : List Value) (hC : CalV y cc' nL' ret' n) {v : Int32} {τ : Mem} (hk : Ctr (ml M) w sh y cc' nL' ret' d' (.ref (wad w k) :: As) σ (some (.int v), τ)) (hs : sh[k]? = some (.inr (ci, fs))) (hq : vwCl[ci]? = some q) (hq1 : q.1 = y.cls) (hl : Cond.methodLink own index y ∈ TB) (hf : fitR d d' nL' = true) (hn : As.length = n) (hd : decode cc pc = .ok (.invokevirtual index, 3)) (hstk : stk = As.reverse ++ .ref (wad w k) :: st) (hsum : (st.map fun v => v.category).sum ≤ 8) (kk : Cp M w sh nL ι (pc + 3) lv (.int v :: st) τ b) : Cp M w sh nL ι pc lv stk σ b := fun a ha ls H locs hlv hP hS => by subst hstk; exact runVM X hC hk hs hq hq1 hl hf hn hd hsum hlv.1 hP hS (fun H1 locs1 hP1 hS1 => kk a ha ls H1 locs1 hlv hP1 hS1)
theorem Cp.cSI (X : Cx M w sh cc nL own ret d) (As : List Value) (hC : CalS y cc' nL' ret' n) {f : Option Int32} {g : Int32 → Option α} (hk : ∀ v, f = some v → Ctr (ml M) w sh y cc' nL' ret' d' As σ ((iI σ) v)) (hl : Cond.methodLink own index y ∈ TB) (hf : fitR d d' nL' = true) (hn : As.length = n) (hd : decode cc pc = .ok (.invokestatic index, 3)) (hstk : stk = As.reverse ++ st) (hsum : (st.map fun v => v.category).sum ≤ 8) (kk : ∀ v : Int32, Cp M w sh nL ι (pc + 3) lv (.int v :: st) σ (g v)) : Cp M w sh nL ι pc lv stk σ (f.bind g) := fun a ha ls H locs hlv hP hS => by
  subst hstk
  obtain ⟨z0, h0, h1⟩ := Option.bind_eq_some_iff.mp ha
  exact runSM X hC (hk z0 h0) hl hf hn hd hsum hlv.1 hP hS (fun H1 locs1 hP1 hS1 => kk z0 a h1 ls H1 locs1 hlv hP1 hS1)
theorem Cp.cSB (X : Cx M w sh cc nL own ret d) (As : List Value) (hC : CalS y cc' nL' ret' n) {f : Option Bool} {g : Bool → Option α} (hk : ∀ v, f = some v → Ctr (ml M) w sh y cc' nL' ret' d' As σ ((iB σ) v)) (hl : Cond.methodLink own index y ∈ TB) (hf : fitR d d' nL' = true) (hn : As.length = n) (hd : decode cc pc = .ok (.invokestatic index, 3)) (hstk : stk = As.reverse ++ st) (hsum : (st.map fun v => v.category).sum ≤ 8) (kk : ∀ v : Bool, Cp M w sh nL ι (pc + 3) lv (.int (b2i v) :: st) σ (g v)) : Cp M w sh nL ι pc lv stk σ (f.bind g) := fun a ha ls H locs hlv hP hS => by
  subst hstk
  obtain ⟨z0, h0, h1⟩ := Option.bind_eq_some_iff.mp ha
  exact runSM X hC (hk z0 h0) hl hf hn hd hsum hlv.1 hP hS (fun H1 locs1 hP1 hS1 => kk z0 a h1 ls H1 locs1 hlv hP1 hS1)
theorem Cp.cSL (X : Cx M w sh cc nL own ret d) (As : List Value) (hC : CalS y cc' nL' ret' n) {f : Option Int64} {g : Int64 → Option α} (hk : ∀ v, f = some v → Ctr (ml M) w sh y cc' nL' ret' d' As σ ((iL σ) v)) (hl : Cond.methodLink own index y ∈ TB) (hf : fitR d d' nL' = true) (hn : As.length = n) (hd : decode cc pc = .ok (.invokestatic index, 3)) (hstk : stk = As.reverse ++ st) (hsum : (st.map fun v => v.category).sum ≤ 8) (kk : ∀ v : Int64, Cp M w sh nL ι (pc + 3) lv (.long v :: st) σ (g v)) : Cp M w sh nL ι pc lv stk σ (f.bind g) := fun a ha ls H locs hlv hP hS => by
  subst hstk
  obtain ⟨z0, h0, h1⟩ := Option.bind_eq_some_iff.mp ha
  exact runSM X hC (hk z0 h0) hl hf hn hd hsum hlv.1 hP hS (fun H1 locs1 hP1 hS1 => kk z0 a h1 ls H1 locs1 hlv hP1 hS1)
theorem Cp.cSIM (X : Cx M w sh cc nL own ret d) (As : List Value) (hC : CalS y cc' nL' ret' n) {f : Option (Int32 × Mem)} {g : Int32 → Mem → Option α} (hk : ∀ v, f = some v → Ctr (ml M) w sh y cc' nL' ret' d' As σ ((iIM) v)) (hl : Cond.methodLink own index y ∈ TB) (hf : fitR d d' nL' = true) (hn : As.length = n) (hd : decode cc pc = .ok (.invokestatic index, 3)) (hstk : stk = As.reverse ++ st) (hsum : (st.map fun v => v.category).sum ≤ 8) (kk : ∀ (v : Int32) (τ : Mem), Cp M w sh nL ι (pc + 3) lv (.int v :: st) τ (g v τ)) : Cp M w sh nL ι pc lv stk σ (bnd2 f g) := fun a ha ls H locs hlv hP hS => by
  subst hstk
  obtain ⟨z0, h0, h1⟩ := Option.bind_eq_some_iff.mp ha
  exact runSM X hC (hk z0 h0) hl hf hn hd hsum hlv.1 hP hS (fun H1 locs1 hP1 hS1 => kk z0.1 z0.2 a h1 ls H1 locs1 hlv hP1 hS1)
theorem Cp.cSBM (X : Cx M w sh cc nL own ret d) (As : List Value) (hC : CalS y cc' nL' ret' n) {f : Option (Bool × Mem)} {g : Bool → Mem → Option α} (hk : ∀ v, f = some v → Ctr (ml M) w sh y cc' nL' ret' d' As σ ((iBM) v)) (hl : Cond.methodLink own index y ∈ TB) (hf : fitR d d' nL' = true) (hn : As.length = n) (hd : decode cc pc = .ok (.invokestatic index, 3)) (hstk : stk = As.reverse ++ st) (hsum : (st.map fun v => v.category).sum ≤ 8) (kk : ∀ (v : Bool) (τ : Mem), Cp M w sh nL ι (pc + 3) lv (.int (b2i v) :: st) τ (g v τ)) : Cp M w sh nL ι pc lv stk σ (bnd2 f g) := fun a ha ls H locs hlv hP hS => by
  subst hstk
  obtain ⟨z0, h0, h1⟩ := Option.bind_eq_some_iff.mp ha
  exact runSM X hC (hk z0 h0) hl hf hn hd hsum hlv.1 hP hS (fun H1 locs1 hP1 hS1 => kk z0.1 z0.2 a h1 ls H1 locs1 hlv hP1 hS1)
theorem Cp.cSV (X : Cx M w sh cc nL own ret d) (As : List Value) (hC : CalS y cc' nL' ret' n) {f : Option Mem} {g : Mem → Option α} (hk : ∀ v, f = some v → Ctr (ml M) w sh y cc' nL' ret' d' As σ ((iVM) v)) (hl : Cond.methodLink own index y ∈ TB) (hf : fitR d d' nL' = true) (hn : As.length = n) (hd : decode cc pc = .ok (.invokestatic index, 3)) (hstk : stk = As.reverse ++ st) (hsum : (st.map fun v => v.category).sum ≤ 8) (kk : ∀ τ : Mem, Cp M w sh nL ι (pc + 3) lv st τ (g τ)) : Cp M w sh nL ι pc lv stk σ (f.bind g) := fun a ha ls H locs hlv hP hS => by
  subst hstk
  obtain ⟨z0, h0, h1⟩ := Option.bind_eq_some_iff.mp ha
  exact runSM X hC (hk z0 h0) hl hf hn hd hsum hlv.1 hP hS (fun H1 locs1 hP1 hS1 => kk z0 a h1 ls H1 locs1 hlv hP1 hS1)
theorem Cp.cSIT (X : Cx M w sh cc nL own ret d) (As : List Value) (hC : CalS y cc' nL' ret' n) {v : Int32} (hk : Ctr (ml M) w sh y cc' nL' ret' d' As σ (some (.int v), σ)) (hl : Cond.methodLink own index y ∈ TB) (hf : fitR d d' nL' = true) (hn : As.length = n) (hd : decode cc pc = .ok (.invokestatic index, 3)) (hstk : stk = As.reverse ++ st) (hsum : (st.map fun v => v.category).sum ≤ 8) (kk : Cp M w sh nL ι (pc + 3) lv (.int v :: st) σ b) : Cp M w sh nL ι pc lv stk σ b := fun a ha ls H locs hlv hP hS => by subst hstk; exact runSM X hC hk hl hf hn hd hsum hlv.1 hP hS (fun H1 locs1 hP1 hS1 => kk a ha ls H1 locs1 hlv hP1 hS1)
theorem Cp.cSBT (X : Cx M w sh cc nL own ret d) (As : List Value) (hC : CalS y cc' nL' ret' n) {v : Bool} (hk : Ctr (ml M) w sh y cc' nL' ret' d' As σ (some (.int (b2i v)), σ)) (hl : Cond.methodLink own index y ∈ TB) (hf : fitR d d' nL' = true) (hn : As.length = n) (hd : decode cc pc = .ok (.invokestatic index, 3)) (hstk : stk = As.reverse ++ st) (hsum : (st.map fun v => v.category).sum ≤ 8) (kk : Cp M w sh nL ι (pc + 3) lv (.int (b2i v) :: st) σ b) : Cp M w sh nL ι pc lv stk σ b := fun a ha ls H locs hlv hP hS => by subst hstk; exact runSM X hC hk hl hf hn hd hsum hlv.1 hP hS (fun H1 locs1 hP1 hS1 => kk a ha ls H1 locs1 hlv hP1 hS1)
theorem Cp.cSLT (X : Cx M w sh cc nL own ret d) (As : List Value) (hC : CalS y cc' nL' ret' n) {v : Int64} (hk : Ctr (ml M) w sh y cc' nL' ret' d' As σ (some (.long v), σ)) (hl : Cond.methodLink own index y ∈ TB) (hf : fitR d d' nL' = true) (hn : As.length = n) (hd : decode cc pc = .ok (.invokestatic index, 3)) (hstk : stk = As.reverse ++ st) (hsum : (st.map fun v => v.category).sum ≤ 8) (kk : Cp M w sh nL ι (pc + 3) lv (.long v :: st) σ b) : Cp M w sh nL ι pc lv stk σ b := fun a ha ls H locs hlv hP hS => by subst hstk; exact runSM X hC hk hl hf hn hd hsum hlv.1 hP hS (fun H1 locs1 hP1 hS1 => kk a ha ls H1 locs1 hlv hP1 hS1)
theorem Cp.cSRT (X : Cx M w sh cc nL own ret d) (As : List Value) (hC : CalS y cc' nL' ret' n) {v : Nat} (hk : Ctr (ml M) w sh y cc' nL' ret' d' As σ (some (.ref v), σ)) (hl : Cond.methodLink own index y ∈ TB) (hf : fitR d d' nL' = true) (hn : As.length = n) (hd : decode cc pc = .ok (.invokestatic index, 3)) (hstk : stk = As.reverse ++ st) (hsum : (st.map fun v => v.category).sum ≤ 8) (kk : Cp M w sh nL ι (pc + 3) lv (.ref v :: st) σ b) : Cp M w sh nL ι pc lv stk σ b := fun a ha ls H locs hlv hP hS => by subst hstk; exact runSM X hC hk hl hf hn hd hsum hlv.1 hP hS (fun H1 locs1 hP1 hS1 => kk a ha ls H1 locs1 hlv hP1 hS1)
theorem Cp.cSVT (X : Cx M w sh cc nL own ret d) (As : List Value) (hC : CalS y cc' nL' ret' n) {τ : Mem} (hk : Ctr (ml M) w sh y cc' nL' ret' d' As σ (none, τ)) (hl : Cond.methodLink own index y ∈ TB) (hf : fitR d d' nL' = true) (hn : As.length = n) (hd : decode cc pc = .ok (.invokestatic index, 3)) (hstk : stk = As.reverse ++ st) (hsum : (st.map fun v => v.category).sum ≤ 8) (kk : Cp M w sh nL ι (pc + 3) lv st τ b) : Cp M w sh nL ι pc lv stk σ b := fun a ha ls H locs hlv hP hS => by subst hstk; exact runSM X hC hk hl hf hn hd hsum hlv.1 hP hS (fun H1 locs1 hP1 hS1 => kk a ha ls H1 locs1 hlv hP1 hS1)
theorem Cp.cSIMT (X : Cx M w sh cc nL own ret d) (As : List Value) (hC : CalS y cc' nL' ret' n) {v : Int32} {τ : Mem} (hk : Ctr (ml M) w sh y cc' nL' ret' d' As σ (some (.int v), τ)) (hl : Cond.methodLink own index y ∈ TB) (hf : fitR d d' nL' = true) (hn : As.length = n) (hd : decode cc pc = .ok (.invokestatic index, 3)) (hstk : stk = As.reverse ++ st) (hsum : (st.map fun v => v.category).sum ≤ 8) (kk : Cp M w sh nL ι (pc + 3) lv (.int v :: st) τ b) : Cp M w sh nL ι pc lv stk σ b := fun a ha ls H locs hlv hP hS => by subst hstk; exact runSM X hC hk hl hf hn hd hsum hlv.1 hP hS (fun H1 locs1 hP1 hS1 => kk a ha ls H1 locs1 hlv hP1 hS1)
theorem Cp.cNI (X : Cx M w sh cc nL own ret d) {host : String} (As : List Value) (hC : CalS y cc' nL' ret' n) {f : Option Int32} {g : Int32 → Option α} (hk : ∀ v, f = some v → Ctr (ml M) w sh y cc' nL' ret' d' As σ ((iI σ) v)) (hl : Cond.methodLinkNest own index y host ∈ TB) (hf : fitR d d' nL' = true) (hn : As.length = n) (hd : decode cc pc = .ok (.invokestatic index, 3)) (hstk : stk = As.reverse ++ st) (hsum : (st.map fun v => v.category).sum ≤ 8) (kk : ∀ v : Int32, Cp M w sh nL ι (pc + 3) lv (.int v :: st) σ (g v)) : Cp M w sh nL ι pc lv stk σ (f.bind g) := fun a ha ls H locs hlv hP hS => by
  subst hstk
  obtain ⟨z0, h0, h1⟩ := Option.bind_eq_some_iff.mp ha
  exact runSNM X hC (hk z0 h0) hl hf hn hd hsum hlv.1 hP hS (fun H1 locs1 hP1 hS1 => kk z0 a h1 ls H1 locs1 hlv hP1 hS1)
theorem Cp.cNB (X : Cx M w sh cc nL own ret d) {host : String} (As : List Value) (hC : CalS y cc' nL' ret' n) {f : Option Bool} {g : Bool → Option α} (hk : ∀ v, f = some v → Ctr (ml M) w sh y cc' nL' ret' d' As σ ((iB σ) v)) (hl : Cond.methodLinkNest own index y host ∈ TB) (hf : fitR d d' nL' = true) (hn : As.length = n) (hd : decode cc pc = .ok (.invokestatic index, 3)) (hstk : stk = As.reverse ++ st) (hsum : (st.map fun v => v.category).sum ≤ 8) (kk : ∀ v : Bool, Cp M w sh nL ι (pc + 3) lv (.int (b2i v) :: st) σ (g v)) : Cp M w sh nL ι pc lv stk σ (f.bind g) := fun a ha ls H locs hlv hP hS => by
  subst hstk
  obtain ⟨z0, h0, h1⟩ := Option.bind_eq_some_iff.mp ha
  exact runSNM X hC (hk z0 h0) hl hf hn hd hsum hlv.1 hP hS (fun H1 locs1 hP1 hS1 => kk z0 a h1 ls H1 locs1 hlv hP1 hS1)
theorem Cp.cNL (X : Cx M w sh cc nL own ret d) {host : String} (As : List Value) (hC : CalS y cc' nL' ret' n) {f : Option Int64} {g : Int64 → Option α} (hk : ∀ v, f = some v → Ctr (ml M) w sh y cc' nL' ret' d' As σ ((iL σ) v)) (hl : Cond.methodLinkNest own index y host ∈ TB) (hf : fitR d d' nL' = true) (hn : As.length = n) (hd : decode cc pc = .ok (.invokestatic index, 3)) (hstk : stk = As.reverse ++ st) (hsum : (st.map fun v => v.category).sum ≤ 8) (kk : ∀ v : Int64, Cp M w sh nL ι (pc + 3) lv (.long v :: st) σ (g v)) : Cp M w sh nL ι pc lv stk σ (f.bind g) := fun a ha ls H locs hlv hP hS => by
  subst hstk
  obtain ⟨z0, h0, h1⟩ := Option.bind_eq_some_iff.mp ha
  exact runSNM X hC (hk z0 h0) hl hf hn hd hsum hlv.1 hP hS (fun H1 locs1 hP1 hS1 => kk z0 a h1 ls H1 locs1 hlv hP1 hS1)
theorem Cp.cNIM (X : Cx M w sh cc nL own ret d) {host : String} (As : List Value) (hC : CalS y cc' nL' ret' n) {f : Option (Int32 × Mem)} {g : Int32 → Mem → Option α} (hk : ∀ v, f = some v → Ctr (ml M) w sh y cc' nL' ret' d' As σ ((iIM) v)) (hl : Cond.methodLinkNest own index y host ∈ TB) (hf : fitR d d' nL' = true) (hn : As.length = n) (hd : decode cc pc = .ok (.invokestatic index, 3)) (hstk : stk = As.reverse ++ st) (hsum : (st.map fun v => v.category).sum ≤ 8) (kk : ∀ (v : Int32) (τ : Mem), Cp M w sh nL ι (pc + 3) lv (.int v :: st) τ (g v τ)) : Cp M w sh nL ι pc lv stk σ (bnd2 f g) := fun a ha ls H locs hlv hP hS => by
  subst hstk
  obtain ⟨z0, h0, h1⟩ := Option.bind_eq_some_iff.mp ha
  exact runSNM X hC (hk z0 h0) hl hf hn hd hsum hlv.1 hP hS (fun H1 locs1 hP1 hS1 => kk z0.1 z0.2 a h1 ls H1 locs1 hlv hP1 hS1)
theorem Cp.cNBM (X : Cx M w sh cc nL own ret d) {host : String} (As : List Value) (hC : CalS y cc' nL' ret' n) {f : Option (Bool × Mem)} {g : Bool → Mem → Option α} (hk : ∀ v, f = some v → Ctr (ml M) w sh y cc' nL' ret' d' As σ ((iBM) v)) (hl : Cond.methodLinkNest own index y host ∈ TB) (hf : fitR d d' nL' = true) (hn : As.length = n) (hd : decode cc pc = .ok (.invokestatic index, 3)) (hstk : stk = As.reverse ++ st) (hsum : (st.map fun v => v.category).sum ≤ 8) (kk : ∀ (v : Bool) (τ : Mem), Cp M w sh nL ι (pc + 3) lv (.int (b2i v) :: st) τ (g v τ)) : Cp M w sh nL ι pc lv stk σ (bnd2 f g) := fun a ha ls H locs hlv hP hS => by
  subst hstk
  obtain ⟨z0, h0, h1⟩ := Option.bind_eq_some_iff.mp ha
  exact runSNM X hC (hk z0 h0) hl hf hn hd hsum hlv.1 hP hS (fun H1 locs1 hP1 hS1 => kk z0.1 z0.2 a h1 ls H1 locs1 hlv hP1 hS1)
theorem Cp.cNV (X : Cx M w sh cc nL own ret d) {host : String} (As : List Value) (hC : CalS y cc' nL' ret' n) {f : Option Mem} {g : Mem → Option α} (hk : ∀ v, f = some v → Ctr (ml M) w sh y cc' nL' ret' d' As σ ((iVM) v)) (hl : Cond.methodLinkNest own index y host ∈ TB) (hf : fitR d d' nL' = true) (hn : As.length = n) (hd : decode cc pc = .ok (.invokestatic index, 3)) (hstk : stk = As.reverse ++ st) (hsum : (st.map fun v => v.category).sum ≤ 8) (kk : ∀ τ : Mem, Cp M w sh nL ι (pc + 3) lv st τ (g τ)) : Cp M w sh nL ι pc lv stk σ (f.bind g) := fun a ha ls H locs hlv hP hS => by
  subst hstk
  obtain ⟨z0, h0, h1⟩ := Option.bind_eq_some_iff.mp ha
  exact runSNM X hC (hk z0 h0) hl hf hn hd hsum hlv.1 hP hS (fun H1 locs1 hP1 hS1 => kk z0 a h1 ls H1 locs1 hlv hP1 hS1)
theorem Cp.cNIT (X : Cx M w sh cc nL own ret d) {host : String} (As : List Value) (hC : CalS y cc' nL' ret' n) {v : Int32} (hk : Ctr (ml M) w sh y cc' nL' ret' d' As σ (some (.int v), σ)) (hl : Cond.methodLinkNest own index y host ∈ TB) (hf : fitR d d' nL' = true) (hn : As.length = n) (hd : decode cc pc = .ok (.invokestatic index, 3)) (hstk : stk = As.reverse ++ st) (hsum : (st.map fun v => v.category).sum ≤ 8) (kk : Cp M w sh nL ι (pc + 3) lv (.int v :: st) σ b) : Cp M w sh nL ι pc lv stk σ b := fun a ha ls H locs hlv hP hS => by subst hstk; exact runSNM X hC hk hl hf hn hd hsum hlv.1 hP hS (fun H1 locs1 hP1 hS1 => kk a ha ls H1 locs1 hlv hP1 hS1)
theorem Cp.cNBT (X : Cx M w sh cc nL own ret d) {host : String} (As : List Value) (hC : CalS y cc' nL' ret' n) {v : Bool} (hk : Ctr (ml M) w sh y cc' nL' ret' d' As σ (some (.int (b2i v)), σ)) (hl : Cond.methodLinkNest own index y host ∈ TB) (hf : fitR d d' nL' = true) (hn : As.length = n) (hd : decode cc pc = .ok (.invokestatic index, 3)) (hstk : stk = As.reverse ++ st) (hsum : (st.map fun v => v.category).sum ≤ 8) (kk : Cp M w sh nL ι (pc + 3) lv (.int (b2i v) :: st) σ b) : Cp M w sh nL ι pc lv stk σ b := fun a ha ls H locs hlv hP hS => by subst hstk; exact runSNM X hC hk hl hf hn hd hsum hlv.1 hP hS (fun H1 locs1 hP1 hS1 => kk a ha ls H1 locs1 hlv hP1 hS1)
theorem Cp.cNLT (X : Cx M w sh cc nL own ret d) {host : String} (As : List Value) (hC : CalS y cc' nL' ret' n) {v : Int64} (hk : Ctr (ml M) w sh y cc' nL' ret' d' As σ (some (.long v), σ)) (hl : Cond.methodLinkNest own index y host ∈ TB) (hf : fitR d d' nL' = true) (hn : As.length = n) (hd : decode cc pc = .ok (.invokestatic index, 3)) (hstk : stk = As.reverse ++ st) (hsum : (st.map fun v => v.category).sum ≤ 8) (kk : Cp M w sh nL ι (pc + 3) lv (.long v :: st) σ b) : Cp M w sh nL ι pc lv stk σ b := fun a ha ls H locs hlv hP hS => by subst hstk; exact runSNM X hC hk hl hf hn hd hsum hlv.1 hP hS (fun H1 locs1 hP1 hS1 => kk a ha ls H1 locs1 hlv hP1 hS1)
theorem Cp.cNRT (X : Cx M w sh cc nL own ret d) {host : String} (As : List Value) (hC : CalS y cc' nL' ret' n) {v : Nat} (hk : Ctr (ml M) w sh y cc' nL' ret' d' As σ (some (.ref v), σ)) (hl : Cond.methodLinkNest own index y host ∈ TB) (hf : fitR d d' nL' = true) (hn : As.length = n) (hd : decode cc pc = .ok (.invokestatic index, 3)) (hstk : stk = As.reverse ++ st) (hsum : (st.map fun v => v.category).sum ≤ 8) (kk : Cp M w sh nL ι (pc + 3) lv (.ref v :: st) σ b) : Cp M w sh nL ι pc lv stk σ b := fun a ha ls H locs hlv hP hS => by subst hstk; exact runSNM X hC hk hl hf hn hd hsum hlv.1 hP hS (fun H1 locs1 hP1 hS1 => kk a ha ls H1 locs1 hlv hP1 hS1)
theorem Cp.cNVT (X : Cx M w sh cc nL own ret d) {host : String} (As : List Value) (hC : CalS y cc' nL' ret' n) {τ : Mem} (hk : Ctr (ml M) w sh y cc' nL' ret' d' As σ (none, τ)) (hl : Cond.methodLinkNest own index y host ∈ TB) (hf : fitR d d' nL' = true) (hn : As.length = n) (hd : decode cc pc = .ok (.invokestatic index, 3)) (hstk : stk = As.reverse ++ st) (hsum : (st.map fun v => v.category).sum ≤ 8) (kk : Cp M w sh nL ι (pc + 3) lv st τ b) : Cp M w sh nL ι pc lv stk σ b := fun a ha ls H locs hlv hP hS => by subst hstk; exact runSNM X hC hk hl hf hn hd hsum hlv.1 hP hS (fun H1 locs1 hP1 hS1 => kk a ha ls H1 locs1 hlv hP1 hS1)
theorem Cp.cNIMT (X : Cx M w sh cc nL own ret d) {host : String} (As : List Value) (hC : CalS y cc' nL' ret' n) {v : Int32} {τ : Mem} (hk : Ctr (ml M) w sh y cc' nL' ret' d' As σ (some (.int v), τ)) (hl : Cond.methodLinkNest own index y host ∈ TB) (hf : fitR d d' nL' = true) (hn : As.length = n) (hd : decode cc pc = .ok (.invokestatic index, 3)) (hstk : stk = As.reverse ++ st) (hsum : (st.map fun v => v.category).sum ≤ 8) (kk : Cp M w sh nL ι (pc + 3) lv (.int v :: st) τ b) : Cp M w sh nL ι pc lv stk σ b := fun a ha ls H locs hlv hP hS => by subst hstk; exact runSNM X hC hk hl hf hn hd hsum hlv.1 hP hS (fun H1 locs1 hP1 hS1 => kk a ha ls H1 locs1 hlv hP1 hS1)
end
def FU : Nat := 20000
def lw1 {A1 α : Type} (body : (A1 → Option α) → A1 → Option α) : Nat → A1 → Option α
  | 0, _ => none
  | n + 1, a1 => body (lw1 body n) a1
theorem lw1_s {A1 α : Type} (body : (A1 → Option α) → A1 → Option α) (n : Nat) (a1 : A1) : lw1 body (n + 1) a1 = body (lw1 body n) a1 := rfl
theorem lw1_i {A1 α : Type} {body : (A1 → Option α) → A1 → Option α} {P : A1 → Option α → Prop} (h0 : ∀ a1, P a1 none) (hs : ∀ k, (∀ a1, P a1 (k a1)) → ∀ a1, P a1 (body k a1)) : ∀ (n : Nat) (a1 : A1), P a1 (lw1 body n a1)
  | 0, a1 => h0 a1
  | n + 1, a1 => hs _ (lw1_i h0 hs n) a1
def lw2 {A1 A2 α : Type} (body : (A1 → A2 → Option α) → A1 → A2 → Option α) : Nat → A1 → A2 → Option α
  | 0, _, _ => none
  | n + 1, a1, a2 => body (lw2 body n) a1 a2
theorem lw2_s {A1 A2 α : Type} (body : (A1 → A2 → Option α) → A1 → A2 → Option α) (n : Nat) (a1 : A1) (a2 : A2) : lw2 body (n + 1) a1 a2 = body (lw2 body n) a1 a2 := rfl
theorem lw2_i {A1 A2 α : Type} {body : (A1 → A2 → Option α) → A1 → A2 → Option α} {P : A1 → A2 → Option α → Prop} (h0 : ∀ a1 a2, P a1 a2 none) (hs : ∀ k, (∀ a1 a2, P a1 a2 (k a1 a2)) → ∀ a1 a2, P a1 a2 (body k a1 a2)) : ∀ (n : Nat) (a1 : A1) (a2 : A2), P a1 a2 (lw2 body n a1 a2)
  | 0, a1, a2 => h0 a1 a2
  | n + 1, a1, a2 => hs _ (lw2_i h0 hs n) a1 a2
def lw3 {A1 A2 A3 α : Type} (body : (A1 → A2 → A3 → Option α) → A1 → A2 → A3 → Option α) : Nat → A1 → A2 → A3 → Option α
  | 0, _, _, _ => none
  | n + 1, a1, a2, a3 => body (lw3 body n) a1 a2 a3
theorem lw3_s {A1 A2 A3 α : Type} (body : (A1 → A2 → A3 → Option α) → A1 → A2 → A3 → Option α) (n : Nat) (a1 : A1) (a2 : A2) (a3 : A3) : lw3 body (n + 1) a1 a2 a3 = body (lw3 body n) a1 a2 a3 := rfl
theorem lw3_i {A1 A2 A3 α : Type} {body : (A1 → A2 → A3 → Option α) → A1 → A2 → A3 → Option α} {P : A1 → A2 → A3 → Option α → Prop} (h0 : ∀ a1 a2 a3, P a1 a2 a3 none) (hs : ∀ k, (∀ a1 a2 a3, P a1 a2 a3 (k a1 a2 a3)) → ∀ a1 a2 a3, P a1 a2 a3 (body k a1 a2 a3)) : ∀ (n : Nat) (a1 : A1) (a2 : A2) (a3 : A3), P a1 a2 a3 (lw3 body n a1 a2 a3)
  | 0, a1, a2, a3 => h0 a1 a2 a3
  | n + 1, a1, a2, a3 => hs _ (lw3_i h0 hs n) a1 a2 a3
def lw4 {A1 A2 A3 A4 α : Type} (body : (A1 → A2 → A3 → A4 → Option α) → A1 → A2 → A3 → A4 → Option α) : Nat → A1 → A2 → A3 → A4 → Option α
  | 0, _, _, _, _ => none
  | n + 1, a1, a2, a3, a4 => body (lw4 body n) a1 a2 a3 a4
theorem lw4_s {A1 A2 A3 A4 α : Type} (body : (A1 → A2 → A3 → A4 → Option α) → A1 → A2 → A3 → A4 → Option α) (n : Nat) (a1 : A1) (a2 : A2) (a3 : A3) (a4 : A4) : lw4 body (n + 1) a1 a2 a3 a4 = body (lw4 body n) a1 a2 a3 a4 := rfl
theorem lw4_i {A1 A2 A3 A4 α : Type} {body : (A1 → A2 → A3 → A4 → Option α) → A1 → A2 → A3 → A4 → Option α} {P : A1 → A2 → A3 → A4 → Option α → Prop} (h0 : ∀ a1 a2 a3 a4, P a1 a2 a3 a4 none) (hs : ∀ k, (∀ a1 a2 a3 a4, P a1 a2 a3 a4 (k a1 a2 a3 a4)) → ∀ a1 a2 a3 a4, P a1 a2 a3 a4 (body k a1 a2 a3 a4)) : ∀ (n : Nat) (a1 : A1) (a2 : A2) (a3 : A3) (a4 : A4), P a1 a2 a3 a4 (lw4 body n a1 a2 a3 a4)
  | 0, a1, a2, a3, a4 => h0 a1 a2 a3 a4
  | n + 1, a1, a2, a3, a4 => hs _ (lw4_i h0 hs n) a1 a2 a3 a4
def lw5 {A1 A2 A3 A4 A5 α : Type} (body : (A1 → A2 → A3 → A4 → A5 → Option α) → A1 → A2 → A3 → A4 → A5 → Option α) : Nat → A1 → A2 → A3 → A4 → A5 → Option α
  | 0, _, _, _, _, _ => none
  | n + 1, a1, a2, a3, a4, a5 => body (lw5 body n) a1 a2 a3 a4 a5
theorem lw5_s {A1 A2 A3 A4 A5 α : Type} (body : (A1 → A2 → A3 → A4 → A5 → Option α) → A1 → A2 → A3 → A4 → A5 → Option α) (n : Nat) (a1 : A1) (a2 : A2) (a3 : A3) (a4 : A4) (a5 : A5) : lw5 body (n + 1) a1 a2 a3 a4 a5 = body (lw5 body n) a1 a2 a3 a4 a5 := rfl
theorem lw5_i {A1 A2 A3 A4 A5 α : Type} {body : (A1 → A2 → A3 → A4 → A5 → Option α) → A1 → A2 → A3 → A4 → A5 → Option α} {P : A1 → A2 → A3 → A4 → A5 → Option α → Prop} (h0 : ∀ a1 a2 a3 a4 a5, P a1 a2 a3 a4 a5 none) (hs : ∀ k, (∀ a1 a2 a3 a4 a5, P a1 a2 a3 a4 a5 (k a1 a2 a3 a4 a5)) → ∀ a1 a2 a3 a4 a5, P a1 a2 a3 a4 a5 (body k a1 a2 a3 a4 a5)) : ∀ (n : Nat) (a1 : A1) (a2 : A2) (a3 : A3) (a4 : A4) (a5 : A5), P a1 a2 a3 a4 a5 (lw5 body n a1 a2 a3 a4 a5)
  | 0, a1, a2, a3, a4, a5 => h0 a1 a2 a3 a4 a5
  | n + 1, a1, a2, a3, a4, a5 => hs _ (lw5_i h0 hs n) a1 a2 a3 a4 a5
def lw6 {A1 A2 A3 A4 A5 A6 α : Type} (body : (A1 → A2 → A3 → A4 → A5 → A6 → Option α) → A1 → A2 → A3 → A4 → A5 → A6 → Option α) : Nat → A1 → A2 → A3 → A4 → A5 → A6 → Option α
  | 0, _, _, _, _, _, _ => none
  | n + 1, a1, a2, a3, a4, a5, a6 => body (lw6 body n) a1 a2 a3 a4 a5 a6
theorem lw6_s {A1 A2 A3 A4 A5 A6 α : Type} (body : (A1 → A2 → A3 → A4 → A5 → A6 → Option α) → A1 → A2 → A3 → A4 → A5 → A6 → Option α) (n : Nat) (a1 : A1) (a2 : A2) (a3 : A3) (a4 : A4) (a5 : A5) (a6 : A6) : lw6 body (n + 1) a1 a2 a3 a4 a5 a6 = body (lw6 body n) a1 a2 a3 a4 a5 a6 := rfl
theorem lw6_i {A1 A2 A3 A4 A5 A6 α : Type} {body : (A1 → A2 → A3 → A4 → A5 → A6 → Option α) → A1 → A2 → A3 → A4 → A5 → A6 → Option α} {P : A1 → A2 → A3 → A4 → A5 → A6 → Option α → Prop} (h0 : ∀ a1 a2 a3 a4 a5 a6, P a1 a2 a3 a4 a5 a6 none) (hs : ∀ k, (∀ a1 a2 a3 a4 a5 a6, P a1 a2 a3 a4 a5 a6 (k a1 a2 a3 a4 a5 a6)) → ∀ a1 a2 a3 a4 a5 a6, P a1 a2 a3 a4 a5 a6 (body k a1 a2 a3 a4 a5 a6)) : ∀ (n : Nat) (a1 : A1) (a2 : A2) (a3 : A3) (a4 : A4) (a5 : A5) (a6 : A6), P a1 a2 a3 a4 a5 a6 (lw6 body n a1 a2 a3 a4 a5 a6)
  | 0, a1, a2, a3, a4, a5, a6 => h0 a1 a2 a3 a4 a5 a6
  | n + 1, a1, a2, a3, a4, a5, a6 => hs _ (lw6_i h0 hs n) a1 a2 a3 a4 a5 a6
def lw7 {A1 A2 A3 A4 A5 A6 A7 α : Type} (body : (A1 → A2 → A3 → A4 → A5 → A6 → A7 → Option α) → A1 → A2 → A3 → A4 → A5 → A6 → A7 → Option α) : Nat → A1 → A2 → A3 → A4 → A5 → A6 → A7 → Option α
  | 0, _, _, _, _, _, _, _ => none
  | n + 1, a1, a2, a3, a4, a5, a6, a7 => body (lw7 body n) a1 a2 a3 a4 a5 a6 a7
theorem lw7_s {A1 A2 A3 A4 A5 A6 A7 α : Type} (body : (A1 → A2 → A3 → A4 → A5 → A6 → A7 → Option α) → A1 → A2 → A3 → A4 → A5 → A6 → A7 → Option α) (n : Nat) (a1 : A1) (a2 : A2) (a3 : A3) (a4 : A4) (a5 : A5) (a6 : A6) (a7 : A7) : lw7 body (n + 1) a1 a2 a3 a4 a5 a6 a7 = body (lw7 body n) a1 a2 a3 a4 a5 a6 a7 := rfl
theorem lw7_i {A1 A2 A3 A4 A5 A6 A7 α : Type} {body : (A1 → A2 → A3 → A4 → A5 → A6 → A7 → Option α) → A1 → A2 → A3 → A4 → A5 → A6 → A7 → Option α} {P : A1 → A2 → A3 → A4 → A5 → A6 → A7 → Option α → Prop} (h0 : ∀ a1 a2 a3 a4 a5 a6 a7, P a1 a2 a3 a4 a5 a6 a7 none) (hs : ∀ k, (∀ a1 a2 a3 a4 a5 a6 a7, P a1 a2 a3 a4 a5 a6 a7 (k a1 a2 a3 a4 a5 a6 a7)) → ∀ a1 a2 a3 a4 a5 a6 a7, P a1 a2 a3 a4 a5 a6 a7 (body k a1 a2 a3 a4 a5 a6 a7)) : ∀ (n : Nat) (a1 : A1) (a2 : A2) (a3 : A3) (a4 : A4) (a5 : A5) (a6 : A6) (a7 : A7), P a1 a2 a3 a4 a5 a6 a7 (lw7 body n a1 a2 a3 a4 a5 a6 a7)
  | 0, a1, a2, a3, a4, a5, a6, a7 => h0 a1 a2 a3 a4 a5 a6 a7
  | n + 1, a1, a2, a3, a4, a5, a6, a7 => hs _ (lw7_i h0 hs n) a1 a2 a3 a4 a5 a6 a7
def lw8 {A1 A2 A3 A4 A5 A6 A7 A8 α : Type} (body : (A1 → A2 → A3 → A4 → A5 → A6 → A7 → A8 → Option α) → A1 → A2 → A3 → A4 → A5 → A6 → A7 → A8 → Option α) : Nat → A1 → A2 → A3 → A4 → A5 → A6 → A7 → A8 → Option α
  | 0, _, _, _, _, _, _, _, _ => none
  | n + 1, a1, a2, a3, a4, a5, a6, a7, a8 => body (lw8 body n) a1 a2 a3 a4 a5 a6 a7 a8
theorem lw8_s {A1 A2 A3 A4 A5 A6 A7 A8 α : Type} (body : (A1 → A2 → A3 → A4 → A5 → A6 → A7 → A8 → Option α) → A1 → A2 → A3 → A4 → A5 → A6 → A7 → A8 → Option α) (n : Nat) (a1 : A1) (a2 : A2) (a3 : A3) (a4 : A4) (a5 : A5) (a6 : A6) (a7 : A7) (a8 : A8) : lw8 body (n + 1) a1 a2 a3 a4 a5 a6 a7 a8 = body (lw8 body n) a1 a2 a3 a4 a5 a6 a7 a8 := rfl
theorem lw8_i {A1 A2 A3 A4 A5 A6 A7 A8 α : Type} {body : (A1 → A2 → A3 → A4 → A5 → A6 → A7 → A8 → Option α) → A1 → A2 → A3 → A4 → A5 → A6 → A7 → A8 → Option α} {P : A1 → A2 → A3 → A4 → A5 → A6 → A7 → A8 → Option α → Prop} (h0 : ∀ a1 a2 a3 a4 a5 a6 a7 a8, P a1 a2 a3 a4 a5 a6 a7 a8 none) (hs : ∀ k, (∀ a1 a2 a3 a4 a5 a6 a7 a8, P a1 a2 a3 a4 a5 a6 a7 a8 (k a1 a2 a3 a4 a5 a6 a7 a8)) → ∀ a1 a2 a3 a4 a5 a6 a7 a8, P a1 a2 a3 a4 a5 a6 a7 a8 (body k a1 a2 a3 a4 a5 a6 a7 a8)) : ∀ (n : Nat) (a1 : A1) (a2 : A2) (a3 : A3) (a4 : A4) (a5 : A5) (a6 : A6) (a7 : A7) (a8 : A8), P a1 a2 a3 a4 a5 a6 a7 a8 (lw8 body n a1 a2 a3 a4 a5 a6 a7 a8)
  | 0, a1, a2, a3, a4, a5, a6, a7, a8 => h0 a1 a2 a3 a4 a5 a6 a7 a8
  | n + 1, a1, a2, a3, a4, a5, a6, a7, a8 => hs _ (lw8_i h0 hs n) a1 a2 a3 a4 a5 a6 a7 a8
