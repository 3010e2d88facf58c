/-! words of the tables that every method may use -/
def okWord : Cond → Bool
  | .fieldLinkNest .. => true
  | .methodLinkNest .. => true
  | w => goodWord w
def TB : List Cond := lw_tbl.filter okWord
theorem warm_ok {s U : State} {args a' : Array Value} {w : Cond} (hk : okWord w = true) (hW : s.WarmedH U.vm) (h : w.before args s = true) : w.before a' U = true := by
  cases w
  case fieldLinkNest => exact va_Nw.use rfl (va_Nw.warmF hW (va_Nw.of rfl h))
  case methodLinkNest => exact va_Nw.use rfl (va_Nw.warmM hW (va_Nw.of rfl h))
  all_goals exact word_at hW (good_of_word hk) h
theorem tb_t {w : Cond} (i : Nat) (h : tables_1[i]? = some w) (hk : okWord w = true) : w ∈ TB := List.mem_filter.mpr ⟨List.mem_append_right _ (List.mem_of_getElem? h), hk⟩
theorem tb_s {w : Cond} (i : Nat) (h : (k2_sels lw_privs)[i]? = some w) (hk : okWord w = true) : w ∈ TB := List.mem_filter.mpr ⟨List.mem_append_left _ (List.mem_of_getElem? h), hk⟩
theorem tb_warm {s U : State} {args a' : Array Value} (h : ∀ w ∈ TB, w.before args s = true) (hW : s.WarmedH U.vm) : ∀ w ∈ TB, w.before a' U = true := fun w hw => warm_ok (List.mem_filter.mp hw).2 hW (h w hw)
/-! the memory: rows of ints -/
abbrev Mem : Type := Nat → Nat → Int32
def up2 (σ : Mem) (k i : Nat) (v : Int32) : Mem := fun q => if q = k then upd (σ k) i v else σ q
def upR (σ : Mem) (k : Nat) (f : Nat → Int32) : Mem := fun q => if q = k then f else σ q
theorem up2_R (σ : Mem) (k i : Nat) (v : Int32) : up2 σ k i v = upR σ k (upd (σ k) i v) := rfl
theorem upR_s {σ : Mem} {k : Nat} {f : Nat → Int32} : upR σ k f k = f := if_pos rfl
theorem upR_n {σ : Mem} {k q : Nat} {f : Nat → Int32} (h : q ≠ k) : upR σ k f q = σ q := if_neg h
/-- a cell's shape: a row (0 ints, 1 bytes, 2 references to cells base, base + 2, ..; its length; base), or an object (its class, its fields: none an int, some q a reference to cell q) -/
abbrev Shp : Type := (Nat × Nat × Nat) ⊕ (Nat × List (Option Nat))
def fv (ad : Nat → Nat) (row : Nat → Int32) (j : Nat) (f : Option Nat) : Value := match f with
  | none => .int (row j)
  | some q => .ref (ad q)
/-- the world's parameters: tables, the classes of int, byte and Sheet rows, the addresses, the least address that is ours, what else stands on the heap, the addresses of String constants and their rows, of ABOVE -/
abbrev WE : Type := va_G × (ClassId × ClassId × ClassId) × (Nat → Nat) × Nat × va_W × (Nat → Nat) × (Nat → Nat) × Nat
abbrev wD (w : WE) : va_G := w.1
abbrev wI (w : WE) : ClassId := w.2.1.1
abbrev wB (w : WE) : ClassId := w.2.1.2.1
abbrev wO (w : WE) : ClassId := w.2.1.2.2
abbrev wad (w : WE) : Nat → Nat := w.2.2.1
abbrev wa0 (w : WE) : Nat := w.2.2.2.1
abbrev wrest (w : WE) : va_W := w.2.2.2.2.1
abbrev wK (w : WE) : Nat → Nat := w.2.2.2.2.2.1
abbrev wV (w : WE) : Nat → Nat := w.2.2.2.2.2.2.1
abbrev wT (w : WE) : Nat := w.2.2.2.2.2.2.2
def ent (w : WE) (sh : Shp) (row : Nat → Int32) : va_E := match sh with
  | .inl (0, n, _) => .inl (wI w, n, .inl row)
  | .inl (1, n, _) => .inl (wB w, n, .inl row)
  | .inl (_ + 2, n, b) => .inl (wO w, n, .inr (.inr (.inr (.inr (fun j => some (wad w (b + 2 * j)))))))
  | .inr (ci, fs) => .inr (ci, fs.mapIdx (fv (wad w) row))
def wM (w : WE) (sh : List Shp) (σ : Mem) : va_W := sh.mapIdx (fun k s => (wad w k, ent w s (σ k)))
def Wl (w : WE) (sh : List Shp) (σ : Mem) : va_W := wM w sh σ ++ wrest w
def Wd (w : WE) (sh : List Shp) (σ : Mem) (H : Heap) : Prop := va_P (wD w) vwCl (Wl w sh σ) H
abbrev AA (w : WE) : Nat → Prop := fun q => wa0 w ≤ q
abbrev tysW (w : WE) : List (ClassId × FieldType) := [(wI w, .int), (wB w, .byte), (wO w, .object "LaughTax$Sheet")]
theorem wM_len (w : WE) (sh : List Shp) (σ : Mem) : (wM w sh σ).length = sh.length := List.length_mapIdx
theorem wM_at {w : WE} {sh : List Shp} {σ : Mem} {k : Nat} {s : Shp} (h : sh[k]? = some s) : (Wl w sh σ)[k]? = some (wad w k, ent w s (σ k)) := by
  have hk : k < sh.length := (List.getElem?_eq_some_iff.mp h).1
  rw [Wl, List.getElem?_append_left (by rw [wM_len]; exact hk), wM, List.getElem?_mapIdx, h]
  rfl
theorem wM_set {w : WE} {sh : List Shp} {σ : Mem} {k : Nat} {s : Shp} (h : sh[k]? = some s) {f : Nat → Int32} {e : va_E} (he : e = ent w s f) : (Wl w sh σ).set k (wad w k, e) = Wl w sh (upR σ k f) := by
  have hk : k < sh.length := (List.getElem?_eq_some_iff.mp h).1
  rw [Wl, List.set_append_left _ _ (by rw [wM_len]; exact hk), Wl]
  congr 1
  apply List.ext_getElem?
  intro i
  rw [List.getElem?_set, wM, wM, List.getElem?_mapIdx, List.getElem?_mapIdx, List.length_mapIdx]
  by_cases hi : k = i
  · subst hi
    rw [if_pos rfl, if_pos hk, h, he, upR_s]
    rfl
  · rw [if_neg hi, upR_n (Ne.symm hi)]
theorem fv_set {ad : Nat → Nat} {row : Nat → Int32} {fs : List (Option Nat)} {j : Nat} {v : Int32} (h : fs[j]? = some none) : (fs.mapIdx (fv ad row)).set j (.int v) = fs.mapIdx (fv ad (upd row j v)) := by
  have hj : j < fs.length := (List.getElem?_eq_some_iff.mp h).1
  apply List.ext_getElem?
  intro i
  rw [List.getElem?_set, List.getElem?_mapIdx, List.getElem?_mapIdx, List.length_mapIdx]
  by_cases hi : j = i
  · subst hi
    rw [if_pos rfl, if_pos hj, h]
    show _ = some (Value.int (upd row j v j))
    rw [pk_us]
  · rw [if_neg hi]
    cases hq : fs[i]? with
    | none => rfl
    | some o => cases o with
      | none => show some (Value.int (row i)) = some (Value.int (upd row j v i)); rw [pk_un (Ne.symm hi)]
      | some q => rfl
/-! String constants and statics: what stands on the heap before us -/
/-- a method's own world, whatever the memory holds -/
def OkW (w : WE) (sh : List Shp) : Prop := va_D (AA w) (Wl w sh (fun _ _ => 0))
theorem wM_D {w : WE} {sh : List Shp} {σ τ : Mem} {A : Nat → Prop} (h : va_D A (Wl w sh σ)) : va_D A (Wl w sh τ) := by
  have key : ∀ (k : Nat) (q : Nat × va_E), (Wl w sh τ)[k]? = some q → ∃ q0, (Wl w sh σ)[k]? = some q0 ∧ q0.1 = q.1 := by
    intro k q hk
    rw [Wl, List.getElem?_append, wM_len] at hk
    rw [Wl, List.getElem?_append, wM_len]
    by_cases hl : k < sh.length
    · rw [if_pos hl, wM, List.getElem?_mapIdx] at hk
      rw [if_pos hl, wM, List.getElem?_mapIdx]
      cases hs : sh[k]? with
      | none => rw [hs] at hk; cases hk
      | some s => rw [hs] at hk; cases hk; exact ⟨_, rfl, rfl⟩
    · rw [if_neg hl] at hk
      rw [if_neg hl]
      exact ⟨q, hk, rfl⟩
  refine ⟨fun i j x y hi hj hxy => ?_, fun k q hk => ?_⟩
  · obtain ⟨x0, h1, h2⟩ := key i x hi
    obtain ⟨y0, h3, h4⟩ := key j y hj
    exact h.1 i j x0 y0 h1 h3 (h2.trans (hxy.trans h4.symm))
  · obtain ⟨q0, h1, h2⟩ := key k q hk
    rw [← h2]
    exact h.2 k q0 h1
theorem OkW.D {w : WE} {sh : List Shp} (h : OkW w sh) (σ : Mem) : va_D (AA w) (Wl w sh σ) := wM_D h
