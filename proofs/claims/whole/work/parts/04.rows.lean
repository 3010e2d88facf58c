/-! what stands on the heap before us: String constants, the row ABOVE, the JDK's statics -/
def abv (j : Nat) : Int32 := ([-1, 0, 0, 2, 3, 0, 1] : List Int32).getD j 0
def strs : List (List Int32) := [[104, 101, 97, 114, 101, 114], [115, 116, 114, 97, 105, 103, 104, 116], [103, 105, 103, 103, 108, 101, 114], [97, 117, 110, 116], [102, 111, 111, 108], [99, 104, 105, 108, 100], [105, 110, 115, 112, 101, 99, 116, 111, 114], [106, 111, 107, 101], [114, 97, 116, 101], [114, 101, 97, 99, 104], [111, 110], [116, 97, 115, 116, 101], [109, 111, 111, 100], [112, 117, 114, 115, 101], [59]]
def strL (i : Nat) : Nat := (strs.getD i []).length
def strC (i k : Nat) : Int32 := (strs.getD i []).getD k 0
def strTab : List (String × Nat × String × Nat) := [("LaughTax$Tape", 132, "hearer", 0), ("LaughTax$Tape", 134, "straight", 1), ("LaughTax$Tape", 136, "giggler", 2), ("LaughTax$Tape", 138, "aunt", 3), ("LaughTax$Tape", 140, "fool", 4), ("LaughTax$Tape", 142, "child", 5), ("LaughTax$Tape", 144, "inspector", 6), ("LaughTax$Tape", 71, "on", 10), ("LaughTax$Tape", 88, "taste", 11), ("LaughTax$Tape", 92, "mood", 12), ("LaughTax$Tape", 96, "purse", 13), ("LaughTax$Tape", 47, "joke", 7), ("LaughTax$Tape", 52, "rate", 8), ("LaughTax$Tape", 57, "reach", 9), ("LaughTaxModel", 257, "hearer", 0), ("LaughTaxModel", 259, "straight", 1), ("LaughTaxModel", 261, "giggler", 2), ("LaughTaxModel", 263, "aunt", 3), ("LaughTaxModel", 265, "fool", 4), ("LaughTaxModel", 267, "child", 5), ("LaughTaxModel", 269, "inspector", 6), ("LaughTaxModel", 277, "on", 10), ("LaughTaxModel", 283, "taste", 11), ("LaughTaxModel", 285, "mood", 12), ("LaughTaxModel", 287, "purse", 13), ("LaughTaxModel", 296, "joke", 7), ("LaughTaxModel", 301, "rate", 8), ("LaughTaxModel", 303, "reach", 9), ("LaughTaxModel", 308, ";", 14)]
def ExtS (w : WE) (U : State) (H : Heap) : Prop := ∀ i : Nat, i < 15 → va_O "java/lang/String" (wK w i) (AA w) U H ∧ va_OF "java/lang/String" "coder" "B" (.int 0) (wK w i) (AA w) U H ∧ va_OF "java/lang/String" "value" "[B" (.ref (wV w i)) (wK w i) (AA w) U H ∧ va_T .byte (wV w i) (strL i) (fun j => .int (strC i j)) (AA w) U H
def Ext (w : WE) (U : State) (H : Heap) : Prop :=
  (va_Z "LaughTax$Kinds" "ABOVE" "[I" (.ref (wT w)) (AA w) U H ∧ va_T .int (wT w) 7 (fun j => .int (abv j)) (AA w) U H) ∧ ExtS w U H ∧ (∀ q ∈ strTab, vk_R q.1 q.2.1 q.2.2.1 (wK w q.2.2.2) U) ∧ va_Z "java/lang/String" "COMPACT_STRINGS" "Z" (.int 1) (AA w) U H ∧ va_Zq "jdk/internal/util/Preconditions" "SIOOBE_FORMATTER" "Ljava/util/function/BiFunction;" (AA w) U H
theorem Ext.kept {w : WE} {U : State} {H H1 : Heap} (h : Ext w U H) (hq : ∀ a : Nat, a < H.size → ¬ AA w a → H1[a]? = H[a]?) : Ext w U H1 :=
  ⟨⟨h.1.1.kept hq, h.1.2.kept hq⟩, fun i hi => ⟨(h.2.1 i hi).1.kept hq, (h.2.1 i hi).2.1.kept hq, (h.2.1 i hi).2.2.1.kept hq, (h.2.1 i hi).2.2.2.kept hq⟩, h.2.2.1, h.2.2.2.1.kept hq, h.2.2.2.2.kept hq⟩
theorem Ext.warm {w : WE} {s U : State} {H : Heap} (hW : s.WarmedH U.vm) (h : Ext w s H) : Ext w U H :=
  ⟨⟨h.1.1.moved hW.alike, h.1.2.moved hW.alike⟩, fun i hi => ⟨(h.2.1 i hi).1.moved hW.alike, (h.2.1 i hi).2.1.moved hW.alike, (h.2.1 i hi).2.2.1.moved hW.alike, (h.2.1 i hi).2.2.2.moved hW.alike⟩, fun q hq => (h.2.2.1 q hq).warm hW, h.2.2.2.1.moved hW.alike, h.2.2.2.2.moved hW.alike⟩
theorem Ext.same {w : WE} {u U : State} {H : Heap} (hv : U.vm = u.vm) (h : Ext w u H) : Ext w U H := by
  have ha : u.vm.Alike U.vm := by rw [hv]; exact Vm.Alike.refl _
  exact ⟨⟨h.1.1.moved ha, h.1.2.moved ha⟩, fun i hi => ⟨(h.2.1 i hi).1.moved ha, (h.2.1 i hi).2.1.moved ha, (h.2.1 i hi).2.2.1.moved ha, (h.2.1 i hi).2.2.2.moved ha⟩, fun q hq => (h.2.2.1 q hq).same hv, h.2.2.2.1.moved ha, h.2.2.2.2.moved ha⟩

/-! locals by place -/
def lvl : Nat → List (Option Value) → List (Nat × Value)
  | _, [] => []
  | i, none :: t => lvl (i + 1) t
  | i, some v :: t => (i, v) :: lvl (i + 1) t
theorem lvl_mem : ∀ (lv : List (Option Value)) (i j : Nat) (v : Value), (j, v) ∈ lvl i lv ↔ i ≤ j ∧ lv[j - i]? = some (some v)
  | [], i, j, v => by simp [lvl]
  | none :: t, i, j, v => by
    rw [lvl, lvl_mem t (i + 1) j v]
    constructor
    · rintro ⟨h1, h2⟩
      refine ⟨by omega, ?_⟩
      rw [show j - i = (j - (i + 1)) + 1 by omega, List.getElem?_cons_succ]
      exact h2
    · rintro ⟨h1, h2⟩
      rcases Nat.eq_or_lt_of_le h1 with e | e
      · subst e
        rw [Nat.sub_self, List.getElem?_cons_zero] at h2
        cases h2
      · refine ⟨e, ?_⟩
        rw [show j - i = (j - (i + 1)) + 1 by omega, List.getElem?_cons_succ] at h2
        exact h2
  | some u :: t, i, j, v => by
    rw [lvl, List.mem_cons, lvl_mem t (i + 1) j v]
    constructor
    · rintro (h | ⟨h1, h2⟩)
      · cases h
        exact ⟨Nat.le_refl _, by rw [Nat.sub_self, List.getElem?_cons_zero]⟩
      · refine ⟨by omega, ?_⟩
        rw [show j - i = (j - (i + 1)) + 1 by omega, List.getElem?_cons_succ]
        exact h2
    · rintro ⟨h1, h2⟩
      rcases Nat.eq_or_lt_of_le h1 with e | e
      · subst e
        rw [Nat.sub_self, List.getElem?_cons_zero] at h2
        cases h2
        exact Or.inl rfl
      · refine Or.inr ⟨e, ?_⟩
        rw [show j - i = (j - (i + 1)) + 1 by omega, List.getElem?_cons_succ] at h2
        exact h2
def lvH (ls : Array Slot) (nL : Nat) (lv : List (Option Value)) : Prop := lv_has ls nL (lvl 0 lv)
theorem lvH.at {ls : Array Slot} {nL : Nat} {lv : List (Option Value)} (h : lvH ls nL lv) {i : Nat} {v : Value} (hi : lv[i]? = some (some v)) : ls[i]? = some (.val v) := h.2.2 (i, v) ((lvl_mem lv 0 i v).mpr ⟨Nat.zero_le _, hi⟩)
def lvNo (lv : List (Option Value)) : Nat → Bool
  | 0 => true
  | j + 1 => match lv[j]? with
    | some (some (.long _)) => false
    | some (some (.double _)) => false
    | _ => true
theorem lvNo_cat {lv : List (Option Value)} {i j : Nat} {v : Value} (h : lvNo lv i = true) (hj : j + 1 = i) (hv : lv[j]? = some (some v)) : (v.category == 2) = false := by
  subst hj
  simp only [lvNo, hv] at h
  cases v <;> first | rfl | (simp at h)
theorem lvH.set1 {ls : Array Slot} {nL : Nat} {lv : List (Option Value)} {i : Nat} {x : Value} (hn : lvNo lv i = true) (h : lv_has ls nL ((i, x) :: (lvl 0 lv).filter (fun q => !(q.1 == i) && !(q.1 + 1 == i && q.2.category == 2)))) : lvH ls nL (lv.set i (some x)) := by
  refine ⟨h.1, h.2.1, fun q hq => ?_⟩
  obtain ⟨j, v⟩ := q
  have hq2 := ((lvl_mem _ 0 j v).mp hq).2
  rw [Nat.sub_zero, List.getElem?_set] at hq2
  by_cases hj : i = j
  · subst hj
    rw [if_pos rfl] at hq2
    by_cases hl : i < lv.length
    · rw [if_pos hl] at hq2
      cases hq2
      exact h.2.2 _ List.mem_cons_self
    · rw [if_neg hl] at hq2
      cases hq2
  · rw [if_neg hj] at hq2
    refine h.2.2 (j, v) (List.mem_cons_of_mem _ (List.mem_filter.mpr ⟨(lvl_mem lv 0 j v).mpr ⟨Nat.zero_le _, hq2⟩, ?_⟩))
    have h1 : (j == i) = false := by simp; omega
    by_cases hc : j + 1 = i
    · have h2 := lvNo_cat hn hc hq2
      simp [h1, h2]
    · have h3 : (j + 1 == i) = false := by simp; omega
      simp [h1, h3]
theorem lvH.set2 {ls : Array Slot} {nL : Nat} {lv : List (Option Value)} {i : Nat} {x : Value} (hn : lvNo lv i = true) (h : lv_has ls nL ((i, x) :: (lvl 0 lv).filter (fun q => !(q.1 == i) && (!(q.1 == i + 1) && !(q.1 + 1 == i && q.2.category == 2))))) : lvH ls nL ((lv.set i (some x)).set (i + 1) none) := by
  refine ⟨h.1, h.2.1, fun q hq => ?_⟩
  obtain ⟨j, v⟩ := q
  have hq2 := ((lvl_mem _ 0 j v).mp hq).2
  rw [Nat.sub_zero, List.getElem?_set] at hq2
  by_cases hj1 : i + 1 = j
  · rw [if_pos hj1] at hq2
    split at hq2 <;> cases hq2
  rw [if_neg hj1, List.getElem?_set] at hq2
  by_cases hj : i = j
  · subst hj
    rw [if_pos rfl] at hq2
    by_cases hl : i < lv.length
    · rw [if_pos hl] at hq2
      cases hq2
      exact h.2.2 _ List.mem_cons_self
    · rw [if_neg hl] at hq2
      cases hq2
  · rw [if_neg hj] at hq2
    refine h.2.2 (j, v) (List.mem_cons_of_mem _ (List.mem_filter.mpr ⟨(lvl_mem lv 0 j v).mpr ⟨Nat.zero_le _, hq2⟩, ?_⟩))
    have h1 : (j == i) = false := by simp; omega
    have h4 : (j == i + 1) = false := by simp; omega
    by_cases hc : j + 1 = i
    · have h2 := lvNo_cat hn hc hq2
      simp [h1, h2, h4]
    · have h3 : (j + 1 == i) = false := by simp; omega
      simp [h1, h3, h4]
def lvMask : List Bool → List (Option Value) → List (Option Value)
  | b :: bs, v :: vs => (if b = true then v else none) :: lvMask bs vs
  | _, _ => []
theorem lvMask_at : ∀ (bs : List Bool) (lv : List (Option Value)) (j : Nat) (v : Value), (lvMask bs lv)[j]? = some (some v) → lv[j]? = some (some v)
  | [], lv, j, v, h => by cases lv <;> simp [lvMask] at h
  | b :: bs, [], j, v, h => by simp [lvMask] at h
  | b :: bs, u :: us, 0, v, h => by
    rw [lvMask, List.getElem?_cons_zero] at h
    rw [List.getElem?_cons_zero]
    cases b
    · simp at h
    · simpa using h
  | b :: bs, u :: us, j + 1, v, h => by
    rw [lvMask, List.getElem?_cons_succ] at h
    rw [List.getElem?_cons_succ]
    exact lvMask_at bs us j v h
theorem lvH.mask {ls : Array Slot} {nL : Nat} {lv : List (Option Value)} (bs : List Bool) (h : lvH ls nL lv) : lvH ls nL (lvMask bs lv) := by
  refine ⟨h.1, h.2.1, fun q hq => ?_⟩
  obtain ⟨j, v⟩ := q
  have hq2 := ((lvl_mem _ 0 j v).mp hq).2
  exact h.at (lvMask_at bs lv j v hq2)

/-! the judgement -/
abbrev MC : Type := Program × Launch × Env × Room × State × MethodId × Array Value × List Frame × Method × Code
abbrev mp (M : MC) : Program := M.1
abbrev ml (M : MC) : Launch := M.2.1
abbrev me (M : MC) : Env := M.2.2.1
abbrev mR (M : MC) : Room := M.2.2.2.1
abbrev mS (M : MC) : State := M.2.2.2.2.1
abbrev mm (M : MC) : MethodId := M.2.2.2.2.2.1
abbrev ma (M : MC) : Array Value := M.2.2.2.2.2.2.1
abbrev mb (M : MC) : List Frame := M.2.2.2.2.2.2.2.1
abbrev mt (M : MC) : Method := M.2.2.2.2.2.2.2.2.1
abbrev mc (M : MC) : Code := M.2.2.2.2.2.2.2.2.2
abbrev WM (M : MC) (H : Heap) (locs : List Loc) (Q : State → Prop) (g : JFrame) : Prop := W (mp M) (ml M) (me M) (mR M) (mS M) (mm M) (ma M) (mb M) (mt M) (mc M) H locs 0 0 Q g
def rmD (d : Nat) : Room := { frames := d, cells := 0, slots := 0, locals := 36 * d }
def Cx (M : MC) (w : WE) (sh : List Shp) (cc : ByteArray) (nL : Nat) (own : String) (ret : Option FieldType) (d : Nat) : Prop :=
  (mp M).tables.exec = Jvm.exec ∧ (mc M).code = cc ∧ (mc M).maxLocals = nL ∧ (mS M).vm.findClass own = some (mm M).cls ∧ (∀ x ∈ TB, x.before (ma M) (mS M) = true) ∧ va_K (wD w) vwCl (tysW w) (mS M) ∧ OkW w sh ∧ wa0 w ≤ (mS M).heap.size ∧ Ext w (mS M) (mS M).heap ∧ (mt M).sig.returnType = ret ∧ (mt M).locks = false ∧ mR M = rmD d
section
variable {M : MC} {w : WE} {sh : List Shp} {cc : ByteArray} {nL : Nat} {own : String} {ret : Option FieldType} {d : Nat}
theorem Cx.x (X : Cx M w sh cc nL own ret d) : (mp M).tables.exec = Jvm.exec := X.1
theorem Cx.b (X : Cx M w sh cc nL own ret d) : (mc M).code = cc := X.2.1
theorem Cx.ml (X : Cx M w sh cc nL own ret d) : (mc M).maxLocals = nL := X.2.2.1
theorem Cx.o (X : Cx M w sh cc nL own ret d) : (mS M).vm.findClass own = some (mm M).cls := X.2.2.2.1
theorem Cx.t (X : Cx M w sh cc nL own ret d) : ∀ x ∈ TB, x.before (ma M) (mS M) = true := X.2.2.2.2.1
theorem Cx.k (X : Cx M w sh cc nL own ret d) : va_K (wD w) vwCl (tysW w) (mS M) := X.2.2.2.2.2.1
theorem Cx.ok (X : Cx M w sh cc nL own ret d) : OkW w sh := X.2.2.2.2.2.2.1
theorem Cx.a0 (X : Cx M w sh cc nL own ret d) : wa0 w ≤ (mS M).heap.size := X.2.2.2.2.2.2.2.1
theorem Cx.e (X : Cx M w sh cc nL own ret d) : Ext w (mS M) (mS M).heap := X.2.2.2.2.2.2.2.2.1
theorem Cx.r (X : Cx M w sh cc nL own ret d) : (mt M).sig.returnType = ret := X.2.2.2.2.2.2.2.2.2.1
theorem Cx.lk (X : Cx M w sh cc nL own ret d) : (mt M).locks = false := X.2.2.2.2.2.2.2.2.2.2.1
theorem Cx.R (X : Cx M w sh cc nL own ret d) : mR M = rmD d := X.2.2.2.2.2.2.2.2.2.2.2
end
/-- a method's end: the answer and the memory -/
def QcM (w : WE) (sh : List Shp) (z : Option Value × Mem) : Array Value → State → Outcome → State → Prop := fun _ st oc t => oc = .returned z.1 ∧ Wd w sh z.2 t.heap ∧ va_F (AA w) st t
def St (M : MC) (w : WE) (sh : List Shp) (nL : Nat) (z : Option Value × Mem) (pc : Nat) (lv : List (Option Value)) (st : List Value) (σ : Mem) : Prop :=
  ∀ (ls : Array Slot) (H : Heap) (locs : List Loc), lvH ls nL lv → Wd w sh σ H → va_S (AA w) (mS M).heap H locs → WM M H locs (MQ (mb M) (QcM w sh z) (ma M) (mS M) 0 0 (AA w)) (F0 (mm M) pc ls st)
/-- from this place on the program computes b -/
def Cp (M : MC) (w : WE) (sh : List Shp) (nL : Nat) {α : Type} (ι : α → Option Value × Mem) (pc : Nat) (lv : List (Option Value)) (st : List Value) (σ : Mem) (b : Option α) : Prop := ∀ a, b = some a → St M w sh nL (ι a) pc lv st σ
def gd {α : Type} (c : Prop) [Decidable c] (b : Option α) : Option α := if c then b else none
def pb {α β : Type} (e : α) (f : α → β) : β := f e
def b2i (b : Bool) : Int32 := if b = true then 1 else 0
theorem gd_t {α : Type} {c : Prop} [Decidable c] {b : Option α} (h : c) : gd c b = b := if_pos h
section
variable {M : MC} {w : WE} {sh : List Shp} {cc : ByteArray} {nL : Nat} {own : String} {ret : Option FieldType} {d : Nat} {α : Type} {ι : α → Option Value × Mem} {pc : Nat} {lv : List (Option Value)} {st : List Value} {σ : Mem} {b b1 b2 : Option α}
theorem Cp.non : Cp M w sh nL ι pc lv st σ (none : Option α) := fun a h => by cases h
theorem Cp.grd {c : Prop} [Decidable c] (k : c → Cp M w sh nL ι pc lv st σ b) : Cp M w sh nL ι pc lv st σ (gd c b) := by
  unfold gd
  split
  · rename_i h; exact k h
  · exact Cp.non
theorem Cp.mask (bs : List Bool) (k : Cp M w sh nL ι pc (lvMask bs lv) st σ b) : Cp M w sh nL ι pc lv st σ b := fun a ha ls H locs hl hP hS => k a ha ls H locs (hl.mask bs) hP hS
theorem Cp.nameM {e : Mem} {f : Mem → Option α} (k : ∀ x, Cp M w sh nL ι pc lv st x (f x)) : Cp M w sh nL ι pc lv st e (pb e f) := k e
theorem Cp.eqB (h : b1 = b2) (k : Cp M w sh nL ι pc lv st σ b2) : Cp M w sh nL ι pc lv st σ b1 := h ▸ k

theorem Cp.iconst (X : Cx M w sh cc nL own ret d) {n : Int} {v : Int32} (hd : decode cc pc = .ok (.iconst n, 1)) (hv : Int32.ofInt n = v) (k : Cp M w sh nL ι (pc + 1) lv (.int v :: st) σ b) : Cp M w sh nL ι pc lv (st) σ b := fun a ha ls H locs hl hP hS => lv_iconst X.x X.b hd hv (k a ha ls H locs hl hP hS)
theorem Cp.bipush (X : Cx M w sh cc nL own ret d) {n : Int} {v : Int32} (hd : decode cc pc = .ok (.bipush n, 2)) (hv : (Int8.ofInt n).toInt32 = v) (k : Cp M w sh nL ι (pc + 2) lv (.int v :: st) σ b) : Cp M w sh nL ι pc lv (st) σ b := fun a ha ls H locs hl hP hS => lv_bipush X.x X.b hd hv (k a ha ls H locs hl hP hS)
theorem Cp.sipush (X : Cx M w sh cc nL own ret d) {n : Int} {v : Int32} (hd : decode cc pc = .ok (.sipush n, 3)) (hv : (Int16.ofInt n).toInt32 = v) (k : Cp M w sh nL ι (pc + 3) lv (.int v :: st) σ b) : Cp M w sh nL ι pc lv (st) σ b := fun a ha ls H locs hl hP hS => lv_sipush X.x X.b hd hv (k a ha ls H locs hl hP hS)
theorem Cp.lconst (X : Cx M w sh cc nL own ret d) {n : Fin 2} {v : Int64} (hd : decode cc pc = .ok (.lconst n, 1)) (hv : Int64.ofNat (n : Nat) = v) (k : Cp M w sh nL ι (pc + 1) lv (.long v :: st) σ b) : Cp M w sh nL ι pc lv (st) σ b := fun a ha ls H locs hl hP hS => lv_lconst X.x X.b hd hv (k a ha ls H locs hl hP hS)
theorem Cp.ldc (X : Cx M w sh cc nL own ret d) {index : Nat} {v : Int32} (hc : Cond.constant own index v ∈ TB) (hd : decode cc pc = .ok (.ldc index, 2)) (k : Cp M w sh nL ι (pc + 2) lv (.int v :: st) σ b) : Cp M w sh nL ι pc lv (st) σ b := fun a ha ls H locs hl hP hS => lv_ldc X.x X.b X.o (X.t _ hc) hd (k a ha ls H locs hl hP hS)
theorem Cp.ldcw (X : Cx M w sh cc nL own ret d) {index : Nat} {v : Int32} (hc : Cond.constant own index v ∈ TB) (hd : decode cc pc = .ok (.ldc_w index, 3)) (k : Cp M w sh nL ι (pc + 3) lv (.int v :: st) σ b) : Cp M w sh nL ι pc lv (st) σ b := fun a ha ls H locs hl hP hS => lv_ldcw X.x X.b X.o (X.t _ hc) hd (k a ha ls H locs hl hP hS)
theorem Cp.ldc2 (X : Cx M w sh cc nL own ret d) {index : Nat} {v : Int64} (hc : Cond.constantLong own index v ∈ TB) (hd : decode cc pc = .ok (.ldc2_w index, 3)) (k : Cp M w sh nL ι (pc + 3) lv (.long v :: st) σ b) : Cp M w sh nL ι pc lv (st) σ b := fun a ha ls H locs hl hP hS => lv_ldc2 X.x X.b X.o (X.t _ hc) hd (k a ha ls H locs hl hP hS)
theorem Cp.iload_n (X : Cx M w sh cc nL own ret d) {n : Fin 4} {i : Nat} {x : Int32} (hd : decode cc pc = .ok (.iload_n n, 1)) (hi : (n : Nat) = i) (hv : lv[i]? = some (some (.int x))) (k : Cp M w sh nL ι (pc + 1) lv (.int x :: st) σ b) : Cp M w sh nL ι pc lv (st) σ b := fun a ha ls H locs hl hP hS => lv_iload_n X.x X.b hd hi (hl.at hv) (k a ha ls H locs hl hP hS)
theorem Cp.iload (X : Cx M w sh cc nL own ret d) {i : Nat} {x : Int32} (hd : decode cc pc = .ok (.iload i, 2)) (hv : lv[i]? = some (some (.int x))) (k : Cp M w sh nL ι (pc + 2) lv (.int x :: st) σ b) : Cp M w sh nL ι pc lv (st) σ b := fun a ha ls H locs hl hP hS => lv_iload X.x X.b hd (hl.at hv) (k a ha ls H locs hl hP hS)
theorem Cp.lload_n (X : Cx M w sh cc nL own ret d) {n : Fin 4} {i : Nat} {x : Int64} (hd : decode cc pc = .ok (.lload_n n, 1)) (hi : (n : Nat) = i) (hv : lv[i]? = some (some (.long x))) (k : Cp M w sh nL ι (pc + 1) lv (.long x :: st) σ b) : Cp M w sh nL ι pc lv (st) σ b := fun a ha ls H locs hl hP hS => lv_lload_n X.x X.b hd hi (hl.at hv) (k a ha ls H locs hl hP hS)
theorem Cp.lload (X : Cx M w sh cc nL own ret d) {i : Nat} {x : Int64} (hd : decode cc pc = .ok (.lload i, 2)) (hv : lv[i]? = some (some (.long x))) (k : Cp M w sh nL ι (pc + 2) lv (.long x :: st) σ b) : Cp M w sh nL ι pc lv (st) σ b := fun a ha ls H locs hl hP hS => lv_lload X.x X.b hd (hl.at hv) (k a ha ls H locs hl hP hS)
theorem Cp.aload_n (X : Cx M w sh cc nL own ret d) {n : Fin 4} {i : Nat} {x : Nat} (hd : decode cc pc = .ok (.aload_n n, 1)) (hi : (n : Nat) = i) (hv : lv[i]? = some (some (.ref x))) (k : Cp M w sh nL ι (pc + 1) lv (.ref x :: st) σ b) : Cp M w sh nL ι pc lv (st) σ b := fun a ha ls H locs hl hP hS => lv_aload_n X.x X.b hd hi (hl.at hv) (k a ha ls H locs hl hP hS)
theorem Cp.aload (X : Cx M w sh cc nL own ret d) {i : Nat} {x : Nat} (hd : decode cc pc = .ok (.aload i, 2)) (hv : lv[i]? = some (some (.ref x))) (k : Cp M w sh nL ι (pc + 2) lv (.ref x :: st) σ b) : Cp M w sh nL ι pc lv (st) σ b := fun a ha ls H locs hl hP hS => lv_aload X.x X.b hd (hl.at hv) (k a ha ls H locs hl hP hS)
theorem Cp.istore_n (X : Cx M w sh cc nL own ret d) {n : Fin 4} {i : Nat} {x : Int32} (hd : decode cc pc = .ok (.istore_n n, 1)) (hi : (n : Nat) = i) (hn : i < nL) (hno : lvNo lv i = true) (k : Cp M w sh nL ι (pc + 1) (lv.set i (some (.int x))) st σ b) : Cp M w sh nL ι pc lv (.int x :: st) σ b := fun a ha ls H locs hl hP hS => lv_istore_n X.x X.b hd hi hl hn rfl (fun ls' h => k a ha ls' H locs (lvH.set1 hno h) hP hS)
theorem Cp.istore (X : Cx M w sh cc nL own ret d) {i : Nat} {x : Int32} (hd : decode cc pc = .ok (.istore i, 2)) (hn : i < nL) (hno : lvNo lv i = true) (k : Cp M w sh nL ι (pc + 2) (lv.set i (some (.int x))) st σ b) : Cp M w sh nL ι pc lv (.int x :: st) σ b := fun a ha ls H locs hl hP hS => lv_istore X.x X.b hd hl hn rfl (fun ls' h => k a ha ls' H locs (lvH.set1 hno h) hP hS)
theorem Cp.astore_n (X : Cx M w sh cc nL own ret d) {n : Fin 4} {i : Nat} {x : Nat} (hd : decode cc pc = .ok (.astore_n n, 1)) (hi : (n : Nat) = i) (hn : i < nL) (hno : lvNo lv i = true) (k : Cp M w sh nL ι (pc + 1) (lv.set i (some (.ref x))) st σ b) : Cp M w sh nL ι pc lv (.ref x :: st) σ b := fun a ha ls H locs hl hP hS => lv_astore_n X.x X.b hd hi hl hn rfl (fun ls' h => k a ha ls' H locs (lvH.set1 hno h) hP hS)
theorem Cp.astore (X : Cx M w sh cc nL own ret d) {i : Nat} {x : Nat} (hd : decode cc pc = .ok (.astore i, 2)) (hn : i < nL) (hno : lvNo lv i = true) (k : Cp M w sh nL ι (pc + 2) (lv.set i (some (.ref x))) st σ b) : Cp M w sh nL ι pc lv (.ref x :: st) σ b := fun a ha ls H locs hl hP hS => lv_astore X.x X.b hd hl hn rfl (fun ls' h => k a ha ls' H locs (lvH.set1 hno h) hP hS)
theorem Cp.lstore_n (X : Cx M w sh cc nL own ret d) {n : Fin 4} {i : Nat} {x : Int64} (hd : decode cc pc = .ok (.lstore_n n, 1)) (hi : (n : Nat) = i) (hn : i + 1 < nL) (hno : lvNo lv i = true) (k : Cp M w sh nL ι (pc + 1) ((lv.set i (some (.long x))).set (i + 1) none) st σ b) : Cp M w sh nL ι pc lv (.long x :: st) σ b := fun a ha ls H locs hl hP hS => lv_lstore_n X.x X.b hd hi hl hn rfl (fun ls' h => k a ha ls' H locs (lvH.set2 hno h) hP hS)
theorem Cp.lstore (X : Cx M w sh cc nL own ret d) {i : Nat} {x : Int64} (hd : decode cc pc = .ok (.lstore i, 2)) (hn : i + 1 < nL) (hno : lvNo lv i = true) (k : Cp M w sh nL ι (pc + 2) ((lv.set i (some (.long x))).set (i + 1) none) st σ b) : Cp M w sh nL ι pc lv (.long x :: st) σ b := fun a ha ls H locs hl hP hS => lv_lstore X.x X.b hd hl hn rfl (fun ls' h => k a ha ls' H locs (lvH.set2 hno h) hP hS)
theorem lvl_pos {lv : List (Option Value)} {i : Nat} {v : Value} (h : lv[i]? = some (some v)) : ∃ k : Nat, (lvl 0 lv)[k]? = some (i, v) := List.getElem?_of_mem ((lvl_mem lv 0 i v).mpr ⟨Nat.zero_le _, h⟩)
theorem Cp.iinc (X : Cx M w sh cc nL own ret d) {i : Nat} {n : Int} {x v : Int32} (hd : decode cc pc = .ok (.iinc i n, 3)) (hx : lv[i]? = some (some (.int x))) (hv : x + Int32.ofInt n = v) (hn : i < nL) (hno : lvNo lv i = true) (k : Cp M w sh nL ι (pc + 3) (lv.set i (some (.int v))) st σ b) : Cp M w sh nL ι pc lv st σ b := fun a ha ls H locs hl hP hS => by
  obtain ⟨kk, hk⟩ := lvl_pos hx
  exact lv_iinc X.x X.b hd hl hk hv hn rfl (fun ls' h => k a ha ls' H locs (lvH.set1 hno h) hP hS)
theorem Cp.iadd (X : Cx M w sh cc nL own ret d) {x y : Int32} (hd : decode cc pc = .ok (.iadd, 1)) (k : Cp M w sh nL ι (pc + 1) lv (.int (x + y) :: st) σ b) : Cp M w sh nL ι pc lv (.int y :: .int x :: st) σ b := fun a ha ls H locs hl hP hS => lv_iadd X.x X.b hd (k a ha ls H locs hl hP hS)
theorem Cp.isub (X : Cx M w sh cc nL own ret d) {x y : Int32} (hd : decode cc pc = .ok (.isub, 1)) (k : Cp M w sh nL ι (pc + 1) lv (.int (x - y) :: st) σ b) : Cp M w sh nL ι pc lv (.int y :: .int x :: st) σ b := fun a ha ls H locs hl hP hS => lv_isub X.x X.b hd (k a ha ls H locs hl hP hS)
theorem Cp.imul (X : Cx M w sh cc nL own ret d) {x y : Int32} (hd : decode cc pc = .ok (.imul, 1)) (k : Cp M w sh nL ι (pc + 1) lv (.int (x * y) :: st) σ b) : Cp M w sh nL ι pc lv (.int y :: .int x :: st) σ b := fun a ha ls H locs hl hP hS => lv_imul X.x X.b hd (k a ha ls H locs hl hP hS)
theorem Cp.iand (X : Cx M w sh cc nL own ret d) {x y : Int32} (hd : decode cc pc = .ok (.iand, 1)) (k : Cp M w sh nL ι (pc + 1) lv (.int (x &&& y) :: st) σ b) : Cp M w sh nL ι pc lv (.int y :: .int x :: st) σ b := fun a ha ls H locs hl hP hS => lv_iand X.x X.b hd (k a ha ls H locs hl hP hS)
theorem Cp.ior (X : Cx M w sh cc nL own ret d) {x y : Int32} (hd : decode cc pc = .ok (.ior, 1)) (k : Cp M w sh nL ι (pc + 1) lv (.int (x ||| y) :: st) σ b) : Cp M w sh nL ι pc lv (.int y :: .int x :: st) σ b := fun a ha ls H locs hl hP hS => lv_ior X.x X.b hd (k a ha ls H locs hl hP hS)
theorem Cp.ixor (X : Cx M w sh cc nL own ret d) {x y : Int32} (hd : decode cc pc = .ok (.ixor, 1)) (k : Cp M w sh nL ι (pc + 1) lv (.int (x ^^^ y) :: st) σ b) : Cp M w sh nL ι pc lv (.int y :: .int x :: st) σ b := fun a ha ls H locs hl hP hS => lv_ixor X.x X.b hd (k a ha ls H locs hl hP hS)
theorem Cp.ishl (X : Cx M w sh cc nL own ret d) {x y : Int32} (hd : decode cc pc = .ok (.ishl, 1)) (k : Cp M w sh nL ι (pc + 1) lv (.int (x <<< (y &&& 31)) :: st) σ b) : Cp M w sh nL ι pc lv (.int y :: .int x :: st) σ b := fun a ha ls H locs hl hP hS => lv_ishl X.x X.b hd (k a ha ls H locs hl hP hS)
theorem Cp.ishr (X : Cx M w sh cc nL own ret d) {x y : Int32} (hd : decode cc pc = .ok (.ishr, 1)) (k : Cp M w sh nL ι (pc + 1) lv (.int (x >>> (y &&& 31)) :: st) σ b) : Cp M w sh nL ι pc lv (.int y :: .int x :: st) σ b := fun a ha ls H locs hl hP hS => lv_ishr X.x X.b hd (k a ha ls H locs hl hP hS)
theorem Cp.iushr (X : Cx M w sh cc nL own ret d) {x y : Int32} (hd : decode cc pc = .ok (.iushr, 1)) (k : Cp M w sh nL ι (pc + 1) lv (.int ((x.toUInt32 >>> (y.toUInt32 &&& Int32.toUInt32 31)).toInt32) :: st) σ b) : Cp M w sh nL ι pc lv (.int y :: .int x :: st) σ b := fun a ha ls H locs hl hP hS => lv_iushr X.x X.b hd rfl (k a ha ls H locs hl hP hS)
theorem Cp.idiv (X : Cx M w sh cc nL own ret d) {x y : Int32} (hd : decode cc pc = .ok (.idiv, 1)) (hy : ¬ y = 0) (k : Cp M w sh nL ι (pc + 1) lv (.int (x / y) :: st) σ b) : Cp M w sh nL ι pc lv (.int y :: .int x :: st) σ b := fun a ha ls H locs hl hP hS => lv_idiv X.x X.b hd hy (k a ha ls H locs hl hP hS)
theorem Cp.irem (X : Cx M w sh cc nL own ret d) {x y : Int32} (hd : decode cc pc = .ok (.irem, 1)) (hy : ¬ y = 0) (k : Cp M w sh nL ι (pc + 1) lv (.int (x - x / y * y) :: st) σ b) : Cp M w sh nL ι pc lv (.int y :: .int x :: st) σ b := fun a ha ls H locs hl hP hS => lv_irem X.x X.b hd hy (k a ha ls H locs hl hP hS)
theorem Cp.ineg (X : Cx M w sh cc nL own ret d) {x : Int32} (hd : decode cc pc = .ok (.ineg, 1)) (k : Cp M w sh nL ι (pc + 1) lv (.int (-x) :: st) σ b) : Cp M w sh nL ι pc lv (.int x :: st) σ b := fun a ha ls H locs hl hP hS => lv_ineg X.x X.b hd (k a ha ls H locs hl hP hS)
theorem Cp.ladd (X : Cx M w sh cc nL own ret d) {x y : Int64} (hd : decode cc pc = .ok (.ladd, 1)) (k : Cp M w sh nL ι (pc + 1) lv (.long (x + y) :: st) σ b) : Cp M w sh nL ι pc lv (.long y :: .long x :: st) σ b := fun a ha ls H locs hl hP hS => lv_ladd X.x X.b hd (k a ha ls H locs hl hP hS)
theorem Cp.lmul (X : Cx M w sh cc nL own ret d) {x y : Int64} (hd : decode cc pc = .ok (.lmul, 1)) (k : Cp M w sh nL ι (pc + 1) lv (.long (x * y) :: st) σ b) : Cp M w sh nL ι pc lv (.long y :: .long x :: st) σ b := fun a ha ls H locs hl hP hS => lv_lmul X.x X.b hd (k a ha ls H locs hl hP hS)
theorem Cp.ldiv (X : Cx M w sh cc nL own ret d) {x y : Int64} (hd : decode cc pc = .ok (.ldiv, 1)) (hy : ¬ y = 0) (k : Cp M w sh nL ι (pc + 1) lv (.long (x / y) :: st) σ b) : Cp M w sh nL ι pc lv (.long y :: .long x :: st) σ b := fun a ha ls H locs hl hP hS => lv_ldiv X.x X.b hd hy (k a ha ls H locs hl hP hS)
theorem Cp.lrem (X : Cx M w sh cc nL own ret d) {x y : Int64} (hd : decode cc pc = .ok (.lrem, 1)) (hy : ¬ y = 0) (k : Cp M w sh nL ι (pc + 1) lv (.long (x - x / y * y) :: st) σ b) : Cp M w sh nL ι pc lv (.long y :: .long x :: st) σ b := fun a ha ls H locs hl hP hS => lv_lrem X.x X.b hd hy (k a ha ls H locs hl hP hS)
theorem Cp.lcmp (X : Cx M w sh cc nL own ret d) {x y : Int64} (hd : decode cc pc = .ok (.lcmp, 1)) (k : Cp M w sh nL ι (pc + 1) lv (.int (lg_cmp x y) :: st) σ b) : Cp M w sh nL ι pc lv (.long y :: .long x :: st) σ b := fun a ha ls H locs hl hP hS => W.lcmp X.x X.b hd (k a ha ls H locs hl hP hS)
theorem Cp.i2l (X : Cx M w sh cc nL own ret d) {x : Int32} (hd : decode cc pc = .ok (.i2l, 1)) (k : Cp M w sh nL ι (pc + 1) lv (.long x.toInt64 :: st) σ b) : Cp M w sh nL ι pc lv (.int x :: st) σ b := fun a ha ls H locs hl hP hS => lv_i2l X.x X.b hd rfl (k a ha ls H locs hl hP hS)
theorem Cp.i2b (X : Cx M w sh cc nL own ret d) {x : Int32} (hd : decode cc pc = .ok (.i2b, 1)) (k : Cp M w sh nL ι (pc + 1) lv (.int x.toInt8.toInt32 :: st) σ b) : Cp M w sh nL ι pc lv (.int x :: st) σ b := fun a ha ls H locs hl hP hS => lv_i2b X.x X.b hd rfl (k a ha ls H locs hl hP hS)
theorem Cp.i2s (X : Cx M w sh cc nL own ret d) {x : Int32} (hd : decode cc pc = .ok (.i2s, 1)) (k : Cp M w sh nL ι (pc + 1) lv (.int x.toInt16.toInt32 :: st) σ b) : Cp M w sh nL ι pc lv (.int x :: st) σ b := fun a ha ls H locs hl hP hS => lv_i2s X.x X.b hd rfl (k a ha ls H locs hl hP hS)
theorem Cp.dup (X : Cx M w sh cc nL own ret d) {v : Value} (hd : decode cc pc = .ok (.dup, 1)) (h1 : v.category = 1) (k : Cp M w sh nL ι (pc + 1) lv (v :: v :: st) σ b) : Cp M w sh nL ι pc lv (v :: st) σ b := fun a ha ls H locs hl hP hS => lv_dup X.x X.b hd h1 (k a ha ls H locs hl hP hS)
theorem Cp.pop (X : Cx M w sh cc nL own ret d) {v : Value} (hd : decode cc pc = .ok (.pop, 1)) (h1 : v.category = 1) (k : Cp M w sh nL ι (pc + 1) lv (st) σ b) : Cp M w sh nL ι pc lv (v :: st) σ b := fun a ha ls H locs hl hP hS => lv_pop X.x X.b hd h1 (k a ha ls H locs hl hP hS)
theorem Cp.dup2 (X : Cx M w sh cc nL own ret d) {v u : Value} (hd : decode cc pc = .ok (.dup2, 1)) (h1 : v.category = 1) (h2 : u.category = 1) (k : Cp M w sh nL ι (pc + 1) lv (v :: u :: v :: u :: st) σ b) : Cp M w sh nL ι pc lv (v :: u :: st) σ b := fun a ha ls H locs hl hP hS => lv_dup2_11 X.x X.b hd h1 h2 (k a ha ls H locs hl hP hS)
theorem Cp.dup_x1 (X : Cx M w sh cc nL own ret d) {v u : Value} (hd : decode cc pc = .ok (.dup_x1, 1)) (h1 : v.category = 1) (h2 : u.category = 1) (k : Cp M w sh nL ι (pc + 1) lv (v :: u :: v :: st) σ b) : Cp M w sh nL ι pc lv (v :: u :: st) σ b := fun a ha ls H locs hl hP hS => lv_dup_x1 X.x X.b hd h1 h2 (k a ha ls H locs hl hP hS)
theorem Cp.goto (X : Cx M w sh cc nL own ret d) {off : Int} (tgt : Nat) (hd : decode cc pc = .ok (.goto off, 3)) (ht : (pc : Int) + off = (tgt : Int)) (k : Cp M w sh nL ι tgt lv st σ b) : Cp M w sh nL ι pc lv st σ b := fun a ha ls H locs hl hP hS => lv_goto X.x X.b hd ht (k a ha ls H locs hl hP hS)
theorem Cp.if_eq (X : Cx M w sh cc nL own ret d) {x : Int32} {off : Int} (tgt : Nat) (hd : decode cc pc = .ok (.ifCond .eq off, 3)) (ht : (pc : Int) + off = (tgt : Int)) (kt : (x = 0) → Cp M w sh nL ι tgt lv st σ b1) (kf : ¬ (x = 0) → Cp M w sh nL ι (pc + 3) lv st σ b2) : Cp M w sh nL ι pc lv (.int x :: st) σ (if x = 0 then b1 else b2) := fun a ha ls H locs hl hP hS => lv_if_eq X.x X.b hd ht (fun h => kt h a ((if_pos h).symm.trans ha) ls H locs hl hP hS) (fun h => kf h a ((if_neg h).symm.trans ha) ls H locs hl hP hS)
theorem Cp.if_eqT (X : Cx M w sh cc nL own ret d) {x : Int32} {off : Int} {v1 v2 : α} (tgt : Nat) (hd : decode cc pc = .ok (.ifCond .eq off, 3)) (ht : (pc : Int) + off = (tgt : Int)) (kt : (x = 0) → Cp M w sh nL ι tgt lv st σ (some v1)) (kf : ¬ (x = 0) → Cp M w sh nL ι (pc + 3) lv st σ (some v2)) : Cp M w sh nL ι pc lv (.int x :: st) σ (some (if x = 0 then v1 else v2)) := by
  rw [show (some (if x = 0 then v1 else v2) : Option α) = if x = 0 then some v1 else some v2 by split <;> rfl]
  exact Cp.if_eq X tgt hd ht kt kf
theorem Cp.icmp_eq (X : Cx M w sh cc nL own ret d) {x y : Int32} {off : Int} (tgt : Nat) (hd : decode cc pc = .ok (.if_icmp .eq off, 3)) (ht : (pc : Int) + off = (tgt : Int)) (kt : (x = y) → Cp M w sh nL ι tgt lv st σ b1) (kf : ¬ (x = y) → Cp M w sh nL ι (pc + 3) lv st σ b2) : Cp M w sh nL ι pc lv (.int y :: .int x :: st) σ (if x = y then b1 else b2) := fun a ha ls H locs hl hP hS => lv_icmp_eq X.x X.b hd ht (fun h => kt h a ((if_pos h).symm.trans ha) ls H locs hl hP hS) (fun h => kf h a ((if_neg h).symm.trans ha) ls H locs hl hP hS)
theorem Cp.icmp_eqT (X : Cx M w sh cc nL own ret d) {x y : Int32} {off : Int} {v1 v2 : α} (tgt : Nat) (hd : decode cc pc = .ok (.if_icmp .eq off, 3)) (ht : (pc : Int) + off = (tgt : Int)) (kt : (x = y) → Cp M w sh nL ι tgt lv st σ (some v1)) (kf : ¬ (x = y) → Cp M w sh nL ι (pc + 3) lv st σ (some v2)) : Cp M w sh nL ι pc lv (.int y :: .int x :: st) σ (some (if x = y then v1 else v2)) := by
  rw [show (some (if x = y then v1 else v2) : Option α) = if x = y then some v1 else some v2 by split <;> rfl]
  exact Cp.icmp_eq X tgt hd ht kt kf
theorem Cp.if_lt (X : Cx M w sh cc nL own ret d) {x : Int32} {off : Int} (tgt : Nat) (hd : decode cc pc = .ok (.ifCond .lt off, 3)) (ht : (pc : Int) + off = (tgt : Int)) (kt : (x < 0) → Cp M w sh nL ι tgt lv st σ b1) (kf : ¬ (x < 0) → Cp M w sh nL ι (pc + 3) lv st σ b2) : Cp M w sh nL ι pc lv (.int x :: st) σ (if x < 0 then b1 else b2) := fun a ha ls H locs hl hP hS => lv_if_lt X.x X.b hd ht (fun h => kt h a ((if_pos h).symm.trans ha) ls H locs hl hP hS) (fun h => kf h a ((if_neg h).symm.trans ha) ls H locs hl hP hS)
theorem Cp.if_ltT (X : Cx M w sh cc nL own ret d) {x : Int32} {off : Int} {v1 v2 : α} (tgt : Nat) (hd : decode cc pc = .ok (.ifCond .lt off, 3)) (ht : (pc : Int) + off = (tgt : Int)) (kt : (x < 0) → Cp M w sh nL ι tgt lv st σ (some v1)) (kf : ¬ (x < 0) → Cp M w sh nL ι (pc + 3) lv st σ (some v2)) : Cp M w sh nL ι pc lv (.int x :: st) σ (some (if x < 0 then v1 else v2)) := by
  rw [show (some (if x < 0 then v1 else v2) : Option α) = if x < 0 then some v1 else some v2 by split <;> rfl]
  exact Cp.if_lt X tgt hd ht kt kf
theorem Cp.icmp_lt (X : Cx M w sh cc nL own ret d) {x y : Int32} {off : Int} (tgt : Nat) (hd : decode cc pc = .ok (.if_icmp .lt off, 3)) (ht : (pc : Int) + off = (tgt : Int)) (kt : (x < y) → Cp M w sh nL ι tgt lv st σ b1) (kf : ¬ (x < y) → Cp M w sh nL ι (pc + 3) lv st σ b2) : Cp M w sh nL ι pc lv (.int y :: .int x :: st) σ (if x < y then b1 else b2) := fun a ha ls H locs hl hP hS => lv_icmp_lt X.x X.b hd ht (fun h => kt h a ((if_pos h).symm.trans ha) ls H locs hl hP hS) (fun h => kf h a ((if_neg h).symm.trans ha) ls H locs hl hP hS)
theorem Cp.icmp_ltT (X : Cx M w sh cc nL own ret d) {x y : Int32} {off : Int} {v1 v2 : α} (tgt : Nat) (hd : decode cc pc = .ok (.if_icmp .lt off, 3)) (ht : (pc : Int) + off = (tgt : Int)) (kt : (x < y) → Cp M w sh nL ι tgt lv st σ (some v1)) (kf : ¬ (x < y) → Cp M w sh nL ι (pc + 3) lv st σ (some v2)) : Cp M w sh nL ι pc lv (.int y :: .int x :: st) σ (some (if x < y then v1 else v2)) := by
  rw [show (some (if x < y then v1 else v2) : Option α) = if x < y then some v1 else some v2 by split <;> rfl]
  exact Cp.icmp_lt X tgt hd ht kt kf
theorem Cp.if_ge (X : Cx M w sh cc nL own ret d) {x : Int32} {off : Int} (tgt : Nat) (hd : decode cc pc = .ok (.ifCond .ge off, 3)) (ht : (pc : Int) + off = (tgt : Int)) (kt : (0 ≤ x) → Cp M w sh nL ι tgt lv st σ b1) (kf : ¬ (0 ≤ x) → Cp M w sh nL ι (pc + 3) lv st σ b2) : Cp M w sh nL ι pc lv (.int x :: st) σ (if 0 ≤ x then b1 else b2) := fun a ha ls H locs hl hP hS => lv_if_ge X.x X.b hd ht (fun h => kt h a ((if_pos h).symm.trans ha) ls H locs hl hP hS) (fun h => kf h a ((if_neg h).symm.trans ha) ls H locs hl hP hS)
theorem Cp.if_geT (X : Cx M w sh cc nL own ret d) {x : Int32} {off : Int} {v1 v2 : α} (tgt : Nat) (hd : decode cc pc = .ok (.ifCond .ge off, 3)) (ht : (pc : Int) + off = (tgt : Int)) (kt : (0 ≤ x) → Cp M w sh nL ι tgt lv st σ (some v1)) (kf : ¬ (0 ≤ x) → Cp M w sh nL ι (pc + 3) lv st σ (some v2)) : Cp M w sh nL ι pc lv (.int x :: st) σ (some (if 0 ≤ x then v1 else v2)) := by
  rw [show (some (if 0 ≤ x then v1 else v2) : Option α) = if 0 ≤ x then some v1 else some v2 by split <;> rfl]
  exact Cp.if_ge X tgt hd ht kt kf
theorem Cp.icmp_ge (X : Cx M w sh cc nL own ret d) {x y : Int32} {off : Int} (tgt : Nat) (hd : decode cc pc = .ok (.if_icmp .ge off, 3)) (ht : (pc : Int) + off = (tgt : Int)) (kt : (y ≤ x) → Cp M w sh nL ι tgt lv st σ b1) (kf : ¬ (y ≤ x) → Cp M w sh nL ι (pc + 3) lv st σ b2) : Cp M w sh nL ι pc lv (.int y :: .int x :: st) σ (if y ≤ x then b1 else b2) := fun a ha ls H locs hl hP hS => lv_icmp_ge X.x X.b hd ht (fun h => kt h a ((if_pos h).symm.trans ha) ls H locs hl hP hS) (fun h => kf h a ((if_neg h).symm.trans ha) ls H locs hl hP hS)
theorem Cp.icmp_geT (X : Cx M w sh cc nL own ret d) {x y : Int32} {off : Int} {v1 v2 : α} (tgt : Nat) (hd : decode cc pc = .ok (.if_icmp .ge off, 3)) (ht : (pc : Int) + off = (tgt : Int)) (kt : (y ≤ x) → Cp M w sh nL ι tgt lv st σ (some v1)) (kf : ¬ (y ≤ x) → Cp M w sh nL ι (pc + 3) lv st σ (some v2)) : Cp M w sh nL ι pc lv (.int y :: .int x :: st) σ (some (if y ≤ x then v1 else v2)) := by
  rw [show (some (if y ≤ x then v1 else v2) : Option α) = if y ≤ x then some v1 else some v2 by split <;> rfl]
  exact Cp.icmp_ge X tgt hd ht kt kf
theorem Cp.if_gt (X : Cx M w sh cc nL own ret d) {x : Int32} {off : Int} (tgt : Nat) (hd : decode cc pc = .ok (.ifCond .gt off, 3)) (ht : (pc : Int) + off = (tgt : Int)) (kt : (0 < x) → Cp M w sh nL ι tgt lv st σ b1) (kf : ¬ (0 < x) → Cp M w sh nL ι (pc + 3) lv st σ b2) : Cp M w sh nL ι pc lv (.int x :: st) σ (if 0 < x then b1 else b2) := fun a ha ls H locs hl hP hS => lv_if_gt X.x X.b hd ht (fun h => kt h a ((if_pos h).symm.trans ha) ls H locs hl hP hS) (fun h => kf h a ((if_neg h).symm.trans ha) ls H locs hl hP hS)
theorem Cp.if_gtT (X : Cx M w sh cc nL own ret d) {x : Int32} {off : Int} {v1 v2 : α} (tgt : Nat) (hd : decode cc pc = .ok (.ifCond .gt off, 3)) (ht : (pc : Int) + off = (tgt : Int)) (kt : (0 < x) → Cp M w sh nL ι tgt lv st σ (some v1)) (kf : ¬ (0 < x) → Cp M w sh nL ι (pc + 3) lv st σ (some v2)) : Cp M w sh nL ι pc lv (.int x :: st) σ (some (if 0 < x then v1 else v2)) := by
  rw [show (some (if 0 < x then v1 else v2) : Option α) = if 0 < x then some v1 else some v2 by split <;> rfl]
  exact Cp.if_gt X tgt hd ht kt kf
theorem Cp.icmp_gt (X : Cx M w sh cc nL own ret d) {x y : Int32} {off : Int} (tgt : Nat) (hd : decode cc pc = .ok (.if_icmp .gt off, 3)) (ht : (pc : Int) + off = (tgt : Int)) (kt : (y < x) → Cp M w sh nL ι tgt lv st σ b1) (kf : ¬ (y < x) → Cp M w sh nL ι (pc + 3) lv st σ b2) : Cp M w sh nL ι pc lv (.int y :: .int x :: st) σ (if y < x then b1 else b2) := fun a ha ls H locs hl hP hS => lv_icmp_gt X.x X.b hd ht (fun h => kt h a ((if_pos h).symm.trans ha) ls H locs hl hP hS) (fun h => kf h a ((if_neg h).symm.trans ha) ls H locs hl hP hS)
theorem Cp.icmp_gtT (X : Cx M w sh cc nL own ret d) {x y : Int32} {off : Int} {v1 v2 : α} (tgt : Nat) (hd : decode cc pc = .ok (.if_icmp .gt off, 3)) (ht : (pc : Int) + off = (tgt : Int)) (kt : (y < x) → Cp M w sh nL ι tgt lv st σ (some v1)) (kf : ¬ (y < x) → Cp M w sh nL ι (pc + 3) lv st σ (some v2)) : Cp M w sh nL ι pc lv (.int y :: .int x :: st) σ (some (if y < x then v1 else v2)) := by
  rw [show (some (if y < x then v1 else v2) : Option α) = if y < x then some v1 else some v2 by split <;> rfl]
  exact Cp.icmp_gt X tgt hd ht kt kf
theorem Cp.if_le (X : Cx M w sh cc nL own ret d) {x : Int32} {off : Int} (tgt : Nat) (hd : decode cc pc = .ok (.ifCond .le off, 3)) (ht : (pc : Int) + off = (tgt : Int)) (kt : (x ≤ 0) → Cp M w sh nL ι tgt lv st σ b1) (kf : ¬ (x ≤ 0) → Cp M w sh nL ι (pc + 3) lv st σ b2) : Cp M w sh nL ι pc lv (.int x :: st) σ (if x ≤ 0 then b1 else b2) := fun a ha ls H locs hl hP hS => lv_if_le X.x X.b hd ht (fun h => kt h a ((if_pos h).symm.trans ha) ls H locs hl hP hS) (fun h => kf h a ((if_neg h).symm.trans ha) ls H locs hl hP hS)
theorem Cp.if_leT (X : Cx M w sh cc nL own ret d) {x : Int32} {off : Int} {v1 v2 : α} (tgt : Nat) (hd : decode cc pc = .ok (.ifCond .le off, 3)) (ht : (pc : Int) + off = (tgt : Int)) (kt : (x ≤ 0) → Cp M w sh nL ι tgt lv st σ (some v1)) (kf : ¬ (x ≤ 0) → Cp M w sh nL ι (pc + 3) lv st σ (some v2)) : Cp M w sh nL ι pc lv (.int x :: st) σ (some (if x ≤ 0 then v1 else v2)) := by
  rw [show (some (if x ≤ 0 then v1 else v2) : Option α) = if x ≤ 0 then some v1 else some v2 by split <;> rfl]
  exact Cp.if_le X tgt hd ht kt kf
theorem Cp.icmp_le (X : Cx M w sh cc nL own ret d) {x y : Int32} {off : Int} (tgt : Nat) (hd : decode cc pc = .ok (.if_icmp .le off, 3)) (ht : (pc : Int) + off = (tgt : Int)) (kt : (x ≤ y) → Cp M w sh nL ι tgt lv st σ b1) (kf : ¬ (x ≤ y) → Cp M w sh nL ι (pc + 3) lv st σ b2) : Cp M w sh nL ι pc lv (.int y :: .int x :: st) σ (if x ≤ y then b1 else b2) := fun a ha ls H locs hl hP hS => lv_icmp_le X.x X.b hd ht (fun h => kt h a ((if_pos h).symm.trans ha) ls H locs hl hP hS) (fun h => kf h a ((if_neg h).symm.trans ha) ls H locs hl hP hS)
theorem Cp.icmp_leT (X : Cx M w sh cc nL own ret d) {x y : Int32} {off : Int} {v1 v2 : α} (tgt : Nat) (hd : decode cc pc = .ok (.if_icmp .le off, 3)) (ht : (pc : Int) + off = (tgt : Int)) (kt : (x ≤ y) → Cp M w sh nL ι tgt lv st σ (some v1)) (kf : ¬ (x ≤ y) → Cp M w sh nL ι (pc + 3) lv st σ (some v2)) : Cp M w sh nL ι pc lv (.int y :: .int x :: st) σ (some (if x ≤ y then v1 else v2)) := by
  rw [show (some (if x ≤ y then v1 else v2) : Option α) = if x ≤ y then some v1 else some v2 by split <;> rfl]
  exact Cp.icmp_le X tgt hd ht kt kf
theorem Cp.if_ne (X : Cx M w sh cc nL own ret d) {x : Int32} {off : Int} (tgt : Nat) (hd : decode cc pc = .ok (.ifCond .ne off, 3)) (ht : (pc : Int) + off = (tgt : Int)) (kt : ¬ (x = 0) → Cp M w sh nL ι tgt lv st σ b2) (kf : (x = 0) → Cp M w sh nL ι (pc + 3) lv st σ b1) : Cp M w sh nL ι pc lv (.int x :: st) σ (if x = 0 then b1 else b2) := fun a ha ls H locs hl hP hS => lv_if_ne X.x X.b hd ht (fun h => kt h a ((if_neg h).symm.trans ha) ls H locs hl hP hS) (fun h => kf h a ((if_pos h).symm.trans ha) ls H locs hl hP hS)
theorem Cp.if_neT (X : Cx M w sh cc nL own ret d) {x : Int32} {off : Int} {v1 v2 : α} (tgt : Nat) (hd : decode cc pc = .ok (.ifCond .ne off, 3)) (ht : (pc : Int) + off = (tgt : Int)) (kt : ¬ (x = 0) → Cp M w sh nL ι tgt lv st σ (some v2)) (kf : (x = 0) → Cp M w sh nL ι (pc + 3) lv st σ (some v1)) : Cp M w sh nL ι pc lv (.int x :: st) σ (some (if x = 0 then v1 else v2)) := by
  rw [show (some (if x = 0 then v1 else v2) : Option α) = if x = 0 then some v1 else some v2 by split <;> rfl]
  exact Cp.if_ne X tgt hd ht kt kf
theorem Cp.icmp_ne (X : Cx M w sh cc nL own ret d) {x y : Int32} {off : Int} (tgt : Nat) (hd : decode cc pc = .ok (.if_icmp .ne off, 3)) (ht : (pc : Int) + off = (tgt : Int)) (kt : ¬ (x = y) → Cp M w sh nL ι tgt lv st σ b2) (kf : (x = y) → Cp M w sh nL ι (pc + 3) lv st σ b1) : Cp M w sh nL ι pc lv (.int y :: .int x :: st) σ (if x = y then b1 else b2) := fun a ha ls H locs hl hP hS => lv_icmp_ne X.x X.b hd ht (fun h => kt h a ((if_neg h).symm.trans ha) ls H locs hl hP hS) (fun h => kf h a ((if_pos h).symm.trans ha) ls H locs hl hP hS)
theorem Cp.icmp_neT (X : Cx M w sh cc nL own ret d) {x y : Int32} {off : Int} {v1 v2 : α} (tgt : Nat) (hd : decode cc pc = .ok (.if_icmp .ne off, 3)) (ht : (pc : Int) + off = (tgt : Int)) (kt : ¬ (x = y) → Cp M w sh nL ι tgt lv st σ (some v2)) (kf : (x = y) → Cp M w sh nL ι (pc + 3) lv st σ (some v1)) : Cp M w sh nL ι pc lv (.int y :: .int x :: st) σ (some (if x = y then v1 else v2)) := by
  rw [show (some (if x = y then v1 else v2) : Option α) = if x = y then some v1 else some v2 by split <;> rfl]
  exact Cp.icmp_ne X tgt hd ht kt kf
theorem Cp.if_eqB (X : Cx M w sh cc nL own ret d) {x : Bool} {off : Int} (tgt : Nat) (hd : decode cc pc = .ok (.ifCond .eq off, 3)) (ht : (pc : Int) + off = (tgt : Int)) (kt : x = false → Cp M w sh nL ι tgt lv st σ b2) (kf : x = true → Cp M w sh nL ι (pc + 3) lv st σ b1) : Cp M w sh nL ι pc lv (.int (b2i x) :: st) σ (if x = true then b1 else b2) := fun a ha ls H locs hl hP hS => by
  cases x
  · have ha : b2 = some a := ha
    exact lv_if_eq X.x X.b hd ht (fun h => kt rfl a ha ls H locs hl hP hS) (fun h => absurd rfl h)
  · have ha : b1 = some a := ha
    exact lv_if_eq X.x X.b hd ht (fun h => absurd h (by decide)) (fun h => kf rfl a ha ls H locs hl hP hS)
theorem Cp.if_eqBT (X : Cx M w sh cc nL own ret d) {x : Bool} {v1 v2 : α} {off : Int} (tgt : Nat) (hd : decode cc pc = .ok (.ifCond .eq off, 3)) (ht : (pc : Int) + off = (tgt : Int)) (kt : x = false → Cp M w sh nL ι tgt lv st σ (some v2)) (kf : x = true → Cp M w sh nL ι (pc + 3) lv st σ (some v1)) : Cp M w sh nL ι pc lv (.int (b2i x) :: st) σ (some (if x = true then v1 else v2)) := by
  rw [show (some (if x = true then v1 else v2) : Option α) = if x = true then some v1 else some v2 by split <;> rfl]
  exact Cp.if_eqB X tgt hd ht kt kf
theorem Cp.if_neB (X : Cx M w sh cc nL own ret d) {x : Bool} {off : Int} (tgt : Nat) (hd : decode cc pc = .ok (.ifCond .ne off, 3)) (ht : (pc : Int) + off = (tgt : Int)) (kt : x = true → Cp M w sh nL ι tgt lv st σ b1) (kf : x = false → Cp M w sh nL ι (pc + 3) lv st σ b2) : Cp M w sh nL ι pc lv (.int (b2i x) :: st) σ (if x = true then b1 else b2) := fun a ha ls H locs hl hP hS => by
  cases x
  · have ha : b2 = some a := ha
    exact lv_if_ne X.x X.b hd ht (fun h => absurd rfl h) (fun h => kf rfl a ha ls H locs hl hP hS)
  · have ha : b1 = some a := ha
    exact lv_if_ne X.x X.b hd ht (fun h => kt rfl a ha ls H locs hl hP hS) (fun h => absurd h (by decide))
theorem Cp.if_neBT (X : Cx M w sh cc nL own ret d) {x : Bool} {v1 v2 : α} {off : Int} (tgt : Nat) (hd : decode cc pc = .ok (.ifCond .ne off, 3)) (ht : (pc : Int) + off = (tgt : Int)) (kt : x = true → Cp M w sh nL ι tgt lv st σ (some v1)) (kf : x = false → Cp M w sh nL ι (pc + 3) lv st σ (some v2)) : Cp M w sh nL ι pc lv (.int (b2i x) :: st) σ (some (if x = true then v1 else v2)) := by
  rw [show (some (if x = true then v1 else v2) : Option α) = if x = true then some v1 else some v2 by split <;> rfl]
  exact Cp.if_neB X tgt hd ht kt kf
end
