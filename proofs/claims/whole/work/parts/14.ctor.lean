theorem wOi : Cond.instanceMethod objectInit ∈ TB := tb_t 21 (by decide +kernel) (by decide +kernel)
theorem wOc : Cond.code objectInit ⟨#[0xb1]⟩ 1 none ∈ TB := tb_t 22 (by decide +kernel) (by decide +kernel)
theorem wAi : Cond.arrayClass .int ∈ TB := tb_t 110 (by decide +kernel) (by decide +kernel)
theorem wAb : Cond.arrayClass .byte ∈ TB := tb_t 159 (by decide +kernel) (by decide +kernel)
theorem woX5_1 : Cond.methodLink RX5 1 objectInit ∈ TB := tb_t 20 (by decide +kernel) (by decide +kernel)
theorem woX1_3 : Cond.methodLink RX1 3 objectInit ∈ TB := tb_t 28 (by decide +kernel) (by decide +kernel)
theorem woX2_3 : Cond.methodLink RX2 3 objectInit ∈ TB := tb_t 166 (by decide +kernel) (by decide +kernel)
theorem woX3_3 : Cond.methodLink RX3 3 objectInit ∈ TB := tb_t 135 (by decide +kernel) (by decide +kernel)
theorem woX4_3 : Cond.methodLink RX4 3 objectInit ∈ TB := tb_t 116 (by decide +kernel) (by decide +kernel)
theorem woX6_3 : Cond.methodLink RX6 3 objectInit ∈ TB := tb_t 760 (by decide +kernel) (by decide +kernel)
theorem wkL_7 : Cond.classLink RL 7 RX5 ∈ TB := tb_t 15 (by decide +kernel) (by decide +kernel)
theorem wiX5 : Cond.instantiable RX5 8 ∈ TB := tb_t 16 (by decide +kernel) (by decide +kernel)
theorem wkX5_7 : Cond.classLink RX5 7 RX1 ∈ TB := tb_t 23 (by decide +kernel) (by decide +kernel)
theorem wiX1 : Cond.instantiable RX1 16 ∈ TB := tb_t 24 (by decide +kernel) (by decide +kernel)
theorem wkX5_26 : Cond.classLink RX5 26 RX4 ∈ TB := tb_t 111 (by decide +kernel) (by decide +kernel)
theorem wiX4 : Cond.instantiable RX4 3 ∈ TB := tb_t 112 (by decide +kernel) (by decide +kernel)
theorem wkX5_33 : Cond.classLink RX5 33 RX3 ∈ TB := tb_t 130 (by decide +kernel) (by decide +kernel)
theorem wiX3 : Cond.instantiable RX3 7 ∈ TB := tb_t 131 (by decide +kernel) (by decide +kernel)
theorem wkX5_40 : Cond.classLink RX5 40 RX2 ∈ TB := tb_t 160 (by decide +kernel) (by decide +kernel)
theorem wiX2 : Cond.instantiable RX2 3 ∈ TB := tb_t 162 (by decide +kernel) (by decide +kernel)
theorem wkL_10 : Cond.classLink RL 10 RX6 ∈ TB := tb_t 755 (by decide +kernel) (by decide +kernel)
theorem wiX6 : Cond.instantiable RX6 18 ∈ TB := tb_t 756 (by decide +kernel) (by decide +kernel)
theorem wnX1 : Cond.initialized RX1 ∈ TB := tb_t 2 (by decide +kernel) (by decide +kernel)
theorem wnX2 : Cond.initialized RX2 ∈ TB := tb_t 5 (by decide +kernel) (by decide +kernel)
theorem wnX3 : Cond.initialized RX3 ∈ TB := tb_t 4 (by decide +kernel) (by decide +kernel)
theorem wnX4 : Cond.initialized RX4 ∈ TB := tb_t 3 (by decide +kernel) (by decide +kernel)
theorem wnX5 : Cond.initialized RX5 ∈ TB := tb_t 1 (by decide +kernel) (by decide +kernel)
theorem wnX6 : Cond.initialized RX6 ∈ TB := tb_t 6 (by decide +kernel) (by decide +kernel)
theorem cbX5_init : CalB yX5_init cX5_init 2 none 0 := ⟨tb_t 19 (by decide +kernel) (by decide +kernel), wnX5, by decide, by decide, by decide +kernel⟩
theorem ciX5_init : Cond.instanceMethod yX5_init ∈ TB := tb_t 18 (by decide +kernel) (by decide +kernel)
theorem cbX1_init : CalB yX1_init cX1_init 2 none 0 := ⟨tb_t 27 (by decide +kernel) (by decide +kernel), wnX1, by decide, by decide, by decide +kernel⟩
theorem ciX1_init : Cond.instanceMethod yX1_init ∈ TB := tb_t 26 (by decide +kernel) (by decide +kernel)
theorem cbX4_init : CalB yX4_init cX4_init 1 none 0 := ⟨tb_t 115 (by decide +kernel) (by decide +kernel), wnX4, by decide, by decide, by decide +kernel⟩
theorem ciX4_init : Cond.instanceMethod yX4_init ∈ TB := tb_t 114 (by decide +kernel) (by decide +kernel)
theorem cbX3_init : CalB yX3_init cX3_init 1 none 0 := ⟨tb_t 134 (by decide +kernel) (by decide +kernel), wnX3, by decide, by decide, by decide +kernel⟩
theorem ciX3_init : Cond.instanceMethod yX3_init ∈ TB := tb_t 133 (by decide +kernel) (by decide +kernel)
theorem cbX2_init : CalB yX2_init cX2_init 1 none 0 := ⟨tb_t 165 (by decide +kernel) (by decide +kernel), wnX2, by decide, by decide, by decide +kernel⟩
theorem ciX2_init : Cond.instanceMethod yX2_init ∈ TB := tb_t 164 (by decide +kernel) (by decide +kernel)
theorem cbX6_init : CalB yX6_init cX6_init 2 none 0 := ⟨tb_t 759 (by decide +kernel) (by decide +kernel), wnX6, by decide, by decide, by decide +kernel⟩
theorem ciX6_init : Cond.instanceMethod yX6_init ∈ TB := tb_t 758 (by decide +kernel) (by decide +kernel)
theorem va_P_m {D : va_G} {cl : List vw_C} {ws : va_W} {H : Heap} : va_P D cl ws H ↔ ∀ q ∈ ws, va_at D cl q H := by
  constructor
  · intro h q hq
    obtain ⟨i, hi⟩ := List.getElem?_of_mem hq
    exact h i q hi
  · intro h k q hk
    exact h q (List.mem_of_getElem? hk)
theorem va_D_m {A : Nat → Prop} {ws : va_W} : va_D A ws ↔ (ws.map Prod.fst).Nodup ∧ ∀ q ∈ ws, A q.1 := by
  constructor
  · intro h
    refine ⟨?_, fun q hq => ?_⟩
    · rw [List.nodup_iff_pairwise_ne, List.pairwise_iff_getElem]
      intro i j hi hj hij e
      rw [List.getElem_map, List.getElem_map] at e
      rw [List.length_map] at hi hj
      have := h.1 i j ws[i] ws[j] (List.getElem?_eq_getElem hi) (List.getElem?_eq_getElem hj) e
      omega
    · obtain ⟨i, hi⟩ := List.getElem?_of_mem hq
      exact h.2 i q hi
  · rintro ⟨h1, h2⟩
    refine ⟨fun i j p q hi hj e => ?_, fun k q hk => h2 q (List.mem_of_getElem? hk)⟩
    rw [List.nodup_iff_pairwise_ne, List.pairwise_iff_getElem] at h1
    obtain ⟨li, ei⟩ := List.getElem?_eq_some_iff.mp hi
    obtain ⟨lj, ej⟩ := List.getElem?_eq_some_iff.mp hj
    rcases Nat.lt_trichotomy i j with h | h | h
    · exact absurd (by rw [List.getElem_map, List.getElem_map, ei, ej]; exact e) (h1 i j (by rw [List.length_map]; exact li) (by rw [List.length_map]; exact lj) h)
    · exact h
    · exact absurd (by rw [List.getElem_map, List.getElem_map, ei, ej]; exact e.symm) (h1 j i (by rw [List.length_map]; exact lj) (by rw [List.length_map]; exact li) h)
theorem va_P_perm {D : va_G} {cl : List vw_C} {ws ws' : va_W} {H : Heap} (p : ws.Perm ws') (h : va_P D cl ws H) : va_P D cl ws' H := va_P_m.mpr (fun q hq => va_P_m.mp h q (p.mem_iff.mpr hq))
theorem va_D_perm {A : Nat → Prop} {ws ws' : va_W} (p : ws.Perm ws') (h : va_D A ws) : va_D A ws' := by
  obtain ⟨h1, h2⟩ := va_D_m.mp h
  exact va_D_m.mpr ⟨(p.map Prod.fst).nodup_iff.mp h1, fun q hq => h2 q (p.mem_iff.mpr hq)⟩
theorem pm_end {α : Type} (L E : List α) (x : α) : ((L ++ E) ++ [x]).Perm ((L ++ [x]) ++ E) := by
  rw [List.append_assoc, List.append_assoc]
  exact List.Perm.append_left L List.perm_append_comm
theorem pm_cut {α : Type} (L E : List α) (x : α) : ((L ++ [x]) ++ E).Perm (x :: (L ++ E)) := by
  rw [List.append_assoc]
  exact List.perm_middle
theorem pm_back {α : Type} (B L E : List α) : (B ++ (L ++ E)).Perm ((L ++ B) ++ E) := by
  rw [List.append_assoc, ← List.append_assoc]
  exact (List.Perm.append_right E List.perm_append_comm).trans (by rw [List.append_assoc])
/-! the judgement of a constructor -/
def rmK (f c s l : Nat) : Room := { frames := f, cells := c, slots := s, locals := l }
def Ck (M : MC) (w : WE) (cc : ByteArray) (nL : Nat) (own : String) (R : Room) : Prop :=
  (mp M).tables.exec = Jvm.exec ∧ (mc M).code = cc ∧ (mc M).maxLocals = nL ∧ (mS M).vm.findClass own = some (mm M).cls ∧ (∀ x ∈ TB, x.before (ma M) (mS M) = true) ∧ va_K (wD w) vwCl (tysW w) (mS M) ∧ wa0 w ≤ (mS M).heap.size ∧ va_AO RX2 (mS M) ∧ mR M = R
def Sk (M : MC) (w : WE) (nL : Nat) (Q : State → Prop) (nc ns : Nat) (pc : Nat) (lv : List (Option Value)) (st : List Value) (L E : va_W) : Prop :=
  ∀ (ls : Array Slot) (H : Heap) (locs : List Loc), lvH ls nL lv → va_P (wD w) vwCl (L ++ E) H → va_D (AA w) (L ++ E) → va_S (AA w) (mS M).heap H locs → W (mp M) (ml M) (me M) (mR M) (mS M) (mm M) (ma M) (mb M) (mt M) (mc M) H locs nc ns Q (F0 (mm M) pc ls st)
section
variable {M : MC} {w : WE} {cc : ByteArray} {nL : Nat} {own : String} {R : Room} {Q : State → Prop} {nc ns pc : Nat} {lv : List (Option Value)} {st : List Value} {L E : va_W}
theorem Ck.x (X : Ck M w cc nL own R) : (mp M).tables.exec = Jvm.exec := X.1
theorem Ck.b (X : Ck M w cc nL own R) : (mc M).code = cc := X.2.1
theorem Ck.ml (X : Ck M w cc nL own R) : (mc M).maxLocals = nL := X.2.2.1
theorem Ck.o (X : Ck M w cc nL own R) : (mS M).vm.findClass own = some (mm M).cls := X.2.2.2.1
theorem Ck.t (X : Ck M w cc nL own R) : ∀ x ∈ TB, x.before (ma M) (mS M) = true := X.2.2.2.2.1
theorem Ck.k (X : Ck M w cc nL own R) : va_K (wD w) vwCl (tysW w) (mS M) := X.2.2.2.2.2.1
theorem Ck.a0 (X : Ck M w cc nL own R) : wa0 w ≤ (mS M).heap.size := X.2.2.2.2.2.2.1
theorem Ck.ao (X : Ck M w cc nL own R) : va_AO RX2 (mS M) := X.2.2.2.2.2.2.2.1
theorem Ck.rm (X : Ck M w cc nL own R) : mR M = R := X.2.2.2.2.2.2.2.2
theorem Ck.A (X : Ck M w cc nL own R) : ∀ q : Nat, (mS M).heap.size ≤ q → AA w q := fun _ h => Nat.le_trans X.a0 h
theorem Sk.iconst (X : Ck M w cc nL own R) {n : Int} {v : Int32} (hd : decode cc pc = .ok (.iconst n, 1)) (hv : Int32.ofInt n = v) (k : Sk M w nL Q nc ns (pc + 1) lv (.int v :: st) L E) : Sk M w nL Q nc ns pc lv st L E := fun ls H locs hl hP hD hS => lv_iconst X.x X.b hd hv (k ls H locs hl hP hD hS)
theorem Sk.bipush (X : Ck M w cc nL own R) {n : Int} {v : Int32} (hd : decode cc pc = .ok (.bipush n, 2)) (hv : (Int8.ofInt n).toInt32 = v) (k : Sk M w nL Q nc ns (pc + 2) lv (.int v :: st) L E) : Sk M w nL Q nc ns pc lv st L E := fun ls H locs hl hP hD hS => lv_bipush X.x X.b hd hv (k ls H locs hl hP hD hS)
theorem Sk.sipush (X : Ck M w cc nL own R) {n : Int} {v : Int32} (hd : decode cc pc = .ok (.sipush n, 3)) (hv : (Int16.ofInt n).toInt32 = v) (k : Sk M w nL Q nc ns (pc + 3) lv (.int v :: st) L E) : Sk M w nL Q nc ns pc lv st L E := fun ls H locs hl hP hD hS => lv_sipush X.x X.b hd hv (k ls H locs hl hP hD hS)
theorem Sk.aload_n (X : Ck M w cc nL own R) {n : Fin 4} {i x : Nat} (hd : decode cc pc = .ok (.aload_n n, 1)) (hi : (n : Nat) = i) (hv : lv[i]? = some (some (.ref x))) (k : Sk M w nL Q nc ns (pc + 1) lv (.ref x :: st) L E) : Sk M w nL Q nc ns pc lv st L E := fun ls H locs hl hP hD hS => lv_aload_n X.x X.b hd hi (hl.at hv) (k ls H locs hl hP hD hS)
theorem Sk.iload_n (X : Ck M w cc nL own R) {n : Fin 4} {i : Nat} {x : Int32} (hd : decode cc pc = .ok (.iload_n n, 1)) (hi : (n : Nat) = i) (hv : lv[i]? = some (some (.int x))) (k : Sk M w nL Q nc ns (pc + 1) lv (.int x :: st) L E) : Sk M w nL Q nc ns pc lv st L E := fun ls H locs hl hP hD hS => lv_iload_n X.x X.b hd hi (hl.at hv) (k ls H locs hl hP hD hS)
theorem Sk.istore_n (X : Ck M w cc nL own R) {n : Fin 4} {i : Nat} {x : Int32} (hd : decode cc pc = .ok (.istore_n n, 1)) (hi : (n : Nat) = i) (hn : i < nL) (hno : lvNo lv i = true) (k : Sk M w nL Q nc ns (pc + 1) (lv.set i (some (.int x))) st L E) : Sk M w nL Q nc ns pc lv (.int x :: st) L E := fun ls H locs hl hP hD hS => lv_istore_n X.x X.b hd hi hl hn rfl (fun ls' h => k ls' H locs (lvH.set1 hno h) hP hD hS)
theorem Sk.astore_n (X : Ck M w cc nL own R) {n : Fin 4} {i x : Nat} (hd : decode cc pc = .ok (.astore_n n, 1)) (hi : (n : Nat) = i) (hn : i < nL) (hno : lvNo lv i = true) (k : Sk M w nL Q nc ns (pc + 1) (lv.set i (some (.ref x))) st L E) : Sk M w nL Q nc ns pc lv (.ref x :: st) L E := fun ls H locs hl hP hD hS => lv_astore_n X.x X.b hd hi hl hn rfl (fun ls' h => k ls' H locs (lvH.set1 hno h) hP hD hS)
theorem Sk.iinc (X : Ck M w cc nL own R) {i : Nat} {n : Int} {x v : Int32} (hd : decode cc pc = .ok (.iinc i n, 3)) (hx : lv[i]? = some (some (.int x))) (hv : x + Int32.ofInt n = v) (hn : i < nL) (hno : lvNo lv i = true) (k : Sk M w nL Q nc ns (pc + 3) (lv.set i (some (.int v))) st L E) : Sk M w nL Q nc ns pc lv st L E := fun ls H locs hl hP hD hS => by
  obtain ⟨kk, hk⟩ := lvl_pos hx
  exact lv_iinc X.x X.b hd hl hk hv hn rfl (fun ls' h => k ls' H locs (lvH.set1 hno h) hP hD hS)
theorem Sk.iadd (X : Ck M w cc nL own R) {x y : Int32} (hd : decode cc pc = .ok (.iadd, 1)) (k : Sk M w nL Q nc ns (pc + 1) lv (.int (x + y) :: st) L E) : Sk M w nL Q nc ns pc lv (.int y :: .int x :: st) L E := fun ls H locs hl hP hD hS => lv_iadd X.x X.b hd (k ls H locs hl hP hD hS)
theorem Sk.dup (X : Ck M w cc nL own R) {v : Value} (hd : decode cc pc = .ok (.dup, 1)) (h1 : v.category = 1) (k : Sk M w nL Q nc ns (pc + 1) lv (v :: v :: st) L E) : Sk M w nL Q nc ns pc lv (v :: st) L E := fun ls H locs hl hP hD hS => lv_dup X.x X.b hd h1 (k ls H locs hl hP hD hS)
theorem Sk.goto (X : Ck M w cc nL own R) {off : Int} (tgt : Nat) (hd : decode cc pc = .ok (.goto off, 3)) (ht : (pc : Int) + off = (tgt : Int)) (k : Sk M w nL Q nc ns tgt lv st L E) : Sk M w nL Q nc ns pc lv st L E := fun ls H locs hl hP hD hS => lv_goto X.x X.b hd ht (k ls H locs hl hP hD hS)
theorem Sk.geT (X : Ck M w cc nL own R) {x y : Int32} {off : Int} (tgt : Nat) (hd : decode cc pc = .ok (.if_icmp .ge off, 3)) (ht : (pc : Int) + off = (tgt : Int)) (hc : y ≤ x) (k : Sk M w nL Q nc ns tgt lv st L E) : Sk M w nL Q nc ns pc lv (.int y :: .int x :: st) L E := fun ls H locs hl hP hD hS => lv_icmp_ge X.x X.b hd ht (fun _ => k ls H locs hl hP hD hS) (fun h => absurd hc h)
theorem Sk.geF (X : Ck M w cc nL own R) {x y : Int32} {off : Int} (tgt : Nat) (hd : decode cc pc = .ok (.if_icmp .ge off, 3)) (ht : (pc : Int) + off = (tgt : Int)) (hc : ¬ y ≤ x) (k : Sk M w nL Q nc ns (pc + 3) lv st L E) : Sk M w nL Q nc ns pc lv (.int y :: .int x :: st) L E := fun ls H locs hl hP hD hS => lv_icmp_ge X.x X.b hd ht (fun h => absurd h hc) (fun _ => k ls H locs hl hP hD hS)
theorem Sk.objInit (X : Ck M w cc nL own R) {ix a : Nat} (hl : Cond.methodLink own ix objectInit ∈ TB) (hd : decode cc pc = .ok (.invokespecial ix, 3)) (h1 : 1 ≤ R.frames) (h2 : (st.map fun v => v.category).sum + 12 ≤ R.locals) (k : Sk M w nL Q nc ns (pc + 3) lv st L E) : Sk M w nL Q nc ns pc lv (.ref a :: st) L E := fun ls H locs hlv hP hD hS => by
  refine W.objInit X.x X.b X.o (X.t _ hl) (X.t _ wOi) (X.t _ wOc) rfl (by rw [X.ml]; exact hlv.1) rfl hd (by rw [X.rm]; exact h1) (by rw [X.rm]; show 2 * 0 + _ + 12 ≤ _; omega) ?_
  exact k ls H locs hlv hP hD hS
theorem cI_eq {w : WE} {s : State} {cA : ClassId} {ty : FieldType} (hty : ty = .int ∨ ty = .byte) (h : va_K (wD w) vwCl (tysW w ++ [(cA, ty)]) s) : (ty = .int → cA = wI w) ∧ (ty = .byte → cA = wB w) := by
  have h1 := (h.2 3 (cA, ty) rfl).2
  have h2 := (h.2 0 (wI w, .int) rfl).2
  have h3 := (h.2 1 (wB w, .byte) rfl).2
  refine ⟨fun e => ?_, fun e => ?_⟩
  · subst e
    exact Option.some.inj (h1.symm.trans h2)
  · subst e
    exact Option.some.inj (h1.symm.trans h3)
theorem Sk.newI (X : Ck M w cc nL own R) {n : Int32} (N : Nat) (hd : decode cc pc = .ok (.newarray .int, 2)) (hn : ¬ n < 0) (hN : n.toNatClampNeg = N) (hb : N * componentBytes .int ≤ 536870912) (hc : nc + 1 ≤ R.cells) (hs : ns + N ≤ R.slots) (k : ∀ q : Nat, Sk M w nL Q (nc + 1) (ns + N) (pc + 2) lv (.ref q :: st) (L ++ [(q, .inl (wI w, N, .inl (fun _ => 0)))]) E) : Sk M w nL Q nc ns pc lv (.int n :: st) L E := fun ls H locs hl hP hD hS => by
  refine va_newa (atype := .int) (ty := .int) (a0 := (N, .inl (fun _ => 0))) X.x X.b (X.t _ wAi) rfl X.k hP hD hS X.A (fun cA => rfl) hn hN hb (by rw [X.rm]; exact hc) (by rw [X.rm]; exact hs) hd (fun q cA H1 hK hP1 hD1 hS1 => ?_)
  have e := (cI_eq (Or.inl rfl) hK).1 rfl
  subst e
  exact k q ls H1 locs hl (va_P_perm (pm_end L E _) hP1) (va_D_perm (pm_end L E _) hD1) hS1
theorem Sk.newB (X : Ck M w cc nL own R) {n : Int32} (N : Nat) (hd : decode cc pc = .ok (.newarray .byte, 2)) (hn : ¬ n < 0) (hN : n.toNatClampNeg = N) (hb : N * componentBytes .byte ≤ 536870912) (hc : nc + 1 ≤ R.cells) (hs : ns + N ≤ R.slots) (k : ∀ q : Nat, Sk M w nL Q (nc + 1) (ns + N) (pc + 2) lv (.ref q :: st) (L ++ [(q, .inl (wB w, N, .inl (fun _ => 0)))]) E) : Sk M w nL Q nc ns pc lv (.int n :: st) L E := fun ls H locs hl hP hD hS => by
  refine va_newa (atype := .byte) (ty := .byte) (a0 := (N, .inl (fun _ => 0))) X.x X.b (X.t _ wAb) rfl X.k hP hD hS X.A (fun cA => rfl) hn hN hb (by rw [X.rm]; exact hc) (by rw [X.rm]; exact hs) hd (fun q cA H1 hK hP1 hD1 hS1 => ?_)
  have e := (cI_eq (Or.inr rfl) hK).2 rfl
  subst e
  exact k q ls H1 locs hl (va_P_perm (pm_end L E _) hP1) (va_D_perm (pm_end L E _) hD1) hS1
theorem Sk.newQ (X : Ck M w cc nL own R) {n : Int32} {ix : Nat} (N : Nat) (hl : Cond.classLink own ix RX2 ∈ TB) (hd : decode cc pc = .ok (.anewarray ix, 3)) (hn : ¬ n < 0) (hN : n.toNatClampNeg = N) (hb : N * 4 ≤ 536870912) (hc : nc + 1 ≤ R.cells) (hs : ns + N ≤ R.slots) (k : ∀ q : Nat, Sk M w nL Q (nc + 1) (ns + N) (pc + 3) lv (.ref q :: st) (L ++ [(q, .inl (wO w, N, .inr (.inr (.inr (.inr (fun _ => none))))))]) E) : Sk M w nL Q nc ns pc lv (.int n :: st) L E := fun ls H locs hlv hP hD hS => by
  refine va_newq X.x X.b X.o (X.t _ hl) X.ao X.k hP hD hS X.A hn hN hb (by rw [X.rm]; exact hc) (by rw [X.rm]; exact hs) hd (fun q cA H1 hK hP1 hD1 hS1 => ?_)
  have h1 := (hK.2 3 (cA, .object RX2) rfl).2
  have h2 := (hK.2 2 (wO w, .object "LaughTax$Sheet") rfl).2
  obtain ⟨_, _, _, _, _, e1⟩ := h1
  obtain ⟨_, _, _, _, _, e2⟩ := h2
  have e : cA = wO w := Option.some.inj (e1.symm.trans e2)
  subst e
  exact k q ls H1 locs hlv (va_P_perm (pm_end L E _) hP1) (va_D_perm (pm_end L E _) hD1) hS1
theorem ap_at {L E : va_W} {k : Nat} {x : Nat × va_E} (h : L[k]? = some x) : (L ++ E)[k]? = some x := by rw [List.getElem?_append_left (List.getElem?_eq_some_iff.mp h).1]; exact h
theorem ap_set {L E : va_W} {k : Nat} {x y : Nat × va_E} (h : L[k]? = some x) : (L ++ E).set k y = L.set k y ++ E := List.set_append_left _ _ (List.getElem?_eq_some_iff.mp h).1
theorem Sk.putF (X : Ck M w cc nL own R) {ci : Nat} {T : u_T} {N : Nat} {ty0 : Nat → FieldType} (hC : ClOk ci own T N ty0) (hin : (mt M).name = "<init>") {a ix v : Nat} {fs : List Value} (p j : Nat) (hp : L[p]? = some (a, .inr (ci, fs))) (hj : j < N) (hl : Cond.fieldLink own ix (T j).1 (T j).2.1 (T j).2.2.1 ∈ TB) (hfin : (T j).2.2.2 = true) (hdecl : (T j).1 = own) {ty : FieldType} (hty : parseFieldDescriptor (T j).2.2.1 = some ty) (hn : narrow ty (.ref v) = .ref v) (hfit : fits ty (.ref v) = true) (hlen : j < fs.length) (hd : decode cc pc = .ok (.putfield ix, 3)) (k : Sk M w nL Q nc ns (pc + 3) lv st (L.set p (a, .inr (ci, fs.set j (.ref v)))) E) : Sk M w nL Q nc ns pc lv (.ref v :: .ref a :: st) L E := fun ls H locs hlv hP hD hS => va_putF X.x X.b X.t hC.2.1 ty0 hC.2.2.1 hC.2.2.2 X.o X.k hP hD hS p (ap_at hp) hC.1 j hj (X.t _ hl) (fun _ h => h) hfin hin hdecl hty hn hfit hlen hd (fun H1 locs1 hP1 hD1 hS1 => k ls H1 locs1 hlv (by rw [ap_set hp] at hP1; exact hP1) (by rw [ap_set hp] at hD1; exact hD1) hS1)
theorem Sk.putI (X : Ck M w cc nL own R) {ci : Nat} {T : u_T} {N : Nat} {ty0 : Nat → FieldType} (hC : ClOk ci own T N ty0) {a ix : Nat} {v : Int32} {fs : List Value} (p j : Nat) (hp : L[p]? = some (a, .inr (ci, fs))) (hj : j < N) (hl : Cond.fieldLink own ix (T j).1 (T j).2.1 (T j).2.2.1 ∈ TB) (hfin : (T j).2.2.2 = false) {ty : FieldType} (hty : parseFieldDescriptor (T j).2.2.1 = some ty) (hn : narrow ty (.int v) = .int v) (hfit : fits ty (.int v) = true) (hlen : j < fs.length) (hd : decode cc pc = .ok (.putfield ix, 3)) (k : Sk M w nL Q nc ns (pc + 3) lv st (L.set p (a, .inr (ci, fs.set j (.int v)))) E) : Sk M w nL Q nc ns pc lv (.int v :: .ref a :: st) L E := fun ls H locs hlv hP hD hS => va_put X.x X.b X.t hC.2.1 ty0 hC.2.2.1 hC.2.2.2 X.o X.k hP hD hS p (ap_at hp) hC.1 j hj (X.t _ hl) (fun _ h => h) hfin hty hn hfit hlen hd (fun H1 locs1 hP1 hD1 hS1 => k ls H1 locs1 hlv (by rw [ap_set hp] at hP1; exact hP1) (by rw [ap_set hp] at hD1; exact hD1) hS1)
theorem Sk.get (X : Ck M w cc nL own R) {ci : Nat} {T : u_T} {N : Nat} {ty0 : Nat → FieldType} (hC : ClOk ci own T N ty0) {a ix : Nat} {v : Value} {fs : List Value} (p j : Nat) (hp : L[p]? = some (a, .inr (ci, fs))) (hj : j < N) (hl : Cond.fieldLink own ix (T j).1 (T j).2.1 (T j).2.2.1 ∈ TB) (hv : fs[j]? = some v) (hd : decode cc pc = .ok (.getfield ix, 3)) (k : Sk M w nL Q nc ns (pc + 3) lv (v :: st) L E) : Sk M w nL Q nc ns pc lv (.ref a :: st) L E := fun ls H locs hlv hP hD hS => va_get X.x X.b X.t hC.2.1 X.o X.k hP p (ap_at hp) hC.1 j hj (X.t _ hl) (fun _ h => h) hv hd (k ls H locs hlv hP hD hS)
theorem Sk.iast (X : Ck M w cc nL own R) {a n : Nat} {f : Nat → Int32} {i x : Int32} (p j : Nat) (hp : L[p]? = some (a, .inl (wI w, n, .inl f))) (hi : inB i n = true) (hj : i.toNatClampNeg = j) (hd : decode cc pc = .ok (.iastore, 1)) (k : Sk M w nL Q nc ns (pc + 1) lv st (L.set p (a, .inl (wI w, n, .inl (upd f j x)))) E) : Sk M w nL Q nc ns pc lv (.int x :: .int i :: .ref a :: st) L E := fun ls H locs hlv hP hD hS => by
  subst hj
  exact va_iast X.x X.b X.k hP hD hS p 0 (ap_at hp) rfl (inB_vp hi) hd (fun H1 locs1 hP1 hD1 hS1 => k ls H1 locs1 hlv (by rw [ap_set hp] at hP1; exact hP1) (by rw [ap_set hp] at hD1; exact hD1) hS1)
theorem Sk.aast (X : Ck M w cc nL own R) {a n v : Nat} {f : Nat → Option Nat} {fs : List Value} {i : Int32} (p pk j : Nat) (hp : L[p]? = some (a, .inl (wO w, n, .inr (.inr (.inr (.inr f)))))) (hpk : L[pk]? = some (v, .inr (1, fs))) (hi : inB i n = true) (hj : i.toNatClampNeg = j) (hd : decode cc pc = .ok (.aastore, 1)) (k : Sk M w nL Q nc ns (pc + 1) lv st (L.set p (a, .inl (wO w, n, .inr (.inr (.inr (.inr (va_up f j (some v)))))))) E) : Sk M w nL Q nc ns pc lv (.ref v :: .int i :: .ref a :: st) L E := fun ls H locs hlv hP hD hS => by
  subst hj
  exact va_astq (r := (RX2, TX2, 3)) X.x X.b X.k hP hD hS p 2 pk 1 (ap_at hp) rfl (ap_at hpk) rfl (inB_vp hi) hd (fun H1 locs1 hP1 hD1 hS1 => k ls H1 locs1 hlv (by rw [ap_set hp] at hP1; exact hP1) (by rw [ap_set hp] at hD1; exact hD1) hS1)
theorem Sk.new (X : Ck M w cc nL own R) {ci : Nat} {C : String} {T : u_T} {N ix : Nat} {ty0 : Nat → FieldType} (hC : ClOk ci C T N ty0) (fs : List Value) (hl : Cond.classLink own ix C ∈ TB) (hi : Cond.instantiable C N ∈ TB) (hini : Cond.initialized C ∈ TB) (hfs : ∀ j, j < N → defaultValue (ty0 j) = vp_V fs j) (hd : decode cc pc = .ok (.new ix, 3)) (hc : nc + 1 ≤ R.cells) (hs : ns + N ≤ R.slots) (k : ∀ q : Nat, Sk M w nL Q (nc + 1) (ns + N) (pc + 3) lv (.ref q :: st) (L ++ [(q, .inr (ci, fs))]) E) : Sk M w nL Q nc ns pc lv st L E := fun ls H locs hlv hP hD hS => by
  refine va_new X.x X.b X.t hC.2.1 ty0 hC.2.2.1 X.o (X.t _ hl) (X.t _ hi) (X.t _ hini) X.k hP hD hS X.A hC.1 hfs (by rw [X.rm]; exact hc) (by rw [X.rm]; exact hs) hd (fun q H1 hP1 hD1 hS1 => ?_)
  exact k q ls H1 locs hlv (va_P_perm (pm_end L E _) hP1) (va_D_perm (pm_end L E _) hD1) hS1
end
/-- a constructor's start and end -/
def PkM (w : WE) (q : Nat) (e : va_E) (E : va_W) (U : State) : Prop := va_P (wD w) vwCl ((q, e) :: E) U.heap ∧ va_D (AA w) ((q, e) :: E) ∧ va_K (wD w) vwCl (tysW w) U ∧ wa0 w ≤ U.heap.size ∧ va_AO RX2 U
def QkM (w : WE) (q : Nat) (blk : (Nat → Nat) → va_W) (E : va_W) : Array Value → State → Outcome → State → Prop := fun _ st oc t => oc = .returned none ∧ (∃ f : Nat → Nat, f 0 = q ∧ va_P (wD w) vwCl (blk f ++ E) t.heap ∧ va_D (AA w) (blk f ++ E)) ∧ va_F (AA w) st t
def Kt (l : Launch) (w : WE) (y : MethodName) (cc : ByteArray) (nL : Nat) (R : Room) (e : va_E) (blk : (Nat → Nat) → va_W) : Prop := ∀ (q : Nat) (E : va_W), Met l y (Cond.code y cc nL none :: TB) R (va_Pc [.ref q] (PkM w q e E)) (QkM w q blk E) R.cells R.slots (AA w)
theorem Kt.of {l : Launch} {w : WE} {y : MethodName} {cc : ByteArray} {nL : Nat} {R : Room} {e : va_E} {blk : (Nat → Nat) → va_W} (lv0 : Nat → List (Option Value)) (hy : plainName y.cls = true) (hyn : y.name = "<init>") (hlv : ∀ q, lv_args 0 [Value.ref q] = lvl 0 (lv0 q)) (hlen : 1 ≤ nL) (h : ∀ (M : MC) (q : Nat) (E : va_W), ml M = l → Ck M w cc nL y.cls R → (mt M).name = "<init>" → (mt M).sig.returnType = none → (mt M).locks = false → Sk M w nL (MQ (mb M) (QkM w q blk E) (ma M) (mS M) R.cells R.slots (AA w)) 0 0 0 (lv0 q) [] [(q, e)] E) : Kt l w y cc nL R e blk := by
  intro q E
  refine Met.ofW (cc := cc) (maxL := nL) (ret := none) hy rfl ?_
  intro p e1 s m args below meth c s₁ B hml hv
  obtain ⟨rfl, hP, hD, hK, ha0, hao⟩ := hv
  have hts := atoms_spec (ws := Cond.code y cc nL none :: TB) B.pre
  have hown : s.vm.findClass y.cls = some m.cls := findClass_of_methodNamed B.named
  have hnm : meth.name = "<init>" := by rw [← hyn]; exact (name_of_methodNamed B.named B.method).1
  have hl := lv_entry [Value.ref q] (n := nL) hlen
  rw [lg_entry_eq]
  rw [hlv q] at hl
  exact h (p, l, e1, R, s, m, [Value.ref q].toArray, below, meth, c) q E rfl ⟨B.exec, B.bytes, hml, hown, fun x hx => hts x (List.mem_cons_of_mem _ hx), hK, ha0, hao, rfl⟩ hnm B.returns B.notSynchronized _ s.heap [] hl hP hD va_S.rf
theorem PkM.blind {w : WE} {q : Nat} {e : va_E} {E : va_W} {av : List Value} : FrameBlind (va_Pc av (PkM w q e E)) := fun a U g mk x => by
  obtain ⟨q0, qP, qD, qK, q1, q2⟩ := x
  exact ⟨q0, qP, qD, va_K.moved (u := U) (U := U.calling g mk a) (Vm.Alike.refl U.vm) qK, q1, va_AO.moved (u := U) (U := U.calling g mk a) (Vm.Alike.refl U.vm) q2⟩
section
variable {M : MC} {w : WE} {cc : ByteArray} {nL : Nat} {own : String} {R : Room} {Q : State → Prop} {nc ns pc : Nat} {lv : List (Option Value)} {st : List Value} {L E : va_W}
theorem Sk.vret (X : Ck M w cc nL own R) (hret : (mt M).sig.returnType = none) (hlk : (mt M).locks = false) {q : Nat} {blk : (Nat → Nat) → va_W} (f : Nat → Nat) (hf : f 0 = q) (he : blk f = L) (hd : decode cc pc = .ok (.return_, 1)) : Sk M w nL (MQ (mb M) (QkM w q blk E) (ma M) (mS M) nc ns (AA w)) nc ns pc lv [] L E := fun ls H locs hlv hP hD hS => W.vret X.x X.b hret (fun t ht _ => ⟨rfl, ⟨f, hf, by rw [ht, he]; exact hP, by rw [he]; exact hD⟩, hS.F ht⟩) hS.2.2 hd hlk
/-- behind a constructor -/
theorem Sk.call {R' : Room} {q : Nat} {e : va_E} {blk : (Nat → Nat) → va_W} (hr : ∀ (H : Heap) (locs : List Loc) (ls : Array Slot), lvH ls nL lv → va_P (wD w) vwCl ((q, e) :: (L ++ E)) H → va_D (AA w) ((q, e) :: (L ++ E)) → va_S (AA w) (mS M).heap H locs → va_Run (mp M) (ml M) (me M) (mR M) (mS M) (mm M) (ma M) (mb M) (mt M) (mc M) H locs nc ns R'.cells R'.slots (F0 (mm M) pc ls (.ref q :: st)) st (QkM w q blk (L ++ E) [Value.ref q].toArray) (AA w))
    (k : ∀ f : Nat → Nat, f 0 = q → Sk M w nL Q (nc + R'.cells) (ns + R'.slots) (pc + 3) lv st (L ++ blk f) E) : Sk M w nL Q nc ns pc lv (.ref q :: st) (L ++ [(q, e)]) E := fun ls H locs hlv hP hD hS => by
  have hP' := va_P_perm (pm_cut L E (q, e)) hP
  have hD' := va_D_perm (pm_cut L E (q, e)) hD
  intro T hT XT
  obtain ⟨v, st₀, t, T', Ls, h0, X', hL, e1, e2, ⟨hv, ⟨f, hf, hP1, hD1⟩, hz, hk⟩, stp⟩ := hr H locs ls hlv hP' hD' hS T hT XT
  cases hv
  rw [h0] at hz hk
  obtain ⟨t2, a1, b1⟩ := k f hf ls T'.heap (locs ++ Ls) hlv (by rw [e1]; exact va_P_perm (pm_back _ L E) hP1) (va_D_perm (pm_back _ L E) hD1)
    ⟨Nat.le_trans hS.1 (by rw [e1]; exact hz), fun x h1 h2 => by rw [e1, hk x (Nat.lt_of_lt_of_le h1 hS.1) h2]; exact hS.2.1 x h1 h2, fun x hx => by
      rcases List.mem_append.mp hx with h | h
      · exact hS.2.2 x h
      · exact hL x h⟩ T' rfl X'
  exact ⟨t2, stp t2 a1, b1⟩
theorem Ck.warm (X : Ck M w cc nL own R) {y : MethodName} {cc' : ByteArray} {nL' : Nat} (hc : Cond.code y cc' nL' none ∈ TB) : ∀ x ∈ (Cond.code y cc' nL' none :: TB), ∀ (a' : Array Value) (U : State), (mS M).WarmedH U.vm → x.before a' U = true := fun x hx a' U hW => by
  have hx2 : x ∈ TB := by
    rcases List.mem_cons.mp hx with rfl | h
    · exact hc
    · exact h
  exact tb_warm X.t hW x hx2
def fitK (R R' : Room) (nL' : Nat) : Bool := decide (R'.frames + 1 ≤ R.frames) && decide (8 + (nL' + 11) + R'.locals ≤ R.locals)
theorem Sk.ctor (X : Ck M w cc nL own R) {y : MethodName} {cc' : ByteArray} {nL' : Nat} {R' : Room} {q ix : Nat} {e : va_E} {blk : (Nat → Nat) → va_W} (hK : Kt (ml M) w y cc' nL' R' e blk) (hC : CalB y cc' nL' none 0) (hi : Cond.instanceMethod y ∈ TB) (hyn : y.name = "<init>") (hl : Cond.methodLink own ix y ∈ TB) (hf : fitK R R' nL' = true) (hd : decode cc pc = .ok (.invokespecial ix, 3)) (hsum : (st.map fun v => v.category).sum ≤ 8) (hc : nc + R'.cells ≤ R.cells) (hs : ns + R'.slots ≤ R.slots) (k : ∀ f : Nat → Nat, f 0 = q → Sk M w nL Q (nc + R'.cells) (ns + R'.slots) (pc + 3) lv st (L ++ blk f) E) : Sk M w nL Q nc ns pc lv (.ref q :: st) (L ++ [(q, e)]) E := by
  have hf' : R'.frames + 1 ≤ R.frames ∧ 8 + (nL' + 11) + R'.locals ≤ R.locals := by simpa [fitK] using hf
  refine Sk.call (fun H locs ls hlv hP hD hS => ?_) k
  refine va_runI (As := []) (rest := st) ⟨X.x, X.b, X.ml, X.o, X.t⟩ (hK q (L ++ E)) ⟨⟨rfl, rfl, by rw [X.rm]; exact hf'.1, by rw [X.rm]; exact hf'.2, X.warm hC.1, List.mem_cons_self, X.t _ hC.1, X.t _ hC.2.1, ⟨hC.2.2.1, hC.2.2.2.1⟩, hC.len, X.t _ hl⟩, hyn, X.t _ hi⟩ ⟨PkM.blind, fun U hU hW => ⟨rfl, by rw [hU]; exact hP, hD, va_K.moved hW.alike X.k, by rw [hU]; exact Nat.le_trans X.a0 hS.1, X.ao.moved hW.alike⟩⟩ rfl rfl hlv.1 rfl (lv_room hsum) hd (by rw [X.rm]; exact ⟨hc, hs⟩)
theorem Sk.ctorN (X : Ck M w cc nL own R) {host : String} {y : MethodName} {cc' : ByteArray} {nL' : Nat} {R' : Room} {q ix : Nat} {e : va_E} {blk : (Nat → Nat) → va_W} (hK : Kt (ml M) w y cc' nL' R' e blk) (hC : CalB y cc' nL' none 0) (hi : Cond.instanceMethod y ∈ TB) (hyn : y.name = "<init>") (hl : Cond.methodLinkNest own ix y host ∈ TB) (hf : fitK R R' nL' = true) (hd : decode cc pc = .ok (.invokespecial ix, 3)) (hsum : (st.map fun v => v.category).sum ≤ 8) (hc : nc + R'.cells ≤ R.cells) (hs : ns + R'.slots ≤ R.slots) (k : ∀ f : Nat → Nat, f 0 = q → Sk M w nL Q (nc + R'.cells) (ns + R'.slots) (pc + 3) lv st (L ++ blk f) E) : Sk M w nL Q nc ns pc lv (.ref q :: st) (L ++ [(q, e)]) E := by
  have hf' : R'.frames + 1 ≤ R.frames ∧ 8 + (nL' + 11) + R'.locals ≤ R.locals := by simpa [fitK] using hf
  refine Sk.call (fun H locs ls hlv hP hD hS => ?_) k
  refine va_runIN (As := []) (rest := st) ⟨X.x, X.b, X.ml, X.o, X.t⟩ (hK q (L ++ E)) ⟨⟨⟨rfl, rfl, by rw [X.rm]; exact hf'.1, by rw [X.rm]; exact hf'.2, X.warm hC.1, List.mem_cons_self⟩, X.t _ hC.1, X.t _ hC.2.1, ⟨hC.2.2.1, hC.2.2.2.1⟩, hC.len, X.t _ hl⟩, hyn, X.t _ hi⟩ ⟨PkM.blind, fun U hU hW => ⟨rfl, by rw [hU]; exact hP, hD, va_K.moved hW.alike X.k, by rw [hU]; exact Nat.le_trans X.a0 hS.1, X.ao.moved hW.alike⟩⟩ rfl rfl hlv.1 rfl (lv_room hsum) hd (by rw [X.rm]; exact ⟨hc, hs⟩)
end
