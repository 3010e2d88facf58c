theorem wfJ0_9 : Cond.fieldLink RJ0 9 "java/lang/String" "value" "[B" ∈ TB := tb_t 1266 (by decide +kernel) (by decide +kernel)
theorem wfJ0_15 : Cond.fieldLink RJ0 15 "java/lang/String" "coder" "B" ∈ TB := tb_t 1267 (by decide +kernel) (by decide +kernel)
theorem wfJ0_38 : Cond.fieldLink RJ0 38 "java/lang/String" "COMPACT_STRINGS" "Z" ∈ TB := tb_t 606 (by decide +kernel) (by decide +kernel)
theorem wfJ0_1053 : Cond.fieldLink RJ0 1053 "jdk/internal/util/Preconditions" "SIOOBE_FORMATTER" "Ljava/util/function/BiFunction;" ∈ TB := tb_t 622 (by decide +kernel) (by decide +kernel)
section
variable {M : MC} {w : WE} {sh : List Shp} {cc : ByteArray} {nL : Nat} {own : String} {ret : Option FieldType} {d : Nat} {α : Type} {ι : α → Option Value × Mem} {pc : Nat} {lv : List (Option Value)} {st : List Value} {σ : Mem} {b : Option α}
theorem Cp.topB {v : Int32} (k : Cp M w sh nL ι pc lv (.int (b2i (decide (v = 1))) :: st) σ b) : Cp M w sh nL ι pc lv (.int v :: st) σ (gd (v = 0 ∨ v = 1) b) := Cp.grd (fun h => by
  have e : v = b2i (decide (v = 1)) := by rcases h with rfl | rfl <;> decide
  rw [← e] at k
  exact k)
theorem Cp.ldcS (j : Nat) (X : Cx M w sh cc nL own ret d) {tx : String} {index : Nat} (hm : (own, index, tx, j) ∈ strTab) (hd : decode cc pc = .ok (.ldc index, 2)) (kk : Cp M w sh nL ι (pc + 2) lv (.ref (wK w j) :: st) σ b) : Cp M w sh nL ι pc lv st σ b := fun a ha ls H locs hlv hP hS => va_ldcS X.x X.b X.o (X.e.2.2.1 _ hm) hd (kk a ha ls H locs hlv hP hS)
theorem ldcSW {T : State} {locs : List Loc} {cells slots : Nat} {p : Program} {l : Launch} {e : Env} {R : Room} {s : State} {m : MethodId} {args : Array Value} {below : List Frame} {meth : Method} {c : Code} (X : Stand p l e R s m args below meth c T locs cells slots) (hexec : p.tables.exec = Jvm.exec) {own text : String} {index : Nat} {a : Addr} (hown : s.vm.findClass own = some m.cls)
    (hconst : (Cond.stringRef own index text).before args s = true) (hev : (Term.string own index).eval args s none [] s = some (.ref a)) {g : JFrame} (hg : g.method = m) (hdg : decode c.code g.pc = .ok (.ldc_w index, 3)) :
    ∀ target, Steps p.tables e below (T.setTop { g with pc := g.pc + 3, stack := .ref a :: g.stack }) target → Steps p.tables e below (T.setTop g) target := by
  obtain ⟨k, cf, i, a', hk, hcf, hcp, -, hr, hev'⟩ := Cond.stringRef_spec hown hconst
  cases hev.symm.trans hev'
  obtain ⟨k', hk', he⟩ := X.warmed.alike.2.2 _ _ hk
  have hr' : k'.resolved[index]? = some (some (.string a)) := by
    rcases X.warmed.entry hk hk' index with h | ⟨h, -⟩
    · rw [h]; exact hr
    · rw [hr] at h; cases h
  intro target hrest
  subst hg
  jvm_step X.here [hexec, hdg, ldc_w.wp_string (e := e) (s := T) (f := g) X.here.top hk' (by rw [he]; exact hcf) hcp hr']
  exact hrest
theorem Cp.ldcSw (j : Nat) (X : Cx M w sh cc nL own ret d) {tx : String} {index : Nat} (hm : (own, index, tx, j) ∈ strTab) (hd : decode cc pc = .ok (.ldc_w index, 3)) (kk : Cp M w sh nL ι (pc + 3) lv (.ref (wK w j) :: st) σ b) : Cp M w sh nL ι pc lv st σ b := fun a ha ls H locs hlv hP hS => by
  intro T hT XT
  obtain ⟨t, a1, b1⟩ := kk a ha ls H locs hlv hP hS T hT XT
  have hZ := X.e.2.2.1 _ hm
  exact ⟨t, ldcSW XT X.x X.o (text := tx) (a := wK w j) hZ.1 hZ.2 (g := F0 (mm M) pc ls st) rfl (by rw [X.b]; exact hd) t a1, b1⟩
theorem Cp.i2c (X : Cx M w sh cc nL own ret d) {x : Int32} (hd : decode cc pc = .ok (.i2c, 1)) (k : Cp M w sh nL ι (pc + 1) lv (.int ((x.toUInt32 % 65536).toInt32) :: st) σ b) : Cp M w sh nL ι pc lv (.int x :: st) σ b := fun a ha ls H locs hl hP hS => lv_i2c X.x X.b hd rfl (k a ha ls H locs hl hP hS)
theorem Cp.tlen (X : Cx M w sh cc nL own ret d) {i : Nat} (hi : i < 15) (hd : decode cc pc = .ok (.arraylength, 1)) (kk : Cp M w sh nL ι (pc + 1) lv (.int (nI (strL i)) :: st) σ b) : Cp M w sh nL ι pc lv (.ref (wV w i) :: st) σ b := fun a ha ls H locs hlv hP hS => va_tlen X.x X.b (X.e.2.1 i hi).2.2.2 hS rfl hd (kk a ha ls H locs hlv hP hS)
theorem Cp.tbl (X : Cx M w sh cc nL own ret d) {i : Nat} (hi : i < 15) {x : Int32} (hin : inB x (strL i) = true) (hd : decode cc pc = .ok (.baload, 1)) (kk : Cp M w sh nL ι (pc + 1) lv (.int (strC i x.toNatClampNeg) :: st) σ b) : Cp M w sh nL ι pc lv (.int x :: .ref (wV w i) :: st) σ b := fun a ha ls H locs hlv hP hS => va_tb X.x X.b (X.e.2.1 i hi).2.2.2 hS (inB_vp hin) rfl hd (kk a ha ls H locs hlv hP hS)
end
section
variable {M : MC} {w : WE} {sh : List Shp} {cc : ByteArray} {nL : Nat} {ret : Option FieldType} {d : Nat} {α : Type} {ι : α → Option Value × Mem} {pc : Nat} {lv : List (Option Value)} {st : List Value} {σ : Mem} {b : Option α}
theorem Cp.sVal (X : Cx M w sh cc nL RJ0 ret d) {i : Nat} (hi : i < 15) (hd : decode cc pc = .ok (.getfield 9, 3)) (kk : Cp M w sh nL ι (pc + 3) lv (.ref (wV w i) :: st) σ b) : Cp M w sh nL ι pc lv (.ref (wK w i) :: st) σ b := fun a ha ls H locs hlv hP hS => vk_getf X.x X.b (X.e.2.1 i hi).2.2.1 hS X.o (X.t _ wfJ0_9) (fun _ h => h) hd (kk a ha ls H locs hlv hP hS)
theorem Cp.sCod (X : Cx M w sh cc nL RJ0 ret d) {i : Nat} (hi : i < 15) (hd : decode cc pc = .ok (.getfield 15, 3)) (kk : Cp M w sh nL ι (pc + 3) lv (.int 0 :: st) σ b) : Cp M w sh nL ι pc lv (.ref (wK w i) :: st) σ b := fun a ha ls H locs hlv hP hS => vk_getf X.x X.b (X.e.2.1 i hi).2.1 hS X.o (X.t _ wfJ0_15) (fun _ h => h) hd (kk a ha ls H locs hlv hP hS)
theorem Cp.getCS (X : Cx M w sh cc nL RJ0 ret d) (hd : decode cc pc = .ok (.getstatic 38, 3)) (kk : Cp M w sh nL ι (pc + 3) lv (.int 1 :: st) σ b) : Cp M w sh nL ι pc lv st σ b := fun a ha ls H locs hlv hP hS => va_gets X.x X.b X.e.2.2.2.1 hS X.o (X.t _ wfJ0_38) (fun _ h => h) hd (kk a ha ls H locs hlv hP hS)
theorem Cp.getSF (X : Cx M w sh cc nL RJ0 ret d) (hd : decode cc pc = .ok (.getstatic 1053, 3)) (kk : ∀ v : Value, (v = .null ∨ ∃ t, v = .ref t) → Cp M w sh nL ι (pc + 3) lv (v :: st) σ b) : Cp M w sh nL ι pc lv st σ b := fun a ha ls H locs hlv hP hS => by
  rcases X.e.2.2.2.2 with h | ⟨t, h⟩
  · exact va_gets X.x X.b h hS X.o (X.t _ wfJ0_1053) (fun _ h => h) hd (kk _ (Or.inl rfl) a ha ls H locs hlv hP hS)
  · exact va_gets X.x X.b h hS X.o (X.t _ wfJ0_1053) (fun _ h => h) hd (kk _ (Or.inr ⟨t, rfl⟩) a ha ls H locs hlv hP hS)
end
section
variable {M : MC} {w : WE} {sh : List Shp} {cc : ByteArray} {nL : Nat} {own : String} {ret : Option FieldType} {d : Nat} {α : Type} {ι : α → Option Value × Mem} {pc : Nat} {lv : List (Option Value)} {st : List Value} {σ : Mem} {b : Option α} {y : MethodName} {cc' : ByteArray} {nL' : Nat} {ret' : Option FieldType} {d' n index : Nat} {stk : List Value}
/-- a call upon a String constant -/
theorem Cp.cStr (X : Cx M w sh cc nL own ret d) {i : Nat} (hi : i < 15) (As : List Value) (hC : CalV y cc' nL' ret' n) (hy : y.cls = "java/lang/String") {v : Int32} (hk : Ctr (ml M) w sh y cc' nL' ret' d' (.ref (wK w i) :: As) σ (some (.int v), σ)) (hl : Cond.methodLink own index y ∈ TB) (hf : fitR d d' nL' = true) (hn : As.length = n) (hd : decode cc pc = .ok (.invokevirtual index, 3)) (hstk : stk = As.reverse ++ .ref (wK w i) :: st) (hsum : (st.map fun v => v.category).sum ≤ 8) (kk : Cp M w sh nL ι (pc + 3) lv (.int v :: st) σ b) : Cp M w sh nL ι pc lv stk σ b := fun a ha ls H locs hlv hP hS => by
  subst hstk
  obtain ⟨r1, r2⟩ := fitR_1 hf
  refine cqM X (va_runV (C := y.cls) (As := As) (rest := st) ⟨X.x, X.b, X.ml, X.o, X.t⟩ hk ⟨⟨rfl, rfl, by rw [X.R]; exact r1, by rw [X.R]; exact r2, warmTB X hC.1.1, List.mem_cons_self, X.t _ hC.1.1, X.t _ hC.1.2.1, ⟨hC.1.2.2.1, hC.1.2.2.2.1⟩, hC.1.len, X.t _ hl⟩, X.t _ hC.2.1, X.t _ hC.2.2⟩ ⟨PcM.blind, ?_, X.pre hP hS⟩ rfl hn hlv.1 rfl (lv_room hsum) hd (by rw [X.R]; exact ⟨Nat.le_refl _, Nat.le_refl _⟩)) hS (fun H1 locs1 hP1 hS1 => kk a ha ls H1 locs1 hlv hP1 hS1)
  obtain ⟨cell, h1, h2, h3, -⟩ := (X.e.2.1 i hi).1.kept hS.2.1
  rw [hy]
  exact ⟨cell, h1, h2, h3⟩
end
theorem kJ0_coder {l : Launch} {w : WE} {sh : List Shp} (hok : OkW w sh) (i : Nat) (hi : i < 15) (σ : Mem) : Ctr l w sh yJ0_coder_7d493 cJ0_coder_7d493 1 (some .byte) 0 [.ref (wK w i)] σ (iI σ 0) := Ctr.of [some (.ref (wK w i))] (by decide) hok rfl (Nat.le_of_ble_eq_true rfl) (fun M _ X => by
  have h : Cp M w sh 1 (iI σ) 0 [some (.ref (wK w i))] [] σ (some 0) := by
    refine Cp.getCS X dJ0_coder_7d493_0 ?_
    refine Cp.eqB (b2 := if (1 : Int32) = 0 then none else some 0) (by decide) ?_
    refine Cp.if_eq X 13 dJ0_coder_7d493_3 (by decide) (fun c => absurd c (by decide)) (fun c => ?_)
    refine Cp.aload_n (i := 0) X dJ0_coder_7d493_6 rfl rfl ?_
    refine Cp.sCod X hi dJ0_coder_7d493_7 ?_
    refine Cp.goto X 14 dJ0_coder_7d493_10 (by decide) ?_
    exact Cp.zret X (by decide +kernel) dJ0_coder_7d493_14 rfl
  exact h 0 rfl)
theorem kJ0_length {l : Launch} {w : WE} {sh : List Shp} (hok : OkW w sh) (i : Nat) (hi : i < 15) (σ : Mem) : Ctr l w sh yJ0_length_8abf5 cJ0_length_8abf5 1 (some .int) 1 [.ref (wK w i)] σ (iI σ (nI (strL i))) := Ctr.of [some (.ref (wK w i))] (by decide) hok rfl (Nat.le_of_ble_eq_true rfl) (fun M _ X => by
  have h : Cp M w sh 1 (iI σ) 0 [some (.ref (wK w i))] [] σ (some (nI (strL i))) := by
    refine Cp.aload_n (i := 0) X dJ0_length_8abf5_0 rfl rfl ?_
    refine Cp.sVal X hi dJ0_length_8abf5_1 ?_
    refine Cp.tlen X hi dJ0_length_8abf5_4 ?_
    refine Cp.aload_n (i := 0) X dJ0_length_8abf5_5 rfl rfl ?_
    refine Cp.cStr (st := [.int (nI (strL i))]) X hi [] cvJ0_coder_7d493 rfl (kJ0_coder X.ok i hi σ) wmJ0_335 rfl rfl dJ0_length_8abf5_6 rfl (Nat.le_of_ble_eq_true rfl) ?_
    refine Cp.ishr X dJ0_length_8abf5_9 ?_
    rw [sb_shr0]
    exact Cp.iret X dJ0_length_8abf5_10 rfl
  exact h _ rfl)
theorem kJ0_isLatin1 {l : Launch} {w : WE} {sh : List Shp} (hok : OkW w sh) (i : Nat) (hi : i < 15) (σ : Mem) : Ctr l w sh yJ0_isLatin1_aae02 cJ0_isLatin1_aae02 1 (some .boolean) 0 [.ref (wK w i)] σ (iI σ 1) := Ctr.of [some (.ref (wK w i))] (by decide) hok rfl (Nat.le_of_ble_eq_true rfl) (fun M _ X => by
  have h : Cp M w sh 1 (iI σ) 0 [some (.ref (wK w i))] [] σ (some 1) := by
    refine Cp.getCS X dJ0_isLatin1_aae02_0 ?_
    refine Cp.eqB (b2 := if (1 : Int32) = 0 then none else some 1) (by decide) ?_
    refine Cp.if_eq X 17 dJ0_isLatin1_aae02_3 (by decide) (fun c => absurd c (by decide)) (fun c => ?_)
    refine Cp.aload_n (i := 0) X dJ0_isLatin1_aae02_6 rfl rfl ?_
    refine Cp.sCod X hi dJ0_isLatin1_aae02_7 ?_
    refine Cp.eqB (b2 := if (0 : Int32) = 0 then some 1 else none) (by decide) ?_
    refine Cp.if_ne X 17 dJ0_isLatin1_aae02_10 (by decide) (fun c => absurd rfl c) (fun c => ?_)
    refine Cp.iconst (v := 1) X dJ0_isLatin1_aae02_13 rfl ?_
    refine Cp.goto X 18 dJ0_isLatin1_aae02_14 (by decide) ?_
    exact Cp.zret X (by decide +kernel) dJ0_isLatin1_aae02_18 rfl
  exact h 1 rfl)
theorem inB_nI {x : Int32} {n : Nat} (h : inB x n = true) : x = nI x.toNatClampNeg ∧ x.toNatClampNeg < n ∧ 0 ≤ x := by
  simp only [inB, Bool.and_eq_true, decide_eq_true_eq] at h
  refine ⟨?_, h.2, h.1⟩
  obtain ⟨j, hj, rfl⟩ := nI_of (Int32.not_lt.mpr h.1)
  rw [nI_clamp hj]
theorem strL_lt : ∀ i, i < 15 → strL i < 20 := by decide +kernel
theorem kJ3_check {l : Launch} {w : WE} {sh : List Shp} (hok : OkW w sh) (i : Nat) (hi : i < 15) (x : Int32) (hx : inB x (strL i) = true) (v : Value) (hv : v = .null ∨ ∃ t, v = .ref t) (σ : Mem) : Ctr l w sh yJ3_checkIndex_8e157 cJ3_checkIndex_8e157 3 (some .int) 0 [.int x, .int (nI (strL i)), v] σ (iI σ x) := by
  obtain ⟨e1, e2, e3⟩ := inB_nI hx
  have hlt : x < nI (strL i) := by rw [e1]; exact nI_lt e2 (Nat.lt_trans (strL_lt i hi) (by decide))
  have key : ∀ M : MC, Cx M w sh cJ3_checkIndex_8e157 3 RJ3 (some .int) 0 → Cp M w sh 3 (iI σ) 0 [some (.int x), some (.int (nI (strL i))), some v] [] σ (some x) := fun M X => by
    refine Cp.iload_n (i := 0) X dJ3_checkIndex_8e157_0 rfl rfl ?_
    refine Cp.eqB (b2 := if x < 0 then none else some x) (by rw [if_neg (Int32.not_lt.mpr e3)]) ?_
    refine Cp.if_lt X 9 dJ3_checkIndex_8e157_1 (by decide) (fun c => absurd c (Int32.not_lt.mpr e3)) (fun c => ?_)
    refine Cp.iload_n (i := 0) X dJ3_checkIndex_8e157_4 rfl rfl ?_
    refine Cp.iload_n (i := 1) X dJ3_checkIndex_8e157_5 rfl rfl ?_
    refine Cp.eqB (b2 := if x < nI (strL i) then some x else none) (by rw [if_pos hlt]) ?_
    refine Cp.icmp_lt X 16 dJ3_checkIndex_8e157_6 (by decide) (fun c => ?_) (fun c => absurd hlt c)
    refine Cp.iload_n (i := 0) X dJ3_checkIndex_8e157_16 rfl rfl ?_
    exact Cp.iret X dJ3_checkIndex_8e157_17 rfl
  rcases hv with rfl | ⟨t, rfl⟩
  · exact Ctr.of [some (.int x), some (.int (nI (strL i))), some .null] (by decide) hok rfl (Nat.le_of_ble_eq_true rfl) (fun M _ X => key M X _ rfl)
  · exact Ctr.of [some (.int x), some (.int (nI (strL i))), some (.ref t)] (by decide) hok rfl (Nat.le_of_ble_eq_true rfl) (fun M _ X => key M X _ rfl)
theorem kJ0_check {l : Launch} {w : WE} {sh : List Shp} (hok : OkW w sh) (i : Nat) (hi : i < 15) (x : Int32) (hx : inB x (strL i) = true) (σ : Mem) : Ctr l w sh yJ0_checkIndex_df160 cJ0_checkIndex_df160 2 none 1 [.int x, .int (nI (strL i))] σ (iVM σ) := Ctr.of [some (.int x), some (.int (nI (strL i)))] (by decide) hok rfl (Nat.le_of_ble_eq_true rfl) (fun M _ X => by
  have h : Cp M w sh 2 iVM 0 [some (.int x), some (.int (nI (strL i)))] [] σ (some σ) := by
    refine Cp.iload_n (i := 0) X dJ0_checkIndex_df160_0 rfl rfl ?_
    refine Cp.iload_n (i := 1) X dJ0_checkIndex_df160_1 rfl rfl ?_
    refine Cp.getSF X dJ0_checkIndex_df160_2 (fun v hv => ?_)
    refine Cp.cSIT [] X [.int x, .int (nI (strL i)), v] csJ3_checkIndex_8e157 (kJ3_check X.ok i hi x hx v hv σ) wmJ0_1059 rfl rfl dJ0_checkIndex_df160_5 rfl (Nat.le_of_ble_eq_true rfl) ?_
    refine Cp.pop X dJ0_checkIndex_df160_8 rfl ?_
    exact Cp.vret X dJ0_checkIndex_df160_9 rfl
  exact h _ rfl)
theorem strC_ok : ∀ i, i < 15 → ∀ k, k < 20 → (((strC i k &&& 255).toUInt32 % 65536).toInt32 = strC i k ∧ narrow .char (.int (strC i k)) = .int (strC i k)) := by decide +kernel
theorem kJ1_charAt {l : Launch} {w : WE} {sh : List Shp} (hok : OkW w sh) (i : Nat) (hi : i < 15) (x : Int32) (hx : inB x (strL i) = true) (σ : Mem) : Ctr l w sh yJ1_charAt_3b067 cJ1_charAt_3b067 2 (some .char) 2 [.ref (wV w i), .int x] σ (iI σ (strC i x.toNatClampNeg)) := Ctr.of [some (.ref (wV w i)), some (.int x)] (by decide) hok rfl (Nat.le_of_ble_eq_true rfl) (fun M _ X => by
  obtain ⟨h1, h2⟩ := strC_ok i hi x.toNatClampNeg (Nat.lt_trans (inB_nI hx).2.1 (strL_lt i hi))
  have h : Cp M w sh 2 (iI σ) 0 [some (.ref (wV w i)), some (.int x)] [] σ (some (strC i x.toNatClampNeg)) := by
    refine Cp.iload_n (i := 1) X dJ1_charAt_3b067_0 rfl rfl ?_
    refine Cp.aload_n (i := 0) X dJ1_charAt_3b067_1 rfl rfl ?_
    refine Cp.tlen X hi dJ1_charAt_3b067_2 ?_
    refine Cp.cSVT [] X [.int x, .int (nI (strL i))] csJ0_checkIndex_df160 (kJ0_check X.ok i hi x hx σ) wmJ1_9 rfl rfl dJ1_charAt_3b067_3 rfl (Nat.le_of_ble_eq_true rfl) ?_
    refine Cp.aload_n (i := 0) X dJ1_charAt_3b067_6 rfl rfl ?_
    refine Cp.iload_n (i := 1) X dJ1_charAt_3b067_7 rfl rfl ?_
    refine Cp.tbl X hi hx dJ1_charAt_3b067_8 ?_
    refine Cp.sipush (v := 255) X dJ1_charAt_3b067_9 rfl ?_
    refine Cp.iand X dJ1_charAt_3b067_12 ?_
    refine Cp.i2c X dJ1_charAt_3b067_13 ?_
    rw [h1]
    exact Cp.zret X h2 dJ1_charAt_3b067_14 rfl
  exact h _ rfl)
theorem kJ0_charAt {l : Launch} {w : WE} {sh : List Shp} (hok : OkW w sh) (i : Nat) (hi : i < 15) (x : Int32) (hx : inB x (strL i) = true) (σ : Mem) : Ctr l w sh yJ0_charAt_5068e cJ0_charAt_5068e 2 (some .char) 3 [.ref (wK w i), .int x] σ (iI σ (strC i x.toNatClampNeg)) := Ctr.of [some (.ref (wK w i)), some (.int x)] (by decide) hok rfl (Nat.le_of_ble_eq_true rfl) (fun M _ X => by
  obtain ⟨h1, h2⟩ := strC_ok i hi x.toNatClampNeg (Nat.lt_trans (inB_nI hx).2.1 (strL_lt i hi))
  have h : Cp M w sh 2 (iI σ) 0 [some (.ref (wK w i)), some (.int x)] [] σ (some (strC i x.toNatClampNeg)) := by
    refine Cp.aload_n (i := 0) X dJ0_charAt_5068e_0 rfl rfl ?_
    refine Cp.cStr (st := []) X hi [] cvJ0_isLatin1_aae02 rfl (kJ0_isLatin1 X.ok i hi σ) wmJ0_492 rfl rfl dJ0_charAt_5068e_1 rfl (Nat.le_of_ble_eq_true rfl) ?_
    refine Cp.eqB (b2 := if (1 : Int32) = 0 then none else some (strC i x.toNatClampNeg)) (by rw [if_neg (by decide)]) ?_
    refine Cp.if_eq X 16 dJ0_charAt_5068e_4 (by decide) (fun c => absurd c (by decide)) (fun c => ?_)
    refine Cp.aload_n (i := 0) X dJ0_charAt_5068e_7 rfl rfl ?_
    refine Cp.sVal X hi dJ0_charAt_5068e_8 ?_
    refine Cp.iload_n (i := 1) X dJ0_charAt_5068e_11 rfl rfl ?_
    refine Cp.cSIT [] X [.ref (wV w i), .int x] csJ1_charAt_3b067 (kJ1_charAt X.ok i hi x hx σ) wmJ0_495 rfl rfl dJ0_charAt_5068e_12 rfl (Nat.le_of_ble_eq_true rfl) ?_
    exact Cp.zret X h2 dJ0_charAt_5068e_15 rfl
  exact h _ rfl)
section
variable {M : MC} {w : WE} {sh : List Shp} {cc : ByteArray} {nL : Nat} {own : String} {ret : Option FieldType} {d : Nat} {α : Type} {ι : α → Option Value × Mem} {pc : Nat} {lv : List (Option Value)} {st : List Value} {σ : Mem} {b : Option α} {index : Nat}
theorem Cp.sLen (X : Cx M w sh cc nL own ret d) {i : Nat} (hl : Cond.methodLink own index yJ0_length_8abf5 ∈ TB) (hi : i < 15) (hf : fitR d 1 1 = true) (hd : decode cc pc = .ok (.invokevirtual index, 3)) (hsum : (st.map fun v => v.category).sum ≤ 8) (kk : Cp M w sh nL ι (pc + 3) lv (.int (nI (strL i)) :: st) σ b) : Cp M w sh nL ι pc lv (.ref (wK w i) :: st) σ b := Cp.cStr X hi [] cvJ0_length_8abf5 rfl (kJ0_length X.ok i hi σ) hl hf rfl hd rfl hsum kk
theorem Cp.sChr (X : Cx M w sh cc nL own ret d) {i : Nat} {x : Int32} (hl : Cond.methodLink own index yJ0_charAt_5068e ∈ TB) (hi : i < 15) (hf : fitR d 3 2 = true) (hd : decode cc pc = .ok (.invokevirtual index, 3)) (hsum : (st.map fun v => v.category).sum ≤ 8) (kk : Cp M w sh nL ι (pc + 3) lv (.int (strC i x.toNatClampNeg) :: st) σ b) : Cp M w sh nL ι pc lv (.int x :: .ref (wK w i) :: st) σ (gd (inB x (strL i) = true) b) := Cp.grd (fun hx => Cp.cStr X hi [.int x] cvJ0_charAt_5068e rfl (kJ0_charAt X.ok i hi x hx σ) hl hf rfl hd rfl hsum kk)
end
