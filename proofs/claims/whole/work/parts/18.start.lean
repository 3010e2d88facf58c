def FL : List Cond := flatC (Jvm.Cond.and given_1 narrow_1)
def tmS (i : Nat) : Term := ([Term.string "LaughTax$Tape" 132, Term.string "LaughTax$Tape" 134, Term.string "LaughTax$Tape" 136, Term.string "LaughTax$Tape" 138, Term.string "LaughTax$Tape" 140, Term.string "LaughTax$Tape" 142, Term.string "LaughTax$Tape" 144, Term.string "LaughTax$Tape" 47, Term.string "LaughTax$Tape" 52, Term.string "LaughTax$Tape" 57, Term.string "LaughTax$Tape" 71, Term.string "LaughTax$Tape" 88, Term.string "LaughTax$Tape" 92, Term.string "LaughTax$Tape" 96, Term.string "LaughTaxModel" 308] : List Term).getD i (.int 0)
theorem fl_ex : ∀ i, i < 15 → Cond.exactly (tmS i) "java/lang/String" ∈ FL := by decide +kernel
theorem fl_co : ∀ i, i < 15 → Cond.eq (.field (tmS i) "java/lang/String" "coder" "B") (.int 0) ∈ FL := by decide +kernel
theorem fl_ar : ∀ i, i < 15 → Cond.arrayOf (.field (tmS i) "java/lang/String" "value" "[B") .byte ∈ FL := by decide +kernel
theorem fl_le : ∀ i, i < 15 → Cond.eq (.length (.field (tmS i) "java/lang/String" "value" "[B")) (.int (Int32.ofNat (strL i))) ∈ FL := by decide +kernel
theorem fl_el : ∀ i, i < 15 → ∀ j, j < strL i → Cond.eq (.elem (.field (tmS i) "java/lang/String" "value" "[B") (.int (Int32.ofNat j))) (.int (strC i j)) ∈ FL := by decide +kernel
theorem fl_ab : ∀ j, j < 7 → Cond.eq (.elem (.static "LaughTax$Kinds" "ABOVE" "[I") (.int (Int32.ofNat j))) (.int (abv j)) ∈ FL := by decide +kernel
theorem fl_al : Cond.eq (.length (.static "LaughTax$Kinds" "ABOVE" "[I")) (.int (Int32.ofNat 7)) ∈ FL := by decide +kernel
theorem fl_aa : Cond.arrayOf (.static "LaughTax$Kinds" "ABOVE" "[I") .int ∈ FL := by decide +kernel
theorem fl_cs : Cond.eq (.static "java/lang/String" "COMPACT_STRINGS" "Z") (.int 1) ∈ FL := by decide +kernel
theorem fl_sf : Cond.isRef (.static "jdk/internal/util/Preconditions" "SIOOBE_FORMATTER" "Ljava/util/function/BiFunction;") ∈ FL := by decide +kernel
theorem lt_m {w : Cond} (i : Nat) (h : tables_1[i]? = some w) : w ∈ lw_tbl := List.mem_append_right _ (List.mem_of_getElem? h)
theorem ls_ab : Cond.laysStatic "LaughTax$Kinds" "ABOVE" "[I" ∈ lw_tbl := lt_m 694 (by decide +kernel)
theorem ls_cs : Cond.laysStatic "java/lang/String" "COMPACT_STRINGS" "Z" ∈ lw_tbl := lt_m 607 (by decide +kernel)
theorem ls_sf : Cond.laysStatic "jdk/internal/util/Preconditions" "SIOOBE_FORMATTER" "Ljava/util/function/BiFunction;" ∈ lw_tbl := lt_m 623 (by decide +kernel)
theorem ls_ki : Cond.initialized "LaughTax$Kinds" ∈ lw_tbl := lt_m 8 (by decide +kernel)
theorem ls_st : Cond.initialized "java/lang/String" ∈ lw_tbl := lt_m 11 (by decide +kernel)
theorem ls_pr : Cond.initialized "jdk/internal/util/Preconditions" ∈ lw_tbl := lt_m 13 (by decide +kernel)
theorem ls_ao : Cond.arrayOver (.object "LaughTax$Sheet") ∈ lw_tbl := lt_m 161 (by decide +kernel)
theorem tb_lw {args : Array Value} {s : State} (h : ∀ w ∈ lw_tbl, w.before args s = true) : ∀ w ∈ TB, w.before args s = true := fun w hw => h w (List.mem_filter.mp hw).1
theorem sq_0 : Cond.stringRef "LaughTax$Tape" 132 "hearer" ∈ lw_tbl := lt_m 587 (by decide +kernel)
theorem sq_1 : Cond.stringRef "LaughTax$Tape" 134 "straight" ∈ lw_tbl := lt_m 588 (by decide +kernel)
theorem sq_2 : Cond.stringRef "LaughTax$Tape" 136 "giggler" ∈ lw_tbl := lt_m 589 (by decide +kernel)
theorem sq_3 : Cond.stringRef "LaughTax$Tape" 138 "aunt" ∈ lw_tbl := lt_m 590 (by decide +kernel)
theorem sq_4 : Cond.stringRef "LaughTax$Tape" 140 "fool" ∈ lw_tbl := lt_m 591 (by decide +kernel)
theorem sq_5 : Cond.stringRef "LaughTax$Tape" 142 "child" ∈ lw_tbl := lt_m 592 (by decide +kernel)
theorem sq_6 : Cond.stringRef "LaughTax$Tape" 144 "inspector" ∈ lw_tbl := lt_m 593 (by decide +kernel)
theorem sq_7 : Cond.stringRef "LaughTax$Tape" 71 "on" ∈ lw_tbl := lt_m 651 (by decide +kernel)
theorem sq_8 : Cond.stringRef "LaughTax$Tape" 88 "taste" ∈ lw_tbl := lt_m 662 (by decide +kernel)
theorem sq_9 : Cond.stringRef "LaughTax$Tape" 92 "mood" ∈ lw_tbl := lt_m 663 (by decide +kernel)
theorem sq_10 : Cond.stringRef "LaughTax$Tape" 96 "purse" ∈ lw_tbl := lt_m 664 (by decide +kernel)
theorem sq_11 : Cond.stringRef "LaughTax$Tape" 47 "joke" ∈ lw_tbl := lt_m 665 (by decide +kernel)
theorem sq_12 : Cond.stringRef "LaughTax$Tape" 52 "rate" ∈ lw_tbl := lt_m 671 (by decide +kernel)
theorem sq_13 : Cond.stringRef "LaughTax$Tape" 57 "reach" ∈ lw_tbl := lt_m 676 (by decide +kernel)
theorem sq_14 : Cond.stringRef "LaughTaxModel" 257 "hearer" ∈ lw_tbl := lt_m 1155 (by decide +kernel)
theorem se_14 : Cond.eq (Term.string "LaughTax$Tape" 132) (Term.string "LaughTaxModel" 257) ∈ FL := by decide +kernel
theorem sq_15 : Cond.stringRef "LaughTaxModel" 259 "straight" ∈ lw_tbl := lt_m 1162 (by decide +kernel)
theorem se_15 : Cond.eq (Term.string "LaughTax$Tape" 134) (Term.string "LaughTaxModel" 259) ∈ FL := by decide +kernel
theorem sq_16 : Cond.stringRef "LaughTaxModel" 261 "giggler" ∈ lw_tbl := lt_m 1163 (by decide +kernel)
theorem se_16 : Cond.eq (Term.string "LaughTax$Tape" 136) (Term.string "LaughTaxModel" 261) ∈ FL := by decide +kernel
theorem sq_17 : Cond.stringRef "LaughTaxModel" 263 "aunt" ∈ lw_tbl := lt_m 1164 (by decide +kernel)
theorem se_17 : Cond.eq (Term.string "LaughTax$Tape" 138) (Term.string "LaughTaxModel" 263) ∈ FL := by decide +kernel
theorem sq_18 : Cond.stringRef "LaughTaxModel" 265 "fool" ∈ lw_tbl := lt_m 1165 (by decide +kernel)
theorem se_18 : Cond.eq (Term.string "LaughTax$Tape" 140) (Term.string "LaughTaxModel" 265) ∈ FL := by decide +kernel
theorem sq_19 : Cond.stringRef "LaughTaxModel" 267 "child" ∈ lw_tbl := lt_m 1166 (by decide +kernel)
theorem se_19 : Cond.eq (Term.string "LaughTax$Tape" 142) (Term.string "LaughTaxModel" 267) ∈ FL := by decide +kernel
theorem sq_20 : Cond.stringRef "LaughTaxModel" 269 "inspector" ∈ lw_tbl := lt_m 1167 (by decide +kernel)
theorem se_20 : Cond.eq (Term.string "LaughTax$Tape" 144) (Term.string "LaughTaxModel" 269) ∈ FL := by decide +kernel
theorem sq_21 : Cond.stringRef "LaughTaxModel" 277 "on" ∈ lw_tbl := lt_m 1176 (by decide +kernel)
theorem se_21 : Cond.eq (Term.string "LaughTax$Tape" 71) (Term.string "LaughTaxModel" 277) ∈ FL := by decide +kernel
theorem sq_22 : Cond.stringRef "LaughTaxModel" 283 "taste" ∈ lw_tbl := lt_m 1189 (by decide +kernel)
theorem se_22 : Cond.eq (Term.string "LaughTax$Tape" 88) (Term.string "LaughTaxModel" 283) ∈ FL := by decide +kernel
theorem sq_23 : Cond.stringRef "LaughTaxModel" 285 "mood" ∈ lw_tbl := lt_m 1190 (by decide +kernel)
theorem se_23 : Cond.eq (Term.string "LaughTax$Tape" 92) (Term.string "LaughTaxModel" 285) ∈ FL := by decide +kernel
theorem sq_24 : Cond.stringRef "LaughTaxModel" 287 "purse" ∈ lw_tbl := lt_m 1191 (by decide +kernel)
theorem se_24 : Cond.eq (Term.string "LaughTax$Tape" 96) (Term.string "LaughTaxModel" 287) ∈ FL := by decide +kernel
theorem sq_25 : Cond.stringRef "LaughTaxModel" 296 "joke" ∈ lw_tbl := lt_m 1192 (by decide +kernel)
theorem se_25 : Cond.eq (Term.string "LaughTax$Tape" 47) (Term.string "LaughTaxModel" 296) ∈ FL := by decide +kernel
theorem sq_26 : Cond.stringRef "LaughTaxModel" 301 "rate" ∈ lw_tbl := lt_m 1197 (by decide +kernel)
theorem se_26 : Cond.eq (Term.string "LaughTax$Tape" 52) (Term.string "LaughTaxModel" 301) ∈ FL := by decide +kernel
theorem sq_27 : Cond.stringRef "LaughTaxModel" 303 "reach" ∈ lw_tbl := lt_m 1198 (by decide +kernel)
theorem se_27 : Cond.eq (Term.string "LaughTax$Tape" 57) (Term.string "LaughTaxModel" 303) ∈ FL := by decide +kernel
theorem sq_28 : Cond.stringRef "LaughTaxModel" 308 ";" ∈ lw_tbl := lt_m 1199 (by decide +kernel)
theorem eq_ev {args : Array Value} {s : State} {t u : Term} {a : Nat} (h : (Cond.eq t u).before args s = true) (ht : t.eval args s none [] s = some (.ref a)) : u.eval args s none [] s = some (.ref a) := by
  obtain ⟨w, h1, h2⟩ := Cond.eq_one (show (Cond.eq t u).holds args s none s [] = true from h)
  rw [ht] at h1
  cases h1
  exact h2
theorem ext_of {args : Array Value} {s : State} (hts : ∀ w ∈ lw_tbl, w.before args s = true) (hgv : (Jvm.Cond.and given_1 narrow_1).before args s = true) : ∃ (adK adV : Nat → Nat) (tA : Nat), ∀ (D : va_G) (cls : ClassId × ClassId × ClassId) (ad : Nat → Nat) (rest : va_W), Ext (D, cls, ad, s.heap.size, rest, adK, adV, tA) s s.heap := by
  have hs : ∀ c ∈ FL, c.before args s = true := flat_of_before _ hgv
  have hA : ∀ a : Nat, a < s.heap.size → ¬ (fun q : Nat => s.heap.size ≤ q) a := fun a h => Nat.not_le.mpr h
  obtain ⟨tA, ht, hT⟩ := va_Tof (f := fun j => .int (abv j)) (A := fun q : Nat => s.heap.size ≤ q) (N := 7) (by decide) (hs _ fl_aa) (va_eqt (hs _ fl_al)) (fun j hj => va_eqt (hs _ (fl_ab j hj))) hA
  have hZa := va_Zof (A := fun q : Nat => s.heap.size ≤ q) (hts _ ls_ab) (hts _ ls_ki) ht hA
  have hZc := va_Zof (A := fun q : Nat => s.heap.size ≤ q) (hts _ ls_cs) (hts _ ls_st) (va_eqt (hs _ fl_cs)) hA
  have hZq := va_Zqof (A := fun q : Nat => s.heap.size ≤ q) (hts _ ls_sf) (hts _ ls_pr) (hs _ fl_sf) hA
  have h0 : ∀ i : Nat, ∃ q : Nat × Nat, i < 15 → (tmS i).eval args s none [] s = some (.ref q.1) ∧ va_O "java/lang/String" q.1 (fun q : Nat => s.heap.size ≤ q) s s.heap ∧ va_OF "java/lang/String" "coder" "B" (.int 0) q.1 (fun q : Nat => s.heap.size ≤ q) s s.heap ∧ va_OF "java/lang/String" "value" "[B" (.ref q.2) q.1 (fun q : Nat => s.heap.size ≤ q) s s.heap ∧ va_T .byte q.2 (strL i) (fun j => .int (strC i j)) (fun q : Nat => s.heap.size ≤ q) s s.heap := by
    intro i
    by_cases hi : i < 15
    · obtain ⟨a, c, cA, kA, q1, q2, q3, q4, q5, q6, -⟩ := Cond.exactly_spec (args := args) (first := s) (o := none) (s := s) (idx := []) (t := tmS i) (cls := "java/lang/String") (hs _ (fl_ex i hi))
      obtain ⟨t, ht, hT⟩ := va_Tof (f := fun j => .int (strC i j)) (A := fun q : Nat => s.heap.size ≤ q) (N := strL i) (Nat.lt_trans (strL_lt i hi) (by decide)) (hs _ (fl_ar i hi)) (va_eqt (hs _ (fl_le i hi))) (fun j hj => va_eqt (hs _ (fl_el i hi j hj))) hA
      exact ⟨(a, t), fun _ => ⟨q1, ⟨cA, q3, q5, by rw [q6]; exact q2, hA a (Array.getElem?_eq_some_iff.mp q3).1⟩, vk_OFof q1 (va_eqt (hs _ (fl_co i hi))) hA, vk_OFof q1 ht hA, hT⟩⟩
    · exact ⟨(0, 0), fun h => absurd h hi⟩
  obtain ⟨ad2, had⟩ := Classical.axiomOfChoice h0
  refine ⟨fun i => (ad2 i).1, fun i => (ad2 i).2, tA, fun D cls ad rest => ⟨⟨hZa, hT⟩, fun i hi => (had i hi).2, ?_, hZc, hZq⟩⟩
  intro q hq
  simp only [strTab, List.mem_cons, List.not_mem_nil, or_false] at hq
  rcases hq with rfl | rfl | rfl | rfl | rfl | rfl | rfl | rfl | rfl | rfl | rfl | rfl | rfl | rfl | rfl | rfl | rfl | rfl | rfl | rfl | rfl | rfl | rfl | rfl | rfl | rfl | rfl | rfl | rfl
  · exact vk_R.of (hts _ sq_0) (had 0 (by decide)).1
  · exact vk_R.of (hts _ sq_1) (had 1 (by decide)).1
  · exact vk_R.of (hts _ sq_2) (had 2 (by decide)).1
  · exact vk_R.of (hts _ sq_3) (had 3 (by decide)).1
  · exact vk_R.of (hts _ sq_4) (had 4 (by decide)).1
  · exact vk_R.of (hts _ sq_5) (had 5 (by decide)).1
  · exact vk_R.of (hts _ sq_6) (had 6 (by decide)).1
  · exact vk_R.of (hts _ sq_7) (had 10 (by decide)).1
  · exact vk_R.of (hts _ sq_8) (had 11 (by decide)).1
  · exact vk_R.of (hts _ sq_9) (had 12 (by decide)).1
  · exact vk_R.of (hts _ sq_10) (had 13 (by decide)).1
  · exact vk_R.of (hts _ sq_11) (had 7 (by decide)).1
  · exact vk_R.of (hts _ sq_12) (had 8 (by decide)).1
  · exact vk_R.of (hts _ sq_13) (had 9 (by decide)).1
  · exact vk_R.of (hts _ sq_14) (eq_ev (hs _ se_14) (had 0 (by decide)).1)
  · exact vk_R.of (hts _ sq_15) (eq_ev (hs _ se_15) (had 1 (by decide)).1)
  · exact vk_R.of (hts _ sq_16) (eq_ev (hs _ se_16) (had 2 (by decide)).1)
  · exact vk_R.of (hts _ sq_17) (eq_ev (hs _ se_17) (had 3 (by decide)).1)
  · exact vk_R.of (hts _ sq_18) (eq_ev (hs _ se_18) (had 4 (by decide)).1)
  · exact vk_R.of (hts _ sq_19) (eq_ev (hs _ se_19) (had 5 (by decide)).1)
  · exact vk_R.of (hts _ sq_20) (eq_ev (hs _ se_20) (had 6 (by decide)).1)
  · exact vk_R.of (hts _ sq_21) (eq_ev (hs _ se_21) (had 10 (by decide)).1)
  · exact vk_R.of (hts _ sq_22) (eq_ev (hs _ se_22) (had 11 (by decide)).1)
  · exact vk_R.of (hts _ sq_23) (eq_ev (hs _ se_23) (had 12 (by decide)).1)
  · exact vk_R.of (hts _ sq_24) (eq_ev (hs _ se_24) (had 13 (by decide)).1)
  · exact vk_R.of (hts _ sq_25) (eq_ev (hs _ se_25) (had 7 (by decide)).1)
  · exact vk_R.of (hts _ sq_26) (eq_ev (hs _ se_26) (had 8 (by decide)).1)
  · exact vk_R.of (hts _ sq_27) (eq_ev (hs _ se_27) (had 9 (by decide)).1)
  · exact vk_R.of (hts _ sq_28) (had 14 (by decide)).1
theorem kn_of {args : Array Value} {s : State} (hts : ∀ w ∈ lw_tbl, w.before args s = true) : ∃ (D : va_G) (cls : ClassId × ClassId × ClassId), va_K D vwCl [(cls.1, .int), (cls.2.1, .byte), (cls.2.2, .object "LaughTax$Sheet")] s := by
  have ht := tb_lw hts
  obtain ⟨c1, i1, hK1⟩ := u_known (C := RX1) (T := TX1) (N := 16) (n := 16) ht wlX1 (ht _ wiX1)
  obtain ⟨c2, i2, hK2⟩ := u_known (C := RX2) (T := TX2) (N := 3) (n := 3) ht wlX2 (ht _ wiX2)
  obtain ⟨c3, i3, hK3⟩ := u_known (C := RX3) (T := TX3) (N := 7) (n := 7) ht wlX3 (ht _ wiX3)
  obtain ⟨c4, i4, hK4⟩ := u_known (C := RX4) (T := TX4) (N := 3) (n := 3) ht wlX4 (ht _ wiX4)
  obtain ⟨c5, i5, hK5⟩ := u_known (C := RX5) (T := TX5) (N := 8) (n := 8) ht wlX5 (ht _ wiX5)
  obtain ⟨c6, i6, hK6⟩ := u_known (C := RX6) (T := TX6) (N := 18) (n := 18) ht wlX6 (ht _ wiX6)
  have harr : ∀ ty : FieldType, (ty = .int ∨ ty = .byte) → Cond.arrayClass ty ∈ TB → ∃ c, ArrOfT s c ty ∧ va_RA s c ty := by
    intro ty h0 h
    obtain ⟨c, k, comp, h1, h2, h3⟩ := Cond.arrayClass_spec (args := args) (first := s) (o := none) (s := s) (idx := []) (type := ty) (ht _ h)
    refine ⟨c, fun n z => ⟨fun k h => (by cases h), k, h2, comp, h3⟩, ?_⟩
    rcases h0 with rfl | rfl <;> exact h1
  obtain ⟨cI, aI, rI⟩ := harr .int (Or.inl rfl) wAi
  obtain ⟨cB, aB, rB⟩ := harr .byte (Or.inr rfl) wAb
  obtain ⟨comp, cO, kO, g1, g2, g3, g4, g5⟩ := Cond.arrayOver_spec (args := args) (first := s) (o := none) (s := s) (idx := []) (n := "LaughTax$Sheet") (hts _ ls_ao)
  refine ⟨(fun k => if k = 0 then c1 else if k = 1 then c2 else if k = 2 then c3 else if k = 3 then c4 else if k = 4 then c5 else c6, fun k => if k = 0 then i1 else if k = 1 then i2 else if k = 2 then i3 else if k = 3 then i4 else if k = 4 then i5 else i6), (cI, cB, cO), ?_, ?_⟩
  · intro k q hq
    match k, hq with
    | 0, hq => cases hq; exact hK1
    | 1, hq => cases hq; exact hK2
    | 2, hq => cases hq; exact hK3
    | 3, hq => cases hq; exact hK4
    | 4, hq => cases hq; exact hK5
    | 5, hq => cases hq; exact hK6
    | k + 6, hq => simp [vwCl] at hq
  · intro k q hq
    match k, hq with
    | 0, hq => cases hq; exact ⟨aI, rI⟩
    | 1, hq => cases hq; exact ⟨aB, rB⟩
    | 2, hq => cases hq; exact ⟨fun N z => ⟨(fun k h => by cases h), kO, g3, comp, g4⟩, kO, comp, g3, g4, g1, g5⟩
    | k + 3, hq => simp at hq
set_option maxRecDepth 20000 in
set_option maxHeartbeats 4000000 in
theorem law_loop {M : MC} {b : LB} {sb L : Nat} {xs : Nat → Int32} {Q : State → Prop} {nc ns : Nat} {Inv : Mem → Mem → Prop} (X : Lx M b sb L xs) (hL : L ≤ 3072) (hnc : nc ≤ 600000) (hns : ns ≤ 7302250) (h0 : ∀ a1 a2 : Int32, StI Inv (fX5_person a1 a2) (fX6_person a1 a2)) (h1 : ∀ a1 a2 : Int32, StI Inv (fX5_of a1 a2) (fX6_of a1 a2)) (h2 : ∀ a1 a2 a3 : Int32, StI Inv (fX5_change a1 a2 a3) (fX6_change a1 a2 a3)) (h3 : ∀ a1 a2 : Int32, StI Inv (fX5_joke a1 a2) (fX6_joke a1 a2)) (h4 : ∀ a1 a2 : Int32, StI Inv (fX5_jokeOf a1 a2) (fX6_jokeOf a1 a2)) (h5 : ∀ a1 a2 : Int32, StI Inv (fX5_law a1 a2) (fX6_law a1 a2)) (h6 : ∀ a1 a2 a3 : Int32, StI Inv (fX5_strength a1 a2 a3) (fX6_strength a1 a2 a3)) (h7 : ∀ a1 : Int32, StI Inv (fX5_tell a1) (fX6_tell a1)) (h8 : ∀ a1 a2 : Int32, StI Inv (fX5_evening a1 a2) (fX6_evening a1 a2)) (h9 : ∀ a1 : Int32, StI Inv (fX5_now a1) (fX6_now a1)) (h10 : ∀ a1 : Int32, StI Inv (fX5_relief a1) (fX6_relief a1)) (h11 : ∀ a1 a2 : Int32, StI Inv (fX5_laugh a1 a2) (fX6_laugh a1 a2)) (h12 : ∀ a1 : Int32, StI Inv (fX5_rounds a1) (fX6_rounds a1)) (h13 : ∀ a1 : Int32, StI Inv (fX5_raised a1) (fX6_raised a1)) (h14 : ∀ a1 a2 : Int32, StI Inv (fX5_ahead a1 a2) (fX6_ahead a1 a2)) (h15 : ∀ a1 : Int32, StI Inv (fX5_stale a1) (fX6_stale a1)) (h16 : ∀ a1 a2 : Int32, StI Inv (fX5_broke a1 a2) (fX6_broke a1 a2)) (h17 : ∀ a1 : Int32, StI Inv (fX5_caught a1) (fX6_caught a1)) (h18 : StI Inv (fX5_starter) (fX6_starter)) (h19 : StI Inv (fX5_fewest) (fX6_fewest)) (h20 : ∀ a1 a2 : Int32, StI Inv (fX5_away a1 a2) (fX6_away a1 a2)) (h21 : ∀ a1 a2 : Int32, StI Inv (fX5_seatFor a1 a2) (fX6_seatFor a1 a2)) (h22 : ∀ a1 a2 : Int32, StI Inv (fX5_kindFor a1 a2) (fX6_kindFor a1 a2)) (h23 : ∀ a1 : Int32, StI Inv (fX5_reachFor a1) (fX6_reachFor a1)) (h24 : ∀ a1 a2 : Int32, StI Inv (fX5_rateFor a1 a2) (fX6_rateFor a1 a2)) (h25 : ∀ a1 : Int32, StI Inv (fX5_best a1) (fX6_best a1)) (h26 : ∀ a1 : Int32, StI Inv (fX5_quiet a1) (fX6_quiet a1)) (h27 : ∀ a1 : Int32, StI Inv (fX5_safe a1) (fX6_safe a1)) (h28 : ∀ a1 a2 a3 : Int32, StI Inv (fX5_tastes a1 a2 a3) (fX6_tastes a1 a2 a3)) (h29 : ∀ a1 a2 a3 : Int32, StI Inv (fX5_taste a1 a2 a3) (fX6_taste a1 a2 a3)) (h30 : ∀ a1 : Int32, StI Inv (fX5_which a1) (fX6_which a1)) (h31 : ∀ a1 : Int32, StI Inv (fX5_shows a1) (fX6_shows a1)) (h32 : ∀ a1 a2 : Int32, StL Inv (fX5_odds a1 a2) (fX6_odds a1 a2)) (h33 : ∀ a1 : Int32, StI Inv (fX5_seed a1) (fX6_seed a1)) (h34 : ∀ a1 a2 : Int32, StI Inv (fX5_feed a1 a2) (fX6_feed a1 a2)) (h35 : StI Inv (fX5_wipe) (fX6_wipe)) (h36 : StI Inv (fX5_text) (fX6_text)) (h37 : ∀ a1 a2 : Int32, StI Inv (fX5_hold a1 a2) (fX6_hold a1 a2)) (h38 : ∀ a1 a2 : Int32, StI Inv (fX5_as a1 a2) (fX6_as a1 a2)) (h39 : ∀ a1 a2 a3 : Int32, StI Inv (fX5_sheet a1 a2 a3) (fX6_sheet a1 a2 a3)) (h40 : ∀ a1 a2 a3 : Int32, StI Inv (fX5_write a1 a2 a3) (fX6_write a1 a2 a3)) (h41 : ∀ a1 a2 a3 a4 a5 : Int32, StI Inv (fX5_copy a1 a2 a3 a4 a5) (fX6_copy a1 a2 a3 a4 a5)) (h42 : ∀ a1 : Int32, StI Inv (fX5_load a1) (fX6_load a1)) (h43 : ∀ a1 : Int32, StI Inv (fX5_judge a1) (fX6_judge a1)) (h44 : StI Inv (fX5_image) (fX6_image)) (h45 : StI Inv (fX5_undo) (fX6_undo)) (h46 : StI Inv (fX5_tear) (fX6_tear)) (h47 : ∀ a1 : Int32, StI Inv (fX5_count a1) (fX6_count a1)) (h48 : ∀ a1 : Int32, StI Inv (fX5_status a1) (fX6_status a1))
    (hend : ∀ (x3 : Int32) (σc σr : Mem), Lj M b Q nc ns 1638 [some (.ref sb), some (.ref (b.2.2.1 0)), some (.ref (b.2.2.2.1 0)), some (.int x3)] [] σc σr) : ∀ (n i : Nat) (x3 : Int32) (σc σr : Mem), i ≤ L + 6 → L < i + n → x3 = nI i → Inv σc σr → Lj M b Q nc ns 18 [some (.ref sb), some (.ref (b.2.2.1 0)), some (.ref (b.2.2.2.1 0)), some (.int x3)] [] σc σr := by
  intro n
  induction n with
  | zero =>
    intro i x3 σc σr u1 u2 hx3 hI
    refine Lj.iload_n (i := 3) X dL_law_18 rfl rfl ?_
    refine Lj.aload_n (i := 0) X dL_law_19 rfl rfl ?_
    refine Lj.slen X dL_law_20 ?_
    refine Lj.bipush (v := 6) X dL_law_21 rfl ?_
    refine Lj.isub X dL_law_23 ?_
    refine Lj.gt X 1638 dL_law_24 (by decide) (fun _ => hend x3 σc σr) (fun c => ?_)
    refine absurd ?_ c
    rw [hx3, Int32.lt_iff_toInt_lt, show (Int32.ofNat L - 6 : Int32) = nI L - nI 6 from rfl, pk_sub_toInt (by omega) (by decide), nI_toInt (by omega)]
    omega
  | succ n ih =>
    intro i x3 σc σr u1 u2 hx3 hI
    refine Lj.iload_n (i := 3) X dL_law_18 rfl rfl ?_
    refine Lj.aload_n (i := 0) X dL_law_19 rfl rfl ?_
    refine Lj.slen X dL_law_20 ?_
    refine Lj.bipush (v := 6) X dL_law_21 rfl ?_
    refine Lj.isub X dL_law_23 ?_
    refine Lj.gt X 1638 dL_law_24 (by decide) (fun _ => hend x3 σc σr) (fun c => ?_)
    have hi : i + 6 ≤ L := by
      rw [hx3, Int32.lt_iff_toInt_lt, show (Int32.ofNat L - 6 : Int32) = nI L - nI 6 from rfl, pk_sub_toInt (by omega) (by decide), nI_toInt (by omega)] at c
      omega
    have kk : ∀ τc τr, Inv τc τr → Lj M b Q nc ns 1632 [some (.ref sb), some (.ref (b.2.2.1 0)), some (.ref (b.2.2.2.1 0)), some (.int x3)] [] τc τr := by
      intro τc τr hI
      refine Lj.iinc (v := x3 + 6) X dL_law_1632 rfl rfl (by decide) rfl ?_
      refine Lj.goto X 18 dL_law_1635 (by decide) ?_
      exact ih (i + 6) (x3 + 6) τc τr (by omega) (by omega) (by rw [hx3, show (6 : Int32) = nI 6 from rfl, nI_add]) hI
    refine Lj.aload_n (i := 0) X dL_law_27 rfl rfl ?_
    refine Lj.iload_n (i := 3) X dL_law_28 rfl rfl ?_
    refine Lj.sld X i hx3 (by omega) hL dL_law_29 ?_
    refine Lj.bipush (v := 63) X dL_law_30 rfl ?_
    refine Lj.iand X dL_law_32 ?_
    generalize xs i &&& 63 = z
    by_cases c0 : z = 0
    · refine Lj.tswI X 0 244 c0 dL_law_33 (by decide) (by decide) rfl (by decide) ?_
      exact lc0 X hL hnc hns h0 x3 i hx3 hi hI kk
    have m0 := lv_neT (a := 0) c0 (by decide)
    by_cases c1 : z = 1
    · refine Lj.tswI X 1 277 c1 dL_law_33 (by decide) (by decide) rfl (by decide) ?_
      exact lc1 X hL hnc hns h1 x3 i hx3 hi hI kk
    have m1 := lv_neT (a := 1) c1 (by decide)
    by_cases c2 : z = 2
    · refine Lj.tswI X 2 310 c2 dL_law_33 (by decide) (by decide) rfl (by decide) ?_
      exact lc2 X hL hnc hns h2 x3 i hx3 hi hI kk
    have m2 := lv_neT (a := 2) c2 (by decide)
    by_cases c3 : z = 3
    · refine Lj.tswI X 3 353 c3 dL_law_33 (by decide) (by decide) rfl (by decide) ?_
      exact lc3 X hL hnc hns h3 x3 i hx3 hi hI kk
    have m3 := lv_neT (a := 3) c3 (by decide)
    by_cases c4 : z = 4
    · refine Lj.tswI X 4 386 c4 dL_law_33 (by decide) (by decide) rfl (by decide) ?_
      exact lc4 X hL hnc hns h4 x3 i hx3 hi hI kk
    have m4 := lv_neT (a := 4) c4 (by decide)
    by_cases c5 : z = 5
    · refine Lj.tswI X 5 419 c5 dL_law_33 (by decide) (by decide) rfl (by decide) ?_
      exact lc5 X hL hnc hns h5 x3 i hx3 hi hI kk
    have m5 := lv_neT (a := 5) c5 (by decide)
    by_cases c6 : z = 6
    · refine Lj.tswI X 6 452 c6 dL_law_33 (by decide) (by decide) rfl (by decide) ?_
      exact lc6 X hL hnc hns h6 x3 i hx3 hi hI kk
    have m6 := lv_neT (a := 6) c6 (by decide)
    by_cases c7 : z = 7
    · refine Lj.tswI X 7 495 c7 dL_law_33 (by decide) (by decide) rfl (by decide) ?_
      exact lc7 X hL hnc hns h7 x3 i hx3 hi hI kk
    have m7 := lv_neT (a := 7) c7 (by decide)
    by_cases c8 : z = 8
    · refine Lj.tswI X 8 518 c8 dL_law_33 (by decide) (by decide) rfl (by decide) ?_
      exact lc8 X hL hnc hns h8 x3 i hx3 hi hI kk
    have m8 := lv_neT (a := 8) c8 (by decide)
    by_cases c9 : z = 9
    · refine Lj.tswI X 9 551 c9 dL_law_33 (by decide) (by decide) rfl (by decide) ?_
      exact lc9 X hL hnc hns h9 x3 i hx3 hi hI kk
    have m9 := lv_neT (a := 9) c9 (by decide)
    by_cases c10 : z = 10
    · refine Lj.tswI X 10 574 c10 dL_law_33 (by decide) (by decide) rfl (by decide) ?_
      exact lc10 X hL hnc hns h10 x3 i hx3 hi hI kk
    have m10 := lv_neT (a := 10) c10 (by decide)
    by_cases c11 : z = 11
    · refine Lj.tswI X 11 597 c11 dL_law_33 (by decide) (by decide) rfl (by decide) ?_
      exact lc11 X hL hnc hns h11 x3 i hx3 hi hI kk
    have m11 := lv_neT (a := 11) c11 (by decide)
    by_cases c12 : z = 12
    · refine Lj.tswI X 12 630 c12 dL_law_33 (by decide) (by decide) rfl (by decide) ?_
      exact lc12 X hL hnc hns h12 x3 i hx3 hi hI kk
    have m12 := lv_neT (a := 12) c12 (by decide)
    by_cases c13 : z = 13
    · refine Lj.tswI X 13 653 c13 dL_law_33 (by decide) (by decide) rfl (by decide) ?_
      exact lc13 X hL hnc hns h13 x3 i hx3 hi hI kk
    have m13 := lv_neT (a := 13) c13 (by decide)
    by_cases c14 : z = 14
    · refine Lj.tswI X 14 676 c14 dL_law_33 (by decide) (by decide) rfl (by decide) ?_
      exact lc14 X hL hnc hns h14 x3 i hx3 hi hI kk
    have m14 := lv_neT (a := 14) c14 (by decide)
    by_cases c15 : z = 15
    · refine Lj.tswI X 15 709 c15 dL_law_33 (by decide) (by decide) rfl (by decide) ?_
      exact lc15 X hL hnc hns h15 x3 i hx3 hi hI kk
    have m15 := lv_neT (a := 15) c15 (by decide)
    by_cases c16 : z = 16
    · refine Lj.tswI X 16 732 c16 dL_law_33 (by decide) (by decide) rfl (by decide) ?_
      exact lc16 X hL hnc hns h16 x3 i hx3 hi hI kk
    have m16 := lv_neT (a := 16) c16 (by decide)
    by_cases c17 : z = 17
    · refine Lj.tswI X 17 765 c17 dL_law_33 (by decide) (by decide) rfl (by decide) ?_
      exact lc17 X hL hnc hns h17 x3 i hx3 hi hI kk
    have m17 := lv_neT (a := 17) c17 (by decide)
    by_cases c18 : z = 18
    · refine Lj.tswI X 18 788 c18 dL_law_33 (by decide) (by decide) rfl (by decide) ?_
      exact lc18 X hL hnc hns h18 x3 i hx3 hi hI kk
    have m18 := lv_neT (a := 18) c18 (by decide)
    by_cases c19 : z = 19
    · refine Lj.tswI X 19 801 c19 dL_law_33 (by decide) (by decide) rfl (by decide) ?_
      exact lc19 X hL hnc hns h19 x3 i hx3 hi hI kk
    have m19 := lv_neT (a := 19) c19 (by decide)
    by_cases c20 : z = 20
    · refine Lj.tswI X 20 814 c20 dL_law_33 (by decide) (by decide) rfl (by decide) ?_
      exact lc20 X hL hnc hns h20 x3 i hx3 hi hI kk
    have m20 := lv_neT (a := 20) c20 (by decide)
    by_cases c21 : z = 21
    · refine Lj.tswI X 21 847 c21 dL_law_33 (by decide) (by decide) rfl (by decide) ?_
      exact lc21 X hL hnc hns h21 x3 i hx3 hi hI kk
    have m21 := lv_neT (a := 21) c21 (by decide)
    by_cases c22 : z = 22
    · refine Lj.tswI X 22 880 c22 dL_law_33 (by decide) (by decide) rfl (by decide) ?_
      exact lc22 X hL hnc hns h22 x3 i hx3 hi hI kk
    have m22 := lv_neT (a := 22) c22 (by decide)
    by_cases c23 : z = 23
    · refine Lj.tswI X 23 913 c23 dL_law_33 (by decide) (by decide) rfl (by decide) ?_
      exact lc23 X hL hnc hns h23 x3 i hx3 hi hI kk
    have m23 := lv_neT (a := 23) c23 (by decide)
    by_cases c24 : z = 24
    · refine Lj.tswI X 24 936 c24 dL_law_33 (by decide) (by decide) rfl (by decide) ?_
      exact lc24 X hL hnc hns h24 x3 i hx3 hi hI kk
    have m24 := lv_neT (a := 24) c24 (by decide)
    by_cases c25 : z = 25
    · refine Lj.tswI X 25 969 c25 dL_law_33 (by decide) (by decide) rfl (by decide) ?_
      exact lc25 X hL hnc hns h25 x3 i hx3 hi hI kk
    have m25 := lv_neT (a := 25) c25 (by decide)
    by_cases c26 : z = 26
    · refine Lj.tswI X 26 992 c26 dL_law_33 (by decide) (by decide) rfl (by decide) ?_
      exact lc26 X hL hnc hns h26 x3 i hx3 hi hI kk
    have m26 := lv_neT (a := 26) c26 (by decide)
    by_cases c27 : z = 27
    · refine Lj.tswI X 27 1015 c27 dL_law_33 (by decide) (by decide) rfl (by decide) ?_
      exact lc27 X hL hnc hns h27 x3 i hx3 hi hI kk
    have m27 := lv_neT (a := 27) c27 (by decide)
    by_cases c28 : z = 28
    · refine Lj.tswI X 28 1038 c28 dL_law_33 (by decide) (by decide) rfl (by decide) ?_
      exact lc28 X hL hnc hns h28 x3 i hx3 hi hI kk
    have m28 := lv_neT (a := 28) c28 (by decide)
    by_cases c29 : z = 29
    · refine Lj.tswI X 29 1081 c29 dL_law_33 (by decide) (by decide) rfl (by decide) ?_
      exact lc29 X hL hnc hns h29 x3 i hx3 hi hI kk
    have m29 := lv_neT (a := 29) c29 (by decide)
    by_cases c30 : z = 30
    · refine Lj.tswI X 30 1124 c30 dL_law_33 (by decide) (by decide) rfl (by decide) ?_
      exact lc30 X hL hnc hns h30 x3 i hx3 hi hI kk
    have m30 := lv_neT (a := 30) c30 (by decide)
    by_cases c31 : z = 31
    · refine Lj.tswI X 31 1147 c31 dL_law_33 (by decide) (by decide) rfl (by decide) ?_
      exact lc31 X hL hnc hns h31 x3 i hx3 hi hI kk
    have m31 := lv_neT (a := 31) c31 (by decide)
    by_cases c32 : z = 32
    · refine Lj.tswI X 32 1170 c32 dL_law_33 (by decide) (by decide) rfl (by decide) ?_
      exact lc32 X hL hnc hns h32 x3 i hx3 hi hI kk
    have m32 := lv_neT (a := 32) c32 (by decide)
    by_cases c33 : z = 33
    · refine Lj.tswI X 33 1204 c33 dL_law_33 (by decide) (by decide) rfl (by decide) ?_
      exact lc33 X hL hnc hns h33 x3 i hx3 hi hI kk
    have m33 := lv_neT (a := 33) c33 (by decide)
    by_cases c34 : z = 34
    · refine Lj.tswI X 34 1227 c34 dL_law_33 (by decide) (by decide) rfl (by decide) ?_
      exact lc34 X hL hnc hns h34 x3 i hx3 hi hI kk
    have m34 := lv_neT (a := 34) c34 (by decide)
    by_cases c35 : z = 35
    · refine Lj.tswI X 35 1260 c35 dL_law_33 (by decide) (by decide) rfl (by decide) ?_
      exact lc35 X hL hnc hns h35 x3 i hx3 hi hI kk
    have m35 := lv_neT (a := 35) c35 (by decide)
    by_cases c36 : z = 36
    · refine Lj.tswI X 36 1273 c36 dL_law_33 (by decide) (by decide) rfl (by decide) ?_
      exact lc36 X hL hnc hns h36 x3 i hx3 hi hI kk
    have m36 := lv_neT (a := 36) c36 (by decide)
    by_cases c37 : z = 37
    · refine Lj.tswI X 37 1286 c37 dL_law_33 (by decide) (by decide) rfl (by decide) ?_
      exact lc37 X hL hnc hns h37 x3 i hx3 hi hI kk
    have m37 := lv_neT (a := 37) c37 (by decide)
    by_cases c38 : z = 38
    · refine Lj.tswI X 38 1319 c38 dL_law_33 (by decide) (by decide) rfl (by decide) ?_
      exact lc38 X hL hnc hns h38 x3 i hx3 hi hI kk
    have m38 := lv_neT (a := 38) c38 (by decide)
    by_cases c39 : z = 39
    · refine Lj.tswI X 39 1352 c39 dL_law_33 (by decide) (by decide) rfl (by decide) ?_
      exact lc39 X hL hnc hns h39 x3 i hx3 hi hI kk
    have m39 := lv_neT (a := 39) c39 (by decide)
    by_cases c40 : z = 40
    · refine Lj.tswI X 40 1395 c40 dL_law_33 (by decide) (by decide) rfl (by decide) ?_
      exact lc40 X hL hnc hns h40 x3 i hx3 hi hI kk
    have m40 := lv_neT (a := 40) c40 (by decide)
    by_cases c41 : z = 41
    · refine Lj.tswI X 41 1438 c41 dL_law_33 (by decide) (by decide) rfl (by decide) ?_
      exact lc41 X hL hnc hns h41 x3 i hx3 hi hI kk
    have m41 := lv_neT (a := 41) c41 (by decide)
    by_cases c42 : z = 42
    · refine Lj.tswI X 42 1501 c42 dL_law_33 (by decide) (by decide) rfl (by decide) ?_
      exact lc42 X hL hnc hns h42 x3 i hx3 hi hI kk
    have m42 := lv_neT (a := 42) c42 (by decide)
    by_cases c43 : z = 43
    · refine Lj.tswI X 43 1524 c43 dL_law_33 (by decide) (by decide) rfl (by decide) ?_
      exact lc43 X hL hnc hns h43 x3 i hx3 hi hI kk
    have m43 := lv_neT (a := 43) c43 (by decide)
    by_cases c44 : z = 44
    · refine Lj.tswI X 44 1547 c44 dL_law_33 (by decide) (by decide) rfl (by decide) ?_
      exact lc44 X hL hnc hns h44 x3 i hx3 hi hI kk
    have m44 := lv_neT (a := 44) c44 (by decide)
    by_cases c45 : z = 45
    · refine Lj.tswI X 45 1560 c45 dL_law_33 (by decide) (by decide) rfl (by decide) ?_
      exact lc45 X hL hnc hns h45 x3 i hx3 hi hI kk
    have m45 := lv_neT (a := 45) c45 (by decide)
    by_cases c46 : z = 46
    · refine Lj.tswI X 46 1573 c46 dL_law_33 (by decide) (by decide) rfl (by decide) ?_
      exact lc46 X hL hnc hns h46 x3 i hx3 hi hI kk
    have m46 := lv_neT (a := 46) c46 (by decide)
    by_cases c47 : z = 47
    · refine Lj.tswI X 47 1586 c47 dL_law_33 (by decide) (by decide) rfl (by decide) ?_
      exact lc47 X hL hnc hns h47 x3 i hx3 hi hI kk
    have m47 := lv_neT (a := 47) c47 (by decide)
    by_cases c48 : z = 48
    · refine Lj.tswI X 48 1609 c48 dL_law_33 (by decide) (by decide) rfl (by decide) ?_
      exact lc48 X hL hnc hns h48 x3 i hx3 hi hI kk
    have m48 := lv_neT (a := 48) c48 (by decide)
    refine Lj.tswD X 1632 (by omega) dL_law_33 (by decide) ?_
    exact kk σc σr hI
