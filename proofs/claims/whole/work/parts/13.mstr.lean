def fX3_wordOf (x0 : Int32) : Nat :=
  (if x0 = 0 then 0 else (if x0 = 1 then 1 else (if x0 = 2 then 2 else (if x0 = 3 then 3 else (if x0 = 4 then 4 else (if x0 = 5 then 5 else 6))))))
set_option maxRecDepth 20000 in
theorem pX3_wordOf {M : MC} {w : WE} (X : Cx M w shC cX3_wordOf 1 RX3 (some (.object "java/lang/String")) 0)   (x0 : Int32) (σ : Mem) : Cp M w shC 1 (iS w σ) 0 [some (.int x0)] [] σ (some (fX3_wordOf x0)) := by
  unfold fX3_wordOf
  refine Cp.iload_n (i := 0) X dX3_wordOf_0 rfl rfl ?_
  refine Cp.iteT (fun c_1 => ?_) (fun n_1_0 => ?_)
  · refine Cp.tswI X 0 40 c_1 dX3_wordOf_1 (by decide) (by decide) rfl (by decide) ?_
    refine Cp.ldcS 0 X (tx := "hearer") (by decide) dX3_wordOf_40 ?_
    exact Cp.aret X dX3_wordOf_42 rfl
  refine Cp.iteT (fun c_1 => ?_) (fun n_1_1 => ?_)
  · refine Cp.tswI X 1 43 c_1 dX3_wordOf_1 (by decide) (by decide) rfl (by decide) ?_
    refine Cp.ldcS 1 X (tx := "straight") (by decide) dX3_wordOf_43 ?_
    exact Cp.aret X dX3_wordOf_45 rfl
  refine Cp.iteT (fun c_1 => ?_) (fun n_1_2 => ?_)
  · refine Cp.tswI X 2 46 c_1 dX3_wordOf_1 (by decide) (by decide) rfl (by decide) ?_
    refine Cp.ldcS 2 X (tx := "giggler") (by decide) dX3_wordOf_46 ?_
    exact Cp.aret X dX3_wordOf_48 rfl
  refine Cp.iteT (fun c_1 => ?_) (fun n_1_3 => ?_)
  · refine Cp.tswI X 3 49 c_1 dX3_wordOf_1 (by decide) (by decide) rfl (by decide) ?_
    refine Cp.ldcS 3 X (tx := "aunt") (by decide) dX3_wordOf_49 ?_
    exact Cp.aret X dX3_wordOf_51 rfl
  refine Cp.iteT (fun c_1 => ?_) (fun n_1_4 => ?_)
  · refine Cp.tswI X 4 52 c_1 dX3_wordOf_1 (by decide) (by decide) rfl (by decide) ?_
    refine Cp.ldcS 4 X (tx := "fool") (by decide) dX3_wordOf_52 ?_
    exact Cp.aret X dX3_wordOf_54 rfl
  refine Cp.iteT (fun c_1 => ?_) (fun n_1_5 => ?_)
  · refine Cp.tswI X 5 55 c_1 dX3_wordOf_1 (by decide) (by decide) rfl (by decide) ?_
    refine Cp.ldcS 5 X (tx := "child") (by decide) dX3_wordOf_55 ?_
    exact Cp.aret X dX3_wordOf_57 rfl
  have m_1_0 := lv_neT (a := 0) n_1_0 (by decide)
  have m_1_1 := lv_neT (a := 1) n_1_1 (by decide)
  have m_1_2 := lv_neT (a := 2) n_1_2 (by decide)
  have m_1_3 := lv_neT (a := 3) n_1_3 (by decide)
  have m_1_4 := lv_neT (a := 4) n_1_4 (by decide)
  have m_1_5 := lv_neT (a := 5) n_1_5 (by decide)
  refine Cp.tswD X 58 (by omega) dX3_wordOf_1 (by decide) ?_
  refine Cp.ldcS 6 X (tx := "inspector") (by decide) dX3_wordOf_58 ?_
  exact Cp.aret X dX3_wordOf_60 rfl
theorem kX3_wordOf {l : Launch} {w : WE} (hok : OkW w shC)   (x0 : Int32) (σ : Mem) : Ctr l w shC yX3_wordOf cX3_wordOf 1 (some (.object "java/lang/String")) 0 [.int x0] σ ((iS w σ) (fX3_wordOf x0)) := Ctr.of [some (.int x0)] (by decide) hok rfl (Nat.le_of_ble_eq_true rfl) (fun M _ X => pX3_wordOf X   x0 σ _ rfl)
theorem bSX3_wordOf (x : Int32) : fX3_wordOf x < 15 := by
  unfold fX3_wordOf
  repeat (first | decide | split)
def fX3_isWord_28 (i1 : Nat) (σ : Mem) (k28 : Int32 → Option Bool) (x2 : Int32) : Option Bool :=
  (if (nI (strL i1)) ≤ x2 then (some true) else (gd (inB ((σ 34 3) + x2) 120 = true) (gd (inB x2 (strL i1) = true) (if (σ 35 ((σ 34 3) + x2).toNatClampNeg) = (strC i1 x2.toNatClampNeg) then (k28 (x2 + 1)) else (some false)))))
def fX3_isWord (i1 : Nat) (σ : Mem) : Option Bool :=
  (if (σ 34 2) = 1 then (if ((σ 34 4) - (σ 34 3)) = (nI (strL i1)) then (lw1 (fX3_isWord_28 i1 σ) FU 0) else (some false)) else (some false))
set_option maxRecDepth 20000 in
theorem pX3_isWord_28 {M : MC} {w : WE} (X : Cx M w shC cX3_isWord 3 RX3 (some .boolean) 4) (i1 : Nat) (h1 : i1 < 15)   (σ : Mem)  : ∀ (n : Nat) (x2 : Int32), Cp M w shC 3 (iB σ) 28 [some (.ref (wad w 34)), some (.ref (wK w i1)), some (.int x2)] [] σ (lw1 (fX3_isWord_28 i1 σ) n x2) :=
  lw1_i (P := fun x2 b => Cp M w shC 3 (iB σ) 28 [some (.ref (wad w 34)), some (.ref (wK w i1)), some (.int x2)] [] σ b) (fun _ => Cp.non) (fun k28 hk28 x2 => by
  unfold fX3_isWord_28
  refine Cp.iload_n (i := 2) X dX3_isWord_28 rfl rfl ?_
  refine Cp.aload_n (i := 1) X dX3_isWord_29 rfl rfl ?_
  refine Cp.sLen X wmX3_123 h1 (by decide) dX3_isWord_30 (Nat.le_of_ble_eq_true rfl) ?_
  refine Cp.icmp_ge X 63 dX3_isWord_33 (by decide) (fun c_33 => ?_) (fun c_33 => ?_)
  · refine Cp.iconst (v := 1) X dX3_isWord_63 rfl ?_
    exact Cp.bret (v := true) X dX3_isWord_64 rfl
  · refine Cp.aload_n (i := 0) X dX3_isWord_36 rfl rfl ?_
    refine gfX3_9 X 35 sc_34 rfl dX3_isWord_37 ?_
    refine Cp.aload_n (i := 0) X dX3_isWord_40 rfl rfl ?_
    refine gfX3_32 X sc_34 rfl dX3_isWord_41 ?_
    refine Cp.iload_n (i := 2) X dX3_isWord_44 rfl rfl ?_
    refine Cp.iadd X dX3_isWord_45 ?_
    refine Cp.bald X sc_35 dX3_isWord_46 ?_
    refine Cp.aload_n (i := 1) X dX3_isWord_47 rfl rfl ?_
    refine Cp.iload_n (i := 2) X dX3_isWord_48 rfl rfl ?_
    refine Cp.sChr X wmX3_128 h1 (by decide) dX3_isWord_49 (Nat.le_of_ble_eq_true rfl) ?_
    refine Cp.icmp_eq X 57 dX3_isWord_52 (by decide) (fun c_52 => ?_) (fun c_52 => ?_)
    · refine Cp.iinc (v := x2 + 1) X dX3_isWord_57 rfl rfl (Nat.le_of_ble_eq_true rfl) rfl ?_
      refine Cp.goto X 28 dX3_isWord_60 (by decide) ?_
      exact hk28 (x2 + 1)
    · refine Cp.iconst (v := 0) X dX3_isWord_55 rfl ?_
      exact Cp.bret (v := false) X dX3_isWord_56 rfl)
set_option maxRecDepth 20000 in
theorem pX3_isWord {M : MC} {w : WE} (X : Cx M w shC cX3_isWord 3 RX3 (some .boolean) 4) (i1 : Nat) (h1 : i1 < 15)  (σ : Mem) : Cp M w shC 3 (iB σ) 0 [some (.ref (wad w 34)), some (.ref (wK w i1)), none] [] σ (fX3_isWord i1 σ) := by
  unfold fX3_isWord
  refine Cp.aload_n (i := 0) X dX3_isWord_0 rfl rfl ?_
  refine gfX3_29 X sc_34 rfl dX3_isWord_1 ?_
  refine Cp.iconst (v := 1) X dX3_isWord_4 rfl ?_
  refine Cp.icmp_ne X 24 dX3_isWord_5 (by decide) (fun c_5 => ?_) (fun c_5 => ?_)
  · refine Cp.iconst (v := 0) X dX3_isWord_24 rfl ?_
    exact Cp.bret (v := false) X dX3_isWord_25 rfl
  · refine Cp.aload_n (i := 0) X dX3_isWord_8 rfl rfl ?_
    refine gfX3_19 X sc_34 rfl dX3_isWord_9 ?_
    refine Cp.aload_n (i := 0) X dX3_isWord_12 rfl rfl ?_
    refine gfX3_32 X sc_34 rfl dX3_isWord_13 ?_
    refine Cp.isub X dX3_isWord_16 ?_
    refine Cp.aload_n (i := 1) X dX3_isWord_17 rfl rfl ?_
    refine Cp.sLen X wmX3_123 h1 (by decide) dX3_isWord_18 (Nat.le_of_ble_eq_true rfl) ?_
    refine Cp.icmp_eq X 26 dX3_isWord_21 (by decide) (fun c_21 => ?_) (fun c_21 => ?_)
    · refine Cp.iconst (v := 0) X dX3_isWord_26 rfl ?_
      refine Cp.istore_n (i := 2) X dX3_isWord_27 rfl (Nat.le_of_ble_eq_true rfl) rfl ?_
      exact pX3_isWord_28 X i1 h1 σ FU 0
    · refine Cp.iconst (v := 0) X dX3_isWord_24 rfl ?_
      exact Cp.bret (v := false) X dX3_isWord_25 rfl
theorem kX3_isWord {l : Launch} {w : WE} (hok : OkW w shC) (i1 : Nat) (h1 : i1 < 15)  (σ : Mem) : ∀ v, fX3_isWord i1 σ = some v → Ctr l w shC yX3_isWord cX3_isWord 3 (some .boolean) 4 [.ref (wad w 34), .ref (wK w i1)] σ ((iB σ) v) := fun v hv => Ctr.of [some (.ref (wad w 34)), some (.ref (wK w i1)), none] (by decide) hok rfl (Nat.le_of_ble_eq_true rfl) (fun M _ X => pX3_isWord X i1 h1  σ v hv)
def fX3_readPart (i1 : Nat) (x2 : Int32) (x3 : Int32) (σ : Mem) : Option (Bool × Mem) :=
  ((fX3_isWord i1 σ).bind fun v_2 => (if v_2 = true then ((fX3_step σ).bind fun s_16 => (bnd2 (fX3_readNumber 0 x2 s_16) fun v_22 s_22 => (some (v_22, s_22)))) else (pb (up2 σ 34 6 x3 : Mem) fun s_10 => (some (true, s_10)))))
set_option maxRecDepth 20000 in
theorem pX3_readPart {M : MC} {w : WE} (X : Cx M w shC cX3_readPart 4 RX3 (some .boolean) 5) (i1 : Nat) (h1 : i1 < 15) (x2 : Int32) (x3 : Int32) (σ : Mem) : Cp M w shC 4 iBM 0 [some (.ref (wad w 34)), some (.ref (wK w i1)), some (.int x2), some (.int x3)] [] σ (fX3_readPart i1 x2 x3 σ) := by
  unfold fX3_readPart
  refine Cp.aload_n (i := 0) X dX3_readPart_0 rfl rfl ?_
  refine Cp.aload_n (i := 1) X dX3_readPart_1 rfl rfl ?_
  refine Cp.cVB [] X [.ref (wK w i1)] cvX3_isWord (kX3_isWord X.ok i1 h1 σ) sc_34 rfl rfl wmX3_39 rfl rfl dX3_readPart_2 rfl (Nat.le_of_ble_eq_true rfl) (fun v_2 => ?_)
  refine Cp.if_neB X 15 dX3_readPart_5 (by decide) (fun c_5 => ?_) (fun c_5 => ?_)
  · refine Cp.aload_n (i := 0) X dX3_readPart_15 rfl rfl ?_
    refine Cp.cVV [] X [] cvX3_step (kX3_step X.ok σ) sc_34 rfl rfl wmX3_22 rfl rfl dX3_readPart_16 rfl (Nat.le_of_ble_eq_true rfl) (fun s_16 => ?_)
    refine Cp.aload_n (i := 0) X dX3_readPart_19 rfl rfl ?_
    refine Cp.iconst (v := 0) X dX3_readPart_20 rfl ?_
    refine Cp.iload_n (i := 2) X dX3_readPart_21 rfl rfl ?_
    refine Cp.cVBM [] X [.int 0, .int x2] cvX3_readNumber (kX3_readNumber X.ok 0 x2 s_16) sc_34 rfl rfl wmX3_103 rfl rfl dX3_readPart_22 rfl (Nat.le_of_ble_eq_true rfl) (fun v_22 s_22 => ?_)
    exact Cp.bret X dX3_readPart_25 rfl
  · refine Cp.aload_n (i := 0) X dX3_readPart_8 rfl rfl ?_
    refine Cp.iload_n (i := 3) X dX3_readPart_9 rfl rfl ?_
    refine pfX3_81 X sc_34 rfl dX3_readPart_10 ?_
    refine Cp.nameM (fun s_10 => ?_)
    refine Cp.iconst (v := 1) X dX3_readPart_13 rfl ?_
    exact Cp.bret (v := true) X dX3_readPart_14 rfl
theorem kX3_readPart {l : Launch} {w : WE} (hok : OkW w shC) (i1 : Nat) (h1 : i1 < 15) (x2 : Int32) (x3 : Int32) (σ : Mem) : ∀ v, fX3_readPart i1 x2 x3 σ = some v → Ctr l w shC yX3_readPart cX3_readPart 4 (some .boolean) 5 [.ref (wad w 34), .ref (wK w i1), .int x2, .int x3] σ (iBM v) := fun v hv => Ctr.of [some (.ref (wad w 34)), some (.ref (wK w i1)), some (.int x2), some (.int x3)] (by decide) hok rfl (Nat.le_of_ble_eq_true rfl) (fun M _ X => pX3_readPart X i1 h1 x2 x3 σ v hv)
def fX3_readPerson (r1 : Nat) (x2 : Int32) (σ : Mem) : Option (Bool × Mem) :=
  (if (σ r1 0) < 8 then ((fX3_step σ).bind fun s_12 => (bnd2 (fX1_addPerson r1 x2 0 s_12) fun v_18 s_18 => (gd (inB v_18 8 = true) (bnd2 (fX3_readPart 10 15 (s_18 (r1 + 2) v_18.toNatClampNeg) s_18) fun v_33 s_33 => (if v_33 = true then ((fX1_setSeat r1 v_18 (s_33 34 6) s_33).bind fun s_47 => (gd (inB v_18 8 = true) (bnd2 (fX3_readPart 11 63 (s_47 (r1 + 3) v_18.toNatClampNeg) s_47) fun v_61 s_61 => (if v_61 = true then (gd (inB v_18 8 = true) (pb (up2 s_61 (r1 + 3) v_18.toNatClampNeg (s_61 34 6) : Mem) fun s_78 => (gd (inB v_18 8 = true) (bnd2 (fX3_readPart 12 9 (s_78 (r1 + 4) v_18.toNatClampNeg) s_78) fun v_90 s_90 => (if v_90 = true then (gd (inB v_18 8 = true) (pb (up2 s_90 (r1 + 4) v_18.toNatClampNeg (s_90 34 6) : Mem) fun s_107 => (gd (inB v_18 8 = true) (bnd2 (fX3_readPart 13 9999 (s_107 (r1 + 5) v_18.toNatClampNeg) s_107) fun v_120 s_120 => (if v_120 = true then (gd (inB v_18 8 = true) (pb (up2 s_120 (r1 + 5) v_18.toNatClampNeg (s_120 34 6) : Mem) fun s_137 => (some (true, s_137)))) else (some (false, s_120))))))) else (some (false, s_90))))))) else (some (false, s_61)))))) else (some (false, s_33))))))) else (some (false, σ)))
set_option maxRecDepth 20000 in
theorem pX3_readPerson {M : MC} {w : WE} (X : Cx M w shC cX3_readPerson 4 RX3 (some .boolean) 6) (r1 : Nat) (h1 : isRm r1) (x2 : Int32) (σ : Mem) : Cp M w shC 4 iBM 0 [some (.ref (wad w 34)), some (.ref (wad w r1)), some (.int x2), none] [] σ (fX3_readPerson r1 x2 σ) := by
  unfold fX3_readPerson
  refine Cp.aload_n (i := 1) X dX3_readPerson_0 rfl rfl ?_
  refine gfX3_62 X (s_rm h1) rfl dX3_readPerson_1 ?_
  refine Cp.bipush (v := 8) X dX3_readPerson_4 rfl ?_
  refine Cp.icmp_lt X 11 dX3_readPerson_6 (by decide) (fun c_6 => ?_) (fun c_6 => ?_)
  · refine Cp.aload_n (i := 0) X dX3_readPerson_11 rfl rfl ?_
    refine Cp.cVV [] X [] cvX3_step (kX3_step X.ok σ) sc_34 rfl rfl wmX3_22 rfl rfl dX3_readPerson_12 rfl (Nat.le_of_ble_eq_true rfl) (fun s_12 => ?_)
    refine Cp.aload_n (i := 1) X dX3_readPerson_15 rfl rfl ?_
    refine Cp.iload_n (i := 2) X dX3_readPerson_16 rfl rfl ?_
    refine Cp.iconst (v := 0) X dX3_readPerson_17 rfl ?_
    refine Cp.cVIM [] X [.int x2, .int 0] cvX1_addPerson (kX1_addPerson X.ok r1 h1 x2 0 s_12) (s_rm h1) rfl rfl wmX3_67 rfl rfl dX3_readPerson_18 rfl (Nat.le_of_ble_eq_true rfl) (fun v_18 s_18 => ?_)
    refine Cp.istore_n (i := 3) X dX3_readPerson_21 rfl (Nat.le_of_ble_eq_true rfl) rfl ?_
    refine Cp.aload_n (i := 0) X dX3_readPerson_22 rfl rfl ?_
    refine Cp.ldcS 10 X (tx := "on") (by decide) dX3_readPerson_23 ?_
    refine Cp.bipush (v := 15) X dX3_readPerson_25 rfl ?_
    refine Cp.aload_n (i := 1) X dX3_readPerson_27 rfl rfl ?_
    refine gfX3_73 X (r1 + 2) (s_rm h1) rfl dX3_readPerson_28 ?_
    refine Cp.iload_n (i := 3) X dX3_readPerson_31 rfl rfl ?_
    refine Cp.iald X (s_ra2 h1) dX3_readPerson_32 ?_
    refine Cp.cVBM [] X [.ref (wK w 10), .int 15, .int (s_18 (r1 + 2) v_18.toNatClampNeg)] cvX3_readPart (kX3_readPart X.ok 10 (by decide) 15 (s_18 (r1 + 2) v_18.toNatClampNeg) s_18) sc_34 rfl rfl wmX3_77 rfl rfl dX3_readPerson_33 rfl (Nat.le_of_ble_eq_true rfl) (fun v_33 s_33 => ?_)
    refine Cp.if_neB X 41 dX3_readPerson_36 (by decide) (fun c_36 => ?_) (fun c_36 => ?_)
    · refine Cp.aload_n (i := 1) X dX3_readPerson_41 rfl rfl ?_
      refine Cp.iload_n (i := 3) X dX3_readPerson_42 rfl rfl ?_
      refine Cp.aload_n (i := 0) X dX3_readPerson_43 rfl rfl ?_
      refine gfX3_81 X sc_34 rfl dX3_readPerson_44 ?_
      refine Cp.cVV [] X [.int v_18, .int (s_33 34 6)] cvX1_setSeat (kX1_setSeat X.ok r1 h1 v_18 (s_33 34 6) s_33) (s_rm h1) rfl rfl wmX3_84 rfl rfl dX3_readPerson_47 rfl (Nat.le_of_ble_eq_true rfl) (fun s_47 => ?_)
      refine Cp.aload_n (i := 0) X dX3_readPerson_50 rfl rfl ?_
      refine Cp.ldcS 11 X (tx := "taste") (by decide) dX3_readPerson_51 ?_
      refine Cp.bipush (v := 63) X dX3_readPerson_53 rfl ?_
      refine Cp.aload_n (i := 1) X dX3_readPerson_55 rfl rfl ?_
      refine gfX3_90 X (r1 + 3) (s_rm h1) rfl dX3_readPerson_56 ?_
      refine Cp.iload_n (i := 3) X dX3_readPerson_59 rfl rfl ?_
      refine Cp.iald X (s_ra3 h1) dX3_readPerson_60 ?_
      refine Cp.cVBM [] X [.ref (wK w 11), .int 63, .int (s_47 (r1 + 3) v_18.toNatClampNeg)] cvX3_readPart (kX3_readPart X.ok 11 (by decide) 63 (s_47 (r1 + 3) v_18.toNatClampNeg) s_47) sc_34 rfl rfl wmX3_77 rfl rfl dX3_readPerson_61 rfl (Nat.le_of_ble_eq_true rfl) (fun v_61 s_61 => ?_)
      refine Cp.if_neB X 69 dX3_readPerson_64 (by decide) (fun c_64 => ?_) (fun c_64 => ?_)
      · refine Cp.aload_n (i := 1) X dX3_readPerson_69 rfl rfl ?_
        refine gfX3_90 X (r1 + 3) (s_rm h1) rfl dX3_readPerson_70 ?_
        refine Cp.iload_n (i := 3) X dX3_readPerson_73 rfl rfl ?_
        refine Cp.aload_n (i := 0) X dX3_readPerson_74 rfl rfl ?_
        refine gfX3_81 X sc_34 rfl dX3_readPerson_75 ?_
        refine Cp.iast X (s_ra3 h1) dX3_readPerson_78 ?_
        refine Cp.nameM (fun s_78 => ?_)
        refine Cp.aload_n (i := 0) X dX3_readPerson_79 rfl rfl ?_
        refine Cp.ldcS 12 X (tx := "mood") (by decide) dX3_readPerson_80 ?_
        refine Cp.bipush (v := 9) X dX3_readPerson_82 rfl ?_
        refine Cp.aload_n (i := 1) X dX3_readPerson_84 rfl rfl ?_
        refine gfX3_94 X (r1 + 4) (s_rm h1) rfl dX3_readPerson_85 ?_
        refine Cp.iload_n (i := 3) X dX3_readPerson_88 rfl rfl ?_
        refine Cp.iald X (s_ra4 h1) dX3_readPerson_89 ?_
        refine Cp.cVBM [] X [.ref (wK w 12), .int 9, .int (s_78 (r1 + 4) v_18.toNatClampNeg)] cvX3_readPart (kX3_readPart X.ok 12 (by decide) 9 (s_78 (r1 + 4) v_18.toNatClampNeg) s_78) sc_34 rfl rfl wmX3_77 rfl rfl dX3_readPerson_90 rfl (Nat.le_of_ble_eq_true rfl) (fun v_90 s_90 => ?_)
        refine Cp.if_neB X 98 dX3_readPerson_93 (by decide) (fun c_93 => ?_) (fun c_93 => ?_)
        · refine Cp.aload_n (i := 1) X dX3_readPerson_98 rfl rfl ?_
          refine gfX3_94 X (r1 + 4) (s_rm h1) rfl dX3_readPerson_99 ?_
          refine Cp.iload_n (i := 3) X dX3_readPerson_102 rfl rfl ?_
          refine Cp.aload_n (i := 0) X dX3_readPerson_103 rfl rfl ?_
          refine gfX3_81 X sc_34 rfl dX3_readPerson_104 ?_
          refine Cp.iast X (s_ra4 h1) dX3_readPerson_107 ?_
          refine Cp.nameM (fun s_107 => ?_)
          refine Cp.aload_n (i := 0) X dX3_readPerson_108 rfl rfl ?_
          refine Cp.ldcS 13 X (tx := "purse") (by decide) dX3_readPerson_109 ?_
          refine Cp.sipush (v := 9999) X dX3_readPerson_111 rfl ?_
          refine Cp.aload_n (i := 1) X dX3_readPerson_114 rfl rfl ?_
          refine gfX3_98 X (r1 + 5) (s_rm h1) rfl dX3_readPerson_115 ?_
          refine Cp.iload_n (i := 3) X dX3_readPerson_118 rfl rfl ?_
          refine Cp.iald X (s_ra5 h1) dX3_readPerson_119 ?_
          refine Cp.cVBM [] X [.ref (wK w 13), .int 9999, .int (s_107 (r1 + 5) v_18.toNatClampNeg)] cvX3_readPart (kX3_readPart X.ok 13 (by decide) 9999 (s_107 (r1 + 5) v_18.toNatClampNeg) s_107) sc_34 rfl rfl wmX3_77 rfl rfl dX3_readPerson_120 rfl (Nat.le_of_ble_eq_true rfl) (fun v_120 s_120 => ?_)
          refine Cp.if_neB X 128 dX3_readPerson_123 (by decide) (fun c_123 => ?_) (fun c_123 => ?_)
          · refine Cp.aload_n (i := 1) X dX3_readPerson_128 rfl rfl ?_
            refine gfX3_98 X (r1 + 5) (s_rm h1) rfl dX3_readPerson_129 ?_
            refine Cp.iload_n (i := 3) X dX3_readPerson_132 rfl rfl ?_
            refine Cp.aload_n (i := 0) X dX3_readPerson_133 rfl rfl ?_
            refine gfX3_81 X sc_34 rfl dX3_readPerson_134 ?_
            refine Cp.iast X (s_ra5 h1) dX3_readPerson_137 ?_
            refine Cp.nameM (fun s_137 => ?_)
            refine Cp.iconst (v := 1) X dX3_readPerson_138 rfl ?_
            exact Cp.bret (v := true) X dX3_readPerson_139 rfl
          · refine Cp.iconst (v := 0) X dX3_readPerson_126 rfl ?_
            exact Cp.bret (v := false) X dX3_readPerson_127 rfl
        · refine Cp.iconst (v := 0) X dX3_readPerson_96 rfl ?_
          exact Cp.bret (v := false) X dX3_readPerson_97 rfl
      · refine Cp.iconst (v := 0) X dX3_readPerson_67 rfl ?_
        exact Cp.bret (v := false) X dX3_readPerson_68 rfl
    · refine Cp.iconst (v := 0) X dX3_readPerson_39 rfl ?_
      exact Cp.bret (v := false) X dX3_readPerson_40 rfl
  · refine Cp.iconst (v := 0) X dX3_readPerson_9 rfl ?_
    exact Cp.bret (v := false) X dX3_readPerson_10 rfl
theorem kX3_readPerson {l : Launch} {w : WE} (hok : OkW w shC) (r1 : Nat) (h1 : isRm r1) (x2 : Int32) (σ : Mem) : ∀ v, fX3_readPerson r1 x2 σ = some v → Ctr l w shC yX3_readPerson cX3_readPerson 4 (some .boolean) 6 [.ref (wad w 34), .ref (wad w r1), .int x2] σ (iBM v) := fun v hv => Ctr.of [some (.ref (wad w 34)), some (.ref (wad w r1)), some (.int x2), none] (by decide) hok rfl (Nat.le_of_ble_eq_true rfl) (fun M _ X => pX3_readPerson X r1 h1 x2 σ v hv)
def fX3_readItem_2 (r1 : Nat) (σ : Mem) (k2 : Int32 → Option (Bool × Mem)) (x2 : Int32) : Option (Bool × Mem) :=
  (if 7 ≤ x2 then ((fX3_isWord 7 σ).bind fun v_35 => (if v_35 = true then (bnd2 (fX3_readJoke r1 σ) fun v_43 s_43 => (some (v_43, s_43))) else ((fX3_isWord 8 σ).bind fun v_50 => (if v_50 = true then (bnd2 (fX3_readRate r1 σ) fun v_58 s_58 => (some (v_58, s_58))) else ((fX3_isWord 9 σ).bind fun v_65 => (if v_65 = true then (bnd2 (fX3_readReach r1 σ) fun v_73 s_73 => (if v_73 = true then (some (true, s_73)) else (some (false, s_73)))) else (some (false, σ)))))))) else ((fX3_isWord (fX3_wordOf x2) σ).bind fun v_13 => (if v_13 = true then (bnd2 (fX3_readPerson r1 x2 σ) fun v_22 s_22 => (some (v_22, s_22))) else (k2 (x2 + 1)))))
def fX3_readItem (r1 : Nat) (σ : Mem) : Option (Bool × Mem) :=
  (lw1 (fX3_readItem_2 r1 σ) FU 0)
set_option maxRecDepth 20000 in
theorem pX3_readItem_2 {M : MC} {w : WE} (X : Cx M w shC cX3_readItem 3 RX3 (some .boolean) 7) (r1 : Nat) (h1 : isRm r1)   (σ : Mem)  : ∀ (n : Nat) (x2 : Int32), Cp M w shC 3 iBM 2 [some (.ref (wad w 34)), some (.ref (wad w r1)), some (.int x2)] [] σ (lw1 (fX3_readItem_2 r1 σ) n x2) :=
  lw1_i (P := fun x2 b => Cp M w shC 3 iBM 2 [some (.ref (wad w 34)), some (.ref (wad w r1)), some (.int x2)] [] σ b) (fun _ => Cp.non) (fun k2 hk2 x2 => by
  unfold fX3_readItem_2
  refine Cp.iload_n (i := 2) X dX3_readItem_2 rfl rfl ?_
  refine Cp.bipush (v := 7) X dX3_readItem_3 rfl ?_
  refine Cp.icmp_ge X 32 dX3_readItem_5 (by decide) (fun c_5 => ?_) (fun c_5 => ?_)
  · refine Cp.aload_n (i := 0) X dX3_readItem_32 rfl rfl ?_
    refine Cp.ldcS 7 X (tx := "joke") (by decide) dX3_readItem_33 ?_
    refine Cp.cVB [] X [.ref (wK w 7)] cvX3_isWord (kX3_isWord X.ok 7 (by decide) σ) sc_34 rfl rfl wmX3_39 rfl rfl dX3_readItem_35 rfl (Nat.le_of_ble_eq_true rfl) (fun v_35 => ?_)
    refine Cp.if_eqB X 47 dX3_readItem_38 (by decide) (fun c_38 => ?_) (fun c_38 => ?_)
    · refine Cp.aload_n (i := 0) X dX3_readItem_47 rfl rfl ?_
      refine Cp.ldcS 8 X (tx := "rate") (by decide) dX3_readItem_48 ?_
      refine Cp.cVB [] X [.ref (wK w 8)] cvX3_isWord (kX3_isWord X.ok 8 (by decide) σ) sc_34 rfl rfl wmX3_39 rfl rfl dX3_readItem_50 rfl (Nat.le_of_ble_eq_true rfl) (fun v_50 => ?_)
      refine Cp.if_eqB X 62 dX3_readItem_53 (by decide) (fun c_53 => ?_) (fun c_53 => ?_)
      · refine Cp.aload_n (i := 0) X dX3_readItem_62 rfl rfl ?_
        refine Cp.ldcS 9 X (tx := "reach") (by decide) dX3_readItem_63 ?_
        refine Cp.cVB [] X [.ref (wK w 9)] cvX3_isWord (kX3_isWord X.ok 9 (by decide) σ) sc_34 rfl rfl wmX3_39 rfl rfl dX3_readItem_65 rfl (Nat.le_of_ble_eq_true rfl) (fun v_65 => ?_)
        refine Cp.if_eqB X 83 dX3_readItem_68 (by decide) (fun c_68 => ?_) (fun c_68 => ?_)
        · refine Cp.iconst (v := 0) X dX3_readItem_83 rfl ?_
          exact Cp.bret (v := false) X dX3_readItem_84 rfl
        · refine Cp.aload_n (i := 0) X dX3_readItem_71 rfl rfl ?_
          refine Cp.aload_n (i := 1) X dX3_readItem_72 rfl rfl ?_
          refine Cp.cVBM [] X [.ref (wad w r1)] cvX3_readReach (kX3_readReach X.ok r1 h1 σ) sc_34 rfl rfl wmX3_59 rfl rfl dX3_readItem_73 rfl (Nat.le_of_ble_eq_true rfl) (fun v_73 s_73 => ?_)
          refine Cp.if_eqB X 83 dX3_readItem_76 (by decide) (fun c_76 => ?_) (fun c_76 => ?_)
          · refine Cp.iconst (v := 0) X dX3_readItem_83 rfl ?_
            exact Cp.bret (v := false) X dX3_readItem_84 rfl
          · refine Cp.iconst (v := 1) X dX3_readItem_79 rfl ?_
            refine Cp.goto X 84 dX3_readItem_80 (by decide) ?_
            exact Cp.bret (v := true) X dX3_readItem_84 rfl
      · refine Cp.aload_n (i := 0) X dX3_readItem_56 rfl rfl ?_
        refine Cp.aload_n (i := 1) X dX3_readItem_57 rfl rfl ?_
        refine Cp.cVBM [] X [.ref (wad w r1)] cvX3_readRate (kX3_readRate X.ok r1 h1 σ) sc_34 rfl rfl wmX3_54 rfl rfl dX3_readItem_58 rfl (Nat.le_of_ble_eq_true rfl) (fun v_58 s_58 => ?_)
        exact Cp.bret X dX3_readItem_61 rfl
    · refine Cp.aload_n (i := 0) X dX3_readItem_41 rfl rfl ?_
      refine Cp.aload_n (i := 1) X dX3_readItem_42 rfl rfl ?_
      refine Cp.cVBM [] X [.ref (wad w r1)] cvX3_readJoke (kX3_readJoke X.ok r1 h1 σ) sc_34 rfl rfl wmX3_49 rfl rfl dX3_readItem_43 rfl (Nat.le_of_ble_eq_true rfl) (fun v_43 s_43 => ?_)
      exact Cp.bret X dX3_readItem_46 rfl
  · refine Cp.aload_n (i := 0) X dX3_readItem_8 rfl rfl ?_
    refine Cp.iload_n (i := 2) X dX3_readItem_9 rfl rfl ?_
    refine Cp.cSRT [.ref (wad w 34)] X [.int x2] csX3_wordOf (kX3_wordOf X.ok x2 σ) wmX3_35 rfl rfl dX3_readItem_10 rfl (Nat.le_of_ble_eq_true rfl) ?_
    refine Cp.cVB [] X [.ref (wK w (fX3_wordOf x2))] cvX3_isWord (kX3_isWord X.ok (fX3_wordOf x2) (bSX3_wordOf _) σ) sc_34 rfl rfl wmX3_39 rfl rfl dX3_readItem_13 rfl (Nat.le_of_ble_eq_true rfl) (fun v_13 => ?_)
    refine Cp.if_eqB X 26 dX3_readItem_16 (by decide) (fun c_16 => ?_) (fun c_16 => ?_)
    · refine Cp.iinc (v := x2 + 1) X dX3_readItem_26 rfl rfl (Nat.le_of_ble_eq_true rfl) rfl ?_
      refine Cp.goto X 2 dX3_readItem_29 (by decide) ?_
      exact hk2 (x2 + 1)
    · refine Cp.aload_n (i := 0) X dX3_readItem_19 rfl rfl ?_
      refine Cp.aload_n (i := 1) X dX3_readItem_20 rfl rfl ?_
      refine Cp.iload_n (i := 2) X dX3_readItem_21 rfl rfl ?_
      refine Cp.cVBM [] X [.ref (wad w r1), .int x2] cvX3_readPerson (kX3_readPerson X.ok r1 h1 x2 σ) sc_34 rfl rfl wmX3_43 rfl rfl dX3_readItem_22 rfl (Nat.le_of_ble_eq_true rfl) (fun v_22 s_22 => ?_)
      exact Cp.bret X dX3_readItem_25 rfl)
set_option maxRecDepth 20000 in
theorem pX3_readItem {M : MC} {w : WE} (X : Cx M w shC cX3_readItem 3 RX3 (some .boolean) 7) (r1 : Nat) (h1 : isRm r1)  (σ : Mem) : Cp M w shC 3 iBM 0 [some (.ref (wad w 34)), some (.ref (wad w r1)), none] [] σ (fX3_readItem r1 σ) := by
  unfold fX3_readItem
  refine Cp.iconst (v := 0) X dX3_readItem_0 rfl ?_
  refine Cp.istore_n (i := 2) X dX3_readItem_1 rfl (Nat.le_of_ble_eq_true rfl) rfl ?_
  exact pX3_readItem_2 X r1 h1 σ FU 0
theorem kX3_readItem {l : Launch} {w : WE} (hok : OkW w shC) (r1 : Nat) (h1 : isRm r1)  (σ : Mem) : ∀ v, fX3_readItem r1 σ = some v → Ctr l w shC yX3_readItem cX3_readItem 3 (some .boolean) 7 [.ref (wad w 34), .ref (wad w r1)] σ (iBM v) := fun v hv => Ctr.of [some (.ref (wad w 34)), some (.ref (wad w r1)), none] (by decide) hok rfl (Nat.le_of_ble_eq_true rfl) (fun M _ X => pX3_readItem X r1 h1  σ v hv)
def fX3_readInto_11 (r1 : Nat) (k11 : Int32 → Mem → Option (Int32 × Mem)) (x2 : Int32) (σ : Mem) : Option (Int32 × Mem) :=
  (if 120 < x2 then (some ((-1) - (σ 34 3), σ)) else (bnd2 (fX3_readItem r1 σ) fun v_19 s_19 => (if v_19 = true then (if (s_19 34 2) = 0 then (some (x2, s_19)) else (if (s_19 34 2) = 3 then ((fX3_step s_19).bind fun s_49 => (k11 (x2 + 1) s_49)) else (some ((-1) - (s_19 34 3), s_19)))) else (some ((-1) - (s_19 34 3), s_19)))))
def fX3_readInto (r1 : Nat) (σ : Mem) : Option (Int32 × Mem) :=
  (pb (up2 σ 34 4 0 : Mem) fun s_2 => ((fX3_step s_2).bind fun s_6 => (lw2 (fX3_readInto_11 r1) FU 1 s_6)))
set_option maxRecDepth 20000 in
theorem pX3_readInto_11 {M : MC} {w : WE} (X : Cx M w shC cX3_readInto 3 RX3 (some .int) 8) (r1 : Nat) (h1 : isRm r1)     : ∀ (n : Nat) (x2 : Int32) (σ : Mem), Cp M w shC 3 iIM 11 [some (.ref (wad w 34)), some (.ref (wad w r1)), some (.int x2)] [] σ (lw2 (fX3_readInto_11 r1) n x2 σ) :=
  lw2_i (P := fun x2 σ b => Cp M w shC 3 iIM 11 [some (.ref (wad w 34)), some (.ref (wad w r1)), some (.int x2)] [] σ b) (fun _ _ => Cp.non) (fun k11 hk11 x2 σ => by
  unfold fX3_readInto_11
  refine Cp.iload_n (i := 2) X dX3_readInto_11 rfl rfl ?_
  refine Cp.bipush (v := 120) X dX3_readInto_12 rfl ?_
  refine Cp.icmp_gt X 58 dX3_readInto_14 (by decide) (fun c_14 => ?_) (fun c_14 => ?_)
  · refine Cp.iconst (v := (-1)) X dX3_readInto_58 rfl ?_
    refine Cp.aload_n (i := 0) X dX3_readInto_59 rfl rfl ?_
    refine gfX3_32 X sc_34 rfl dX3_readInto_60 ?_
    refine Cp.isub X dX3_readInto_63 ?_
    exact Cp.iret X dX3_readInto_64 rfl
  · refine Cp.aload_n (i := 0) X dX3_readInto_17 rfl rfl ?_
    refine Cp.aload_n (i := 1) X dX3_readInto_18 rfl rfl ?_
    refine Cp.cVBM [] X [.ref (wad w r1)] cvX3_readItem (kX3_readItem X.ok r1 h1 σ) sc_34 rfl rfl wmX3_25 rfl rfl dX3_readInto_19 rfl (Nat.le_of_ble_eq_true rfl) (fun v_19 s_19 => ?_)
    refine Cp.if_neB X 28 dX3_readInto_22 (by decide) (fun c_22 => ?_) (fun c_22 => ?_)
    · refine Cp.aload_n (i := 0) X dX3_readInto_28 rfl rfl ?_
      refine gfX3_29 X sc_34 rfl dX3_readInto_29 ?_
      refine Cp.if_ne X 37 dX3_readInto_32 (by decide) (fun c_32 => ?_) (fun c_32 => ?_)
      · refine Cp.aload_n (i := 0) X dX3_readInto_37 rfl rfl ?_
        refine gfX3_29 X sc_34 rfl dX3_readInto_38 ?_
        refine Cp.iconst (v := 3) X dX3_readInto_41 rfl ?_
        refine Cp.icmp_eq X 48 dX3_readInto_42 (by decide) (fun c_42 => ?_) (fun c_42 => ?_)
        · refine Cp.aload_n (i := 0) X dX3_readInto_48 rfl rfl ?_
          refine Cp.cVV [] X [] cvX3_step (kX3_step X.ok s_19) sc_34 rfl rfl wmX3_22 rfl rfl dX3_readInto_49 rfl (Nat.le_of_ble_eq_true rfl) (fun s_49 => ?_)
          refine Cp.iinc (v := x2 + 1) X dX3_readInto_52 rfl rfl (Nat.le_of_ble_eq_true rfl) rfl ?_
          refine Cp.goto X 11 dX3_readInto_55 (by decide) ?_
          exact hk11 (x2 + 1) s_49
        · refine Cp.goto X 58 dX3_readInto_45 (by decide) ?_
          refine Cp.iconst (v := (-1)) X dX3_readInto_58 rfl ?_
          refine Cp.aload_n (i := 0) X dX3_readInto_59 rfl rfl ?_
          refine gfX3_32 X sc_34 rfl dX3_readInto_60 ?_
          refine Cp.isub X dX3_readInto_63 ?_
          exact Cp.iret X dX3_readInto_64 rfl
      · refine Cp.iload_n (i := 2) X dX3_readInto_35 rfl rfl ?_
        exact Cp.iret X dX3_readInto_36 rfl
    · refine Cp.goto X 58 dX3_readInto_25 (by decide) ?_
      refine Cp.iconst (v := (-1)) X dX3_readInto_58 rfl ?_
      refine Cp.aload_n (i := 0) X dX3_readInto_59 rfl rfl ?_
      refine gfX3_32 X sc_34 rfl dX3_readInto_60 ?_
      refine Cp.isub X dX3_readInto_63 ?_
      exact Cp.iret X dX3_readInto_64 rfl)
set_option maxRecDepth 20000 in
theorem pX3_readInto {M : MC} {w : WE} (X : Cx M w shC cX3_readInto 3 RX3 (some .int) 8) (r1 : Nat) (h1 : isRm r1)  (σ : Mem) : Cp M w shC 3 iIM 0 [some (.ref (wad w 34)), some (.ref (wad w r1)), none] [] σ (fX3_readInto r1 σ) := by
  unfold fX3_readInto
  refine Cp.aload_n (i := 0) X dX3_readInto_0 rfl rfl ?_
  refine Cp.iconst (v := 0) X dX3_readInto_1 rfl ?_
  refine pfX3_19 X sc_34 rfl dX3_readInto_2 ?_
  refine Cp.nameM (fun s_2 => ?_)
  refine Cp.aload_n (i := 0) X dX3_readInto_5 rfl rfl ?_
  refine Cp.cVV [] X [] cvX3_step (kX3_step X.ok s_2) sc_34 rfl rfl wmX3_22 rfl rfl dX3_readInto_6 rfl (Nat.le_of_ble_eq_true rfl) (fun s_6 => ?_)
  refine Cp.iconst (v := 1) X dX3_readInto_9 rfl ?_
  refine Cp.istore_n (i := 2) X dX3_readInto_10 rfl (Nat.le_of_ble_eq_true rfl) rfl ?_
  exact pX3_readInto_11 X r1 h1 FU 1 s_6
theorem kX3_readInto {l : Launch} {w : WE} (hok : OkW w shC) (r1 : Nat) (h1 : isRm r1)  (σ : Mem) : ∀ v, fX3_readInto r1 σ = some v → Ctr l w shC yX3_readInto cX3_readInto 3 (some .int) 8 [.ref (wad w 34), .ref (wad w r1)] σ (iIM v) := fun v hv => Ctr.of [some (.ref (wad w 34)), some (.ref (wad w r1)), none] (by decide) hok rfl (Nat.le_of_ble_eq_true rfl) (fun M _ X => pX3_readInto X r1 h1  σ v hv)
def fX5_text  (σ : Mem) : Option (Int32 × Mem) :=
  ((fX1_takeOver 11 1 σ).bind fun s_8 => (bnd2 (fX3_readInto 11 s_8) fun v_19 s_19 => (pb (up2 s_19 34 1 0 : Mem) fun s_28 => (if v_19 < 0 then (some (v_19, s_28)) else ((fX1_takeOver 1 11 s_28).bind fun s_43 => (some (v_19, s_43)))))))
set_option maxRecDepth 20000 in
theorem pX5_text {M : MC} {w : WE} (X : Cx M w shC cX5_text 2 RX5 (some .int) 9)    (σ : Mem) : Cp M w shC 2 iIM 0 [some (.ref (wad w 0)), none] [] σ (fX5_text σ) := by
  unfold fX5_text
  refine Cp.aload_n (i := 0) X dX5_text_0 rfl rfl ?_
  refine gfX5_16 X 11 sc_0 rfl dX5_text_1 ?_
  refine Cp.aload_n (i := 0) X dX5_text_4 rfl rfl ?_
  refine gfX5_10 X 1 sc_0 rfl dX5_text_5 ?_
  refine Cp.cVV [] X [.ref (wad w 1)] cvX1_takeOver (kX1_takeOver X.ok 11 1 isRm_11 isRm_1 σ) sc_11 rfl rfl wmX5_201 rfl rfl dX5_text_8 rfl (Nat.le_of_ble_eq_true rfl) (fun s_8 => ?_)
  refine Cp.aload_n (i := 0) X dX5_text_11 rfl rfl ?_
  refine gfX5_36 X 34 sc_0 rfl dX5_text_12 ?_
  refine Cp.aload_n (i := 0) X dX5_text_15 rfl rfl ?_
  refine gfX5_16 X 11 sc_0 rfl dX5_text_16 ?_
  refine Cp.cVIM [] X [.ref (wad w 11)] cvX3_readInto (kX3_readInto X.ok 11 isRm_11 s_8) sc_34 rfl rfl wmX5_258 rfl rfl dX5_text_19 rfl (Nat.le_of_ble_eq_true rfl) (fun v_19 s_19 => ?_)
  refine Cp.istore_n (i := 1) X dX5_text_22 rfl (Nat.le_of_ble_eq_true rfl) rfl ?_
  refine Cp.aload_n (i := 0) X dX5_text_23 rfl rfl ?_
  refine gfX5_36 X 34 sc_0 rfl dX5_text_24 ?_
  refine Cp.iconst (v := 0) X dX5_text_27 rfl ?_
  refine pfX5_251 X sc_34 rfl dX5_text_28 ?_
  refine Cp.nameM (fun s_28 => ?_)
  refine Cp.iload_n (i := 1) X dX5_text_31 rfl rfl ?_
  refine Cp.if_lt X 46 dX5_text_32 (by decide) (fun c_32 => ?_) (fun c_32 => ?_)
  · refine Cp.iload_n (i := 1) X dX5_text_46 rfl rfl ?_
    exact Cp.iret X dX5_text_47 rfl
  · refine Cp.aload_n (i := 0) X dX5_text_35 rfl rfl ?_
    refine gfX5_10 X 1 sc_0 rfl dX5_text_36 ?_
    refine Cp.aload_n (i := 0) X dX5_text_39 rfl rfl ?_
    refine gfX5_16 X 11 sc_0 rfl dX5_text_40 ?_
    refine Cp.cVV [] X [.ref (wad w 11)] cvX1_takeOver (kX1_takeOver X.ok 1 11 isRm_1 isRm_11 s_28) sc_1 rfl rfl wmX5_201 rfl rfl dX5_text_43 rfl (Nat.le_of_ble_eq_true rfl) (fun s_43 => ?_)
    refine Cp.iload_n (i := 1) X dX5_text_46 rfl rfl ?_
    exact Cp.iret X dX5_text_47 rfl
theorem kX5_text {l : Launch} {w : WE} (hok : OkW w shC)    (σ : Mem) : ∀ v, fX5_text σ = some v → Ctr l w shC yX5_text cX5_text 2 (some .int) 9 [.ref (wad w 0)] σ (iIM v) := fun v hv => Ctr.of [some (.ref (wad w 0)), none] (by decide) hok rfl (Nat.le_of_ble_eq_true rfl) (fun M _ X => pX5_text X    σ v hv)
def fX6_isWord_31 (i1 : Nat) (σ : Mem) (k31 : Int32 → Int32 → Option Bool) (x2 : Int32) (x3 : Int32) : Option Bool :=
  (if x2 = 0 then (gd (x2 = 0 ∨ x2 = 1) (some (id (decide (x2 = 1))))) else (if (nI (strL i1)) ≤ x3 then (gd (x2 = 0 ∨ x2 = 1) (some (id (decide (x2 = 1))))) else (gd (inB ((σ 0 11) + x3) 120 = true) (gd (inB x3 (strL i1) = true) (if (σ 7 ((σ 0 11) + x3).toNatClampNeg) = (strC i1 x3.toNatClampNeg) then (k31 1 (x3 + 1)) else (k31 0 (x3 + 1)))))))
def fX6_isWord (i1 : Nat) (σ : Mem) : Option Bool :=
  (if (σ 0 13) = 0 then (if ((σ 0 12) - (σ 0 11)) = (nI (strL i1)) then (lw2 (fX6_isWord_31 i1 σ) FU 1 0) else (lw2 (fX6_isWord_31 i1 σ) FU 0 0)) else (lw2 (fX6_isWord_31 i1 σ) FU 0 0))
set_option maxRecDepth 20000 in
theorem pX6_isWord_31 {M : MC} {w : WE} (X : Cx M w shR cX6_isWord 4 RX6 (some .boolean) 4) (i1 : Nat) (h1 : i1 < 15)   (σ : Mem)  : ∀ (n : Nat) (x2 : Int32) (x3 : Int32), Cp M w shR 4 (iB σ) 31 [some (.ref (wad w 0)), some (.ref (wK w i1)), some (.int x2), some (.int x3)] [] σ (lw2 (fX6_isWord_31 i1 σ) n x2 x3) :=
  lw2_i (P := fun x2 x3 b => Cp M w shR 4 (iB σ) 31 [some (.ref (wad w 0)), some (.ref (wK w i1)), some (.int x2), some (.int x3)] [] σ b) (fun _ _ => Cp.non) (fun k31 hk31 x2 x3 => by
  unfold fX6_isWord_31
  refine Cp.iload_n (i := 2) X dX6_isWord_31 rfl rfl ?_
  refine Cp.if_eq X 74 dX6_isWord_32 (by decide) (fun c_32 => ?_) (fun c_32 => ?_)
  · refine Cp.iload_n (i := 2) X dX6_isWord_74 rfl rfl ?_
    exact Cp.bretI (g := id) X dX6_isWord_75 (fun _ => rfl)
  · refine Cp.iload_n (i := 3) X dX6_isWord_35 rfl rfl ?_
    refine Cp.aload_n (i := 1) X dX6_isWord_36 rfl rfl ?_
    refine Cp.sLen X wmX6_237 h1 (by decide) dX6_isWord_37 (Nat.le_of_ble_eq_true rfl) ?_
    refine Cp.icmp_ge X 74 dX6_isWord_40 (by decide) (fun c_40 => ?_) (fun c_40 => ?_)
    · refine Cp.iload_n (i := 2) X dX6_isWord_74 rfl rfl ?_
      exact Cp.bretI (g := id) X dX6_isWord_75 (fun _ => rfl)
    · refine Cp.aload_n (i := 0) X dX6_isWord_43 rfl rfl ?_
      refine gfX6_28 X 7 sr_0 rfl dX6_isWord_44 ?_
      refine Cp.aload_n (i := 0) X dX6_isWord_47 rfl rfl ?_
      refine gfX6_227 X sr_0 rfl dX6_isWord_48 ?_
      refine Cp.iload_n (i := 3) X dX6_isWord_51 rfl rfl ?_
      refine Cp.iadd X dX6_isWord_52 ?_
      refine Cp.iald X sr_7 dX6_isWord_53 ?_
      refine Cp.aload_n (i := 1) X dX6_isWord_54 rfl rfl ?_
      refine Cp.iload_n (i := 3) X dX6_isWord_55 rfl rfl ?_
      refine Cp.sChr X wmX6_242 h1 (by decide) dX6_isWord_56 (Nat.le_of_ble_eq_true rfl) ?_
      refine Cp.icmp_ne X 66 dX6_isWord_59 (by decide) (fun c_59 => ?_) (fun c_59 => ?_)
      · refine Cp.iconst (v := 0) X dX6_isWord_66 rfl ?_
        refine Cp.istore_n (i := 2) X dX6_isWord_67 rfl (Nat.le_of_ble_eq_true rfl) rfl ?_
        refine Cp.iinc (v := x3 + 1) X dX6_isWord_68 rfl rfl (Nat.le_of_ble_eq_true rfl) rfl ?_
        refine Cp.goto X 31 dX6_isWord_71 (by decide) ?_
        exact hk31 0 (x3 + 1)
      · refine Cp.iconst (v := 1) X dX6_isWord_62 rfl ?_
        refine Cp.goto X 67 dX6_isWord_63 (by decide) ?_
        refine Cp.istore_n (i := 2) X dX6_isWord_67 rfl (Nat.le_of_ble_eq_true rfl) rfl ?_
        refine Cp.iinc (v := x3 + 1) X dX6_isWord_68 rfl rfl (Nat.le_of_ble_eq_true rfl) rfl ?_
        refine Cp.goto X 31 dX6_isWord_71 (by decide) ?_
        exact hk31 1 (x3 + 1))
set_option maxRecDepth 20000 in
theorem pX6_isWord {M : MC} {w : WE} (X : Cx M w shR cX6_isWord 4 RX6 (some .boolean) 4) (i1 : Nat) (h1 : i1 < 15)  (σ : Mem) : Cp M w shR 4 (iB σ) 0 [some (.ref (wad w 0)), some (.ref (wK w i1)), none, none] [] σ (fX6_isWord i1 σ) := by
  unfold fX6_isWord
  refine Cp.aload_n (i := 0) X dX6_isWord_0 rfl rfl ?_
  refine gfX6_233 X sr_0 rfl dX6_isWord_1 ?_
  refine Cp.if_ne X 27 dX6_isWord_4 (by decide) (fun c_4 => ?_) (fun c_4 => ?_)
  · refine Cp.iconst (v := 0) X dX6_isWord_27 rfl ?_
    refine Cp.istore_n (i := 2) X dX6_isWord_28 rfl (Nat.le_of_ble_eq_true rfl) rfl ?_
    refine Cp.iconst (v := 0) X dX6_isWord_29 rfl ?_
    refine Cp.istore_n (i := 3) X dX6_isWord_30 rfl (Nat.le_of_ble_eq_true rfl) rfl ?_
    exact pX6_isWord_31 X i1 h1 σ FU 0 0
  · refine Cp.aload_n (i := 0) X dX6_isWord_7 rfl rfl ?_
    refine gfX6_224 X sr_0 rfl dX6_isWord_8 ?_
    refine Cp.aload_n (i := 0) X dX6_isWord_11 rfl rfl ?_
    refine gfX6_227 X sr_0 rfl dX6_isWord_12 ?_
    refine Cp.isub X dX6_isWord_15 ?_
    refine Cp.aload_n (i := 1) X dX6_isWord_16 rfl rfl ?_
    refine Cp.sLen X wmX6_237 h1 (by decide) dX6_isWord_17 (Nat.le_of_ble_eq_true rfl) ?_
    refine Cp.icmp_ne X 27 dX6_isWord_20 (by decide) (fun c_20 => ?_) (fun c_20 => ?_)
    · refine Cp.iconst (v := 0) X dX6_isWord_27 rfl ?_
      refine Cp.istore_n (i := 2) X dX6_isWord_28 rfl (Nat.le_of_ble_eq_true rfl) rfl ?_
      refine Cp.iconst (v := 0) X dX6_isWord_29 rfl ?_
      refine Cp.istore_n (i := 3) X dX6_isWord_30 rfl (Nat.le_of_ble_eq_true rfl) rfl ?_
      exact pX6_isWord_31 X i1 h1 σ FU 0 0
    · refine Cp.iconst (v := 1) X dX6_isWord_23 rfl ?_
      refine Cp.goto X 28 dX6_isWord_24 (by decide) ?_
      refine Cp.istore_n (i := 2) X dX6_isWord_28 rfl (Nat.le_of_ble_eq_true rfl) rfl ?_
      refine Cp.iconst (v := 0) X dX6_isWord_29 rfl ?_
      refine Cp.istore_n (i := 3) X dX6_isWord_30 rfl (Nat.le_of_ble_eq_true rfl) rfl ?_
      exact pX6_isWord_31 X i1 h1 σ FU 1 0
theorem kX6_isWord {l : Launch} {w : WE} (hok : OkW w shR) (i1 : Nat) (h1 : i1 < 15)  (σ : Mem) : ∀ v, fX6_isWord i1 σ = some v → Ctr l w shR yX6_isWord cX6_isWord 4 (some .boolean) 4 [.ref (wad w 0), .ref (wK w i1)] σ ((iB σ) v) := fun v hv => Ctr.of [some (.ref (wad w 0)), some (.ref (wK w i1)), none, none] (by decide) hok rfl (Nat.le_of_ble_eq_true rfl) (fun M _ X => pX6_isWord X i1 h1  σ v hv)
def fX6_kindHere_87 (x1 : Int32) (t0 : Int32) (σ : Mem) : Option Int32 :=
  (if x1 < 0 then (if t0 < 0 then ((fX6_isWord 6 σ).bind fun v_108 => (if v_108 = true then (some 6) else (some (-1)))) else (some t0)) else (some x1))
def fX6_kindHere_43 (t0 : Int32) (σ : Mem) : Option Int32 :=
  ((fX6_isWord 3 σ).bind fun v_48 => (if v_48 = true then (fX6_kindHere_87 t0 3 σ) else ((fX6_isWord 4 σ).bind fun v_62 => (if v_62 = true then (fX6_kindHere_87 t0 4 σ) else ((fX6_isWord 5 σ).bind fun v_76 => (if v_76 = true then (fX6_kindHere_87 t0 5 σ) else (fX6_kindHere_87 t0 (-1) σ)))))))
def fX6_kindHere  (σ : Mem) : Option Int32 :=
  ((fX6_isWord 0 σ).bind fun v_4 => (if v_4 = true then (fX6_kindHere_43 0 σ) else ((fX6_isWord 1 σ).bind fun v_18 => (if v_18 = true then (fX6_kindHere_43 1 σ) else ((fX6_isWord 2 σ).bind fun v_32 => (if v_32 = true then (fX6_kindHere_43 2 σ) else (fX6_kindHere_43 (-1) σ)))))))
set_option maxRecDepth 20000 in
theorem pX6_kindHere_87 {M : MC} {w : WE} (X : Cx M w shR cX6_kindHere 3 RX6 (some .int) 5)   (x1 : Int32) (t0 : Int32)  (σ : Mem)  : Cp M w shR 3 (iI σ) 87 [some (.ref (wad w 0)), some (.int x1), none] [.int t0] σ (fX6_kindHere_87 x1 t0 σ) := by
  unfold fX6_kindHere_87
  refine Cp.istore_n (i := 2) X dX6_kindHere_87 rfl (Nat.le_of_ble_eq_true rfl) rfl ?_
  refine Cp.iload_n (i := 1) X dX6_kindHere_88 rfl rfl ?_
  refine Cp.if_lt X 96 dX6_kindHere_89 (by decide) (fun c_89 => ?_) (fun c_89 => ?_)
  · refine Cp.iload_n (i := 2) X dX6_kindHere_96 rfl rfl ?_
    refine Cp.if_lt X 104 dX6_kindHere_97 (by decide) (fun c_97 => ?_) (fun c_97 => ?_)
    · refine Cp.aload_n (i := 0) X dX6_kindHere_104 rfl rfl ?_
      refine Cp.ldcSw 6 X (tx := "inspector") (by decide) dX6_kindHere_105 ?_
      refine Cp.cVB [] X [.ref (wK w 6)] cvX6_isWord (kX6_isWord X.ok 6 (by decide) σ) sr_0 rfl rfl wmX6_249 rfl rfl dX6_kindHere_108 rfl (Nat.le_of_ble_eq_true rfl) (fun v_108 => ?_)
      refine Cp.if_eqB X 119 dX6_kindHere_111 (by decide) (fun c_111 => ?_) (fun c_111 => ?_)
      · refine Cp.iconst (v := (-1)) X dX6_kindHere_119 rfl ?_
        exact Cp.iret X dX6_kindHere_120 rfl
      · refine Cp.bipush (v := 6) X dX6_kindHere_114 rfl ?_
        refine Cp.goto X 120 dX6_kindHere_116 (by decide) ?_
        exact Cp.iret X dX6_kindHere_120 rfl
    · refine Cp.iload_n (i := 2) X dX6_kindHere_100 rfl rfl ?_
      refine Cp.goto X 120 dX6_kindHere_101 (by decide) ?_
      exact Cp.iret X dX6_kindHere_120 rfl
  · refine Cp.iload_n (i := 1) X dX6_kindHere_92 rfl rfl ?_
    refine Cp.goto X 120 dX6_kindHere_93 (by decide) ?_
    exact Cp.iret X dX6_kindHere_120 rfl
set_option maxRecDepth 20000 in
theorem pX6_kindHere_43 {M : MC} {w : WE} (X : Cx M w shR cX6_kindHere 3 RX6 (some .int) 5)   (t0 : Int32)  (σ : Mem)  : Cp M w shR 3 (iI σ) 43 [some (.ref (wad w 0)), none, none] [.int t0] σ (fX6_kindHere_43 t0 σ) := by
  unfold fX6_kindHere_43
  refine Cp.istore_n (i := 1) X dX6_kindHere_43 rfl (Nat.le_of_ble_eq_true rfl) rfl ?_
  refine Cp.aload_n (i := 0) X dX6_kindHere_44 rfl rfl ?_
  refine Cp.ldcSw 3 X (tx := "aunt") (by decide) dX6_kindHere_45 ?_
  refine Cp.cVB [] X [.ref (wK w 3)] cvX6_isWord (kX6_isWord X.ok 3 (by decide) σ) sr_0 rfl rfl wmX6_249 rfl rfl dX6_kindHere_48 rfl (Nat.le_of_ble_eq_true rfl) (fun v_48 => ?_)
  refine Cp.if_eqB X 58 dX6_kindHere_51 (by decide) (fun c_51 => ?_) (fun c_51 => ?_)
  · refine Cp.aload_n (i := 0) X dX6_kindHere_58 rfl rfl ?_
    refine Cp.ldcSw 4 X (tx := "fool") (by decide) dX6_kindHere_59 ?_
    refine Cp.cVB [] X [.ref (wK w 4)] cvX6_isWord (kX6_isWord X.ok 4 (by decide) σ) sr_0 rfl rfl wmX6_249 rfl rfl dX6_kindHere_62 rfl (Nat.le_of_ble_eq_true rfl) (fun v_62 => ?_)
    refine Cp.if_eqB X 72 dX6_kindHere_65 (by decide) (fun c_65 => ?_) (fun c_65 => ?_)
    · refine Cp.aload_n (i := 0) X dX6_kindHere_72 rfl rfl ?_
      refine Cp.ldcSw 5 X (tx := "child") (by decide) dX6_kindHere_73 ?_
      refine Cp.cVB [] X [.ref (wK w 5)] cvX6_isWord (kX6_isWord X.ok 5 (by decide) σ) sr_0 rfl rfl wmX6_249 rfl rfl dX6_kindHere_76 rfl (Nat.le_of_ble_eq_true rfl) (fun v_76 => ?_)
      refine Cp.if_eqB X 86 dX6_kindHere_79 (by decide) (fun c_79 => ?_) (fun c_79 => ?_)
      · refine Cp.iconst (v := (-1)) X dX6_kindHere_86 rfl ?_
        exact pX6_kindHere_87 X t0 (-1) σ
      · refine Cp.iconst (v := 5) X dX6_kindHere_82 rfl ?_
        refine Cp.goto X 87 dX6_kindHere_83 (by decide) ?_
        exact pX6_kindHere_87 X t0 5 σ
    · refine Cp.iconst (v := 4) X dX6_kindHere_68 rfl ?_
      refine Cp.goto X 87 dX6_kindHere_69 (by decide) ?_
      exact pX6_kindHere_87 X t0 4 σ
  · refine Cp.iconst (v := 3) X dX6_kindHere_54 rfl ?_
    refine Cp.goto X 87 dX6_kindHere_55 (by decide) ?_
    exact pX6_kindHere_87 X t0 3 σ
set_option maxRecDepth 20000 in
theorem pX6_kindHere {M : MC} {w : WE} (X : Cx M w shR cX6_kindHere 3 RX6 (some .int) 5)    (σ : Mem) : Cp M w shR 3 (iI σ) 0 [some (.ref (wad w 0)), none, none] [] σ (fX6_kindHere σ) := by
  unfold fX6_kindHere
  refine Cp.aload_n (i := 0) X dX6_kindHere_0 rfl rfl ?_
  refine Cp.ldcSw 0 X (tx := "hearer") (by decide) dX6_kindHere_1 ?_
  refine Cp.cVB [] X [.ref (wK w 0)] cvX6_isWord (kX6_isWord X.ok 0 (by decide) σ) sr_0 rfl rfl wmX6_249 rfl rfl dX6_kindHere_4 rfl (Nat.le_of_ble_eq_true rfl) (fun v_4 => ?_)
  refine Cp.if_eqB X 14 dX6_kindHere_7 (by decide) (fun c_7 => ?_) (fun c_7 => ?_)
  · refine Cp.aload_n (i := 0) X dX6_kindHere_14 rfl rfl ?_
    refine Cp.ldcSw 1 X (tx := "straight") (by decide) dX6_kindHere_15 ?_
    refine Cp.cVB [] X [.ref (wK w 1)] cvX6_isWord (kX6_isWord X.ok 1 (by decide) σ) sr_0 rfl rfl wmX6_249 rfl rfl dX6_kindHere_18 rfl (Nat.le_of_ble_eq_true rfl) (fun v_18 => ?_)
    refine Cp.if_eqB X 28 dX6_kindHere_21 (by decide) (fun c_21 => ?_) (fun c_21 => ?_)
    · refine Cp.aload_n (i := 0) X dX6_kindHere_28 rfl rfl ?_
      refine Cp.ldcSw 2 X (tx := "giggler") (by decide) dX6_kindHere_29 ?_
      refine Cp.cVB [] X [.ref (wK w 2)] cvX6_isWord (kX6_isWord X.ok 2 (by decide) σ) sr_0 rfl rfl wmX6_249 rfl rfl dX6_kindHere_32 rfl (Nat.le_of_ble_eq_true rfl) (fun v_32 => ?_)
      refine Cp.if_eqB X 42 dX6_kindHere_35 (by decide) (fun c_35 => ?_) (fun c_35 => ?_)
      · refine Cp.iconst (v := (-1)) X dX6_kindHere_42 rfl ?_
        exact pX6_kindHere_43 X (-1) σ
      · refine Cp.iconst (v := 2) X dX6_kindHere_38 rfl ?_
        refine Cp.goto X 43 dX6_kindHere_39 (by decide) ?_
        exact pX6_kindHere_43 X 2 σ
    · refine Cp.iconst (v := 1) X dX6_kindHere_24 rfl ?_
      refine Cp.goto X 43 dX6_kindHere_25 (by decide) ?_
      exact pX6_kindHere_43 X 1 σ
  · refine Cp.iconst (v := 0) X dX6_kindHere_10 rfl ?_
    refine Cp.goto X 43 dX6_kindHere_11 (by decide) ?_
    exact pX6_kindHere_43 X 0 σ
theorem kX6_kindHere {l : Launch} {w : WE} (hok : OkW w shR)    (σ : Mem) : ∀ v, fX6_kindHere σ = some v → Ctr l w shR yX6_kindHere cX6_kindHere 3 (some .int) 5 [.ref (wad w 0)] σ ((iI σ) v) := fun v hv => Ctr.of [some (.ref (wad w 0)), none, none] (by decide) hok rfl (Nat.le_of_ble_eq_true rfl) (fun M _ X => pX6_kindHere X    σ v hv)
def fX6_takes (i1 : Nat) (σ : Mem) : Option (Bool × Mem) :=
  ((fX6_isWord i1 σ).bind fun v_2 => (if v_2 = true then ((fX6_next σ).bind fun s_11 => (some (v_2, s_11))) else (some (v_2, σ))))
set_option maxRecDepth 20000 in
theorem pX6_takes {M : MC} {w : WE} (X : Cx M w shR cX6_takes 3 RX6 (some .boolean) 5) (i1 : Nat) (h1 : i1 < 15)  (σ : Mem) : Cp M w shR 3 iBM 0 [some (.ref (wad w 0)), some (.ref (wK w i1)), none] [] σ (fX6_takes i1 σ) := by
  unfold fX6_takes
  refine Cp.aload_n (i := 0) X dX6_takes_0 rfl rfl ?_
  refine Cp.aload_n (i := 1) X dX6_takes_1 rfl rfl ?_
  refine Cp.cVB [] X [.ref (wK w i1)] cvX6_isWord (kX6_isWord X.ok i1 h1 σ) sr_0 rfl rfl wmX6_249 rfl rfl dX6_takes_2 rfl (Nat.le_of_ble_eq_true rfl) (fun v_2 => ?_)
  refine Cp.istore_n (i := 2) X dX6_takes_5 rfl (Nat.le_of_ble_eq_true rfl) rfl ?_
  refine Cp.iload_n (i := 2) X dX6_takes_6 rfl rfl ?_
  refine Cp.if_eqB X 14 dX6_takes_7 (by decide) (fun c_7 => ?_) (fun c_7 => ?_)
  · refine Cp.iload_n (i := 2) X dX6_takes_14 rfl rfl ?_
    exact Cp.bret X dX6_takes_15 rfl
  · refine Cp.aload_n (i := 0) X dX6_takes_10 rfl rfl ?_
    refine Cp.cVV [] X [] cvX6_next (kX6_next X.ok σ) sr_0 rfl rfl wmX6_246 rfl rfl dX6_takes_11 rfl (Nat.le_of_ble_eq_true rfl) (fun s_11 => ?_)
    refine Cp.iload_n (i := 2) X dX6_takes_14 rfl rfl ?_
    exact Cp.bret X dX6_takes_15 rfl
theorem kX6_takes {l : Launch} {w : WE} (hok : OkW w shR) (i1 : Nat) (h1 : i1 < 15)  (σ : Mem) : ∀ v, fX6_takes i1 σ = some v → Ctr l w shR yX6_takes cX6_takes 3 (some .boolean) 5 [.ref (wad w 0), .ref (wK w i1)] σ (iBM v) := fun v hv => Ctr.of [some (.ref (wad w 0)), some (.ref (wK w i1)), none] (by decide) hok rfl (Nat.le_of_ble_eq_true rfl) (fun M _ X => pX6_takes X i1 h1  σ v hv)
def fX6_partTold (x1 : Int32) (i2 : Nat) (x3 : Int32) (x4 : Int32) (σ : Mem) : Option Mem :=
  (bnd2 (fX6_takes i2 σ) fun v_2 s_2 => (if v_2 = true then (bnd2 (fX6_numberRead 0 x4 s_2) fun v_15 s_15 => ((fX6_sets x1 x3 v_15 s_15).bind fun s_18 => (some s_18))) else (some s_2)))
set_option maxRecDepth 20000 in
theorem pX6_partTold {M : MC} {w : WE} (X : Cx M w shR cX6_partTold 5 RX6 none 6) (i2 : Nat) (h2 : i2 < 15) (x1 : Int32) (x3 : Int32) (x4 : Int32) (σ : Mem) : Cp M w shR 5 iVM 0 [some (.ref (wad w 0)), some (.int x1), some (.ref (wK w i2)), some (.int x3), some (.int x4)] [] σ (fX6_partTold x1 i2 x3 x4 σ) := by
  unfold fX6_partTold
  refine Cp.aload_n (i := 0) X dX6_partTold_0 rfl rfl ?_
  refine Cp.aload_n (i := 2) X dX6_partTold_1 rfl rfl ?_
  refine Cp.cVBM [] X [.ref (wK w i2)] cvX6_takes (kX6_takes X.ok i2 h2 σ) sr_0 rfl rfl wmX6_271 rfl rfl dX6_partTold_2 rfl (Nat.le_of_ble_eq_true rfl) (fun v_2 s_2 => ?_)
  refine Cp.if_eqB X 21 dX6_partTold_5 (by decide) (fun c_5 => ?_) (fun c_5 => ?_)
  · exact Cp.vret X dX6_partTold_21 rfl
  · refine Cp.aload_n (i := 0) X dX6_partTold_8 rfl rfl ?_
    refine Cp.iload_n (i := 1) X dX6_partTold_9 rfl rfl ?_
    refine Cp.iload_n (i := 3) X dX6_partTold_10 rfl rfl ?_
    refine Cp.aload_n (i := 0) X dX6_partTold_11 rfl rfl ?_
    refine Cp.iconst (v := 0) X dX6_partTold_12 rfl ?_
    refine Cp.iload X dX6_partTold_13 rfl ?_
    refine Cp.cVIM [.int x3, .int x1, .ref (wad w 0)] X [.int 0, .int x4] cvX6_numberRead (kX6_numberRead X.ok 0 x4 s_2) sr_0 rfl rfl wmX6_274 rfl rfl dX6_partTold_15 rfl (Nat.le_of_ble_eq_true rfl) (fun v_15 s_15 => ?_)
    refine Cp.cVV [] X [.int x1, .int x3, .int v_15] cvX6_sets (kX6_sets X.ok x1 x3 v_15 s_15) sr_0 rfl rfl wmX6_92 rfl rfl dX6_partTold_18 rfl (Nat.le_of_ble_eq_true rfl) (fun s_18 => ?_)
    exact Cp.vret X dX6_partTold_21 rfl
theorem kX6_partTold {l : Launch} {w : WE} (hok : OkW w shR) (i2 : Nat) (h2 : i2 < 15) (x1 : Int32) (x3 : Int32) (x4 : Int32) (σ : Mem) : ∀ v, fX6_partTold x1 i2 x3 x4 σ = some v → Ctr l w shR yX6_partTold cX6_partTold 5 none 6 [.ref (wad w 0), .int x1, .ref (wK w i2), .int x3, .int x4] σ (iVM v) := fun v hv => Ctr.of [some (.ref (wad w 0)), some (.int x1), some (.ref (wK w i2)), some (.int x3), some (.int x4)] (by decide) hok rfl (Nat.le_of_ble_eq_true rfl) (fun M _ X => pX6_partTold X i2 h2 x1 x3 x4 σ v hv)
def fX6_personTold_17 (x1 : Int32) (t0 : Int32) (σ : Mem) : Option Mem :=
  (gd (t0 = 0 ∨ t0 = 1) ((fX6_must (decide (t0 = 1)) σ).bind fun s_17 => (if (s_17 0 13) = 0 then (bnd2 (fX6_adds x1 0 s_17) fun v_31 s_31 => ((fX6_partTold v_31 10 1 15 s_31).bind fun s_43 => ((fX6_partTold v_31 11 2 63 s_43).bind fun s_54 => ((fX6_partTold v_31 12 3 9 s_54).bind fun s_65 => ((fX6_partTold v_31 13 4 9999 s_65).bind fun s_77 => (some s_77)))))) else (some s_17))))
def fX6_personTold (x1 : Int32) (σ : Mem) : Option Mem :=
  (if 8 ≤ (σ 1 5) then (fX6_personTold_17 x1 0 σ) else (fX6_personTold_17 x1 1 σ))
set_option maxRecDepth 20000 in
theorem pX6_personTold_17 {M : MC} {w : WE} (X : Cx M w shR cX6_personTold 3 RX6 none 7)   (x1 : Int32) (t0 : Int32)  (σ : Mem)  : Cp M w shR 3 iVM 17 [some (.ref (wad w 0)), some (.int x1), none] [.int t0, .ref (wad w 0)] σ (fX6_personTold_17 x1 t0 σ) := by
  unfold fX6_personTold_17
  refine Cp.topB ?_
  refine Cp.cVV [] X [.int (b2i (decide (t0 = 1)))] cvX6_must (kX6_must X.ok (decide (t0 = 1)) σ) sr_0 rfl rfl wmX6_253 rfl rfl dX6_personTold_17 rfl (Nat.le_of_ble_eq_true rfl) (fun s_17 => ?_)
  refine Cp.aload_n (i := 0) X dX6_personTold_20 rfl rfl ?_
  refine gfX6_233 X sr_0 rfl dX6_personTold_21 ?_
  refine Cp.if_eq X 28 dX6_personTold_24 (by decide) (fun c_24 => ?_) (fun c_24 => ?_)
  · refine Cp.aload_n (i := 0) X dX6_personTold_28 rfl rfl ?_
    refine Cp.iload_n (i := 1) X dX6_personTold_29 rfl rfl ?_
    refine Cp.iconst (v := 0) X dX6_personTold_30 rfl ?_
    refine Cp.cVIM [] X [.int x1, .int 0] cvX6_adds (kX6_adds X.ok x1 0 s_17) sr_0 rfl rfl wmX6_106 rfl rfl dX6_personTold_31 rfl (Nat.le_of_ble_eq_true rfl) (fun v_31 s_31 => ?_)
    refine Cp.istore_n (i := 2) X dX6_personTold_34 rfl (Nat.le_of_ble_eq_true rfl) rfl ?_
    refine Cp.aload_n (i := 0) X dX6_personTold_35 rfl rfl ?_
    refine Cp.iload_n (i := 2) X dX6_personTold_36 rfl rfl ?_
    refine Cp.ldcSw 10 X (tx := "on") (by decide) dX6_personTold_37 ?_
    refine Cp.iconst (v := 1) X dX6_personTold_40 rfl ?_
    refine Cp.bipush (v := 15) X dX6_personTold_41 rfl ?_
    refine Cp.cVV [] X [.int v_31, .ref (wK w 10), .int 1, .int 15] cvX6_partTold (kX6_partTold X.ok 10 (by decide) v_31 1 15 s_31) sr_0 rfl rfl wmX6_279 rfl rfl dX6_personTold_43 rfl (Nat.le_of_ble_eq_true rfl) (fun s_43 => ?_)
    refine Cp.aload_n (i := 0) X dX6_personTold_46 rfl rfl ?_
    refine Cp.iload_n (i := 2) X dX6_personTold_47 rfl rfl ?_
    refine Cp.ldcSw 11 X (tx := "taste") (by decide) dX6_personTold_48 ?_
    refine Cp.iconst (v := 2) X dX6_personTold_51 rfl ?_
    refine Cp.bipush (v := 63) X dX6_personTold_52 rfl ?_
    refine Cp.cVV [] X [.int v_31, .ref (wK w 11), .int 2, .int 63] cvX6_partTold (kX6_partTold X.ok 11 (by decide) v_31 2 63 s_43) sr_0 rfl rfl wmX6_279 rfl rfl dX6_personTold_54 rfl (Nat.le_of_ble_eq_true rfl) (fun s_54 => ?_)
    refine Cp.aload_n (i := 0) X dX6_personTold_57 rfl rfl ?_
    refine Cp.iload_n (i := 2) X dX6_personTold_58 rfl rfl ?_
    refine Cp.ldcSw 12 X (tx := "mood") (by decide) dX6_personTold_59 ?_
    refine Cp.iconst (v := 3) X dX6_personTold_62 rfl ?_
    refine Cp.bipush (v := 9) X dX6_personTold_63 rfl ?_
    refine Cp.cVV [] X [.int v_31, .ref (wK w 12), .int 3, .int 9] cvX6_partTold (kX6_partTold X.ok 12 (by decide) v_31 3 9 s_54) sr_0 rfl rfl wmX6_279 rfl rfl dX6_personTold_65 rfl (Nat.le_of_ble_eq_true rfl) (fun s_65 => ?_)
    refine Cp.aload_n (i := 0) X dX6_personTold_68 rfl rfl ?_
    refine Cp.iload_n (i := 2) X dX6_personTold_69 rfl rfl ?_
    refine Cp.ldcSw 13 X (tx := "purse") (by decide) dX6_personTold_70 ?_
    refine Cp.iconst (v := 4) X dX6_personTold_73 rfl ?_
    refine Cp.sipush (v := 9999) X dX6_personTold_74 rfl ?_
    refine Cp.cVV [] X [.int v_31, .ref (wK w 13), .int 4, .int 9999] cvX6_partTold (kX6_partTold X.ok 13 (by decide) v_31 4 9999 s_65) sr_0 rfl rfl wmX6_279 rfl rfl dX6_personTold_77 rfl (Nat.le_of_ble_eq_true rfl) (fun s_77 => ?_)
    exact Cp.vret X dX6_personTold_80 rfl
  · exact Cp.vret X dX6_personTold_27 rfl
set_option maxRecDepth 20000 in
theorem pX6_personTold {M : MC} {w : WE} (X : Cx M w shR cX6_personTold 3 RX6 none 7)   (x1 : Int32) (σ : Mem) : Cp M w shR 3 iVM 0 [some (.ref (wad w 0)), some (.int x1), none] [] σ (fX6_personTold x1 σ) := by
  unfold fX6_personTold
  refine Cp.aload_n (i := 0) X dX6_personTold_0 rfl rfl ?_
  refine Cp.aload_n (i := 0) X dX6_personTold_1 rfl rfl ?_
  refine gfX6_9 X 1 sr_0 rfl dX6_personTold_2 ?_
  refine Cp.iconst (v := 5) X dX6_personTold_5 rfl ?_
  refine Cp.ialdc (j := 5) X sr_1 (by decide) (by decide) dX6_personTold_6 ?_
  refine Cp.bipush (v := 8) X dX6_personTold_7 rfl ?_
  refine Cp.icmp_ge X 16 dX6_personTold_9 (by decide) (fun c_9 => ?_) (fun c_9 => ?_)
  · refine Cp.iconst (v := 0) X dX6_personTold_16 rfl ?_
    exact pX6_personTold_17 X x1 0 σ
  · refine Cp.iconst (v := 1) X dX6_personTold_12 rfl ?_
    refine Cp.goto X 17 dX6_personTold_13 (by decide) ?_
    exact pX6_personTold_17 X x1 1 σ
theorem kX6_personTold {l : Launch} {w : WE} (hok : OkW w shR)   (x1 : Int32) (σ : Mem) : ∀ v, fX6_personTold x1 σ = some v → Ctr l w shR yX6_personTold cX6_personTold 3 none 7 [.ref (wad w 0), .int x1] σ (iVM v) := fun v hv => Ctr.of [some (.ref (wad w 0)), some (.int x1), none] (by decide) hok rfl (Nat.le_of_ble_eq_true rfl) (fun M _ X => pX6_personTold X   x1 σ v hv)
def fX6_item  (σ : Mem) : Option Mem :=
  ((fX6_kindHere σ).bind fun v_1 => (if v_1 < 0 then ((fX6_isWord 7 σ).bind fun v_21 => (if v_21 = true then ((fX6_jokeTold σ).bind fun s_28 => (some s_28)) else (bnd2 (fX6_takes 8 σ) fun v_38 s_38 => (if v_38 = true then (bnd2 (fX6_numberRead 0 20 s_38) fun v_53 s_53 => (pb (up2 s_53 1 0 v_53 : Mem) fun s_56 => (some s_56))) else ((fX6_isWord 9 s_38).bind fun v_65 => ((fX6_must v_65 s_38).bind fun s_68 => (bnd2 (fX6_numberRead 0 15 s_68) fun v_80 s_80 => (pb (up2 s_80 1 1 v_80 : Mem) fun s_83 => (some s_83))))))))) else ((fX6_personTold v_1 σ).bind fun s_11 => (some s_11))))
set_option maxRecDepth 20000 in
theorem pX6_item {M : MC} {w : WE} (X : Cx M w shR cX6_item 2 RX6 none 8)    (σ : Mem) : Cp M w shR 2 iVM 0 [some (.ref (wad w 0)), none] [] σ (fX6_item σ) := by
  unfold fX6_item
  refine Cp.aload_n (i := 0) X dX6_item_0 rfl rfl ?_
  refine Cp.cVI [] X [] cvX6_kindHere (kX6_kindHere X.ok σ) sr_0 rfl rfl wmX6_289 rfl rfl dX6_item_1 rfl (Nat.le_of_ble_eq_true rfl) (fun v_1 => ?_)
  refine Cp.istore_n (i := 1) X dX6_item_4 rfl (Nat.le_of_ble_eq_true rfl) rfl ?_
  refine Cp.iload_n (i := 1) X dX6_item_5 rfl rfl ?_
  refine Cp.if_lt X 17 dX6_item_6 (by decide) (fun c_6 => ?_) (fun c_6 => ?_)
  · refine Cp.aload_n (i := 0) X dX6_item_17 rfl rfl ?_
    refine Cp.ldcSw 7 X (tx := "joke") (by decide) dX6_item_18 ?_
    refine Cp.cVB [] X [.ref (wK w 7)] cvX6_isWord (kX6_isWord X.ok 7 (by decide) σ) sr_0 rfl rfl wmX6_249 rfl rfl dX6_item_21 rfl (Nat.le_of_ble_eq_true rfl) (fun v_21 => ?_)
    refine Cp.if_eqB X 34 dX6_item_24 (by decide) (fun c_24 => ?_) (fun c_24 => ?_)
    · refine Cp.aload_n (i := 0) X dX6_item_34 rfl rfl ?_
      refine Cp.ldcSw 8 X (tx := "rate") (by decide) dX6_item_35 ?_
      refine Cp.cVBM [] X [.ref (wK w 8)] cvX6_takes (kX6_takes X.ok 8 (by decide) σ) sr_0 rfl rfl wmX6_271 rfl rfl dX6_item_38 rfl (Nat.le_of_ble_eq_true rfl) (fun v_38 s_38 => ?_)
      refine Cp.if_eqB X 60 dX6_item_41 (by decide) (fun c_41 => ?_) (fun c_41 => ?_)
      · refine Cp.aload_n (i := 0) X dX6_item_60 rfl rfl ?_
        refine Cp.aload_n (i := 0) X dX6_item_61 rfl rfl ?_
        refine Cp.ldcSw 9 X (tx := "reach") (by decide) dX6_item_62 ?_
        refine Cp.cVB [.ref (wad w 0)] X [.ref (wK w 9)] cvX6_isWord (kX6_isWord X.ok 9 (by decide) s_38) sr_0 rfl rfl wmX6_249 rfl rfl dX6_item_65 rfl (Nat.le_of_ble_eq_true rfl) (fun v_65 => ?_)
        refine Cp.cVV [] X [.int (b2i v_65)] cvX6_must (kX6_must X.ok v_65 s_38) sr_0 rfl rfl wmX6_253 rfl rfl dX6_item_68 rfl (Nat.le_of_ble_eq_true rfl) (fun s_68 => ?_)
        refine Cp.aload_n (i := 0) X dX6_item_71 rfl rfl ?_
        refine gfX6_9 X 1 sr_0 rfl dX6_item_72 ?_
        refine Cp.iconst (v := 1) X dX6_item_75 rfl ?_
        refine Cp.aload_n (i := 0) X dX6_item_76 rfl rfl ?_
        refine Cp.iconst (v := 0) X dX6_item_77 rfl ?_
        refine Cp.bipush (v := 15) X dX6_item_78 rfl ?_
        refine Cp.cVIM [.int 1, .ref (wad w 1)] X [.int 0, .int 15] cvX6_numberRead (kX6_numberRead X.ok 0 15 s_68) sr_0 rfl rfl wmX6_274 rfl rfl dX6_item_80 rfl (Nat.le_of_ble_eq_true rfl) (fun v_80 s_80 => ?_)
        refine Cp.iastc (j := 1) X sr_1 (by decide) (by decide) dX6_item_83 ?_
        refine Cp.nameM (fun s_83 => ?_)
        exact Cp.vret X dX6_item_84 rfl
      · refine Cp.aload_n (i := 0) X dX6_item_44 rfl rfl ?_
        refine gfX6_9 X 1 sr_0 rfl dX6_item_45 ?_
        refine Cp.iconst (v := 0) X dX6_item_48 rfl ?_
        refine Cp.aload_n (i := 0) X dX6_item_49 rfl rfl ?_
        refine Cp.iconst (v := 0) X dX6_item_50 rfl ?_
        refine Cp.bipush (v := 20) X dX6_item_51 rfl ?_
        refine Cp.cVIM [.int 0, .ref (wad w 1)] X [.int 0, .int 20] cvX6_numberRead (kX6_numberRead X.ok 0 20 s_38) sr_0 rfl rfl wmX6_274 rfl rfl dX6_item_53 rfl (Nat.le_of_ble_eq_true rfl) (fun v_53 s_53 => ?_)
        refine Cp.iastc (j := 0) X sr_1 (by decide) (by decide) dX6_item_56 ?_
        refine Cp.nameM (fun s_56 => ?_)
        refine Cp.goto X 84 dX6_item_57 (by decide) ?_
        exact Cp.vret X dX6_item_84 rfl
    · refine Cp.aload_n (i := 0) X dX6_item_27 rfl rfl ?_
      refine Cp.cVV [] X [] cvX6_jokeTold (kX6_jokeTold X.ok σ) sr_0 rfl rfl wmX6_298 rfl rfl dX6_item_28 rfl (Nat.le_of_ble_eq_true rfl) (fun s_28 => ?_)
      refine Cp.goto X 84 dX6_item_31 (by decide) ?_
      exact Cp.vret X dX6_item_84 rfl
  · refine Cp.aload_n (i := 0) X dX6_item_9 rfl rfl ?_
    refine Cp.iload_n (i := 1) X dX6_item_10 rfl rfl ?_
    refine Cp.cVV [] X [.int v_1] cvX6_personTold (kX6_personTold X.ok v_1 σ) sr_0 rfl rfl wmX6_292 rfl rfl dX6_item_11 rfl (Nat.le_of_ble_eq_true rfl) (fun s_11 => ?_)
    refine Cp.goto X 84 dX6_item_14 (by decide) ?_
    exact Cp.vret X dX6_item_84 rfl
theorem kX6_item {l : Launch} {w : WE} (hok : OkW w shR)    (σ : Mem) : ∀ v, fX6_item σ = some v → Ctr l w shR yX6_item cX6_item 2 none 8 [.ref (wad w 0)] σ (iVM v) := fun v hv => Ctr.of [some (.ref (wad w 0)), none] (by decide) hok rfl (Nat.le_of_ble_eq_true rfl) (fun M _ X => pX6_item X    σ v hv)
def fX6_text_63 (x1 : Int32) (σ : Mem) : Option (Int32 × Mem) :=
  (pb (up2 σ 0 10 0 : Mem) fun s_65 => (if (s_65 0 13) = 0 then (some (x1, s_65)) else ((fX6_laysBack s_65).bind fun s_76 => (some ((-1) - (s_76 0 11), s_76)))))
def fX6_text_24 (k24 : Int32 → Mem → Option (Int32 × Mem)) (x1 : Int32) (σ : Mem) : Option (Int32 × Mem) :=
  (if (σ 0 13) = 0 then (if (σ 0 10) ≤ (σ 0 11) then (fX6_text_63 x1 σ) else ((fX6_isWord 14 σ).bind fun v_47 => ((fX6_must v_47 σ).bind fun s_50 => ((fX6_item s_50).bind fun s_54 => (k24 (x1 + 1) s_54))))) else (fX6_text_63 x1 σ))
def fX6_text  (σ : Mem) : Option (Int32 × Mem) :=
  ((fX6_lends σ).bind fun s_1 => (pb (up2 s_1 0 13 0 : Mem) fun s_6 => (pb (up2 s_6 0 12 0 : Mem) fun s_11 => ((fX6_next s_11).bind fun s_15 => ((fX6_item s_15).bind fun s_19 => (lw2 (fX6_text_24) FU 1 s_19))))))
set_option maxRecDepth 20000 in
theorem pX6_text_63 {M : MC} {w : WE} (X : Cx M w shR cX6_text 2 RX6 (some .int) 9)   (x1 : Int32)  (σ : Mem)  : Cp M w shR 2 iIM 63 [some (.ref (wad w 0)), some (.int x1)] [] σ (fX6_text_63 x1 σ) := by
  unfold fX6_text_63
  refine Cp.aload_n (i := 0) X dX6_text_63 rfl rfl ?_
  refine Cp.iconst (v := 0) X dX6_text_64 rfl ?_
  refine pfX6_221 X sr_0 rfl dX6_text_65 ?_
  refine Cp.nameM (fun s_65 => ?_)
  refine Cp.aload_n (i := 0) X dX6_text_68 rfl rfl ?_
  refine gfX6_233 X sr_0 rfl dX6_text_69 ?_
  refine Cp.if_eq X 86 dX6_text_72 (by decide) (fun c_72 => ?_) (fun c_72 => ?_)
  · refine Cp.iload_n (i := 1) X dX6_text_86 rfl rfl ?_
    exact Cp.iret X dX6_text_87 rfl
  · refine Cp.aload_n (i := 0) X dX6_text_75 rfl rfl ?_
    refine Cp.cVV [] X [] cvX6_laysBack (kX6_laysBack X.ok s_65) sr_0 rfl rfl wmX6_183 rfl rfl dX6_text_76 rfl (Nat.le_of_ble_eq_true rfl) (fun s_76 => ?_)
    refine Cp.iconst (v := (-1)) X dX6_text_79 rfl ?_
    refine Cp.aload_n (i := 0) X dX6_text_80 rfl rfl ?_
    refine gfX6_227 X sr_0 rfl dX6_text_81 ?_
    refine Cp.isub X dX6_text_84 ?_
    exact Cp.iret X dX6_text_85 rfl
set_option maxRecDepth 20000 in
theorem pX6_text_24 {M : MC} {w : WE} (X : Cx M w shR cX6_text 2 RX6 (some .int) 9)       : ∀ (n : Nat) (x1 : Int32) (σ : Mem), Cp M w shR 2 iIM 24 [some (.ref (wad w 0)), some (.int x1)] [] σ (lw2 (fX6_text_24) n x1 σ) :=
  lw2_i (P := fun x1 σ b => Cp M w shR 2 iIM 24 [some (.ref (wad w 0)), some (.int x1)] [] σ b) (fun _ _ => Cp.non) (fun k24 hk24 x1 σ => by
  unfold fX6_text_24
  refine Cp.aload_n (i := 0) X dX6_text_24 rfl rfl ?_
  refine gfX6_233 X sr_0 rfl dX6_text_25 ?_
  refine Cp.if_ne X 63 dX6_text_28 (by decide) (fun c_28 => ?_) (fun c_28 => ?_)
  · exact pX6_text_63 X x1 σ
  · refine Cp.aload_n (i := 0) X dX6_text_31 rfl rfl ?_
    refine gfX6_227 X sr_0 rfl dX6_text_32 ?_
    refine Cp.aload_n (i := 0) X dX6_text_35 rfl rfl ?_
    refine gfX6_221 X sr_0 rfl dX6_text_36 ?_
    refine Cp.icmp_ge X 63 dX6_text_39 (by decide) (fun c_39 => ?_) (fun c_39 => ?_)
    · exact pX6_text_63 X x1 σ
    · refine Cp.aload_n (i := 0) X dX6_text_42 rfl rfl ?_
      refine Cp.aload_n (i := 0) X dX6_text_43 rfl rfl ?_
      refine Cp.ldcSw 14 X (tx := ";") (by decide) dX6_text_44 ?_
      refine Cp.cVB [.ref (wad w 0)] X [.ref (wK w 14)] cvX6_isWord (kX6_isWord X.ok 14 (by decide) σ) sr_0 rfl rfl wmX6_249 rfl rfl dX6_text_47 rfl (Nat.le_of_ble_eq_true rfl) (fun v_47 => ?_)
      refine Cp.cVV [] X [.int (b2i v_47)] cvX6_must (kX6_must X.ok v_47 σ) sr_0 rfl rfl wmX6_253 rfl rfl dX6_text_50 rfl (Nat.le_of_ble_eq_true rfl) (fun s_50 => ?_)
      refine Cp.aload_n (i := 0) X dX6_text_53 rfl rfl ?_
      refine Cp.cVV [] X [] cvX6_item (kX6_item X.ok s_50) sr_0 rfl rfl wmX6_305 rfl rfl dX6_text_54 rfl (Nat.le_of_ble_eq_true rfl) (fun s_54 => ?_)
      refine Cp.iinc (v := x1 + 1) X dX6_text_57 rfl rfl (Nat.le_of_ble_eq_true rfl) rfl ?_
      refine Cp.goto X 24 dX6_text_60 (by decide) ?_
      exact hk24 (x1 + 1) s_54)
set_option maxRecDepth 20000 in
theorem pX6_text {M : MC} {w : WE} (X : Cx M w shR cX6_text 2 RX6 (some .int) 9)    (σ : Mem) : Cp M w shR 2 iIM 0 [some (.ref (wad w 0)), none] [] σ (fX6_text σ) := by
  unfold fX6_text
  refine Cp.aload_n (i := 0) X dX6_text_0 rfl rfl ?_
  refine Cp.cVV [] X [] cvX6_lends (kX6_lends X.ok σ) sr_0 rfl rfl wmX6_180 rfl rfl dX6_text_1 rfl (Nat.le_of_ble_eq_true rfl) (fun s_1 => ?_)
  refine Cp.aload_n (i := 0) X dX6_text_4 rfl rfl ?_
  refine Cp.iconst (v := 0) X dX6_text_5 rfl ?_
  refine pfcX6_233 X sr_0 rfl (by decide) dX6_text_6 ?_
  refine Cp.nameM (fun s_6 => ?_)
  refine Cp.aload_n (i := 0) X dX6_text_9 rfl rfl ?_
  refine Cp.iconst (v := 0) X dX6_text_10 rfl ?_
  refine pfX6_224 X sr_0 rfl dX6_text_11 ?_
  refine Cp.nameM (fun s_11 => ?_)
  refine Cp.aload_n (i := 0) X dX6_text_14 rfl rfl ?_
  refine Cp.cVV [] X [] cvX6_next (kX6_next X.ok s_11) sr_0 rfl rfl wmX6_246 rfl rfl dX6_text_15 rfl (Nat.le_of_ble_eq_true rfl) (fun s_15 => ?_)
  refine Cp.aload_n (i := 0) X dX6_text_18 rfl rfl ?_
  refine Cp.cVV [] X [] cvX6_item (kX6_item X.ok s_15) sr_0 rfl rfl wmX6_305 rfl rfl dX6_text_19 rfl (Nat.le_of_ble_eq_true rfl) (fun s_19 => ?_)
  refine Cp.iconst (v := 1) X dX6_text_22 rfl ?_
  refine Cp.istore_n (i := 1) X dX6_text_23 rfl (Nat.le_of_ble_eq_true rfl) rfl ?_
  exact pX6_text_24 X FU 1 s_19
theorem kX6_text {l : Launch} {w : WE} (hok : OkW w shR)    (σ : Mem) : ∀ v, fX6_text σ = some v → Ctr l w shR yX6_text cX6_text 2 (some .int) 9 [.ref (wad w 0)] σ (iIM v) := fun v hv => Ctr.of [some (.ref (wad w 0)), none] (by decide) hok rfl (Nat.le_of_ble_eq_true rfl) (fun M _ X => pX6_text X    σ v hv)
