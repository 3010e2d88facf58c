def fX5_isKind (x0 : Int32) : Bool :=
  fX5_within x0 0 6
set_option maxRecDepth 20000 in
theorem pX5_isKind {M : MC} {w : WE} (X : Cx M w shC cX5_isKind 1 RX5 (some .boolean) 1)   (x0 : Int32) (σ : Mem) : Cp M w shC 1 (iB σ) 0 [some (.int x0)] [] σ (some (fX5_isKind x0)) := by
  unfold fX5_isKind
  refine Cp.iload_n (i := 0) X dX5_isKind_0 rfl rfl ?_
  refine Cp.iconst (v := 0) X dX5_isKind_1 rfl ?_
  refine Cp.bipush (v := 6) X dX5_isKind_2 rfl ?_
  refine Cp.cSBT [] X [.int x0, .int 0, .int 6] csX5_within (kX5_within X.ok x0 0 6 σ) wmX5_132 rfl rfl dX5_isKind_4 rfl (Nat.le_of_ble_eq_true rfl) ?_
  exact Cp.bret X dX5_isKind_7 rfl
theorem kX5_isKind {l : Launch} {w : WE} (hok : OkW w shC)   (x0 : Int32) (σ : Mem) : Ctr l w shC yX5_isKind cX5_isKind 1 (some .boolean) 1 [.int x0] σ ((iB σ) (fX5_isKind x0)) := Ctr.of [some (.int x0)] (by decide) hok rfl (Nat.le_of_ble_eq_true rfl) (fun M _ X => pX5_isKind X   x0 σ _ rfl)
def fX5_isSeat (x0 : Int32) : Bool :=
  fX5_within x0 0 15
set_option maxRecDepth 20000 in
theorem pX5_isSeat {M : MC} {w : WE} (X : Cx M w shC cX5_isSeat 1 RX5 (some .boolean) 1)   (x0 : Int32) (σ : Mem) : Cp M w shC 1 (iB σ) 0 [some (.int x0)] [] σ (some (fX5_isSeat x0)) := by
  unfold fX5_isSeat
  refine Cp.iload_n (i := 0) X dX5_isSeat_0 rfl rfl ?_
  refine Cp.iconst (v := 0) X dX5_isSeat_1 rfl ?_
  refine Cp.bipush (v := 15) X dX5_isSeat_2 rfl ?_
  refine Cp.cSBT [] X [.int x0, .int 0, .int 15] csX5_within (kX5_within X.ok x0 0 15 σ) wmX5_132 rfl rfl dX5_isSeat_4 rfl (Nat.le_of_ble_eq_true rfl) ?_
  exact Cp.bret X dX5_isSeat_7 rfl
theorem kX5_isSeat {l : Launch} {w : WE} (hok : OkW w shC)   (x0 : Int32) (σ : Mem) : Ctr l w shC yX5_isSeat cX5_isSeat 1 (some .boolean) 1 [.int x0] σ ((iB σ) (fX5_isSeat x0)) := Ctr.of [some (.int x0)] (by decide) hok rfl (Nat.le_of_ble_eq_true rfl) (fun M _ X => pX5_isSeat X   x0 σ _ rfl)
def fX5_found (x1 : Int32) (σ : Mem) : Option (Int32 × Mem) :=
  (pb ((-1000001) - x1 : Int32) fun x2_4 => (if fX5_within x2_4 0 6 = true then (gd (inB x2_4 7 = true) (gd (inB x2_4 7 = true) (pb (up2 σ 45 x2_4.toNatClampNeg ((σ 45 x2_4.toNatClampNeg) + 1) : Mem) fun s_24 => (some (x1, s_24))))) else (some (x1, σ))))
set_option maxRecDepth 20000 in
theorem pX5_found {M : MC} {w : WE} (X : Cx M w shC cX5_found 3 RX5 (some .int) 1)   (x1 : Int32) (σ : Mem) : Cp M w shC 3 iIM 0 [some (.ref (wad w 0)), some (.int x1), none] [] σ (fX5_found x1 σ) := by
  unfold fX5_found
  refine Cp.ldc (v := (-1000001)) X wcX5_58 dX5_found_0 ?_
  refine Cp.iload_n (i := 1) X dX5_found_2 rfl rfl ?_
  refine Cp.isub X dX5_found_3 ?_
  refine Cp.nameI (fun x2_4 => ?_)
  refine Cp.istore_n (i := 2) X dX5_found_4 rfl (Nat.le_of_ble_eq_true rfl) rfl ?_
  refine Cp.iload_n (i := 2) X dX5_found_5 rfl rfl ?_
  refine Cp.iconst (v := 0) X dX5_found_6 rfl ?_
  refine Cp.bipush (v := 6) X dX5_found_7 rfl ?_
  refine Cp.cSBT [] X [.int x2_4, .int 0, .int 6] csX5_within (kX5_within X.ok x2_4 0 6 σ) wmX5_132 rfl rfl dX5_found_9 rfl (Nat.le_of_ble_eq_true rfl) ?_
  refine Cp.if_eqB X 25 dX5_found_12 (by decide) (fun c_12 => ?_) (fun c_12 => ?_)
  · refine Cp.iload_n (i := 1) X dX5_found_25 rfl rfl ?_
    exact Cp.iret X dX5_found_26 rfl
  · refine Cp.aload_n (i := 0) X dX5_found_15 rfl rfl ?_
    refine gfX5_47 X 45 sc_0 rfl dX5_found_16 ?_
    refine Cp.iload_n (i := 2) X dX5_found_19 rfl rfl ?_
    refine Cp.dup2 X dX5_found_20 rfl rfl ?_
    refine Cp.iald X sc_45 dX5_found_21 ?_
    refine Cp.iconst (v := 1) X dX5_found_22 rfl ?_
    refine Cp.iadd X dX5_found_23 ?_
    refine Cp.iast X sc_45 dX5_found_24 ?_
    refine Cp.nameM (fun s_24 => ?_)
    refine Cp.iload_n (i := 1) X dX5_found_25 rfl rfl ?_
    exact Cp.iret X dX5_found_26 rfl
theorem kX5_found {l : Launch} {w : WE} (hok : OkW w shC)   (x1 : Int32) (σ : Mem) : ∀ v, fX5_found x1 σ = some v → Ctr l w shC yX5_found cX5_found 3 (some .int) 1 [.ref (wad w 0), .int x1] σ (iIM v) := fun v hv => Ctr.of [some (.ref (wad w 0)), some (.int x1), none] (by decide) hok rfl (Nat.le_of_ble_eq_true rfl) (fun M _ X => pX5_found X   x1 σ v hv)
def fX5_person (x1 : Int32) (x2 : Int32) (σ : Mem) : Option (Int32 × Mem) :=
  (if fX5_isKind x1 = true then (if fX5_isSeat x2 = true then (if (σ 1 0) < 8 then (bnd2 (fX1_addPerson 1 x1 x2 σ) fun v_46 s_46 => (some (v_46, s_46))) else (bnd2 (fX5_found (-1000002) σ) fun v_36 s_36 => (some (v_36, s_36)))) else (bnd2 (fX5_found (-1000001) σ) fun v_17 s_17 => (some (v_17, s_17)))) else (bnd2 (fX5_found (-1000001) σ) fun v_17 s_17 => (some (v_17, s_17))))
set_option maxRecDepth 20000 in
theorem pX5_person {M : MC} {w : WE} (X : Cx M w shC cX5_person 3 RX5 (some .int) 3)   (x1 : Int32) (x2 : Int32) (σ : Mem) : Cp M w shC 3 iIM 0 [some (.ref (wad w 0)), some (.int x1), some (.int x2)] [] σ (fX5_person x1 x2 σ) := by
  unfold fX5_person
  refine Cp.iload_n (i := 1) X dX5_person_0 rfl rfl ?_
  refine Cp.cSBT [] X [.int x1] csX5_isKind (kX5_isKind X.ok x1 σ) wmX5_51 rfl rfl dX5_person_1 rfl (Nat.le_of_ble_eq_true rfl) ?_
  refine Cp.if_eqB X 14 dX5_person_4 (by decide) (fun c_4 => ?_) (fun c_4 => ?_)
  · refine Cp.aload_n (i := 0) X dX5_person_14 rfl rfl ?_
    refine Cp.ldc (v := (-1000001)) X wcX5_58 dX5_person_15 ?_
    refine Cp.cVIM [] X [.int (-1000001)] cvX5_found (kX5_found X.ok (-1000001) σ) sc_0 rfl rfl wmX5_59 rfl rfl dX5_person_17 rfl (Nat.le_of_ble_eq_true rfl) (fun v_17 s_17 => ?_)
    exact Cp.iret X dX5_person_20 rfl
  · refine Cp.iload_n (i := 2) X dX5_person_7 rfl rfl ?_
    refine Cp.cSBT [] X [.int x2] csX5_isSeat (kX5_isSeat X.ok x2 σ) wmX5_55 rfl rfl dX5_person_8 rfl (Nat.le_of_ble_eq_true rfl) ?_
    refine Cp.if_neB X 21 dX5_person_11 (by decide) (fun c_11 => ?_) (fun c_11 => ?_)
    · refine Cp.aload_n (i := 0) X dX5_person_21 rfl rfl ?_
      refine gfX5_10 X 1 sc_0 rfl dX5_person_22 ?_
      refine gfX5_63 X sc_1 rfl dX5_person_25 ?_
      refine Cp.bipush (v := 8) X dX5_person_28 rfl ?_
      refine Cp.icmp_lt X 40 dX5_person_30 (by decide) (fun c_30 => ?_) (fun c_30 => ?_)
      · refine Cp.aload_n (i := 0) X dX5_person_40 rfl rfl ?_
        refine gfX5_10 X 1 sc_0 rfl dX5_person_41 ?_
        refine Cp.iload_n (i := 1) X dX5_person_44 rfl rfl ?_
        refine Cp.iload_n (i := 2) X dX5_person_45 rfl rfl ?_
        refine Cp.cVIM [] X [.int x1, .int x2] cvX1_addPerson (kX1_addPerson X.ok 1 isRm_1 x1 x2 σ) sc_1 rfl rfl wmX5_68 rfl rfl dX5_person_46 rfl (Nat.le_of_ble_eq_true rfl) (fun v_46 s_46 => ?_)
        exact Cp.iret X dX5_person_49 rfl
      · refine Cp.aload_n (i := 0) X dX5_person_33 rfl rfl ?_
        refine Cp.ldc (v := (-1000002)) X wcX5_67 dX5_person_34 ?_
        refine Cp.cVIM [] X [.int (-1000002)] cvX5_found (kX5_found X.ok (-1000002) σ) sc_0 rfl rfl wmX5_59 rfl rfl dX5_person_36 rfl (Nat.le_of_ble_eq_true rfl) (fun v_36 s_36 => ?_)
        exact Cp.iret X dX5_person_39 rfl
    · refine Cp.aload_n (i := 0) X dX5_person_14 rfl rfl ?_
      refine Cp.ldc (v := (-1000001)) X wcX5_58 dX5_person_15 ?_
      refine Cp.cVIM [] X [.int (-1000001)] cvX5_found (kX5_found X.ok (-1000001) σ) sc_0 rfl rfl wmX5_59 rfl rfl dX5_person_17 rfl (Nat.le_of_ble_eq_true rfl) (fun v_17 s_17 => ?_)
      exact Cp.iret X dX5_person_20 rfl
theorem kX5_person {l : Launch} {w : WE} (hok : OkW w shC)   (x1 : Int32) (x2 : Int32) (σ : Mem) : ∀ v, fX5_person x1 x2 σ = some v → Ctr l w shC yX5_person cX5_person 3 (some .int) 3 [.ref (wad w 0), .int x1, .int x2] σ (iIM v) := fun v hv => Ctr.of [some (.ref (wad w 0)), some (.int x1), some (.int x2)] (by decide) hok rfl (Nat.le_of_ble_eq_true rfl) (fun M _ X => pX5_person X   x1 x2 σ v hv)
def fX5_hasPerson (x1 : Int32) (σ : Mem) : Bool :=
  fX5_within x1 0 ((σ 1 0) - 1)
set_option maxRecDepth 20000 in
theorem pX5_hasPerson {M : MC} {w : WE} (X : Cx M w shC cX5_hasPerson 2 RX5 (some .boolean) 1)   (x1 : Int32) (σ : Mem) : Cp M w shC 2 (iB σ) 0 [some (.ref (wad w 0)), some (.int x1)] [] σ (some (fX5_hasPerson x1 σ)) := by
  unfold fX5_hasPerson
  refine Cp.iload_n (i := 1) X dX5_hasPerson_0 rfl rfl ?_
  refine Cp.iconst (v := 0) X dX5_hasPerson_1 rfl ?_
  refine Cp.aload_n (i := 0) X dX5_hasPerson_2 rfl rfl ?_
  refine gfX5_10 X 1 sc_0 rfl dX5_hasPerson_3 ?_
  refine gfX5_63 X sc_1 rfl dX5_hasPerson_6 ?_
  refine Cp.iconst (v := 1) X dX5_hasPerson_9 rfl ?_
  refine Cp.isub X dX5_hasPerson_10 ?_
  refine Cp.cSBT [] X [.int x1, .int 0, .int ((σ 1 0) - 1)] csX5_within (kX5_within X.ok x1 0 ((σ 1 0) - 1) σ) wmX5_132 rfl rfl dX5_hasPerson_11 rfl (Nat.le_of_ble_eq_true rfl) ?_
  exact Cp.bret X dX5_hasPerson_14 rfl
theorem kX5_hasPerson {l : Launch} {w : WE} (hok : OkW w shC)   (x1 : Int32) (σ : Mem) : Ctr l w shC yX5_hasPerson cX5_hasPerson 2 (some .boolean) 1 [.ref (wad w 0), .int x1] σ ((iB σ) (fX5_hasPerson x1 σ)) := Ctr.of [some (.ref (wad w 0)), some (.int x1)] (by decide) hok rfl (Nat.le_of_ble_eq_true rfl) (fun M _ X => pX5_hasPerson X   x1 σ _ rfl)
def fX5_of (x1 : Int32) (x2 : Int32) (σ : Mem) : Option (Int32 × Mem) :=
  (if fX5_hasPerson x1 σ = true then (if x2 = 0 then (gd (inB x1 8 = true) (some (σ 2 x1.toNatClampNeg, σ))) else (if x2 = 1 then (gd (inB x1 8 = true) (some (σ 3 x1.toNatClampNeg, σ))) else (if x2 = 2 then (gd (inB x1 8 = true) (some (σ 4 x1.toNatClampNeg, σ))) else (if x2 = 3 then (gd (inB x1 8 = true) (some (σ 5 x1.toNatClampNeg, σ))) else (if x2 = 4 then (gd (inB x1 8 = true) (some (σ 6 x1.toNatClampNeg, σ))) else (if x2 = 5 then (gd (inB x1 8 = true) (gd (inB x1 8 = true) (some (fX0_bound (σ 2 x1.toNatClampNeg) (σ 6 x1.toNatClampNeg), σ)))) else (if x2 = 6 then (gd (inB x1 8 = true) (gd (inB x1 8 = true) (some (fX0_number (σ 2 x1.toNatClampNeg) (σ 5 x1.toNatClampNeg), σ)))) else (if x2 = 7 then (gd (inB x1 8 = true) (some (fJ6_bitCount_0f7a4 (σ 7 x1.toNatClampNeg), σ))) else (bnd2 (fX5_found (-1000001) σ) fun v_174 s_174 => (some (v_174, s_174))))))))))) else (bnd2 (fX5_found (-1000001) σ) fun v_11 s_11 => (some (v_11, s_11))))
set_option maxRecDepth 20000 in
theorem pX5_of {M : MC} {w : WE} (X : Cx M w shC cX5_of 3 RX5 (some .int) 2)   (x1 : Int32) (x2 : Int32) (σ : Mem) : Cp M w shC 3 iIM 0 [some (.ref (wad w 0)), some (.int x1), some (.int x2)] [] σ (fX5_of x1 x2 σ) := by
  unfold fX5_of
  refine Cp.aload_n (i := 0) X dX5_of_0 rfl rfl ?_
  refine Cp.iload_n (i := 1) X dX5_of_1 rfl rfl ?_
  refine Cp.cVBT [] X [.int x1] cvX5_hasPerson (kX5_hasPerson X.ok x1 σ) sc_0 rfl rfl wmX5_72 rfl rfl dX5_of_2 rfl (Nat.le_of_ble_eq_true rfl) ?_
  refine Cp.if_neB X 15 dX5_of_5 (by decide) (fun c_5 => ?_) (fun c_5 => ?_)
  · refine Cp.iload_n (i := 2) X dX5_of_15 rfl rfl ?_
    refine Cp.ite (fun c_16 => ?_) (fun n_16_0 => ?_)
    · refine Cp.tswI X 0 64 c_16 dX5_of_16 (by decide) (by decide) rfl (by decide) ?_
      refine Cp.aload_n (i := 0) X dX5_of_64 rfl rfl ?_
      refine gfX5_10 X 1 sc_0 rfl dX5_of_65 ?_
      refine gfX5_75 X 2 sc_1 rfl dX5_of_68 ?_
      refine Cp.iload_n (i := 1) X dX5_of_71 rfl rfl ?_
      refine Cp.iald X sc_2 dX5_of_72 ?_
      exact Cp.iret X dX5_of_73 rfl
    refine Cp.ite (fun c_16 => ?_) (fun n_16_1 => ?_)
    · refine Cp.tswI X 1 74 c_16 dX5_of_16 (by decide) (by decide) rfl (by decide) ?_
      refine Cp.aload_n (i := 0) X dX5_of_74 rfl rfl ?_
      refine gfX5_10 X 1 sc_0 rfl dX5_of_75 ?_
      refine gfX5_78 X 3 sc_1 rfl dX5_of_78 ?_
      refine Cp.iload_n (i := 1) X dX5_of_81 rfl rfl ?_
      refine Cp.iald X sc_3 dX5_of_82 ?_
      exact Cp.iret X dX5_of_83 rfl
    refine Cp.ite (fun c_16 => ?_) (fun n_16_2 => ?_)
    · refine Cp.tswI X 2 84 c_16 dX5_of_16 (by decide) (by decide) rfl (by decide) ?_
      refine Cp.aload_n (i := 0) X dX5_of_84 rfl rfl ?_
      refine gfX5_10 X 1 sc_0 rfl dX5_of_85 ?_
      refine gfX5_81 X 4 sc_1 rfl dX5_of_88 ?_
      refine Cp.iload_n (i := 1) X dX5_of_91 rfl rfl ?_
      refine Cp.iald X sc_4 dX5_of_92 ?_
      exact Cp.iret X dX5_of_93 rfl
    refine Cp.ite (fun c_16 => ?_) (fun n_16_3 => ?_)
    · refine Cp.tswI X 3 94 c_16 dX5_of_16 (by decide) (by decide) rfl (by decide) ?_
      refine Cp.aload_n (i := 0) X dX5_of_94 rfl rfl ?_
      refine gfX5_10 X 1 sc_0 rfl dX5_of_95 ?_
      refine gfX5_84 X 5 sc_1 rfl dX5_of_98 ?_
      refine Cp.iload_n (i := 1) X dX5_of_101 rfl rfl ?_
      refine Cp.iald X sc_5 dX5_of_102 ?_
      exact Cp.iret X dX5_of_103 rfl
    refine Cp.ite (fun c_16 => ?_) (fun n_16_4 => ?_)
    · refine Cp.tswI X 4 104 c_16 dX5_of_16 (by decide) (by decide) rfl (by decide) ?_
      refine Cp.aload_n (i := 0) X dX5_of_104 rfl rfl ?_
      refine gfX5_10 X 1 sc_0 rfl dX5_of_105 ?_
      refine gfX5_87 X 6 sc_1 rfl dX5_of_108 ?_
      refine Cp.iload_n (i := 1) X dX5_of_111 rfl rfl ?_
      refine Cp.iald X sc_6 dX5_of_112 ?_
      exact Cp.iret X dX5_of_113 rfl
    refine Cp.ite (fun c_16 => ?_) (fun n_16_5 => ?_)
    · refine Cp.tswI X 5 114 c_16 dX5_of_16 (by decide) (by decide) rfl (by decide) ?_
      refine Cp.aload_n (i := 0) X dX5_of_114 rfl rfl ?_
      refine gfX5_10 X 1 sc_0 rfl dX5_of_115 ?_
      refine gfX5_75 X 2 sc_1 rfl dX5_of_118 ?_
      refine Cp.iload_n (i := 1) X dX5_of_121 rfl rfl ?_
      refine Cp.iald X sc_2 dX5_of_122 ?_
      refine Cp.aload_n (i := 0) X dX5_of_123 rfl rfl ?_
      refine gfX5_10 X 1 sc_0 rfl dX5_of_124 ?_
      refine gfX5_87 X 6 sc_1 rfl dX5_of_127 ?_
      refine Cp.iload_n (i := 1) X dX5_of_130 rfl rfl ?_
      refine Cp.iald X sc_6 dX5_of_131 ?_
      refine Cp.cSIT [] X [.int (σ 2 x1.toNatClampNeg), .int (σ 6 x1.toNatClampNeg)] csX0_bound (kX0_bound X.ok (σ 2 x1.toNatClampNeg) (σ 6 x1.toNatClampNeg) σ) wmX5_90 rfl rfl dX5_of_132 rfl (Nat.le_of_ble_eq_true rfl) ?_
      exact Cp.iret X dX5_of_135 rfl
    refine Cp.ite (fun c_16 => ?_) (fun n_16_6 => ?_)
    · refine Cp.tswI X 6 136 c_16 dX5_of_16 (by decide) (by decide) rfl (by decide) ?_
      refine Cp.aload_n (i := 0) X dX5_of_136 rfl rfl ?_
      refine gfX5_10 X 1 sc_0 rfl dX5_of_137 ?_
      refine gfX5_75 X 2 sc_1 rfl dX5_of_140 ?_
      refine Cp.iload_n (i := 1) X dX5_of_143 rfl rfl ?_
      refine Cp.iald X sc_2 dX5_of_144 ?_
      refine Cp.aload_n (i := 0) X dX5_of_145 rfl rfl ?_
      refine gfX5_10 X 1 sc_0 rfl dX5_of_146 ?_
      refine gfX5_84 X 5 sc_1 rfl dX5_of_149 ?_
      refine Cp.iload_n (i := 1) X dX5_of_152 rfl rfl ?_
      refine Cp.iald X sc_5 dX5_of_153 ?_
      refine Cp.cSIT [] X [.int (σ 2 x1.toNatClampNeg), .int (σ 5 x1.toNatClampNeg)] csX0_number (kX0_number X.ok (σ 2 x1.toNatClampNeg) (σ 5 x1.toNatClampNeg) σ) wmX5_95 rfl rfl dX5_of_154 rfl (Nat.le_of_ble_eq_true rfl) ?_
      exact Cp.iret X dX5_of_157 rfl
    refine Cp.ite (fun c_16 => ?_) (fun n_16_7 => ?_)
    · refine Cp.tswI X 7 158 c_16 dX5_of_16 (by decide) (by decide) rfl (by decide) ?_
      refine Cp.aload_n (i := 0) X dX5_of_158 rfl rfl ?_
      refine gfX5_10 X 1 sc_0 rfl dX5_of_159 ?_
      refine gfX5_98 X 7 sc_1 rfl dX5_of_162 ?_
      refine Cp.iload_n (i := 1) X dX5_of_165 rfl rfl ?_
      refine Cp.iald X sc_7 dX5_of_166 ?_
      refine Cp.cSIT [] X [.int (σ 7 x1.toNatClampNeg)] csJ6_bitCount_0f7a4 (kJ6_bitCount_0f7a4 X.ok (σ 7 x1.toNatClampNeg) σ) wmX5_101 rfl rfl dX5_of_167 rfl (Nat.le_of_ble_eq_true rfl) ?_
      exact Cp.iret X dX5_of_170 rfl
    have m_16_0 := lv_neT (a := 0) n_16_0 (by decide)
    have m_16_1 := lv_neT (a := 1) n_16_1 (by decide)
    have m_16_2 := lv_neT (a := 2) n_16_2 (by decide)
    have m_16_3 := lv_neT (a := 3) n_16_3 (by decide)
    have m_16_4 := lv_neT (a := 4) n_16_4 (by decide)
    have m_16_5 := lv_neT (a := 5) n_16_5 (by decide)
    have m_16_6 := lv_neT (a := 6) n_16_6 (by decide)
    have m_16_7 := lv_neT (a := 7) n_16_7 (by decide)
    refine Cp.tswD X 171 (by omega) dX5_of_16 (by decide) ?_
    refine Cp.aload_n (i := 0) X dX5_of_171 rfl rfl ?_
    refine Cp.ldc (v := (-1000001)) X wcX5_58 dX5_of_172 ?_
    refine Cp.cVIM [] X [.int (-1000001)] cvX5_found (kX5_found X.ok (-1000001) σ) sc_0 rfl rfl wmX5_59 rfl rfl dX5_of_174 rfl (Nat.le_of_ble_eq_true rfl) (fun v_174 s_174 => ?_)
    exact Cp.iret X dX5_of_177 rfl
  · refine Cp.aload_n (i := 0) X dX5_of_8 rfl rfl ?_
    refine Cp.ldc (v := (-1000001)) X wcX5_58 dX5_of_9 ?_
    refine Cp.cVIM [] X [.int (-1000001)] cvX5_found (kX5_found X.ok (-1000001) σ) sc_0 rfl rfl wmX5_59 rfl rfl dX5_of_11 rfl (Nat.le_of_ble_eq_true rfl) (fun v_11 s_11 => ?_)
    exact Cp.iret X dX5_of_14 rfl
theorem kX5_of {l : Launch} {w : WE} (hok : OkW w shC)   (x1 : Int32) (x2 : Int32) (σ : Mem) : ∀ v, fX5_of x1 x2 σ = some v → Ctr l w shC yX5_of cX5_of 3 (some .int) 2 [.ref (wad w 0), .int x1, .int x2] σ (iIM v) := fun v hv => Ctr.of [some (.ref (wad w 0)), some (.int x1), some (.int x2)] (by decide) hok rfl (Nat.le_of_ble_eq_true rfl) (fun M _ X => pX5_of X   x1 x2 σ v hv)
def fX5_canBecome (x0 : Int32) (x1 : Int32) : Bool :=
  (if x0 = 0 then fX5_isKind x1 else (if x0 = 1 then fX5_isSeat x1 else (if x0 = 2 then fX5_within x1 0 63 else (if x0 = 3 then fX5_within x1 0 9 else (if x0 = 4 then fX5_within x1 0 9999 else false)))))
set_option maxRecDepth 20000 in
theorem pX5_canBecome {M : MC} {w : WE} (X : Cx M w shC cX5_canBecome 2 RX5 (some .boolean) 2)   (x0 : Int32) (x1 : Int32) (σ : Mem) : Cp M w shC 2 (iB σ) 0 [some (.int x0), some (.int x1)] [] σ (some (fX5_canBecome x0 x1)) := by
  unfold fX5_canBecome
  refine Cp.iload_n (i := 0) X dX5_canBecome_0 rfl rfl ?_
  refine Cp.iteT (fun c_1 => ?_) (fun n_1_0 => ?_)
  · refine Cp.tswI X 0 36 c_1 dX5_canBecome_1 (by decide) (by decide) rfl (by decide) ?_
    refine Cp.iload_n (i := 1) X dX5_canBecome_36 rfl rfl ?_
    refine Cp.cSBT [] X [.int x1] csX5_isKind (kX5_isKind X.ok x1 σ) wmX5_51 rfl rfl dX5_canBecome_37 rfl (Nat.le_of_ble_eq_true rfl) ?_
    exact Cp.bret X dX5_canBecome_40 rfl
  refine Cp.iteT (fun c_1 => ?_) (fun n_1_1 => ?_)
  · refine Cp.tswI X 1 41 c_1 dX5_canBecome_1 (by decide) (by decide) rfl (by decide) ?_
    refine Cp.iload_n (i := 1) X dX5_canBecome_41 rfl rfl ?_
    refine Cp.cSBT [] X [.int x1] csX5_isSeat (kX5_isSeat X.ok x1 σ) wmX5_55 rfl rfl dX5_canBecome_42 rfl (Nat.le_of_ble_eq_true rfl) ?_
    exact Cp.bret X dX5_canBecome_45 rfl
  refine Cp.iteT (fun c_1 => ?_) (fun n_1_2 => ?_)
  · refine Cp.tswI X 2 46 c_1 dX5_canBecome_1 (by decide) (by decide) rfl (by decide) ?_
    refine Cp.iload_n (i := 1) X dX5_canBecome_46 rfl rfl ?_
    refine Cp.iconst (v := 0) X dX5_canBecome_47 rfl ?_
    refine Cp.bipush (v := 63) X dX5_canBecome_48 rfl ?_
    refine Cp.cSBT [] X [.int x1, .int 0, .int 63] csX5_within (kX5_within X.ok x1 0 63 σ) wmX5_132 rfl rfl dX5_canBecome_50 rfl (Nat.le_of_ble_eq_true rfl) ?_
    exact Cp.bret X dX5_canBecome_53 rfl
  refine Cp.iteT (fun c_1 => ?_) (fun n_1_3 => ?_)
  · refine Cp.tswI X 3 54 c_1 dX5_canBecome_1 (by decide) (by decide) rfl (by decide) ?_
    refine Cp.iload_n (i := 1) X dX5_canBecome_54 rfl rfl ?_
    refine Cp.iconst (v := 0) X dX5_canBecome_55 rfl ?_
    refine Cp.bipush (v := 9) X dX5_canBecome_56 rfl ?_
    refine Cp.cSBT [] X [.int x1, .int 0, .int 9] csX5_within (kX5_within X.ok x1 0 9 σ) wmX5_132 rfl rfl dX5_canBecome_58 rfl (Nat.le_of_ble_eq_true rfl) ?_
    exact Cp.bret X dX5_canBecome_61 rfl
  refine Cp.iteT (fun c_1 => ?_) (fun n_1_4 => ?_)
  · refine Cp.tswI X 4 62 c_1 dX5_canBecome_1 (by decide) (by decide) rfl (by decide) ?_
    refine Cp.iload_n (i := 1) X dX5_canBecome_62 rfl rfl ?_
    refine Cp.iconst (v := 0) X dX5_canBecome_63 rfl ?_
    refine Cp.sipush (v := 9999) X dX5_canBecome_64 rfl ?_
    refine Cp.cSBT [] X [.int x1, .int 0, .int 9999] csX5_within (kX5_within X.ok x1 0 9999 σ) wmX5_132 rfl rfl dX5_canBecome_67 rfl (Nat.le_of_ble_eq_true rfl) ?_
    exact Cp.bret X dX5_canBecome_70 rfl
  have m_1_0 := lv_neT (a := 0) n_1_0 (by decide)
  have m_1_1 := lv_neT (a := 1) n_1_1 (by decide)
  have m_1_2 := lv_neT (a := 2) n_1_2 (by decide)
  have m_1_3 := lv_neT (a := 3) n_1_3 (by decide)
  have m_1_4 := lv_neT (a := 4) n_1_4 (by decide)
  refine Cp.tswD X 71 (by omega) dX5_canBecome_1 (by decide) ?_
  refine Cp.iconst (v := 0) X dX5_canBecome_71 rfl ?_
  exact Cp.bret (v := false) X dX5_canBecome_72 rfl
theorem kX5_canBecome {l : Launch} {w : WE} (hok : OkW w shC)   (x0 : Int32) (x1 : Int32) (σ : Mem) : Ctr l w shC yX5_canBecome cX5_canBecome 2 (some .boolean) 2 [.int x0, .int x1] σ ((iB σ) (fX5_canBecome x0 x1)) := Ctr.of [some (.int x0), some (.int x1)] (by decide) hok rfl (Nat.le_of_ble_eq_true rfl) (fun M _ X => pX5_canBecome X   x0 x1 σ _ rfl)
def fX5_replace (k0 : Nat) (x1 : Int32) (x2 : Int32) (σ : Mem) : Option (Int32 × Mem) :=
  (gd (inB x1 8 = true) (pb (σ k0 x1.toNatClampNeg : Int32) fun x3_3 => (gd (inB x1 8 = true) (pb (up2 σ k0 x1.toNatClampNeg x2 : Mem) fun s_7 => (some (x3_3, s_7))))))
set_option maxRecDepth 20000 in
theorem pX5_replace {M : MC} {w : WE} (X : Cx M w shC cX5_replace 4 RX5 (some .int) 0) (k0 : Nat) (h0 : shC[k0]? = some (.inl (0, 8, 0))) (x1 : Int32) (x2 : Int32) (σ : Mem) : Cp M w shC 4 iIM 0 [some (.ref (wad w k0)), some (.int x1), some (.int x2), none] [] σ (fX5_replace k0 x1 x2 σ) := by
  unfold fX5_replace
  refine Cp.aload_n (i := 0) X dX5_replace_0 rfl rfl ?_
  refine Cp.iload_n (i := 1) X dX5_replace_1 rfl rfl ?_
  refine Cp.iald X h0 dX5_replace_2 ?_
  refine Cp.nameI (fun x3_3 => ?_)
  refine Cp.istore_n (i := 3) X dX5_replace_3 rfl (Nat.le_of_ble_eq_true rfl) rfl ?_
  refine Cp.aload_n (i := 0) X dX5_replace_4 rfl rfl ?_
  refine Cp.iload_n (i := 1) X dX5_replace_5 rfl rfl ?_
  refine Cp.iload_n (i := 2) X dX5_replace_6 rfl rfl ?_
  refine Cp.iast X h0 dX5_replace_7 ?_
  refine Cp.nameM (fun s_7 => ?_)
  refine Cp.iload_n (i := 3) X dX5_replace_8 rfl rfl ?_
  exact Cp.iret X dX5_replace_9 rfl
theorem kX5_replace {l : Launch} {w : WE} (hok : OkW w shC) (k0 : Nat) (h0 : shC[k0]? = some (.inl (0, 8, 0))) (x1 : Int32) (x2 : Int32) (σ : Mem) : ∀ v, fX5_replace k0 x1 x2 σ = some v → Ctr l w shC yX5_replace cX5_replace 4 (some .int) 0 [.ref (wad w k0), .int x1, .int x2] σ (iIM v) := fun v hv => Ctr.of [some (.ref (wad w k0)), some (.int x1), some (.int x2), none] (by decide) hok rfl (Nat.le_of_ble_eq_true rfl) (fun M _ X => pX5_replace X k0 h0 x1 x2 σ v hv)
def fX5_moveTo (x1 : Int32) (x2 : Int32) (σ : Mem) : Option (Int32 × Mem) :=
  (gd (inB x1 8 = true) (pb (σ 3 x1.toNatClampNeg : Int32) fun x3_9 => ((fX1_setSeat 1 x1 x2 σ).bind fun s_16 => (some (x3_9, s_16)))))
set_option maxRecDepth 20000 in
theorem pX5_moveTo {M : MC} {w : WE} (X : Cx M w shC cX5_moveTo 4 RX5 (some .int) 3)   (x1 : Int32) (x2 : Int32) (σ : Mem) : Cp M w shC 4 iIM 0 [some (.ref (wad w 0)), some (.int x1), some (.int x2), none] [] σ (fX5_moveTo x1 x2 σ) := by
  unfold fX5_moveTo
  refine Cp.aload_n (i := 0) X dX5_moveTo_0 rfl rfl ?_
  refine gfX5_10 X 1 sc_0 rfl dX5_moveTo_1 ?_
  refine gfX5_78 X 3 sc_1 rfl dX5_moveTo_4 ?_
  refine Cp.iload_n (i := 1) X dX5_moveTo_7 rfl rfl ?_
  refine Cp.iald X sc_3 dX5_moveTo_8 ?_
  refine Cp.nameI (fun x3_9 => ?_)
  refine Cp.istore_n (i := 3) X dX5_moveTo_9 rfl (Nat.le_of_ble_eq_true rfl) rfl ?_
  refine Cp.aload_n (i := 0) X dX5_moveTo_10 rfl rfl ?_
  refine gfX5_10 X 1 sc_0 rfl dX5_moveTo_11 ?_
  refine Cp.iload_n (i := 1) X dX5_moveTo_14 rfl rfl ?_
  refine Cp.iload_n (i := 2) X dX5_moveTo_15 rfl rfl ?_
  refine Cp.cVV [] X [.int x1, .int x2] cvX1_setSeat (kX1_setSeat X.ok 1 isRm_1 x1 x2 σ) sc_1 rfl rfl wmX5_217 rfl rfl dX5_moveTo_16 rfl (Nat.le_of_ble_eq_true rfl) (fun s_16 => ?_)
  refine Cp.iload_n (i := 3) X dX5_moveTo_19 rfl rfl ?_
  exact Cp.iret X dX5_moveTo_20 rfl
theorem kX5_moveTo {l : Launch} {w : WE} (hok : OkW w shC)   (x1 : Int32) (x2 : Int32) (σ : Mem) : ∀ v, fX5_moveTo x1 x2 σ = some v → Ctr l w shC yX5_moveTo cX5_moveTo 4 (some .int) 3 [.ref (wad w 0), .int x1, .int x2] σ (iIM v) := fun v hv => Ctr.of [some (.ref (wad w 0)), some (.int x1), some (.int x2), none] (by decide) hok rfl (Nat.le_of_ble_eq_true rfl) (fun M _ X => pX5_moveTo X   x1 x2 σ v hv)
def fX5_change (x1 : Int32) (x2 : Int32) (x3 : Int32) (σ : Mem) : Option (Int32 × Mem) :=
  (if fX5_hasPerson x1 σ = true then (if fX5_canBecome x2 x3 = true then (if x2 = 0 then (bnd2 (fX5_replace 2 x1 x3 σ) fun v_65 s_65 => (some (v_65, s_65))) else (if x2 = 1 then (bnd2 (fX5_moveTo x1 x3 σ) fun v_72 s_72 => (some (v_72, s_72))) else (if x2 = 2 then (bnd2 (fX5_replace 4 x1 x3 σ) fun v_85 s_85 => (some (v_85, s_85))) else (if x2 = 3 then (bnd2 (fX5_replace 5 x1 x3 σ) fun v_98 s_98 => (some (v_98, s_98))) else (bnd2 (fX5_replace 6 x1 x3 σ) fun v_111 s_111 => (some (v_111, s_111))))))) else (bnd2 (fX5_found (-1000001) σ) fun v_19 s_19 => (some (v_19, s_19)))) else (bnd2 (fX5_found (-1000001) σ) fun v_19 s_19 => (some (v_19, s_19))))
set_option maxRecDepth 20000 in
theorem pX5_change {M : MC} {w : WE} (X : Cx M w shC cX5_change 4 RX5 (some .int) 4)   (x1 : Int32) (x2 : Int32) (x3 : Int32) (σ : Mem) : Cp M w shC 4 iIM 0 [some (.ref (wad w 0)), some (.int x1), some (.int x2), some (.int x3)] [] σ (fX5_change x1 x2 x3 σ) := by
  unfold fX5_change
  refine Cp.aload_n (i := 0) X dX5_change_0 rfl rfl ?_
  refine Cp.iload_n (i := 1) X dX5_change_1 rfl rfl ?_
  refine Cp.cVBT [] X [.int x1] cvX5_hasPerson (kX5_hasPerson X.ok x1 σ) sc_0 rfl rfl wmX5_72 rfl rfl dX5_change_2 rfl (Nat.le_of_ble_eq_true rfl) ?_
  refine Cp.if_eqB X 16 dX5_change_5 (by decide) (fun c_5 => ?_) (fun c_5 => ?_)
  · refine Cp.aload_n (i := 0) X dX5_change_16 rfl rfl ?_
    refine Cp.ldc (v := (-1000001)) X wcX5_58 dX5_change_17 ?_
    refine Cp.cVIM [] X [.int (-1000001)] cvX5_found (kX5_found X.ok (-1000001) σ) sc_0 rfl rfl wmX5_59 rfl rfl dX5_change_19 rfl (Nat.le_of_ble_eq_true rfl) (fun v_19 s_19 => ?_)
    exact Cp.iret X dX5_change_22 rfl
  · refine Cp.iload_n (i := 2) X dX5_change_8 rfl rfl ?_
    refine Cp.iload_n (i := 3) X dX5_change_9 rfl rfl ?_
    refine Cp.cSBT [] X [.int x2, .int x3] csX5_canBecome (kX5_canBecome X.ok x2 x3 σ) wmX5_106 rfl rfl dX5_change_10 rfl (Nat.le_of_ble_eq_true rfl) ?_
    refine Cp.if_neB X 23 dX5_change_13 (by decide) (fun c_13 => ?_) (fun c_13 => ?_)
    · refine Cp.iload_n (i := 2) X dX5_change_23 rfl rfl ?_
      refine Cp.ite (fun c_24 => ?_) (fun n_24_0 => ?_)
      · refine Cp.tswI X 0 56 c_24 dX5_change_24 (by decide) (by decide) rfl (by decide) ?_
        refine Cp.aload_n (i := 0) X dX5_change_56 rfl rfl ?_
        refine gfX5_10 X 1 sc_0 rfl dX5_change_57 ?_
        refine gfX5_75 X 2 sc_1 rfl dX5_change_60 ?_
        refine Cp.iload_n (i := 1) X dX5_change_63 rfl rfl ?_
        refine Cp.iload_n (i := 3) X dX5_change_64 rfl rfl ?_
        refine Cp.cSIM [] X [.ref (wad w 2), .int x1, .int x3] csX5_replace (kX5_replace X.ok 2 sc_2 x1 x3 σ) wmX5_110 rfl rfl dX5_change_65 rfl (Nat.le_of_ble_eq_true rfl) (fun v_65 s_65 => ?_)
        exact Cp.iret X dX5_change_68 rfl
      refine Cp.ite (fun c_24 => ?_) (fun n_24_1 => ?_)
      · refine Cp.tswI X 1 69 c_24 dX5_change_24 (by decide) (by decide) rfl (by decide) ?_
        refine Cp.aload_n (i := 0) X dX5_change_69 rfl rfl ?_
        refine Cp.iload_n (i := 1) X dX5_change_70 rfl rfl ?_
        refine Cp.iload_n (i := 3) X dX5_change_71 rfl rfl ?_
        refine Cp.cVIM [] X [.int x1, .int x3] cvX5_moveTo (kX5_moveTo X.ok x1 x3 σ) sc_0 rfl rfl wmX5_114 rfl rfl dX5_change_72 rfl (Nat.le_of_ble_eq_true rfl) (fun v_72 s_72 => ?_)
        exact Cp.iret X dX5_change_75 rfl
      refine Cp.ite (fun c_24 => ?_) (fun n_24_2 => ?_)
      · refine Cp.tswI X 2 76 c_24 dX5_change_24 (by decide) (by decide) rfl (by decide) ?_
        refine Cp.aload_n (i := 0) X dX5_change_76 rfl rfl ?_
        refine gfX5_10 X 1 sc_0 rfl dX5_change_77 ?_
        refine gfX5_81 X 4 sc_1 rfl dX5_change_80 ?_
        refine Cp.iload_n (i := 1) X dX5_change_83 rfl rfl ?_
        refine Cp.iload_n (i := 3) X dX5_change_84 rfl rfl ?_
        refine Cp.cSIM [] X [.ref (wad w 4), .int x1, .int x3] csX5_replace (kX5_replace X.ok 4 sc_4 x1 x3 σ) wmX5_110 rfl rfl dX5_change_85 rfl (Nat.le_of_ble_eq_true rfl) (fun v_85 s_85 => ?_)
        exact Cp.iret X dX5_change_88 rfl
      refine Cp.ite (fun c_24 => ?_) (fun n_24_3 => ?_)
      · refine Cp.tswI X 3 89 c_24 dX5_change_24 (by decide) (by decide) rfl (by decide) ?_
        refine Cp.aload_n (i := 0) X dX5_change_89 rfl rfl ?_
        refine gfX5_10 X 1 sc_0 rfl dX5_change_90 ?_
        refine gfX5_84 X 5 sc_1 rfl dX5_change_93 ?_
        refine Cp.iload_n (i := 1) X dX5_change_96 rfl rfl ?_
        refine Cp.iload_n (i := 3) X dX5_change_97 rfl rfl ?_
        refine Cp.cSIM [] X [.ref (wad w 5), .int x1, .int x3] csX5_replace (kX5_replace X.ok 5 sc_5 x1 x3 σ) wmX5_110 rfl rfl dX5_change_98 rfl (Nat.le_of_ble_eq_true rfl) (fun v_98 s_98 => ?_)
        exact Cp.iret X dX5_change_101 rfl
      have m_24_0 := lv_neT (a := 0) n_24_0 (by decide)
      have m_24_1 := lv_neT (a := 1) n_24_1 (by decide)
      have m_24_2 := lv_neT (a := 2) n_24_2 (by decide)
      have m_24_3 := lv_neT (a := 3) n_24_3 (by decide)
      refine Cp.tswD X 102 (by omega) dX5_change_24 (by decide) ?_
      refine Cp.aload_n (i := 0) X dX5_change_102 rfl rfl ?_
      refine gfX5_10 X 1 sc_0 rfl dX5_change_103 ?_
      refine gfX5_87 X 6 sc_1 rfl dX5_change_106 ?_
      refine Cp.iload_n (i := 1) X dX5_change_109 rfl rfl ?_
      refine Cp.iload_n (i := 3) X dX5_change_110 rfl rfl ?_
      refine Cp.cSIM [] X [.ref (wad w 6), .int x1, .int x3] csX5_replace (kX5_replace X.ok 6 sc_6 x1 x3 σ) wmX5_110 rfl rfl dX5_change_111 rfl (Nat.le_of_ble_eq_true rfl) (fun v_111 s_111 => ?_)
      exact Cp.iret X dX5_change_114 rfl
    · refine Cp.aload_n (i := 0) X dX5_change_16 rfl rfl ?_
      refine Cp.ldc (v := (-1000001)) X wcX5_58 dX5_change_17 ?_
      refine Cp.cVIM [] X [.int (-1000001)] cvX5_found (kX5_found X.ok (-1000001) σ) sc_0 rfl rfl wmX5_59 rfl rfl dX5_change_19 rfl (Nat.le_of_ble_eq_true rfl) (fun v_19 s_19 => ?_)
      exact Cp.iret X dX5_change_22 rfl
theorem kX5_change {l : Launch} {w : WE} (hok : OkW w shC)   (x1 : Int32) (x2 : Int32) (x3 : Int32) (σ : Mem) : ∀ v, fX5_change x1 x2 x3 σ = some v → Ctr l w shC yX5_change cX5_change 4 (some .int) 4 [.ref (wad w 0), .int x1, .int x2, .int x3] σ (iIM v) := fun v hv => Ctr.of [some (.ref (wad w 0)), some (.int x1), some (.int x2), some (.int x3)] (by decide) hok rfl (Nat.le_of_ble_eq_true rfl) (fun M _ X => pX5_change X   x1 x2 x3 σ v hv)
def fX5_isTopics (x0 : Int32) : Bool :=
  fX5_within x0 1 63
set_option maxRecDepth 20000 in
theorem pX5_isTopics {M : MC} {w : WE} (X : Cx M w shC cX5_isTopics 1 RX5 (some .boolean) 1)   (x0 : Int32) (σ : Mem) : Cp M w shC 1 (iB σ) 0 [some (.int x0)] [] σ (some (fX5_isTopics x0)) := by
  unfold fX5_isTopics
  refine Cp.iload_n (i := 0) X dX5_isTopics_0 rfl rfl ?_
  refine Cp.iconst (v := 1) X dX5_isTopics_1 rfl ?_
  refine Cp.bipush (v := 63) X dX5_isTopics_2 rfl ?_
  refine Cp.cSBT [] X [.int x0, .int 1, .int 63] csX5_within (kX5_within X.ok x0 1 63 σ) wmX5_132 rfl rfl dX5_isTopics_4 rfl (Nat.le_of_ble_eq_true rfl) ?_
  exact Cp.bret X dX5_isTopics_7 rfl
theorem kX5_isTopics {l : Launch} {w : WE} (hok : OkW w shC)   (x0 : Int32) (σ : Mem) : Ctr l w shC yX5_isTopics cX5_isTopics 1 (some .boolean) 1 [.int x0] σ ((iB σ) (fX5_isTopics x0)) := Ctr.of [some (.int x0)] (by decide) hok rfl (Nat.le_of_ble_eq_true rfl) (fun M _ X => pX5_isTopics X   x0 σ _ rfl)
def fX5_isFun (x0 : Int32) : Bool :=
  fX5_within x0 0 9
set_option maxRecDepth 20000 in
theorem pX5_isFun {M : MC} {w : WE} (X : Cx M w shC cX5_isFun 1 RX5 (some .boolean) 1)   (x0 : Int32) (σ : Mem) : Cp M w shC 1 (iB σ) 0 [some (.int x0)] [] σ (some (fX5_isFun x0)) := by
  unfold fX5_isFun
  refine Cp.iload_n (i := 0) X dX5_isFun_0 rfl rfl ?_
  refine Cp.iconst (v := 0) X dX5_isFun_1 rfl ?_
  refine Cp.bipush (v := 9) X dX5_isFun_2 rfl ?_
  refine Cp.cSBT [] X [.int x0, .int 0, .int 9] csX5_within (kX5_within X.ok x0 0 9 σ) wmX5_132 rfl rfl dX5_isFun_4 rfl (Nat.le_of_ble_eq_true rfl) ?_
  exact Cp.bret X dX5_isFun_7 rfl
theorem kX5_isFun {l : Launch} {w : WE} (hok : OkW w shC)   (x0 : Int32) (σ : Mem) : Ctr l w shC yX5_isFun cX5_isFun 1 (some .boolean) 1 [.int x0] σ ((iB σ) (fX5_isFun x0)) := Ctr.of [some (.int x0)] (by decide) hok rfl (Nat.le_of_ble_eq_true rfl) (fun M _ X => pX5_isFun X   x0 σ _ rfl)
def fX5_joke (x1 : Int32) (x2 : Int32) (σ : Mem) : Option (Int32 × Mem) :=
  (if fX5_isTopics x1 = true then (if fX5_isFun x2 = true then (if (σ 1 7) < 8 then (bnd2 (fX1_addJoke 1 x1 x2 σ) fun v_46 s_46 => (some (v_46, s_46))) else (bnd2 (fX5_found (-1000002) σ) fun v_36 s_36 => (some (v_36, s_36)))) else (bnd2 (fX5_found (-1000001) σ) fun v_17 s_17 => (some (v_17, s_17)))) else (bnd2 (fX5_found (-1000001) σ) fun v_17 s_17 => (some (v_17, s_17))))
set_option maxRecDepth 20000 in
theorem pX5_joke {M : MC} {w : WE} (X : Cx M w shC cX5_joke 3 RX5 (some .int) 2)   (x1 : Int32) (x2 : Int32) (σ : Mem) : Cp M w shC 3 iIM 0 [some (.ref (wad w 0)), some (.int x1), some (.int x2)] [] σ (fX5_joke x1 x2 σ) := by
  unfold fX5_joke
  refine Cp.iload_n (i := 1) X dX5_joke_0 rfl rfl ?_
  refine Cp.cSBT [] X [.int x1] csX5_isTopics (kX5_isTopics X.ok x1 σ) wmX5_117 rfl rfl dX5_joke_1 rfl (Nat.le_of_ble_eq_true rfl) ?_
  refine Cp.if_eqB X 14 dX5_joke_4 (by decide) (fun c_4 => ?_) (fun c_4 => ?_)
  · refine Cp.aload_n (i := 0) X dX5_joke_14 rfl rfl ?_
    refine Cp.ldc (v := (-1000001)) X wcX5_58 dX5_joke_15 ?_
    refine Cp.cVIM [] X [.int (-1000001)] cvX5_found (kX5_found X.ok (-1000001) σ) sc_0 rfl rfl wmX5_59 rfl rfl dX5_joke_17 rfl (Nat.le_of_ble_eq_true rfl) (fun v_17 s_17 => ?_)
    exact Cp.iret X dX5_joke_20 rfl
  · refine Cp.iload_n (i := 2) X dX5_joke_7 rfl rfl ?_
    refine Cp.cSBT [] X [.int x2] csX5_isFun (kX5_isFun X.ok x2 σ) wmX5_120 rfl rfl dX5_joke_8 rfl (Nat.le_of_ble_eq_true rfl) ?_
    refine Cp.if_neB X 21 dX5_joke_11 (by decide) (fun c_11 => ?_) (fun c_11 => ?_)
    · refine Cp.aload_n (i := 0) X dX5_joke_21 rfl rfl ?_
      refine gfX5_10 X 1 sc_0 rfl dX5_joke_22 ?_
      refine gfX5_123 X sc_1 rfl dX5_joke_25 ?_
      refine Cp.bipush (v := 8) X dX5_joke_28 rfl ?_
      refine Cp.icmp_lt X 40 dX5_joke_30 (by decide) (fun c_30 => ?_) (fun c_30 => ?_)
      · refine Cp.aload_n (i := 0) X dX5_joke_40 rfl rfl ?_
        refine gfX5_10 X 1 sc_0 rfl dX5_joke_41 ?_
        refine Cp.iload_n (i := 1) X dX5_joke_44 rfl rfl ?_
        refine Cp.iload_n (i := 2) X dX5_joke_45 rfl rfl ?_
        refine Cp.cVIM [] X [.int x1, .int x2] cvX1_addJoke (kX1_addJoke X.ok 1 isRm_1 x1 x2 σ) sc_1 rfl rfl wmX5_126 rfl rfl dX5_joke_46 rfl (Nat.le_of_ble_eq_true rfl) (fun v_46 s_46 => ?_)
        exact Cp.iret X dX5_joke_49 rfl
      · refine Cp.aload_n (i := 0) X dX5_joke_33 rfl rfl ?_
        refine Cp.ldc (v := (-1000002)) X wcX5_67 dX5_joke_34 ?_
        refine Cp.cVIM [] X [.int (-1000002)] cvX5_found (kX5_found X.ok (-1000002) σ) sc_0 rfl rfl wmX5_59 rfl rfl dX5_joke_36 rfl (Nat.le_of_ble_eq_true rfl) (fun v_36 s_36 => ?_)
        exact Cp.iret X dX5_joke_39 rfl
    · refine Cp.aload_n (i := 0) X dX5_joke_14 rfl rfl ?_
      refine Cp.ldc (v := (-1000001)) X wcX5_58 dX5_joke_15 ?_
      refine Cp.cVIM [] X [.int (-1000001)] cvX5_found (kX5_found X.ok (-1000001) σ) sc_0 rfl rfl wmX5_59 rfl rfl dX5_joke_17 rfl (Nat.le_of_ble_eq_true rfl) (fun v_17 s_17 => ?_)
      exact Cp.iret X dX5_joke_20 rfl
theorem kX5_joke {l : Launch} {w : WE} (hok : OkW w shC)   (x1 : Int32) (x2 : Int32) (σ : Mem) : ∀ v, fX5_joke x1 x2 σ = some v → Ctr l w shC yX5_joke cX5_joke 3 (some .int) 2 [.ref (wad w 0), .int x1, .int x2] σ (iIM v) := fun v hv => Ctr.of [some (.ref (wad w 0)), some (.int x1), some (.int x2)] (by decide) hok rfl (Nat.le_of_ble_eq_true rfl) (fun M _ X => pX5_joke X   x1 x2 σ v hv)
def fX5_hasJoke (x1 : Int32) (σ : Mem) : Bool :=
  fX5_within x1 0 ((σ 1 7) - 1)
set_option maxRecDepth 20000 in
theorem pX5_hasJoke {M : MC} {w : WE} (X : Cx M w shC cX5_hasJoke 2 RX5 (some .boolean) 1)   (x1 : Int32) (σ : Mem) : Cp M w shC 2 (iB σ) 0 [some (.ref (wad w 0)), some (.int x1)] [] σ (some (fX5_hasJoke x1 σ)) := by
  unfold fX5_hasJoke
  refine Cp.iload_n (i := 1) X dX5_hasJoke_0 rfl rfl ?_
  refine Cp.iconst (v := 0) X dX5_hasJoke_1 rfl ?_
  refine Cp.aload_n (i := 0) X dX5_hasJoke_2 rfl rfl ?_
  refine gfX5_10 X 1 sc_0 rfl dX5_hasJoke_3 ?_
  refine gfX5_123 X sc_1 rfl dX5_hasJoke_6 ?_
  refine Cp.iconst (v := 1) X dX5_hasJoke_9 rfl ?_
  refine Cp.isub X dX5_hasJoke_10 ?_
  refine Cp.cSBT [] X [.int x1, .int 0, .int ((σ 1 7) - 1)] csX5_within (kX5_within X.ok x1 0 ((σ 1 7) - 1) σ) wmX5_132 rfl rfl dX5_hasJoke_11 rfl (Nat.le_of_ble_eq_true rfl) ?_
  exact Cp.bret X dX5_hasJoke_14 rfl
theorem kX5_hasJoke {l : Launch} {w : WE} (hok : OkW w shC)   (x1 : Int32) (σ : Mem) : Ctr l w shC yX5_hasJoke cX5_hasJoke 2 (some .boolean) 1 [.ref (wad w 0), .int x1] σ ((iB σ) (fX5_hasJoke x1 σ)) := Ctr.of [some (.ref (wad w 0)), some (.int x1)] (by decide) hok rfl (Nat.le_of_ble_eq_true rfl) (fun M _ X => pX5_hasJoke X   x1 σ _ rfl)
def fX5_jokeOf (x1 : Int32) (x2 : Int32) (σ : Mem) : Option (Int32 × Mem) :=
  (if fX5_hasJoke x1 σ = true then (if fX5_within x2 0 1 = true then (if x2 = 0 then (gd (inB x1 8 = true) (some (σ 8 x1.toNatClampNeg, σ))) else (gd (inB x1 8 = true) (some (σ 9 x1.toNatClampNeg, σ)))) else (bnd2 (fX5_found (-1000001) σ) fun v_20 s_20 => (some (v_20, s_20)))) else (bnd2 (fX5_found (-1000001) σ) fun v_20 s_20 => (some (v_20, s_20))))
set_option maxRecDepth 20000 in
theorem pX5_jokeOf {M : MC} {w : WE} (X : Cx M w shC cX5_jokeOf 3 RX5 (some .int) 2)   (x1 : Int32) (x2 : Int32) (σ : Mem) : Cp M w shC 3 iIM 0 [some (.ref (wad w 0)), some (.int x1), some (.int x2)] [] σ (fX5_jokeOf x1 x2 σ) := by
  unfold fX5_jokeOf
  refine Cp.aload_n (i := 0) X dX5_jokeOf_0 rfl rfl ?_
  refine Cp.iload_n (i := 1) X dX5_jokeOf_1 rfl rfl ?_
  refine Cp.cVBT [] X [.int x1] cvX5_hasJoke (kX5_hasJoke X.ok x1 σ) sc_0 rfl rfl wmX5_129 rfl rfl dX5_jokeOf_2 rfl (Nat.le_of_ble_eq_true rfl) ?_
  refine Cp.if_eqB X 17 dX5_jokeOf_5 (by decide) (fun c_5 => ?_) (fun c_5 => ?_)
  · refine Cp.aload_n (i := 0) X dX5_jokeOf_17 rfl rfl ?_
    refine Cp.ldc (v := (-1000001)) X wcX5_58 dX5_jokeOf_18 ?_
    refine Cp.cVIM [] X [.int (-1000001)] cvX5_found (kX5_found X.ok (-1000001) σ) sc_0 rfl rfl wmX5_59 rfl rfl dX5_jokeOf_20 rfl (Nat.le_of_ble_eq_true rfl) (fun v_20 s_20 => ?_)
    exact Cp.iret X dX5_jokeOf_23 rfl
  · refine Cp.iload_n (i := 2) X dX5_jokeOf_8 rfl rfl ?_
    refine Cp.iconst (v := 0) X dX5_jokeOf_9 rfl ?_
    refine Cp.iconst (v := 1) X dX5_jokeOf_10 rfl ?_
    refine Cp.cSBT [] X [.int x2, .int 0, .int 1] csX5_within (kX5_within X.ok x2 0 1 σ) wmX5_132 rfl rfl dX5_jokeOf_11 rfl (Nat.le_of_ble_eq_true rfl) ?_
    refine Cp.if_neB X 24 dX5_jokeOf_14 (by decide) (fun c_14 => ?_) (fun c_14 => ?_)
    · refine Cp.iload_n (i := 2) X dX5_jokeOf_24 rfl rfl ?_
      refine Cp.if_ne X 40 dX5_jokeOf_25 (by decide) (fun c_25 => ?_) (fun c_25 => ?_)
      · refine Cp.aload_n (i := 0) X dX5_jokeOf_40 rfl rfl ?_
        refine gfX5_10 X 1 sc_0 rfl dX5_jokeOf_41 ?_
        refine gfX5_139 X 9 sc_1 rfl dX5_jokeOf_44 ?_
        refine Cp.iload_n (i := 1) X dX5_jokeOf_47 rfl rfl ?_
        refine Cp.iald X sc_9 dX5_jokeOf_48 ?_
        exact Cp.iret X dX5_jokeOf_49 rfl
      · refine Cp.aload_n (i := 0) X dX5_jokeOf_28 rfl rfl ?_
        refine gfX5_10 X 1 sc_0 rfl dX5_jokeOf_29 ?_
        refine gfX5_136 X 8 sc_1 rfl dX5_jokeOf_32 ?_
        refine Cp.iload_n (i := 1) X dX5_jokeOf_35 rfl rfl ?_
        refine Cp.iald X sc_8 dX5_jokeOf_36 ?_
        refine Cp.goto X 49 dX5_jokeOf_37 (by decide) ?_
        exact Cp.iret X dX5_jokeOf_49 rfl
    · refine Cp.aload_n (i := 0) X dX5_jokeOf_17 rfl rfl ?_
      refine Cp.ldc (v := (-1000001)) X wcX5_58 dX5_jokeOf_18 ?_
      refine Cp.cVIM [] X [.int (-1000001)] cvX5_found (kX5_found X.ok (-1000001) σ) sc_0 rfl rfl wmX5_59 rfl rfl dX5_jokeOf_20 rfl (Nat.le_of_ble_eq_true rfl) (fun v_20 s_20 => ?_)
      exact Cp.iret X dX5_jokeOf_23 rfl
theorem kX5_jokeOf {l : Launch} {w : WE} (hok : OkW w shC)   (x1 : Int32) (x2 : Int32) (σ : Mem) : ∀ v, fX5_jokeOf x1 x2 σ = some v → Ctr l w shC yX5_jokeOf cX5_jokeOf 3 (some .int) 2 [.ref (wad w 0), .int x1, .int x2] σ (iIM v) := fun v hv => Ctr.of [some (.ref (wad w 0)), some (.int x1), some (.int x2)] (by decide) hok rfl (Nat.le_of_ble_eq_true rfl) (fun M _ X => pX5_jokeOf X   x1 x2 σ v hv)
def fX5_law_58 (x1 : Int32) (x2 : Int32) (t0 : Int32) (σ : Mem) : Option (Int32 × Mem) :=
  (if x1 = 0 then (pb (up2 σ 1 10 x2 : Mem) fun s_69 => (some (t0, s_69))) else ((fX1_setReach 1 x2 σ).bind fun s_80 => (some (t0, s_80))))
def fX5_law_11 (x1 : Int32) (x2 : Int32) (t0 : Int32) (σ : Mem) : Option (Int32 × Mem) :=
  (if fX5_within x1 0 1 = true then (if fX5_within x2 0 t0 = true then (if x1 = 0 then (fX5_law_58 x1 x2 (σ 1 10) σ) else (fX5_law_58 x1 x2 (σ 1 11) σ)) else (bnd2 (fX5_found (-1000001) σ) fun v_33 s_33 => (some (v_33, s_33)))) else (bnd2 (fX5_found (-1000001) σ) fun v_33 s_33 => (some (v_33, s_33))))
def fX5_law (x1 : Int32) (x2 : Int32) (σ : Mem) : Option (Int32 × Mem) :=
  (if x1 = 0 then (fX5_law_11 x1 x2 20 σ) else (fX5_law_11 x1 x2 15 σ))
set_option maxRecDepth 20000 in
theorem pX5_law_58 {M : MC} {w : WE} (X : Cx M w shC cX5_law 5 RX5 (some .int) 3)   (x1 : Int32) (x2 : Int32) (t0 : Int32)  (σ : Mem)  : Cp M w shC 5 iIM 58 [some (.ref (wad w 0)), some (.int x1), some (.int x2), none, none] [.int t0] σ (fX5_law_58 x1 x2 t0 σ) := by
  unfold fX5_law_58
  refine Cp.istore X dX5_law_58 (Nat.le_of_ble_eq_true rfl) rfl ?_
  refine Cp.iload_n (i := 1) X dX5_law_60 rfl rfl ?_
  refine Cp.if_ne X 75 dX5_law_61 (by decide) (fun c_61 => ?_) (fun c_61 => ?_)
  · refine Cp.aload_n (i := 0) X dX5_law_75 rfl rfl ?_
    refine gfX5_10 X 1 sc_0 rfl dX5_law_76 ?_
    refine Cp.iload_n (i := 2) X dX5_law_79 rfl rfl ?_
    refine Cp.cVV [] X [.int x2] cvX1_setReach (kX1_setReach X.ok 1 isRm_1 x2 σ) sc_1 rfl rfl wmX5_148 rfl rfl dX5_law_80 rfl (Nat.le_of_ble_eq_true rfl) (fun s_80 => ?_)
    refine Cp.iload X dX5_law_83 rfl ?_
    exact Cp.iret X dX5_law_85 rfl
  · refine Cp.aload_n (i := 0) X dX5_law_64 rfl rfl ?_
    refine gfX5_10 X 1 sc_0 rfl dX5_law_65 ?_
    refine Cp.iload_n (i := 2) X dX5_law_68 rfl rfl ?_
    refine pfX5_142 X sc_1 rfl dX5_law_69 ?_
    refine Cp.nameM (fun s_69 => ?_)
    refine Cp.goto X 83 dX5_law_72 (by decide) ?_
    refine Cp.iload X dX5_law_83 rfl ?_
    exact Cp.iret X dX5_law_85 rfl
set_option maxRecDepth 20000 in
theorem pX5_law_11 {M : MC} {w : WE} (X : Cx M w shC cX5_law 5 RX5 (some .int) 3)   (x1 : Int32) (x2 : Int32) (t0 : Int32)  (σ : Mem)  : Cp M w shC 5 iIM 11 [some (.ref (wad w 0)), some (.int x1), some (.int x2), none, none] [.int t0] σ (fX5_law_11 x1 x2 t0 σ) := by
  unfold fX5_law_11
  refine Cp.istore_n (i := 3) X dX5_law_11 rfl (Nat.le_of_ble_eq_true rfl) rfl ?_
  refine Cp.iload_n (i := 1) X dX5_law_12 rfl rfl ?_
  refine Cp.iconst (v := 0) X dX5_law_13 rfl ?_
  refine Cp.iconst (v := 1) X dX5_law_14 rfl ?_
  refine Cp.cSBT [] X [.int x1, .int 0, .int 1] csX5_within (kX5_within X.ok x1 0 1 σ) wmX5_132 rfl rfl dX5_law_15 rfl (Nat.le_of_ble_eq_true rfl) ?_
  refine Cp.if_eqB X 30 dX5_law_18 (by decide) (fun c_18 => ?_) (fun c_18 => ?_)
  · refine Cp.aload_n (i := 0) X dX5_law_30 rfl rfl ?_
    refine Cp.ldc (v := (-1000001)) X wcX5_58 dX5_law_31 ?_
    refine Cp.cVIM [] X [.int (-1000001)] cvX5_found (kX5_found X.ok (-1000001) σ) sc_0 rfl rfl wmX5_59 rfl rfl dX5_law_33 rfl (Nat.le_of_ble_eq_true rfl) (fun v_33 s_33 => ?_)
    exact Cp.iret X dX5_law_36 rfl
  · refine Cp.iload_n (i := 2) X dX5_law_21 rfl rfl ?_
    refine Cp.iconst (v := 0) X dX5_law_22 rfl ?_
    refine Cp.iload_n (i := 3) X dX5_law_23 rfl rfl ?_
    refine Cp.cSBT [] X [.int x2, .int 0, .int t0] csX5_within (kX5_within X.ok x2 0 t0 σ) wmX5_132 rfl rfl dX5_law_24 rfl (Nat.le_of_ble_eq_true rfl) ?_
    refine Cp.if_neB X 37 dX5_law_27 (by decide) (fun c_27 => ?_) (fun c_27 => ?_)
    · refine Cp.iload_n (i := 1) X dX5_law_37 rfl rfl ?_
      refine Cp.if_ne X 51 dX5_law_38 (by decide) (fun c_38 => ?_) (fun c_38 => ?_)
      · refine Cp.aload_n (i := 0) X dX5_law_51 rfl rfl ?_
        refine gfX5_10 X 1 sc_0 rfl dX5_law_52 ?_
        refine gfX5_145 X sc_1 rfl dX5_law_55 ?_
        refine Cp.mask [true, true, true, false, false] ?_
        exact pX5_law_58 X x1 x2 (σ 1 11) σ
      · refine Cp.aload_n (i := 0) X dX5_law_41 rfl rfl ?_
        refine gfX5_10 X 1 sc_0 rfl dX5_law_42 ?_
        refine gfX5_142 X sc_1 rfl dX5_law_45 ?_
        refine Cp.goto X 58 dX5_law_48 (by decide) ?_
        refine Cp.mask [true, true, true, false, false] ?_
        exact pX5_law_58 X x1 x2 (σ 1 10) σ
    · refine Cp.aload_n (i := 0) X dX5_law_30 rfl rfl ?_
      refine Cp.ldc (v := (-1000001)) X wcX5_58 dX5_law_31 ?_
      refine Cp.cVIM [] X [.int (-1000001)] cvX5_found (kX5_found X.ok (-1000001) σ) sc_0 rfl rfl wmX5_59 rfl rfl dX5_law_33 rfl (Nat.le_of_ble_eq_true rfl) (fun v_33 s_33 => ?_)
      exact Cp.iret X dX5_law_36 rfl
set_option maxRecDepth 20000 in
theorem pX5_law {M : MC} {w : WE} (X : Cx M w shC cX5_law 5 RX5 (some .int) 3)   (x1 : Int32) (x2 : Int32) (σ : Mem) : Cp M w shC 5 iIM 0 [some (.ref (wad w 0)), some (.int x1), some (.int x2), none, none] [] σ (fX5_law x1 x2 σ) := by
  unfold fX5_law
  refine Cp.iload_n (i := 1) X dX5_law_0 rfl rfl ?_
  refine Cp.if_ne X 9 dX5_law_1 (by decide) (fun c_1 => ?_) (fun c_1 => ?_)
  · refine Cp.bipush (v := 15) X dX5_law_9 rfl ?_
    exact pX5_law_11 X x1 x2 15 σ
  · refine Cp.bipush (v := 20) X dX5_law_4 rfl ?_
    refine Cp.goto X 11 dX5_law_6 (by decide) ?_
    exact pX5_law_11 X x1 x2 20 σ
theorem kX5_law {l : Launch} {w : WE} (hok : OkW w shC)   (x1 : Int32) (x2 : Int32) (σ : Mem) : ∀ v, fX5_law x1 x2 σ = some v → Ctr l w shC yX5_law cX5_law 5 (some .int) 3 [.ref (wad w 0), .int x1, .int x2] σ (iIM v) := fun v hv => Ctr.of [some (.ref (wad w 0)), some (.int x1), some (.int x2), none, none] (by decide) hok rfl (Nat.le_of_ble_eq_true rfl) (fun M _ X => pX5_law X   x1 x2 σ v hv)
def fX5_strength (x1 : Int32) (x2 : Int32) (x3 : Int32) (σ : Mem) : Option (Int32 × Mem) :=
  (if fX5_hasJoke x1 σ = true then (if fX5_hasPerson x2 σ = true then (gd (inB x1 8 = true) (gd (inB x1 8 = true) ((fX1_strengthFor 1 x2 (σ 8 x1.toNatClampNeg) (σ 9 x1.toNatClampNeg) σ).bind fun v_46 => (if x3 = 0 then (some (v_46, σ)) else (if x3 = 1 then (gd (inB x2 8 = true) (some (fX0_seconds (σ 2 x2.toNatClampNeg) v_46, σ))) else (if x3 = 2 then ((fX1_dueFrom 1 x2 v_46 σ).bind fun v_105 => (some (v_105, σ))) else (bnd2 (fX5_found (-1000001) σ) fun v_112 s_112 => (some (v_112, s_112))))))))) else (bnd2 (fX5_found (-1000001) σ) fun v_19 s_19 => (some (v_19, s_19)))) else (bnd2 (fX5_found (-1000001) σ) fun v_19 s_19 => (some (v_19, s_19))))
set_option maxRecDepth 20000 in
theorem pX5_strength {M : MC} {w : WE} (X : Cx M w shC cX5_strength 5 RX5 (some .int) 3)   (x1 : Int32) (x2 : Int32) (x3 : Int32) (σ : Mem) : Cp M w shC 5 iIM 0 [some (.ref (wad w 0)), some (.int x1), some (.int x2), some (.int x3), none] [] σ (fX5_strength x1 x2 x3 σ) := by
  unfold fX5_strength
  refine Cp.aload_n (i := 0) X dX5_strength_0 rfl rfl ?_
  refine Cp.iload_n (i := 1) X dX5_strength_1 rfl rfl ?_
  refine Cp.cVBT [] X [.int x1] cvX5_hasJoke (kX5_hasJoke X.ok x1 σ) sc_0 rfl rfl wmX5_129 rfl rfl dX5_strength_2 rfl (Nat.le_of_ble_eq_true rfl) ?_
  refine Cp.if_eqB X 16 dX5_strength_5 (by decide) (fun c_5 => ?_) (fun c_5 => ?_)
  · refine Cp.aload_n (i := 0) X dX5_strength_16 rfl rfl ?_
    refine Cp.ldc (v := (-1000001)) X wcX5_58 dX5_strength_17 ?_
    refine Cp.cVIM [] X [.int (-1000001)] cvX5_found (kX5_found X.ok (-1000001) σ) sc_0 rfl rfl wmX5_59 rfl rfl dX5_strength_19 rfl (Nat.le_of_ble_eq_true rfl) (fun v_19 s_19 => ?_)
    exact Cp.iret X dX5_strength_22 rfl
  · refine Cp.aload_n (i := 0) X dX5_strength_8 rfl rfl ?_
    refine Cp.iload_n (i := 2) X dX5_strength_9 rfl rfl ?_
    refine Cp.cVBT [] X [.int x2] cvX5_hasPerson (kX5_hasPerson X.ok x2 σ) sc_0 rfl rfl wmX5_72 rfl rfl dX5_strength_10 rfl (Nat.le_of_ble_eq_true rfl) ?_
    refine Cp.if_neB X 23 dX5_strength_13 (by decide) (fun c_13 => ?_) (fun c_13 => ?_)
    · refine Cp.aload_n (i := 0) X dX5_strength_23 rfl rfl ?_
      refine gfX5_10 X 1 sc_0 rfl dX5_strength_24 ?_
      refine Cp.iload_n (i := 2) X dX5_strength_27 rfl rfl ?_
      refine Cp.aload_n (i := 0) X dX5_strength_28 rfl rfl ?_
      refine gfX5_10 X 1 sc_0 rfl dX5_strength_29 ?_
      refine gfX5_136 X 8 sc_1 rfl dX5_strength_32 ?_
      refine Cp.iload_n (i := 1) X dX5_strength_35 rfl rfl ?_
      refine Cp.iald X sc_8 dX5_strength_36 ?_
      refine Cp.aload_n (i := 0) X dX5_strength_37 rfl rfl ?_
      refine gfX5_10 X 1 sc_0 rfl dX5_strength_38 ?_
      refine gfX5_139 X 9 sc_1 rfl dX5_strength_41 ?_
      refine Cp.iload_n (i := 1) X dX5_strength_44 rfl rfl ?_
      refine Cp.iald X sc_9 dX5_strength_45 ?_
      refine Cp.cVI [] X [.int x2, .int (σ 8 x1.toNatClampNeg), .int (σ 9 x1.toNatClampNeg)] cvX1_strengthFor (kX1_strengthFor X.ok 1 isRm_1 x2 (σ 8 x1.toNatClampNeg) (σ 9 x1.toNatClampNeg) σ) sc_1 rfl rfl wmX5_152 rfl rfl dX5_strength_46 rfl (Nat.le_of_ble_eq_true rfl) (fun v_46 => ?_)
      refine Cp.istore X dX5_strength_49 (Nat.le_of_ble_eq_true rfl) rfl ?_
      refine Cp.iload_n (i := 3) X dX5_strength_51 rfl rfl ?_
      refine Cp.ite (fun c_52 => ?_) (fun n_52_0 => ?_)
      · refine Cp.tswI X 0 80 c_52 dX5_strength_52 (by decide) (by decide) rfl (by decide) ?_
        refine Cp.iload X dX5_strength_80 rfl ?_
        exact Cp.iret X dX5_strength_82 rfl
      refine Cp.ite (fun c_52 => ?_) (fun n_52_1 => ?_)
      · refine Cp.tswI X 1 83 c_52 dX5_strength_52 (by decide) (by decide) rfl (by decide) ?_
        refine Cp.aload_n (i := 0) X dX5_strength_83 rfl rfl ?_
        refine gfX5_10 X 1 sc_0 rfl dX5_strength_84 ?_
        refine gfX5_75 X 2 sc_1 rfl dX5_strength_87 ?_
        refine Cp.iload_n (i := 2) X dX5_strength_90 rfl rfl ?_
        refine Cp.iald X sc_2 dX5_strength_91 ?_
        refine Cp.iload X dX5_strength_92 rfl ?_
        refine Cp.cSIT [] X [.int (σ 2 x2.toNatClampNeg), .int v_46] csX0_seconds (kX0_seconds X.ok (σ 2 x2.toNatClampNeg) v_46 σ) wmX5_156 rfl rfl dX5_strength_94 rfl (Nat.le_of_ble_eq_true rfl) ?_
        exact Cp.iret X dX5_strength_97 rfl
      refine Cp.ite (fun c_52 => ?_) (fun n_52_2 => ?_)
      · refine Cp.tswI X 2 98 c_52 dX5_strength_52 (by decide) (by decide) rfl (by decide) ?_
        refine Cp.aload_n (i := 0) X dX5_strength_98 rfl rfl ?_
        refine gfX5_10 X 1 sc_0 rfl dX5_strength_99 ?_
        refine Cp.iload_n (i := 2) X dX5_strength_102 rfl rfl ?_
        refine Cp.iload X dX5_strength_103 rfl ?_
        refine Cp.cVI [] X [.int x2, .int v_46] cvX1_dueFrom (kX1_dueFrom X.ok 1 isRm_1 x2 v_46 σ) sc_1 rfl rfl wmX5_159 rfl rfl dX5_strength_105 rfl (Nat.le_of_ble_eq_true rfl) (fun v_105 => ?_)
        exact Cp.iret X dX5_strength_108 rfl
      have m_52_0 := lv_neT (a := 0) n_52_0 (by decide)
      have m_52_1 := lv_neT (a := 1) n_52_1 (by decide)
      have m_52_2 := lv_neT (a := 2) n_52_2 (by decide)
      refine Cp.tswD X 109 (by omega) dX5_strength_52 (by decide) ?_
      refine Cp.aload_n (i := 0) X dX5_strength_109 rfl rfl ?_
      refine Cp.ldc (v := (-1000001)) X wcX5_58 dX5_strength_110 ?_
      refine Cp.cVIM [] X [.int (-1000001)] cvX5_found (kX5_found X.ok (-1000001) σ) sc_0 rfl rfl wmX5_59 rfl rfl dX5_strength_112 rfl (Nat.le_of_ble_eq_true rfl) (fun v_112 s_112 => ?_)
      exact Cp.iret X dX5_strength_115 rfl
    · refine Cp.aload_n (i := 0) X dX5_strength_16 rfl rfl ?_
      refine Cp.ldc (v := (-1000001)) X wcX5_58 dX5_strength_17 ?_
      refine Cp.cVIM [] X [.int (-1000001)] cvX5_found (kX5_found X.ok (-1000001) σ) sc_0 rfl rfl wmX5_59 rfl rfl dX5_strength_19 rfl (Nat.le_of_ble_eq_true rfl) (fun v_19 s_19 => ?_)
      exact Cp.iret X dX5_strength_22 rfl
theorem kX5_strength {l : Launch} {w : WE} (hok : OkW w shC)   (x1 : Int32) (x2 : Int32) (x3 : Int32) (σ : Mem) : ∀ v, fX5_strength x1 x2 x3 σ = some v → Ctr l w shC yX5_strength cX5_strength 5 (some .int) 3 [.ref (wad w 0), .int x1, .int x2, .int x3] σ (iIM v) := fun v hv => Ctr.of [some (.ref (wad w 0)), some (.int x1), some (.int x2), some (.int x3), none] (by decide) hok rfl (Nat.le_of_ble_eq_true rfl) (fun M _ X => pX5_strength X   x1 x2 x3 σ v hv)
def fX5_tell (x1 : Int32) (σ : Mem) : Option (Int32 × Mem) :=
  (if fX5_hasJoke x1 σ = true then (if ((σ 1 13) + 1) ≤ 99999 then (bnd2 (fX4_perform 1 x1 σ) fun v_45 s_45 => (some (v_45, s_45))) else (bnd2 (fX5_found (-1000005) σ) fun v_32 s_32 => (some (v_32, s_32)))) else (bnd2 (fX5_found (-1000001) σ) fun v_11 s_11 => (some (v_11, s_11))))
set_option maxRecDepth 20000 in
theorem pX5_tell {M : MC} {w : WE} (X : Cx M w shC cX5_tell 2 RX5 (some .int) 5)   (x1 : Int32) (σ : Mem) : Cp M w shC 2 iIM 0 [some (.ref (wad w 0)), some (.int x1)] [] σ (fX5_tell x1 σ) := by
  unfold fX5_tell
  refine Cp.aload_n (i := 0) X dX5_tell_0 rfl rfl ?_
  refine Cp.iload_n (i := 1) X dX5_tell_1 rfl rfl ?_
  refine Cp.cVBT [] X [.int x1] cvX5_hasJoke (kX5_hasJoke X.ok x1 σ) sc_0 rfl rfl wmX5_129 rfl rfl dX5_tell_2 rfl (Nat.le_of_ble_eq_true rfl) ?_
  refine Cp.if_neB X 15 dX5_tell_5 (by decide) (fun c_5 => ?_) (fun c_5 => ?_)
  · refine Cp.aload_n (i := 0) X dX5_tell_15 rfl rfl ?_
    refine gfX5_10 X 1 sc_0 rfl dX5_tell_16 ?_
    refine gfX5_162 X sc_1 rfl dX5_tell_19 ?_
    refine Cp.iconst (v := 1) X dX5_tell_22 rfl ?_
    refine Cp.iadd X dX5_tell_23 ?_
    refine Cp.ldc (v := 99999) X wcX5_165 dX5_tell_24 ?_
    refine Cp.icmp_le X 36 dX5_tell_26 (by decide) (fun c_26 => ?_) (fun c_26 => ?_)
    · refine Cp.aload_n (i := 0) X dX5_tell_36 rfl rfl ?_
      refine gfX5_29 X 31 sc_0 rfl dX5_tell_37 ?_
      refine Cp.aload_n (i := 0) X dX5_tell_40 rfl rfl ?_
      refine gfX5_10 X 1 sc_0 rfl dX5_tell_41 ?_
      refine Cp.iload_n (i := 1) X dX5_tell_44 rfl rfl ?_
      refine Cp.cVIM [] X [.ref (wad w 1), .int x1] cvX4_perform (kX4_perform X.ok 1 isRm_1 x1 σ) sc_31 rfl rfl wmX5_167 rfl rfl dX5_tell_45 rfl (Nat.le_of_ble_eq_true rfl) (fun v_45 s_45 => ?_)
      exact Cp.iret X dX5_tell_48 rfl
    · refine Cp.aload_n (i := 0) X dX5_tell_29 rfl rfl ?_
      refine Cp.ldc (v := (-1000005)) X wcX5_166 dX5_tell_30 ?_
      refine Cp.cVIM [] X [.int (-1000005)] cvX5_found (kX5_found X.ok (-1000005) σ) sc_0 rfl rfl wmX5_59 rfl rfl dX5_tell_32 rfl (Nat.le_of_ble_eq_true rfl) (fun v_32 s_32 => ?_)
      exact Cp.iret X dX5_tell_35 rfl
  · refine Cp.aload_n (i := 0) X dX5_tell_8 rfl rfl ?_
    refine Cp.ldc (v := (-1000001)) X wcX5_58 dX5_tell_9 ?_
    refine Cp.cVIM [] X [.int (-1000001)] cvX5_found (kX5_found X.ok (-1000001) σ) sc_0 rfl rfl wmX5_59 rfl rfl dX5_tell_11 rfl (Nat.le_of_ble_eq_true rfl) (fun v_11 s_11 => ?_)
    exact Cp.iret X dX5_tell_14 rfl
theorem kX5_tell {l : Launch} {w : WE} (hok : OkW w shC)   (x1 : Int32) (σ : Mem) : ∀ v, fX5_tell x1 σ = some v → Ctr l w shC yX5_tell cX5_tell 2 (some .int) 5 [.ref (wad w 0), .int x1] σ (iIM v) := fun v hv => Ctr.of [some (.ref (wad w 0)), some (.int x1)] (by decide) hok rfl (Nat.le_of_ble_eq_true rfl) (fun M _ X => pX5_tell X   x1 σ v hv)
def fX5_evening (x1 : Int32) (x2 : Int32) (σ : Mem) : Option (Int32 × Mem) :=
  (if fX5_hasJoke x1 σ = true then (if fX5_within x2 1 60 = true then (if ((σ 1 13) + x2) ≤ 99999 then (bnd2 (fX4_performOften 1 x1 x2 σ) fun v_56 s_56 => (some (v_56, s_56))) else (bnd2 (fX5_found (-1000005) σ) fun v_42 s_42 => (some (v_42, s_42)))) else (bnd2 (fX5_found (-1000001) σ) fun v_21 s_21 => (some (v_21, s_21)))) else (bnd2 (fX5_found (-1000001) σ) fun v_21 s_21 => (some (v_21, s_21))))
set_option maxRecDepth 20000 in
theorem pX5_evening {M : MC} {w : WE} (X : Cx M w shC cX5_evening 3 RX5 (some .int) 6)   (x1 : Int32) (x2 : Int32) (σ : Mem) : Cp M w shC 3 iIM 0 [some (.ref (wad w 0)), some (.int x1), some (.int x2)] [] σ (fX5_evening x1 x2 σ) := by
  unfold fX5_evening
  refine Cp.aload_n (i := 0) X dX5_evening_0 rfl rfl ?_
  refine Cp.iload_n (i := 1) X dX5_evening_1 rfl rfl ?_
  refine Cp.cVBT [] X [.int x1] cvX5_hasJoke (kX5_hasJoke X.ok x1 σ) sc_0 rfl rfl wmX5_129 rfl rfl dX5_evening_2 rfl (Nat.le_of_ble_eq_true rfl) ?_
  refine Cp.if_eqB X 18 dX5_evening_5 (by decide) (fun c_5 => ?_) (fun c_5 => ?_)
  · refine Cp.aload_n (i := 0) X dX5_evening_18 rfl rfl ?_
    refine Cp.ldc (v := (-1000001)) X wcX5_58 dX5_evening_19 ?_
    refine Cp.cVIM [] X [.int (-1000001)] cvX5_found (kX5_found X.ok (-1000001) σ) sc_0 rfl rfl wmX5_59 rfl rfl dX5_evening_21 rfl (Nat.le_of_ble_eq_true rfl) (fun v_21 s_21 => ?_)
    exact Cp.iret X dX5_evening_24 rfl
  · refine Cp.iload_n (i := 2) X dX5_evening_8 rfl rfl ?_
    refine Cp.iconst (v := 1) X dX5_evening_9 rfl ?_
    refine Cp.bipush (v := 60) X dX5_evening_10 rfl ?_
    refine Cp.cSBT [] X [.int x2, .int 1, .int 60] csX5_within (kX5_within X.ok x2 1 60 σ) wmX5_132 rfl rfl dX5_evening_12 rfl (Nat.le_of_ble_eq_true rfl) ?_
    refine Cp.if_neB X 25 dX5_evening_15 (by decide) (fun c_15 => ?_) (fun c_15 => ?_)
    · refine Cp.aload_n (i := 0) X dX5_evening_25 rfl rfl ?_
      refine gfX5_10 X 1 sc_0 rfl dX5_evening_26 ?_
      refine gfX5_162 X sc_1 rfl dX5_evening_29 ?_
      refine Cp.iload_n (i := 2) X dX5_evening_32 rfl rfl ?_
      refine Cp.iadd X dX5_evening_33 ?_
      refine Cp.ldc (v := 99999) X wcX5_165 dX5_evening_34 ?_
      refine Cp.icmp_le X 46 dX5_evening_36 (by decide) (fun c_36 => ?_) (fun c_36 => ?_)
      · refine Cp.aload_n (i := 0) X dX5_evening_46 rfl rfl ?_
        refine gfX5_29 X 31 sc_0 rfl dX5_evening_47 ?_
        refine Cp.aload_n (i := 0) X dX5_evening_50 rfl rfl ?_
        refine gfX5_10 X 1 sc_0 rfl dX5_evening_51 ?_
        refine Cp.iload_n (i := 1) X dX5_evening_54 rfl rfl ?_
        refine Cp.iload_n (i := 2) X dX5_evening_55 rfl rfl ?_
        refine Cp.cVIM [] X [.ref (wad w 1), .int x1, .int x2] cvX4_performOften (kX4_performOften X.ok 1 isRm_1 x1 x2 σ) sc_31 rfl rfl wmX5_171 rfl rfl dX5_evening_56 rfl (Nat.le_of_ble_eq_true rfl) (fun v_56 s_56 => ?_)
        exact Cp.iret X dX5_evening_59 rfl
      · refine Cp.aload_n (i := 0) X dX5_evening_39 rfl rfl ?_
        refine Cp.ldc (v := (-1000005)) X wcX5_166 dX5_evening_40 ?_
        refine Cp.cVIM [] X [.int (-1000005)] cvX5_found (kX5_found X.ok (-1000005) σ) sc_0 rfl rfl wmX5_59 rfl rfl dX5_evening_42 rfl (Nat.le_of_ble_eq_true rfl) (fun v_42 s_42 => ?_)
        exact Cp.iret X dX5_evening_45 rfl
    · refine Cp.aload_n (i := 0) X dX5_evening_18 rfl rfl ?_
      refine Cp.ldc (v := (-1000001)) X wcX5_58 dX5_evening_19 ?_
      refine Cp.cVIM [] X [.int (-1000001)] cvX5_found (kX5_found X.ok (-1000001) σ) sc_0 rfl rfl wmX5_59 rfl rfl dX5_evening_21 rfl (Nat.le_of_ble_eq_true rfl) (fun v_21 s_21 => ?_)
      exact Cp.iret X dX5_evening_24 rfl
theorem kX5_evening {l : Launch} {w : WE} (hok : OkW w shC)   (x1 : Int32) (x2 : Int32) (σ : Mem) : ∀ v, fX5_evening x1 x2 σ = some v → Ctr l w shC yX5_evening cX5_evening 3 (some .int) 6 [.ref (wad w 0), .int x1, .int x2] σ (iIM v) := fun v hv => Ctr.of [some (.ref (wad w 0)), some (.int x1), some (.int x2)] (by decide) hok rfl (Nat.le_of_ble_eq_true rfl) (fun M _ X => pX5_evening X   x1 x2 σ v hv)
def fX5_now (x1 : Int32) (σ : Mem) : Option (Int32 × Mem) :=
  (if x1 = 0 then (some (σ 1 13, σ)) else (if x1 = 1 then (some (σ 1 12, σ)) else (if x1 = 2 then ((fX1_together 1 6 σ).bind fun v_67 => (some (v_67, σ))) else (if x1 = 3 then ((fX1_together 1 5 σ).bind fun v_82 => (some (v_82, σ))) else (if x1 = 4 then (some (σ 1 10, σ)) else (if x1 = 5 then (some (σ 1 11, σ)) else (bnd2 (fX5_found (-1000001) σ) fun v_105 s_105 => (some (v_105, s_105)))))))))
set_option maxRecDepth 20000 in
theorem pX5_now {M : MC} {w : WE} (X : Cx M w shC cX5_now 2 RX5 (some .int) 2)   (x1 : Int32) (σ : Mem) : Cp M w shC 2 iIM 0 [some (.ref (wad w 0)), some (.int x1)] [] σ (fX5_now x1 σ) := by
  unfold fX5_now
  refine Cp.iload_n (i := 1) X dX5_now_0 rfl rfl ?_
  refine Cp.ite (fun c_1 => ?_) (fun n_1_0 => ?_)
  · refine Cp.tswI X 0 40 c_1 dX5_now_1 (by decide) (by decide) rfl (by decide) ?_
    refine Cp.aload_n (i := 0) X dX5_now_40 rfl rfl ?_
    refine gfX5_10 X 1 sc_0 rfl dX5_now_41 ?_
    refine gfX5_162 X sc_1 rfl dX5_now_44 ?_
    exact Cp.iret X dX5_now_47 rfl
  refine Cp.ite (fun c_1 => ?_) (fun n_1_1 => ?_)
  · refine Cp.tswI X 1 48 c_1 dX5_now_1 (by decide) (by decide) rfl (by decide) ?_
    refine Cp.aload_n (i := 0) X dX5_now_48 rfl rfl ?_
    refine gfX5_10 X 1 sc_0 rfl dX5_now_49 ?_
    refine gfX5_175 X sc_1 rfl dX5_now_52 ?_
    exact Cp.iret X dX5_now_55 rfl
  refine Cp.ite (fun c_1 => ?_) (fun n_1_2 => ?_)
  · refine Cp.tswI X 2 56 c_1 dX5_now_1 (by decide) (by decide) rfl (by decide) ?_
    refine Cp.aload_n (i := 0) X dX5_now_56 rfl rfl ?_
    refine gfX5_10 X 1 sc_0 rfl dX5_now_57 ?_
    refine Cp.aload_n (i := 0) X dX5_now_60 rfl rfl ?_
    refine gfX5_10 X 1 sc_0 rfl dX5_now_61 ?_
    refine gfX5_87 X 6 sc_1 rfl dX5_now_64 ?_
    refine Cp.cVI [] X [.ref (wad w 6)] cvX1_together (kX1_together X.ok 1 6 isRm_1 sc_6 σ) sc_1 rfl rfl wmX5_178 rfl rfl dX5_now_67 rfl (Nat.le_of_ble_eq_true rfl) (fun v_67 => ?_)
    exact Cp.iret X dX5_now_70 rfl
  refine Cp.ite (fun c_1 => ?_) (fun n_1_3 => ?_)
  · refine Cp.tswI X 3 71 c_1 dX5_now_1 (by decide) (by decide) rfl (by decide) ?_
    refine Cp.aload_n (i := 0) X dX5_now_71 rfl rfl ?_
    refine gfX5_10 X 1 sc_0 rfl dX5_now_72 ?_
    refine Cp.aload_n (i := 0) X dX5_now_75 rfl rfl ?_
    refine gfX5_10 X 1 sc_0 rfl dX5_now_76 ?_
    refine gfX5_84 X 5 sc_1 rfl dX5_now_79 ?_
    refine Cp.cVI [] X [.ref (wad w 5)] cvX1_together (kX1_together X.ok 1 5 isRm_1 sc_5 σ) sc_1 rfl rfl wmX5_178 rfl rfl dX5_now_82 rfl (Nat.le_of_ble_eq_true rfl) (fun v_82 => ?_)
    exact Cp.iret X dX5_now_85 rfl
  refine Cp.ite (fun c_1 => ?_) (fun n_1_4 => ?_)
  · refine Cp.tswI X 4 86 c_1 dX5_now_1 (by decide) (by decide) rfl (by decide) ?_
    refine Cp.aload_n (i := 0) X dX5_now_86 rfl rfl ?_
    refine gfX5_10 X 1 sc_0 rfl dX5_now_87 ?_
    refine gfX5_142 X sc_1 rfl dX5_now_90 ?_
    exact Cp.iret X dX5_now_93 rfl
  refine Cp.ite (fun c_1 => ?_) (fun n_1_5 => ?_)
  · refine Cp.tswI X 5 94 c_1 dX5_now_1 (by decide) (by decide) rfl (by decide) ?_
    refine Cp.aload_n (i := 0) X dX5_now_94 rfl rfl ?_
    refine gfX5_10 X 1 sc_0 rfl dX5_now_95 ?_
    refine gfX5_145 X sc_1 rfl dX5_now_98 ?_
    exact Cp.iret X dX5_now_101 rfl
  have m_1_0 := lv_neT (a := 0) n_1_0 (by decide)
  have m_1_1 := lv_neT (a := 1) n_1_1 (by decide)
  have m_1_2 := lv_neT (a := 2) n_1_2 (by decide)
  have m_1_3 := lv_neT (a := 3) n_1_3 (by decide)
  have m_1_4 := lv_neT (a := 4) n_1_4 (by decide)
  have m_1_5 := lv_neT (a := 5) n_1_5 (by decide)
  refine Cp.tswD X 102 (by omega) dX5_now_1 (by decide) ?_
  refine Cp.aload_n (i := 0) X dX5_now_102 rfl rfl ?_
  refine Cp.ldc (v := (-1000001)) X wcX5_58 dX5_now_103 ?_
  refine Cp.cVIM [] X [.int (-1000001)] cvX5_found (kX5_found X.ok (-1000001) σ) sc_0 rfl rfl wmX5_59 rfl rfl dX5_now_105 rfl (Nat.le_of_ble_eq_true rfl) (fun v_105 s_105 => ?_)
  exact Cp.iret X dX5_now_108 rfl
theorem kX5_now {l : Launch} {w : WE} (hok : OkW w shC)   (x1 : Int32) (σ : Mem) : ∀ v, fX5_now x1 σ = some v → Ctr l w shC yX5_now cX5_now 2 (some .int) 2 [.ref (wad w 0), .int x1] σ (iIM v) := fun v hv => Ctr.of [some (.ref (wad w 0)), some (.int x1)] (by decide) hok rfl (Nat.le_of_ble_eq_true rfl) (fun M _ X => pX5_now X   x1 σ v hv)
def fX5_relief_49 (x2 : Int32) (k49 : Int32 → Mem → Option (Int32 × Mem)) (x3 : Int32) (σ : Mem) : Option (Int32 × Mem) :=
  (if x2 ≤ x3 then (some (x2, σ)) else ((fX1_poorest 1 σ).bind fun v_58 => (gd (inB v_58 8 = true) (if (σ 6 v_58.toNatClampNeg) < 9999 then (gd (inB v_58 8 = true) (gd (inB v_58 8 = true) (pb (up2 σ 6 v_58.toNatClampNeg ((σ 6 v_58.toNatClampNeg) + 1) : Mem) fun s_94 => (pb (up2 s_94 1 12 ((s_94 1 12) - 1) : Mem) fun s_105 => (k49 (x3 + 1) s_105))))) else (some (x3, σ))))))
def fX5_relief (x1 : Int32) (σ : Mem) : Option (Int32 × Mem) :=
  (if fX5_within x1 0 9999 = true then (if (σ 1 0) = 0 then (bnd2 (fX5_found (-1000004) σ) fun v_31 s_31 => (some (v_31, s_31))) else (pb (iMin x1 (σ 1 12) : Int32) fun x2_46 => (lw2 (fX5_relief_49 x2_46) FU 0 σ))) else (bnd2 (fX5_found (-1000001) σ) fun v_14 s_14 => (some (v_14, s_14))))
set_option maxRecDepth 20000 in
theorem pX5_relief_49 {M : MC} {w : WE} (X : Cx M w shC cX5_relief 5 RX5 (some .int) 2)   (x2 : Int32)    : ∀ (n : Nat) (x3 : Int32) (σ : Mem), Cp M w shC 5 iIM 49 [some (.ref (wad w 0)), none, some (.int x2), some (.int x3), none] [] σ (lw2 (fX5_relief_49 x2) n x3 σ) :=
  lw2_i (P := fun x3 σ b => Cp M w shC 5 iIM 49 [some (.ref (wad w 0)), none, some (.int x2), some (.int x3), none] [] σ b) (fun _ _ => Cp.non) (fun k49 hk49 x3 σ => by
  unfold fX5_relief_49
  refine Cp.iload_n (i := 3) X dX5_relief_49 rfl rfl ?_
  refine Cp.iload_n (i := 2) X dX5_relief_50 rfl rfl ?_
  refine Cp.icmp_ge X 114 dX5_relief_51 (by decide) (fun c_51 => ?_) (fun c_51 => ?_)
  · refine Cp.iload_n (i := 2) X dX5_relief_114 rfl rfl ?_
    exact Cp.iret X dX5_relief_115 rfl
  · refine Cp.aload_n (i := 0) X dX5_relief_54 rfl rfl ?_
    refine gfX5_10 X 1 sc_0 rfl dX5_relief_55 ?_
    refine Cp.cVI [] X [] cvX1_poorest (kX1_poorest X.ok 1 isRm_1 σ) sc_1 rfl rfl wmX5_188 rfl rfl dX5_relief_58 rfl (Nat.le_of_ble_eq_true rfl) (fun v_58 => ?_)
    refine Cp.istore X dX5_relief_61 (Nat.le_of_ble_eq_true rfl) rfl ?_
    refine Cp.aload_n (i := 0) X dX5_relief_63 rfl rfl ?_
    refine gfX5_10 X 1 sc_0 rfl dX5_relief_64 ?_
    refine gfX5_87 X 6 sc_1 rfl dX5_relief_67 ?_
    refine Cp.iload X dX5_relief_70 rfl ?_
    refine Cp.iald X sc_6 dX5_relief_72 ?_
    refine Cp.sipush (v := 9999) X dX5_relief_73 rfl ?_
    refine Cp.icmp_lt X 81 dX5_relief_76 (by decide) (fun c_76 => ?_) (fun c_76 => ?_)
    · refine Cp.aload_n (i := 0) X dX5_relief_81 rfl rfl ?_
      refine gfX5_10 X 1 sc_0 rfl dX5_relief_82 ?_
      refine gfX5_87 X 6 sc_1 rfl dX5_relief_85 ?_
      refine Cp.iload X dX5_relief_88 rfl ?_
      refine Cp.dup2 X dX5_relief_90 rfl rfl ?_
      refine Cp.iald X sc_6 dX5_relief_91 ?_
      refine Cp.iconst (v := 1) X dX5_relief_92 rfl ?_
      refine Cp.iadd X dX5_relief_93 ?_
      refine Cp.iast X sc_6 dX5_relief_94 ?_
      refine Cp.nameM (fun s_94 => ?_)
      refine Cp.aload_n (i := 0) X dX5_relief_95 rfl rfl ?_
      refine gfX5_10 X 1 sc_0 rfl dX5_relief_96 ?_
      refine Cp.dup X dX5_relief_99 rfl ?_
      refine gfX5_175 X sc_1 rfl dX5_relief_100 ?_
      refine Cp.iconst (v := 1) X dX5_relief_103 rfl ?_
      refine Cp.isub X dX5_relief_104 ?_
      refine pfX5_175 X sc_1 rfl dX5_relief_105 ?_
      refine Cp.nameM (fun s_105 => ?_)
      refine Cp.iinc (v := x3 + 1) X dX5_relief_108 rfl rfl (Nat.le_of_ble_eq_true rfl) rfl ?_
      refine Cp.goto X 49 dX5_relief_111 (by decide) ?_
      refine Cp.mask [true, false, true, true, false] ?_
      exact hk49 (x3 + 1) s_105
    · refine Cp.iload_n (i := 3) X dX5_relief_79 rfl rfl ?_
      exact Cp.iret X dX5_relief_80 rfl)
set_option maxRecDepth 20000 in
theorem pX5_relief {M : MC} {w : WE} (X : Cx M w shC cX5_relief 5 RX5 (some .int) 2)   (x1 : Int32) (σ : Mem) : Cp M w shC 5 iIM 0 [some (.ref (wad w 0)), some (.int x1), none, none, none] [] σ (fX5_relief x1 σ) := by
  unfold fX5_relief
  refine Cp.iload_n (i := 1) X dX5_relief_0 rfl rfl ?_
  refine Cp.iconst (v := 0) X dX5_relief_1 rfl ?_
  refine Cp.sipush (v := 9999) X dX5_relief_2 rfl ?_
  refine Cp.cSBT [] X [.int x1, .int 0, .int 9999] csX5_within (kX5_within X.ok x1 0 9999 σ) wmX5_132 rfl rfl dX5_relief_5 rfl (Nat.le_of_ble_eq_true rfl) ?_
  refine Cp.if_neB X 18 dX5_relief_8 (by decide) (fun c_8 => ?_) (fun c_8 => ?_)
  · refine Cp.aload_n (i := 0) X dX5_relief_18 rfl rfl ?_
    refine gfX5_10 X 1 sc_0 rfl dX5_relief_19 ?_
    refine gfX5_63 X sc_1 rfl dX5_relief_22 ?_
    refine Cp.if_ne X 35 dX5_relief_25 (by decide) (fun c_25 => ?_) (fun c_25 => ?_)
    · refine Cp.iload_n (i := 1) X dX5_relief_35 rfl rfl ?_
      refine Cp.aload_n (i := 0) X dX5_relief_36 rfl rfl ?_
      refine gfX5_10 X 1 sc_0 rfl dX5_relief_37 ?_
      refine gfX5_175 X sc_1 rfl dX5_relief_40 ?_
      refine Cp.mmin X wqX5_183 (by decide) dX5_relief_43 (Nat.le_of_ble_eq_true rfl) ?_
      refine Cp.nameI (fun x2_46 => ?_)
      refine Cp.istore_n (i := 2) X dX5_relief_46 rfl (Nat.le_of_ble_eq_true rfl) rfl ?_
      refine Cp.iconst (v := 0) X dX5_relief_47 rfl ?_
      refine Cp.istore_n (i := 3) X dX5_relief_48 rfl (Nat.le_of_ble_eq_true rfl) rfl ?_
      refine Cp.mask [true, false, true, true, false] ?_
      exact pX5_relief_49 X x2_46 FU 0 σ
    · refine Cp.aload_n (i := 0) X dX5_relief_28 rfl rfl ?_
      refine Cp.ldc (v := (-1000004)) X wcX5_182 dX5_relief_29 ?_
      refine Cp.cVIM [] X [.int (-1000004)] cvX5_found (kX5_found X.ok (-1000004) σ) sc_0 rfl rfl wmX5_59 rfl rfl dX5_relief_31 rfl (Nat.le_of_ble_eq_true rfl) (fun v_31 s_31 => ?_)
      exact Cp.iret X dX5_relief_34 rfl
  · refine Cp.aload_n (i := 0) X dX5_relief_11 rfl rfl ?_
    refine Cp.ldc (v := (-1000001)) X wcX5_58 dX5_relief_12 ?_
    refine Cp.cVIM [] X [.int (-1000001)] cvX5_found (kX5_found X.ok (-1000001) σ) sc_0 rfl rfl wmX5_59 rfl rfl dX5_relief_14 rfl (Nat.le_of_ble_eq_true rfl) (fun v_14 s_14 => ?_)
    exact Cp.iret X dX5_relief_17 rfl
theorem kX5_relief {l : Launch} {w : WE} (hok : OkW w shC)   (x1 : Int32) (σ : Mem) : ∀ v, fX5_relief x1 σ = some v → Ctr l w shC yX5_relief cX5_relief 5 (some .int) 2 [.ref (wad w 0), .int x1] σ (iIM v) := fun v hv => Ctr.of [some (.ref (wad w 0)), some (.int x1), none, none, none] (by decide) hok rfl (Nat.le_of_ble_eq_true rfl) (fun M _ X => pX5_relief X   x1 σ v hv)
def fX5_laugh (x1 : Int32) (x2 : Int32) (σ : Mem) : Option (Int32 × Mem) :=
  (if fX5_hasJoke x1 σ = true then (if fX5_within x2 0 1 = true then (if x2 = 0 then (gd (inB x1 8 = true) (gd (inB x1 8 = true) ((fX4_startersOf 1 (σ 8 x1.toNatClampNeg) (σ 9 x1.toNatClampNeg) σ).bind fun v_54 => (some (v_54, σ))))) else (bnd2 (fX4_laughersOf 1 x1 σ) fun v_67 s_67 => (some (v_67, s_67)))) else (bnd2 (fX5_found (-1000001) σ) fun v_20 s_20 => (some (v_20, s_20)))) else (bnd2 (fX5_found (-1000001) σ) fun v_20 s_20 => (some (v_20, s_20))))
set_option maxRecDepth 20000 in
theorem pX5_laugh {M : MC} {w : WE} (X : Cx M w shC cX5_laugh 3 RX5 (some .int) 4)   (x1 : Int32) (x2 : Int32) (σ : Mem) : Cp M w shC 3 iIM 0 [some (.ref (wad w 0)), some (.int x1), some (.int x2)] [] σ (fX5_laugh x1 x2 σ) := by
  unfold fX5_laugh
  refine Cp.aload_n (i := 0) X dX5_laugh_0 rfl rfl ?_
  refine Cp.iload_n (i := 1) X dX5_laugh_1 rfl rfl ?_
  refine Cp.cVBT [] X [.int x1] cvX5_hasJoke (kX5_hasJoke X.ok x1 σ) sc_0 rfl rfl wmX5_129 rfl rfl dX5_laugh_2 rfl (Nat.le_of_ble_eq_true rfl) ?_
  refine Cp.if_eqB X 17 dX5_laugh_5 (by decide) (fun c_5 => ?_) (fun c_5 => ?_)
  · refine Cp.aload_n (i := 0) X dX5_laugh_17 rfl rfl ?_
    refine Cp.ldc (v := (-1000001)) X wcX5_58 dX5_laugh_18 ?_
    refine Cp.cVIM [] X [.int (-1000001)] cvX5_found (kX5_found X.ok (-1000001) σ) sc_0 rfl rfl wmX5_59 rfl rfl dX5_laugh_20 rfl (Nat.le_of_ble_eq_true rfl) (fun v_20 s_20 => ?_)
    exact Cp.iret X dX5_laugh_23 rfl
  · refine Cp.iload_n (i := 2) X dX5_laugh_8 rfl rfl ?_
    refine Cp.iconst (v := 0) X dX5_laugh_9 rfl ?_
    refine Cp.iconst (v := 1) X dX5_laugh_10 rfl ?_
    refine Cp.cSBT [] X [.int x2, .int 0, .int 1] csX5_within (kX5_within X.ok x2 0 1 σ) wmX5_132 rfl rfl dX5_laugh_11 rfl (Nat.le_of_ble_eq_true rfl) ?_
    refine Cp.if_neB X 24 dX5_laugh_14 (by decide) (fun c_14 => ?_) (fun c_14 => ?_)
    · refine Cp.iload_n (i := 2) X dX5_laugh_24 rfl rfl ?_
      refine Cp.if_ne X 58 dX5_laugh_25 (by decide) (fun c_25 => ?_) (fun c_25 => ?_)
      · refine Cp.aload_n (i := 0) X dX5_laugh_58 rfl rfl ?_
        refine gfX5_29 X 31 sc_0 rfl dX5_laugh_59 ?_
        refine Cp.aload_n (i := 0) X dX5_laugh_62 rfl rfl ?_
        refine gfX5_10 X 1 sc_0 rfl dX5_laugh_63 ?_
        refine Cp.iload_n (i := 1) X dX5_laugh_66 rfl rfl ?_
        refine Cp.cVIM [] X [.ref (wad w 1), .int x1] cvX4_laughersOf (kX4_laughersOf X.ok 1 isRm_1 x1 σ) sc_31 rfl rfl wmX5_195 rfl rfl dX5_laugh_67 rfl (Nat.le_of_ble_eq_true rfl) (fun v_67 s_67 => ?_)
        exact Cp.iret X dX5_laugh_70 rfl
      · refine Cp.aload_n (i := 0) X dX5_laugh_28 rfl rfl ?_
        refine gfX5_29 X 31 sc_0 rfl dX5_laugh_29 ?_
        refine Cp.aload_n (i := 0) X dX5_laugh_32 rfl rfl ?_
        refine gfX5_10 X 1 sc_0 rfl dX5_laugh_33 ?_
        refine Cp.aload_n (i := 0) X dX5_laugh_36 rfl rfl ?_
        refine gfX5_10 X 1 sc_0 rfl dX5_laugh_37 ?_
        refine gfX5_136 X 8 sc_1 rfl dX5_laugh_40 ?_
        refine Cp.iload_n (i := 1) X dX5_laugh_43 rfl rfl ?_
        refine Cp.iald X sc_8 dX5_laugh_44 ?_
        refine Cp.aload_n (i := 0) X dX5_laugh_45 rfl rfl ?_
        refine gfX5_10 X 1 sc_0 rfl dX5_laugh_46 ?_
        refine gfX5_139 X 9 sc_1 rfl dX5_laugh_49 ?_
        refine Cp.iload_n (i := 1) X dX5_laugh_52 rfl rfl ?_
        refine Cp.iald X sc_9 dX5_laugh_53 ?_
        refine Cp.cVI [] X [.ref (wad w 1), .int (σ 8 x1.toNatClampNeg), .int (σ 9 x1.toNatClampNeg)] cvX4_startersOf (kX4_startersOf X.ok 1 isRm_1 (σ 8 x1.toNatClampNeg) (σ 9 x1.toNatClampNeg) σ) sc_31 rfl rfl wmX5_192 rfl rfl dX5_laugh_54 rfl (Nat.le_of_ble_eq_true rfl) (fun v_54 => ?_)
        exact Cp.iret X dX5_laugh_57 rfl
    · refine Cp.aload_n (i := 0) X dX5_laugh_17 rfl rfl ?_
      refine Cp.ldc (v := (-1000001)) X wcX5_58 dX5_laugh_18 ?_
      refine Cp.cVIM [] X [.int (-1000001)] cvX5_found (kX5_found X.ok (-1000001) σ) sc_0 rfl rfl wmX5_59 rfl rfl dX5_laugh_20 rfl (Nat.le_of_ble_eq_true rfl) (fun v_20 s_20 => ?_)
      exact Cp.iret X dX5_laugh_23 rfl
theorem kX5_laugh {l : Launch} {w : WE} (hok : OkW w shC)   (x1 : Int32) (x2 : Int32) (σ : Mem) : ∀ v, fX5_laugh x1 x2 σ = some v → Ctr l w shC yX5_laugh cX5_laugh 3 (some .int) 4 [.ref (wad w 0), .int x1, .int x2] σ (iIM v) := fun v hv => Ctr.of [some (.ref (wad w 0)), some (.int x1), some (.int x2)] (by decide) hok rfl (Nat.le_of_ble_eq_true rfl) (fun M _ X => pX5_laugh X   x1 x2 σ v hv)
def fX5_rounds (x1 : Int32) (σ : Mem) : Option (Int32 × Mem) :=
  (if fX5_hasJoke x1 σ = true then (bnd2 (fX4_laughersOf 1 x1 σ) fun v_24 s_24 => (some (s_24 31 2, s_24))) else (bnd2 (fX5_found (-1000001) σ) fun v_11 s_11 => (some (v_11, s_11))))
set_option maxRecDepth 20000 in
theorem pX5_rounds {M : MC} {w : WE} (X : Cx M w shC cX5_rounds 2 RX5 (some .int) 4)   (x1 : Int32) (σ : Mem) : Cp M w shC 2 iIM 0 [some (.ref (wad w 0)), some (.int x1)] [] σ (fX5_rounds x1 σ) := by
  unfold fX5_rounds
  refine Cp.aload_n (i := 0) X dX5_rounds_0 rfl rfl ?_
  refine Cp.iload_n (i := 1) X dX5_rounds_1 rfl rfl ?_
  refine Cp.cVBT [] X [.int x1] cvX5_hasJoke (kX5_hasJoke X.ok x1 σ) sc_0 rfl rfl wmX5_129 rfl rfl dX5_rounds_2 rfl (Nat.le_of_ble_eq_true rfl) ?_
  refine Cp.if_neB X 15 dX5_rounds_5 (by decide) (fun c_5 => ?_) (fun c_5 => ?_)
  · refine Cp.aload_n (i := 0) X dX5_rounds_15 rfl rfl ?_
    refine gfX5_29 X 31 sc_0 rfl dX5_rounds_16 ?_
    refine Cp.aload_n (i := 0) X dX5_rounds_19 rfl rfl ?_
    refine gfX5_10 X 1 sc_0 rfl dX5_rounds_20 ?_
    refine Cp.iload_n (i := 1) X dX5_rounds_23 rfl rfl ?_
    refine Cp.cVIM [] X [.ref (wad w 1), .int x1] cvX4_laughersOf (kX4_laughersOf X.ok 1 isRm_1 x1 σ) sc_31 rfl rfl wmX5_195 rfl rfl dX5_rounds_24 rfl (Nat.le_of_ble_eq_true rfl) (fun v_24 s_24 => ?_)
    refine Cp.pop X dX5_rounds_27 rfl ?_
    refine Cp.aload_n (i := 0) X dX5_rounds_28 rfl rfl ?_
    refine gfX5_29 X 31 sc_0 rfl dX5_rounds_29 ?_
    refine gfX5_198 X sc_31 rfl dX5_rounds_32 ?_
    exact Cp.iret X dX5_rounds_35 rfl
  · refine Cp.aload_n (i := 0) X dX5_rounds_8 rfl rfl ?_
    refine Cp.ldc (v := (-1000001)) X wcX5_58 dX5_rounds_9 ?_
    refine Cp.cVIM [] X [.int (-1000001)] cvX5_found (kX5_found X.ok (-1000001) σ) sc_0 rfl rfl wmX5_59 rfl rfl dX5_rounds_11 rfl (Nat.le_of_ble_eq_true rfl) (fun v_11 s_11 => ?_)
    exact Cp.iret X dX5_rounds_14 rfl
theorem kX5_rounds {l : Launch} {w : WE} (hok : OkW w shC)   (x1 : Int32) (σ : Mem) : ∀ v, fX5_rounds x1 σ = some v → Ctr l w shC yX5_rounds cX5_rounds 2 (some .int) 4 [.ref (wad w 0), .int x1] σ (iIM v) := fun v hv => Ctr.of [some (.ref (wad w 0)), some (.int x1)] (by decide) hok rfl (Nat.le_of_ble_eq_true rfl) (fun M _ X => pX5_rounds X   x1 σ v hv)
def fX5_raised (x1 : Int32) (σ : Mem) : Option (Int32 × Mem) :=
  (if fX5_hasJoke x1 σ = true then ((fX1_takeOver 11 1 σ).bind fun s_23 => (bnd2 (fX4_perform 11 x1 s_23) fun v_35 s_35 => ((fX1_together 11 33 s_35).bind fun v_50 => (some (v_50, s_35))))) else (bnd2 (fX5_found (-1000001) σ) fun v_11 s_11 => (some (v_11, s_11))))
set_option maxRecDepth 20000 in
theorem pX5_raised {M : MC} {w : WE} (X : Cx M w shC cX5_raised 2 RX5 (some .int) 5)   (x1 : Int32) (σ : Mem) : Cp M w shC 2 iIM 0 [some (.ref (wad w 0)), some (.int x1)] [] σ (fX5_raised x1 σ) := by
  unfold fX5_raised
  refine Cp.aload_n (i := 0) X dX5_raised_0 rfl rfl ?_
  refine Cp.iload_n (i := 1) X dX5_raised_1 rfl rfl ?_
  refine Cp.cVBT [] X [.int x1] cvX5_hasJoke (kX5_hasJoke X.ok x1 σ) sc_0 rfl rfl wmX5_129 rfl rfl dX5_raised_2 rfl (Nat.le_of_ble_eq_true rfl) ?_
  refine Cp.if_neB X 15 dX5_raised_5 (by decide) (fun c_5 => ?_) (fun c_5 => ?_)
  · refine Cp.aload_n (i := 0) X dX5_raised_15 rfl rfl ?_
    refine gfX5_16 X 11 sc_0 rfl dX5_raised_16 ?_
    refine Cp.aload_n (i := 0) X dX5_raised_19 rfl rfl ?_
    refine gfX5_10 X 1 sc_0 rfl dX5_raised_20 ?_
    refine Cp.cVV [] X [.ref (wad w 1)] cvX1_takeOver (kX1_takeOver X.ok 11 1 isRm_11 isRm_1 σ) sc_11 rfl rfl wmX5_201 rfl rfl dX5_raised_23 rfl (Nat.le_of_ble_eq_true rfl) (fun s_23 => ?_)
    refine Cp.aload_n (i := 0) X dX5_raised_26 rfl rfl ?_
    refine gfX5_29 X 31 sc_0 rfl dX5_raised_27 ?_
    refine Cp.aload_n (i := 0) X dX5_raised_30 rfl rfl ?_
    refine gfX5_16 X 11 sc_0 rfl dX5_raised_31 ?_
    refine Cp.iload_n (i := 1) X dX5_raised_34 rfl rfl ?_
    refine Cp.cVIM [] X [.ref (wad w 11), .int x1] cvX4_perform (kX4_perform X.ok 11 isRm_11 x1 s_23) sc_31 rfl rfl wmX5_167 rfl rfl dX5_raised_35 rfl (Nat.le_of_ble_eq_true rfl) (fun v_35 s_35 => ?_)
    refine Cp.pop X dX5_raised_38 rfl ?_
    refine Cp.aload_n (i := 0) X dX5_raised_39 rfl rfl ?_
    refine gfX5_16 X 11 sc_0 rfl dX5_raised_40 ?_
    refine Cp.aload_n (i := 0) X dX5_raised_43 rfl rfl ?_
    refine gfX5_29 X 31 sc_0 rfl dX5_raised_44 ?_
    refine gfX5_205 X 33 sc_31 rfl dX5_raised_47 ?_
    refine Cp.cVI [] X [.ref (wad w 33)] cvX1_together (kX1_together X.ok 11 33 isRm_11 sc_33 s_35) sc_11 rfl rfl wmX5_178 rfl rfl dX5_raised_50 rfl (Nat.le_of_ble_eq_true rfl) (fun v_50 => ?_)
    exact Cp.iret X dX5_raised_53 rfl
  · refine Cp.aload_n (i := 0) X dX5_raised_8 rfl rfl ?_
    refine Cp.ldc (v := (-1000001)) X wcX5_58 dX5_raised_9 ?_
    refine Cp.cVIM [] X [.int (-1000001)] cvX5_found (kX5_found X.ok (-1000001) σ) sc_0 rfl rfl wmX5_59 rfl rfl dX5_raised_11 rfl (Nat.le_of_ble_eq_true rfl) (fun v_11 s_11 => ?_)
    exact Cp.iret X dX5_raised_14 rfl
theorem kX5_raised {l : Launch} {w : WE} (hok : OkW w shC)   (x1 : Int32) (σ : Mem) : ∀ v, fX5_raised x1 σ = some v → Ctr l w shC yX5_raised cX5_raised 2 (some .int) 5 [.ref (wad w 0), .int x1] σ (iIM v) := fun v hv => Ctr.of [some (.ref (wad w 0)), some (.int x1)] (by decide) hok rfl (Nat.le_of_ble_eq_true rfl) (fun M _ X => pX5_raised X   x1 σ v hv)
def fX5_ahead (x1 : Int32) (x2 : Int32) (σ : Mem) : Option (Int32 × Mem) :=
  (if fX5_hasJoke x1 σ = true then (if fX5_within x2 0 60 = true then ((fX1_takeOver 11 1 σ).bind fun s_33 => (bnd2 (fX4_performOften 11 x1 x2 s_33) fun v_46 s_46 => (some (v_46, s_46)))) else (bnd2 (fX5_found (-1000001) σ) fun v_21 s_21 => (some (v_21, s_21)))) else (bnd2 (fX5_found (-1000001) σ) fun v_21 s_21 => (some (v_21, s_21))))
set_option maxRecDepth 20000 in
theorem pX5_ahead {M : MC} {w : WE} (X : Cx M w shC cX5_ahead 3 RX5 (some .int) 6)   (x1 : Int32) (x2 : Int32) (σ : Mem) : Cp M w shC 3 iIM 0 [some (.ref (wad w 0)), some (.int x1), some (.int x2)] [] σ (fX5_ahead x1 x2 σ) := by
  unfold fX5_ahead
  refine Cp.aload_n (i := 0) X dX5_ahead_0 rfl rfl ?_
  refine Cp.iload_n (i := 1) X dX5_ahead_1 rfl rfl ?_
  refine Cp.cVBT [] X [.int x1] cvX5_hasJoke (kX5_hasJoke X.ok x1 σ) sc_0 rfl rfl wmX5_129 rfl rfl dX5_ahead_2 rfl (Nat.le_of_ble_eq_true rfl) ?_
  refine Cp.if_eqB X 18 dX5_ahead_5 (by decide) (fun c_5 => ?_) (fun c_5 => ?_)
  · refine Cp.aload_n (i := 0) X dX5_ahead_18 rfl rfl ?_
    refine Cp.ldc (v := (-1000001)) X wcX5_58 dX5_ahead_19 ?_
    refine Cp.cVIM [] X [.int (-1000001)] cvX5_found (kX5_found X.ok (-1000001) σ) sc_0 rfl rfl wmX5_59 rfl rfl dX5_ahead_21 rfl (Nat.le_of_ble_eq_true rfl) (fun v_21 s_21 => ?_)
    exact Cp.iret X dX5_ahead_24 rfl
  · refine Cp.iload_n (i := 2) X dX5_ahead_8 rfl rfl ?_
    refine Cp.iconst (v := 0) X dX5_ahead_9 rfl ?_
    refine Cp.bipush (v := 60) X dX5_ahead_10 rfl ?_
    refine Cp.cSBT [] X [.int x2, .int 0, .int 60] csX5_within (kX5_within X.ok x2 0 60 σ) wmX5_132 rfl rfl dX5_ahead_12 rfl (Nat.le_of_ble_eq_true rfl) ?_
    refine Cp.if_neB X 25 dX5_ahead_15 (by decide) (fun c_15 => ?_) (fun c_15 => ?_)
    · refine Cp.aload_n (i := 0) X dX5_ahead_25 rfl rfl ?_
      refine gfX5_16 X 11 sc_0 rfl dX5_ahead_26 ?_
      refine Cp.aload_n (i := 0) X dX5_ahead_29 rfl rfl ?_
      refine gfX5_10 X 1 sc_0 rfl dX5_ahead_30 ?_
      refine Cp.cVV [] X [.ref (wad w 1)] cvX1_takeOver (kX1_takeOver X.ok 11 1 isRm_11 isRm_1 σ) sc_11 rfl rfl wmX5_201 rfl rfl dX5_ahead_33 rfl (Nat.le_of_ble_eq_true rfl) (fun s_33 => ?_)
      refine Cp.aload_n (i := 0) X dX5_ahead_36 rfl rfl ?_
      refine gfX5_29 X 31 sc_0 rfl dX5_ahead_37 ?_
      refine Cp.aload_n (i := 0) X dX5_ahead_40 rfl rfl ?_
      refine gfX5_16 X 11 sc_0 rfl dX5_ahead_41 ?_
      refine Cp.iload_n (i := 1) X dX5_ahead_44 rfl rfl ?_
      refine Cp.iload_n (i := 2) X dX5_ahead_45 rfl rfl ?_
      refine Cp.cVIM [] X [.ref (wad w 11), .int x1, .int x2] cvX4_performOften (kX4_performOften X.ok 11 isRm_11 x1 x2 s_33) sc_31 rfl rfl wmX5_171 rfl rfl dX5_ahead_46 rfl (Nat.le_of_ble_eq_true rfl) (fun v_46 s_46 => ?_)
      exact Cp.iret X dX5_ahead_49 rfl
    · refine Cp.aload_n (i := 0) X dX5_ahead_18 rfl rfl ?_
      refine Cp.ldc (v := (-1000001)) X wcX5_58 dX5_ahead_19 ?_
      refine Cp.cVIM [] X [.int (-1000001)] cvX5_found (kX5_found X.ok (-1000001) σ) sc_0 rfl rfl wmX5_59 rfl rfl dX5_ahead_21 rfl (Nat.le_of_ble_eq_true rfl) (fun v_21 s_21 => ?_)
      exact Cp.iret X dX5_ahead_24 rfl
theorem kX5_ahead {l : Launch} {w : WE} (hok : OkW w shC)   (x1 : Int32) (x2 : Int32) (σ : Mem) : ∀ v, fX5_ahead x1 x2 σ = some v → Ctr l w shC yX5_ahead cX5_ahead 3 (some .int) 6 [.ref (wad w 0), .int x1, .int x2] σ (iIM v) := fun v hv => Ctr.of [some (.ref (wad w 0)), some (.int x1), some (.int x2)] (by decide) hok rfl (Nat.le_of_ble_eq_true rfl) (fun M _ X => pX5_ahead X   x1 x2 σ v hv)
def fX5_stale_28 (x1 : Int32) (k28 : Int32 → Mem → Option (Int32 × Mem)) (x2 : Int32) (σ : Mem) : Option (Int32 × Mem) :=
  (if 60 < x2 then (bnd2 (fX5_found (-1000004) σ) fun v_60 s_60 => (some (v_60, s_60))) else (bnd2 (fX4_perform 11 x1 σ) fun v_43 s_43 => (if v_43 = 0 then (some (x2, s_43)) else (k28 (x2 + 1) s_43))))
def fX5_stale (x1 : Int32) (σ : Mem) : Option (Int32 × Mem) :=
  (if fX5_hasJoke x1 σ = true then ((fX1_takeOver 11 1 σ).bind fun s_23 => (lw2 (fX5_stale_28 x1) FU 0 s_23)) else (bnd2 (fX5_found (-1000001) σ) fun v_11 s_11 => (some (v_11, s_11))))
set_option maxRecDepth 20000 in
theorem pX5_stale_28 {M : MC} {w : WE} (X : Cx M w shC cX5_stale 3 RX5 (some .int) 5)   (x1 : Int32)    : ∀ (n : Nat) (x2 : Int32) (σ : Mem), Cp M w shC 3 iIM 28 [some (.ref (wad w 0)), some (.int x1), some (.int x2)] [] σ (lw2 (fX5_stale_28 x1) n x2 σ) :=
  lw2_i (P := fun x2 σ b => Cp M w shC 3 iIM 28 [some (.ref (wad w 0)), some (.int x1), some (.int x2)] [] σ b) (fun _ _ => Cp.non) (fun k28 hk28 x2 σ => by
  unfold fX5_stale_28
  refine Cp.iload_n (i := 2) X dX5_stale_28 rfl rfl ?_
  refine Cp.bipush (v := 60) X dX5_stale_29 rfl ?_
  refine Cp.icmp_gt X 57 dX5_stale_31 (by decide) (fun c_31 => ?_) (fun c_31 => ?_)
  · refine Cp.aload_n (i := 0) X dX5_stale_57 rfl rfl ?_
    refine Cp.ldc (v := (-1000004)) X wcX5_182 dX5_stale_58 ?_
    refine Cp.cVIM [] X [.int (-1000004)] cvX5_found (kX5_found X.ok (-1000004) σ) sc_0 rfl rfl wmX5_59 rfl rfl dX5_stale_60 rfl (Nat.le_of_ble_eq_true rfl) (fun v_60 s_60 => ?_)
    exact Cp.iret X dX5_stale_63 rfl
  · refine Cp.aload_n (i := 0) X dX5_stale_34 rfl rfl ?_
    refine gfX5_29 X 31 sc_0 rfl dX5_stale_35 ?_
    refine Cp.aload_n (i := 0) X dX5_stale_38 rfl rfl ?_
    refine gfX5_16 X 11 sc_0 rfl dX5_stale_39 ?_
    refine Cp.iload_n (i := 1) X dX5_stale_42 rfl rfl ?_
    refine Cp.cVIM [] X [.ref (wad w 11), .int x1] cvX4_perform (kX4_perform X.ok 11 isRm_11 x1 σ) sc_31 rfl rfl wmX5_167 rfl rfl dX5_stale_43 rfl (Nat.le_of_ble_eq_true rfl) (fun v_43 s_43 => ?_)
    refine Cp.if_ne X 51 dX5_stale_46 (by decide) (fun c_46 => ?_) (fun c_46 => ?_)
    · refine Cp.iinc (v := x2 + 1) X dX5_stale_51 rfl rfl (Nat.le_of_ble_eq_true rfl) rfl ?_
      refine Cp.goto X 28 dX5_stale_54 (by decide) ?_
      exact hk28 (x2 + 1) s_43
    · refine Cp.iload_n (i := 2) X dX5_stale_49 rfl rfl ?_
      exact Cp.iret X dX5_stale_50 rfl)
set_option maxRecDepth 20000 in
theorem pX5_stale {M : MC} {w : WE} (X : Cx M w shC cX5_stale 3 RX5 (some .int) 5)   (x1 : Int32) (σ : Mem) : Cp M w shC 3 iIM 0 [some (.ref (wad w 0)), some (.int x1), none] [] σ (fX5_stale x1 σ) := by
  unfold fX5_stale
  refine Cp.aload_n (i := 0) X dX5_stale_0 rfl rfl ?_
  refine Cp.iload_n (i := 1) X dX5_stale_1 rfl rfl ?_
  refine Cp.cVBT [] X [.int x1] cvX5_hasJoke (kX5_hasJoke X.ok x1 σ) sc_0 rfl rfl wmX5_129 rfl rfl dX5_stale_2 rfl (Nat.le_of_ble_eq_true rfl) ?_
  refine Cp.if_neB X 15 dX5_stale_5 (by decide) (fun c_5 => ?_) (fun c_5 => ?_)
  · refine Cp.aload_n (i := 0) X dX5_stale_15 rfl rfl ?_
    refine gfX5_16 X 11 sc_0 rfl dX5_stale_16 ?_
    refine Cp.aload_n (i := 0) X dX5_stale_19 rfl rfl ?_
    refine gfX5_10 X 1 sc_0 rfl dX5_stale_20 ?_
    refine Cp.cVV [] X [.ref (wad w 1)] cvX1_takeOver (kX1_takeOver X.ok 11 1 isRm_11 isRm_1 σ) sc_11 rfl rfl wmX5_201 rfl rfl dX5_stale_23 rfl (Nat.le_of_ble_eq_true rfl) (fun s_23 => ?_)
    refine Cp.iconst (v := 0) X dX5_stale_26 rfl ?_
    refine Cp.istore_n (i := 2) X dX5_stale_27 rfl (Nat.le_of_ble_eq_true rfl) rfl ?_
    exact pX5_stale_28 X x1 FU 0 s_23
  · refine Cp.aload_n (i := 0) X dX5_stale_8 rfl rfl ?_
    refine Cp.ldc (v := (-1000001)) X wcX5_58 dX5_stale_9 ?_
    refine Cp.cVIM [] X [.int (-1000001)] cvX5_found (kX5_found X.ok (-1000001) σ) sc_0 rfl rfl wmX5_59 rfl rfl dX5_stale_11 rfl (Nat.le_of_ble_eq_true rfl) (fun v_11 s_11 => ?_)
    exact Cp.iret X dX5_stale_14 rfl
theorem kX5_stale {l : Launch} {w : WE} (hok : OkW w shC)   (x1 : Int32) (σ : Mem) : ∀ v, fX5_stale x1 σ = some v → Ctr l w shC yX5_stale cX5_stale 3 (some .int) 5 [.ref (wad w 0), .int x1] σ (iIM v) := fun v hv => Ctr.of [some (.ref (wad w 0)), some (.int x1), none] (by decide) hok rfl (Nat.le_of_ble_eq_true rfl) (fun M _ X => pX5_stale X   x1 σ v hv)
def fX5_broke_36 (x1 : Int32) (x2 : Int32) (k36 : Int32 → Mem → Option (Int32 × Mem)) (x3 : Int32) (σ : Mem) : Option (Int32 × Mem) :=
  (if 60 < x3 then (bnd2 (fX5_found (-1000004) σ) fun v_78 s_78 => (some (v_78, s_78))) else (gd (inB x2 8 = true) (if (σ 16 x2.toNatClampNeg) = 0 then (some (x3, σ)) else (bnd2 (fX4_perform 11 x1 σ) fun v_65 s_65 => (k36 (x3 + 1) s_65)))))
def fX5_broke (x1 : Int32) (x2 : Int32) (σ : Mem) : Option (Int32 × Mem) :=
  (if fX5_hasJoke x1 σ = true then (if fX5_hasPerson x2 σ = true then ((fX1_takeOver 11 1 σ).bind fun s_31 => (lw2 (fX5_broke_36 x1 x2) FU 0 s_31)) else (bnd2 (fX5_found (-1000001) σ) fun v_19 s_19 => (some (v_19, s_19)))) else (bnd2 (fX5_found (-1000001) σ) fun v_19 s_19 => (some (v_19, s_19))))
set_option maxRecDepth 20000 in
theorem pX5_broke_36 {M : MC} {w : WE} (X : Cx M w shC cX5_broke 4 RX5 (some .int) 5)   (x1 : Int32) (x2 : Int32)    : ∀ (n : Nat) (x3 : Int32) (σ : Mem), Cp M w shC 4 iIM 36 [some (.ref (wad w 0)), some (.int x1), some (.int x2), some (.int x3)] [] σ (lw2 (fX5_broke_36 x1 x2) n x3 σ) :=
  lw2_i (P := fun x3 σ b => Cp M w shC 4 iIM 36 [some (.ref (wad w 0)), some (.int x1), some (.int x2), some (.int x3)] [] σ b) (fun _ _ => Cp.non) (fun k36 hk36 x3 σ => by
  unfold fX5_broke_36
  refine Cp.iload_n (i := 3) X dX5_broke_36 rfl rfl ?_
  refine Cp.bipush (v := 60) X dX5_broke_37 rfl ?_
  refine Cp.icmp_gt X 75 dX5_broke_39 (by decide) (fun c_39 => ?_) (fun c_39 => ?_)
  · refine Cp.aload_n (i := 0) X dX5_broke_75 rfl rfl ?_
    refine Cp.ldc (v := (-1000004)) X wcX5_182 dX5_broke_76 ?_
    refine Cp.cVIM [] X [.int (-1000004)] cvX5_found (kX5_found X.ok (-1000004) σ) sc_0 rfl rfl wmX5_59 rfl rfl dX5_broke_78 rfl (Nat.le_of_ble_eq_true rfl) (fun v_78 s_78 => ?_)
    exact Cp.iret X dX5_broke_81 rfl
  · refine Cp.aload_n (i := 0) X dX5_broke_42 rfl rfl ?_
    refine gfX5_16 X 11 sc_0 rfl dX5_broke_43 ?_
    refine gfX5_87 X 16 sc_11 rfl dX5_broke_46 ?_
    refine Cp.iload_n (i := 2) X dX5_broke_49 rfl rfl ?_
    refine Cp.iald X sc_16 dX5_broke_50 ?_
    refine Cp.if_ne X 56 dX5_broke_51 (by decide) (fun c_51 => ?_) (fun c_51 => ?_)
    · refine Cp.aload_n (i := 0) X dX5_broke_56 rfl rfl ?_
      refine gfX5_29 X 31 sc_0 rfl dX5_broke_57 ?_
      refine Cp.aload_n (i := 0) X dX5_broke_60 rfl rfl ?_
      refine gfX5_16 X 11 sc_0 rfl dX5_broke_61 ?_
      refine Cp.iload_n (i := 1) X dX5_broke_64 rfl rfl ?_
      refine Cp.cVIM [] X [.ref (wad w 11), .int x1] cvX4_perform (kX4_perform X.ok 11 isRm_11 x1 σ) sc_31 rfl rfl wmX5_167 rfl rfl dX5_broke_65 rfl (Nat.le_of_ble_eq_true rfl) (fun v_65 s_65 => ?_)
      refine Cp.pop X dX5_broke_68 rfl ?_
      refine Cp.iinc (v := x3 + 1) X dX5_broke_69 rfl rfl (Nat.le_of_ble_eq_true rfl) rfl ?_
      refine Cp.goto X 36 dX5_broke_72 (by decide) ?_
      exact hk36 (x3 + 1) s_65
    · refine Cp.iload_n (i := 3) X dX5_broke_54 rfl rfl ?_
      exact Cp.iret X dX5_broke_55 rfl)
set_option maxRecDepth 20000 in
theorem pX5_broke {M : MC} {w : WE} (X : Cx M w shC cX5_broke 4 RX5 (some .int) 5)   (x1 : Int32) (x2 : Int32) (σ : Mem) : Cp M w shC 4 iIM 0 [some (.ref (wad w 0)), some (.int x1), some (.int x2), none] [] σ (fX5_broke x1 x2 σ) := by
  unfold fX5_broke
  refine Cp.aload_n (i := 0) X dX5_broke_0 rfl rfl ?_
  refine Cp.iload_n (i := 1) X dX5_broke_1 rfl rfl ?_
  refine Cp.cVBT [] X [.int x1] cvX5_hasJoke (kX5_hasJoke X.ok x1 σ) sc_0 rfl rfl wmX5_129 rfl rfl dX5_broke_2 rfl (Nat.le_of_ble_eq_true rfl) ?_
  refine Cp.if_eqB X 16 dX5_broke_5 (by decide) (fun c_5 => ?_) (fun c_5 => ?_)
  · refine Cp.aload_n (i := 0) X dX5_broke_16 rfl rfl ?_
    refine Cp.ldc (v := (-1000001)) X wcX5_58 dX5_broke_17 ?_
    refine Cp.cVIM [] X [.int (-1000001)] cvX5_found (kX5_found X.ok (-1000001) σ) sc_0 rfl rfl wmX5_59 rfl rfl dX5_broke_19 rfl (Nat.le_of_ble_eq_true rfl) (fun v_19 s_19 => ?_)
    exact Cp.iret X dX5_broke_22 rfl
  · refine Cp.aload_n (i := 0) X dX5_broke_8 rfl rfl ?_
    refine Cp.iload_n (i := 2) X dX5_broke_9 rfl rfl ?_
    refine Cp.cVBT [] X [.int x2] cvX5_hasPerson (kX5_hasPerson X.ok x2 σ) sc_0 rfl rfl wmX5_72 rfl rfl dX5_broke_10 rfl (Nat.le_of_ble_eq_true rfl) ?_
    refine Cp.if_neB X 23 dX5_broke_13 (by decide) (fun c_13 => ?_) (fun c_13 => ?_)
    · refine Cp.aload_n (i := 0) X dX5_broke_23 rfl rfl ?_
      refine gfX5_16 X 11 sc_0 rfl dX5_broke_24 ?_
      refine Cp.aload_n (i := 0) X dX5_broke_27 rfl rfl ?_
      refine gfX5_10 X 1 sc_0 rfl dX5_broke_28 ?_
      refine Cp.cVV [] X [.ref (wad w 1)] cvX1_takeOver (kX1_takeOver X.ok 11 1 isRm_11 isRm_1 σ) sc_11 rfl rfl wmX5_201 rfl rfl dX5_broke_31 rfl (Nat.le_of_ble_eq_true rfl) (fun s_31 => ?_)
      refine Cp.iconst (v := 0) X dX5_broke_34 rfl ?_
      refine Cp.istore_n (i := 3) X dX5_broke_35 rfl (Nat.le_of_ble_eq_true rfl) rfl ?_
      exact pX5_broke_36 X x1 x2 FU 0 s_31
    · refine Cp.aload_n (i := 0) X dX5_broke_16 rfl rfl ?_
      refine Cp.ldc (v := (-1000001)) X wcX5_58 dX5_broke_17 ?_
      refine Cp.cVIM [] X [.int (-1000001)] cvX5_found (kX5_found X.ok (-1000001) σ) sc_0 rfl rfl wmX5_59 rfl rfl dX5_broke_19 rfl (Nat.le_of_ble_eq_true rfl) (fun v_19 s_19 => ?_)
      exact Cp.iret X dX5_broke_22 rfl
theorem kX5_broke {l : Launch} {w : WE} (hok : OkW w shC)   (x1 : Int32) (x2 : Int32) (σ : Mem) : ∀ v, fX5_broke x1 x2 σ = some v → Ctr l w shC yX5_broke cX5_broke 4 (some .int) 5 [.ref (wad w 0), .int x1, .int x2] σ (iIM v) := fun v hv => Ctr.of [some (.ref (wad w 0)), some (.int x1), some (.int x2), none] (by decide) hok rfl (Nat.le_of_ble_eq_true rfl) (fun M _ X => pX5_broke X   x1 x2 σ v hv)
def fX5_caught (x1 : Int32) (σ : Mem) : Option (Int32 × Mem) :=
  (if fX5_within x1 0 (fX1_everybody 1 σ) = true then (bnd2 (fX4_spread 1 x1 (fX1_everybody 1 σ) σ) fun v_38 s_38 => (some (v_38, s_38))) else (bnd2 (fX5_found (-1000001) σ) fun v_18 s_18 => (some (v_18, s_18))))
set_option maxRecDepth 20000 in
theorem pX5_caught {M : MC} {w : WE} (X : Cx M w shC cX5_caught 2 RX5 (some .int) 3)   (x1 : Int32) (σ : Mem) : Cp M w shC 2 iIM 0 [some (.ref (wad w 0)), some (.int x1)] [] σ (fX5_caught x1 σ) := by
  unfold fX5_caught
  refine Cp.iload_n (i := 1) X dX5_caught_0 rfl rfl ?_
  refine Cp.iconst (v := 0) X dX5_caught_1 rfl ?_
  refine Cp.aload_n (i := 0) X dX5_caught_2 rfl rfl ?_
  refine gfX5_10 X 1 sc_0 rfl dX5_caught_3 ?_
  refine Cp.cVIT [.int 0, .int x1] X [] cvX1_everybody (kX1_everybody X.ok 1 isRm_1 σ) sc_1 rfl rfl wmX5_208 rfl rfl dX5_caught_6 rfl (Nat.le_of_ble_eq_true rfl) ?_
  refine Cp.cSBT [] X [.int x1, .int 0, .int (fX1_everybody 1 σ)] csX5_within (kX5_within X.ok x1 0 (fX1_everybody 1 σ) σ) wmX5_132 rfl rfl dX5_caught_9 rfl (Nat.le_of_ble_eq_true rfl) ?_
  refine Cp.if_neB X 22 dX5_caught_12 (by decide) (fun c_12 => ?_) (fun c_12 => ?_)
  · refine Cp.aload_n (i := 0) X dX5_caught_22 rfl rfl ?_
    refine gfX5_29 X 31 sc_0 rfl dX5_caught_23 ?_
    refine Cp.aload_n (i := 0) X dX5_caught_26 rfl rfl ?_
    refine gfX5_10 X 1 sc_0 rfl dX5_caught_27 ?_
    refine Cp.iload_n (i := 1) X dX5_caught_30 rfl rfl ?_
    refine Cp.aload_n (i := 0) X dX5_caught_31 rfl rfl ?_
    refine gfX5_10 X 1 sc_0 rfl dX5_caught_32 ?_
    refine Cp.cVIT [.int x1, .ref (wad w 1), .ref (wad w 31)] X [] cvX1_everybody (kX1_everybody X.ok 1 isRm_1 σ) sc_1 rfl rfl wmX5_208 rfl rfl dX5_caught_35 rfl (Nat.le_of_ble_eq_true rfl) ?_
    refine Cp.cVIM [] X [.ref (wad w 1), .int x1, .int (fX1_everybody 1 σ)] cvX4_spread (kX4_spread X.ok 1 isRm_1 x1 (fX1_everybody 1 σ) σ) sc_31 rfl rfl wmX5_211 rfl rfl dX5_caught_38 rfl (Nat.le_of_ble_eq_true rfl) (fun v_38 s_38 => ?_)
    exact Cp.iret X dX5_caught_41 rfl
  · refine Cp.aload_n (i := 0) X dX5_caught_15 rfl rfl ?_
    refine Cp.ldc (v := (-1000001)) X wcX5_58 dX5_caught_16 ?_
    refine Cp.cVIM [] X [.int (-1000001)] cvX5_found (kX5_found X.ok (-1000001) σ) sc_0 rfl rfl wmX5_59 rfl rfl dX5_caught_18 rfl (Nat.le_of_ble_eq_true rfl) (fun v_18 s_18 => ?_)
    exact Cp.iret X dX5_caught_21 rfl
theorem kX5_caught {l : Launch} {w : WE} (hok : OkW w shC)   (x1 : Int32) (σ : Mem) : ∀ v, fX5_caught x1 σ = some v → Ctr l w shC yX5_caught cX5_caught 2 (some .int) 3 [.ref (wad w 0), .int x1] σ (iIM v) := fun v hv => Ctr.of [some (.ref (wad w 0)), some (.int x1)] (by decide) hok rfl (Nat.le_of_ble_eq_true rfl) (fun M _ X => pX5_caught X   x1 σ v hv)
def fX5_starter_23 (k23 : Int32 → Int32 → Int32 → Mem → Option (Int32 × Mem)) (x1 : Int32) (x2 : Int32) (x3 : Int32) (σ : Mem) : Option (Int32 × Mem) :=
  (if (σ 1 0) ≤ x3 then (some (x1, σ)) else (bnd2 (fX4_spread 1 (1 <<< (x3 &&& 31)) (fX1_everybody 1 σ) σ) fun v_52 s_52 => (pb (fJ6_bitCount_0f7a4 v_52 : Int32) fun x4_58 => (if x4_58 ≤ x2 then (k23 x1 x2 (x3 + 1) s_52) else (k23 x3 x4_58 (x3 + 1) s_52)))))
def fX5_starter  (σ : Mem) : Option (Int32 × Mem) :=
  (if (σ 1 0) = 0 then (bnd2 (fX5_found (-1000004) σ) fun v_13 s_13 => (some (v_13, s_13))) else (lw4 (fX5_starter_23) FU 0 0 0 σ))
set_option maxRecDepth 20000 in
theorem pX5_starter_23 {M : MC} {w : WE} (X : Cx M w shC cX5_starter 5 RX5 (some .int) 3)       : ∀ (n : Nat) (x1 : Int32) (x2 : Int32) (x3 : Int32) (σ : Mem), Cp M w shC 5 iIM 23 [some (.ref (wad w 0)), some (.int x1), some (.int x2), some (.int x3), none] [] σ (lw4 (fX5_starter_23) n x1 x2 x3 σ) :=
  lw4_i (P := fun x1 x2 x3 σ b => Cp M w shC 5 iIM 23 [some (.ref (wad w 0)), some (.int x1), some (.int x2), some (.int x3), none] [] σ b) (fun _ _ _ _ => Cp.non) (fun k23 hk23 x1 x2 x3 σ => by
  unfold fX5_starter_23
  refine Cp.iload_n (i := 3) X dX5_starter_23 rfl rfl ?_
  refine Cp.aload_n (i := 0) X dX5_starter_24 rfl rfl ?_
  refine gfX5_10 X 1 sc_0 rfl dX5_starter_25 ?_
  refine gfX5_63 X sc_1 rfl dX5_starter_28 ?_
  refine Cp.icmp_ge X 77 dX5_starter_31 (by decide) (fun c_31 => ?_) (fun c_31 => ?_)
  · refine Cp.iload_n (i := 1) X dX5_starter_77 rfl rfl ?_
    exact Cp.iret X dX5_starter_78 rfl
  · refine Cp.aload_n (i := 0) X dX5_starter_34 rfl rfl ?_
    refine gfX5_29 X 31 sc_0 rfl dX5_starter_35 ?_
    refine Cp.aload_n (i := 0) X dX5_starter_38 rfl rfl ?_
    refine gfX5_10 X 1 sc_0 rfl dX5_starter_39 ?_
    refine Cp.iconst (v := 1) X dX5_starter_42 rfl ?_
    refine Cp.iload_n (i := 3) X dX5_starter_43 rfl rfl ?_
    refine Cp.ishl X dX5_starter_44 ?_
    refine Cp.aload_n (i := 0) X dX5_starter_45 rfl rfl ?_
    refine gfX5_10 X 1 sc_0 rfl dX5_starter_46 ?_
    refine Cp.cVIT [.int (1 <<< (x3 &&& 31)), .ref (wad w 1), .ref (wad w 31)] X [] cvX1_everybody (kX1_everybody X.ok 1 isRm_1 σ) sc_1 rfl rfl wmX5_208 rfl rfl dX5_starter_49 rfl (Nat.le_of_ble_eq_true rfl) ?_
    refine Cp.cVIM [] X [.ref (wad w 1), .int (1 <<< (x3 &&& 31)), .int (fX1_everybody 1 σ)] cvX4_spread (kX4_spread X.ok 1 isRm_1 (1 <<< (x3 &&& 31)) (fX1_everybody 1 σ) σ) sc_31 rfl rfl wmX5_211 rfl rfl dX5_starter_52 rfl (Nat.le_of_ble_eq_true rfl) (fun v_52 s_52 => ?_)
    refine Cp.cSIT [] X [.int v_52] csJ6_bitCount_0f7a4 (kJ6_bitCount_0f7a4 X.ok v_52 s_52) wmX5_101 rfl rfl dX5_starter_55 rfl (Nat.le_of_ble_eq_true rfl) ?_
    refine Cp.nameI (fun x4_58 => ?_)
    refine Cp.istore X dX5_starter_58 (Nat.le_of_ble_eq_true rfl) rfl ?_
    refine Cp.iload X dX5_starter_60 rfl ?_
    refine Cp.iload_n (i := 2) X dX5_starter_62 rfl rfl ?_
    refine Cp.icmp_le X 71 dX5_starter_63 (by decide) (fun c_63 => ?_) (fun c_63 => ?_)
    · refine Cp.iinc (v := x3 + 1) X dX5_starter_71 rfl rfl (Nat.le_of_ble_eq_true rfl) rfl ?_
      refine Cp.goto X 23 dX5_starter_74 (by decide) ?_
      refine Cp.mask [true, true, true, true, false] ?_
      exact hk23 x1 x2 (x3 + 1) s_52
    · refine Cp.iload X dX5_starter_66 rfl ?_
      refine Cp.istore_n (i := 2) X dX5_starter_68 rfl (Nat.le_of_ble_eq_true rfl) rfl ?_
      refine Cp.iload_n (i := 3) X dX5_starter_69 rfl rfl ?_
      refine Cp.istore_n (i := 1) X dX5_starter_70 rfl (Nat.le_of_ble_eq_true rfl) rfl ?_
      refine Cp.iinc (v := x3 + 1) X dX5_starter_71 rfl rfl (Nat.le_of_ble_eq_true rfl) rfl ?_
      refine Cp.goto X 23 dX5_starter_74 (by decide) ?_
      refine Cp.mask [true, true, true, true, false] ?_
      exact hk23 x3 x4_58 (x3 + 1) s_52)
set_option maxRecDepth 20000 in
theorem pX5_starter {M : MC} {w : WE} (X : Cx M w shC cX5_starter 5 RX5 (some .int) 3)    (σ : Mem) : Cp M w shC 5 iIM 0 [some (.ref (wad w 0)), none, none, none, none] [] σ (fX5_starter σ) := by
  unfold fX5_starter
  refine Cp.aload_n (i := 0) X dX5_starter_0 rfl rfl ?_
  refine gfX5_10 X 1 sc_0 rfl dX5_starter_1 ?_
  refine gfX5_63 X sc_1 rfl dX5_starter_4 ?_
  refine Cp.if_ne X 17 dX5_starter_7 (by decide) (fun c_7 => ?_) (fun c_7 => ?_)
  · refine Cp.iconst (v := 0) X dX5_starter_17 rfl ?_
    refine Cp.istore_n (i := 1) X dX5_starter_18 rfl (Nat.le_of_ble_eq_true rfl) rfl ?_
    refine Cp.iconst (v := 0) X dX5_starter_19 rfl ?_
    refine Cp.istore_n (i := 2) X dX5_starter_20 rfl (Nat.le_of_ble_eq_true rfl) rfl ?_
    refine Cp.iconst (v := 0) X dX5_starter_21 rfl ?_
    refine Cp.istore_n (i := 3) X dX5_starter_22 rfl (Nat.le_of_ble_eq_true rfl) rfl ?_
    exact pX5_starter_23 X FU 0 0 0 σ
  · refine Cp.aload_n (i := 0) X dX5_starter_10 rfl rfl ?_
    refine Cp.ldc (v := (-1000004)) X wcX5_182 dX5_starter_11 ?_
    refine Cp.cVIM [] X [.int (-1000004)] cvX5_found (kX5_found X.ok (-1000004) σ) sc_0 rfl rfl wmX5_59 rfl rfl dX5_starter_13 rfl (Nat.le_of_ble_eq_true rfl) (fun v_13 s_13 => ?_)
    exact Cp.iret X dX5_starter_16 rfl
theorem kX5_starter {l : Launch} {w : WE} (hok : OkW w shC)    (σ : Mem) : ∀ v, fX5_starter σ = some v → Ctr l w shC yX5_starter cX5_starter 5 (some .int) 3 [.ref (wad w 0)] σ (iIM v) := fun v hv => Ctr.of [some (.ref (wad w 0)), none, none, none, none] (by decide) hok rfl (Nat.le_of_ble_eq_true rfl) (fun M _ X => pX5_starter X    σ v hv)
def fX5_isSmaller (x0 : Int32) (x1 : Int32) : Bool :=
  (if (fJ6_bitCount_0f7a4 x1) ≤ (fJ6_bitCount_0f7a4 x0) then false else true)
set_option maxRecDepth 20000 in
theorem pX5_isSmaller {M : MC} {w : WE} (X : Cx M w shC cX5_isSmaller 2 RX5 (some .boolean) 1)   (x0 : Int32) (x1 : Int32) (σ : Mem) : Cp M w shC 2 (iB σ) 0 [some (.int x0), some (.int x1)] [] σ (some (fX5_isSmaller x0 x1)) := by
  unfold fX5_isSmaller
  refine Cp.iload_n (i := 0) X dX5_isSmaller_0 rfl rfl ?_
  refine Cp.cSIT [] X [.int x0] csJ6_bitCount_0f7a4 (kJ6_bitCount_0f7a4 X.ok x0 σ) wmX5_101 rfl rfl dX5_isSmaller_1 rfl (Nat.le_of_ble_eq_true rfl) ?_
  refine Cp.iload_n (i := 1) X dX5_isSmaller_4 rfl rfl ?_
  refine Cp.cSIT [.int (fJ6_bitCount_0f7a4 x0)] X [.int x1] csJ6_bitCount_0f7a4 (kJ6_bitCount_0f7a4 X.ok x1 σ) wmX5_101 rfl rfl dX5_isSmaller_5 rfl (Nat.le_of_ble_eq_true rfl) ?_
  refine Cp.icmp_geT X 15 dX5_isSmaller_8 (by decide) (fun c_8 => ?_) (fun c_8 => ?_)
  · refine Cp.iconst (v := 0) X dX5_isSmaller_15 rfl ?_
    exact Cp.bret (v := false) X dX5_isSmaller_16 rfl
  · refine Cp.iconst (v := 1) X dX5_isSmaller_11 rfl ?_
    refine Cp.goto X 16 dX5_isSmaller_12 (by decide) ?_
    exact Cp.bret (v := true) X dX5_isSmaller_16 rfl
theorem kX5_isSmaller {l : Launch} {w : WE} (hok : OkW w shC)   (x0 : Int32) (x1 : Int32) (σ : Mem) : Ctr l w shC yX5_isSmaller cX5_isSmaller 2 (some .boolean) 1 [.int x0, .int x1] σ ((iB σ) (fX5_isSmaller x0 x1)) := Ctr.of [some (.int x0), some (.int x1)] (by decide) hok rfl (Nat.le_of_ble_eq_true rfl) (fun M _ X => pX5_isSmaller X   x0 x1 σ _ rfl)
def fX5_fewest_12 (x1 : Int32) (k12 : Int32 → Int32 → Mem → Option (Int32 × Mem)) (x2 : Int32) (x3 : Int32) (σ : Mem) : Option (Int32 × Mem) :=
  (if x1 < x3 then (some (x2, σ)) else (if fX5_isSmaller x3 x2 = true then (bnd2 (fX4_spread 1 x3 x1 σ) fun v_35 s_35 => (if v_35 = x1 then (k12 x3 (x3 + 1) s_35) else (k12 x2 (x3 + 1) s_35))) else (k12 x2 (x3 + 1) σ)))
def fX5_fewest  (σ : Mem) : Option (Int32 × Mem) :=
  (pb (fX1_everybody 1 σ : Int32) fun x1_7 => (lw3 (fX5_fewest_12 x1_7) FU x1_7 0 σ))
set_option maxRecDepth 20000 in
theorem pX5_fewest_12 {M : MC} {w : WE} (X : Cx M w shC cX5_fewest 4 RX5 (some .int) 3)   (x1 : Int32)    : ∀ (n : Nat) (x2 : Int32) (x3 : Int32) (σ : Mem), Cp M w shC 4 iIM 12 [some (.ref (wad w 0)), some (.int x1), some (.int x2), some (.int x3)] [] σ (lw3 (fX5_fewest_12 x1) n x2 x3 σ) :=
  lw3_i (P := fun x2 x3 σ b => Cp M w shC 4 iIM 12 [some (.ref (wad w 0)), some (.int x1), some (.int x2), some (.int x3)] [] σ b) (fun _ _ _ => Cp.non) (fun k12 hk12 x2 x3 σ => by
  unfold fX5_fewest_12
  refine Cp.iload_n (i := 3) X dX5_fewest_12 rfl rfl ?_
  refine Cp.iload_n (i := 1) X dX5_fewest_13 rfl rfl ?_
  refine Cp.icmp_gt X 50 dX5_fewest_14 (by decide) (fun c_14 => ?_) (fun c_14 => ?_)
  · refine Cp.iload_n (i := 2) X dX5_fewest_50 rfl rfl ?_
    exact Cp.iret X dX5_fewest_51 rfl
  · refine Cp.iload_n (i := 3) X dX5_fewest_17 rfl rfl ?_
    refine Cp.iload_n (i := 2) X dX5_fewest_18 rfl rfl ?_
    refine Cp.cSBT [] X [.int x3, .int x2] csX5_isSmaller (kX5_isSmaller X.ok x3 x2 σ) wmX5_214 rfl rfl dX5_fewest_19 rfl (Nat.le_of_ble_eq_true rfl) ?_
    refine Cp.if_eqB X 44 dX5_fewest_22 (by decide) (fun c_22 => ?_) (fun c_22 => ?_)
    · refine Cp.iinc (v := x3 + 1) X dX5_fewest_44 rfl rfl (Nat.le_of_ble_eq_true rfl) rfl ?_
      refine Cp.goto X 12 dX5_fewest_47 (by decide) ?_
      exact hk12 x2 (x3 + 1) σ
    · refine Cp.aload_n (i := 0) X dX5_fewest_25 rfl rfl ?_
      refine gfX5_29 X 31 sc_0 rfl dX5_fewest_26 ?_
      refine Cp.aload_n (i := 0) X dX5_fewest_29 rfl rfl ?_
      refine gfX5_10 X 1 sc_0 rfl dX5_fewest_30 ?_
      refine Cp.iload_n (i := 3) X dX5_fewest_33 rfl rfl ?_
      refine Cp.iload_n (i := 1) X dX5_fewest_34 rfl rfl ?_
      refine Cp.cVIM [] X [.ref (wad w 1), .int x3, .int x1] cvX4_spread (kX4_spread X.ok 1 isRm_1 x3 x1 σ) sc_31 rfl rfl wmX5_211 rfl rfl dX5_fewest_35 rfl (Nat.le_of_ble_eq_true rfl) (fun v_35 s_35 => ?_)
      refine Cp.iload_n (i := 1) X dX5_fewest_38 rfl rfl ?_
      refine Cp.icmp_ne X 44 dX5_fewest_39 (by decide) (fun c_39 => ?_) (fun c_39 => ?_)
      · refine Cp.iinc (v := x3 + 1) X dX5_fewest_44 rfl rfl (Nat.le_of_ble_eq_true rfl) rfl ?_
        refine Cp.goto X 12 dX5_fewest_47 (by decide) ?_
        exact hk12 x2 (x3 + 1) s_35
      · refine Cp.iload_n (i := 3) X dX5_fewest_42 rfl rfl ?_
        refine Cp.istore_n (i := 2) X dX5_fewest_43 rfl (Nat.le_of_ble_eq_true rfl) rfl ?_
        refine Cp.iinc (v := x3 + 1) X dX5_fewest_44 rfl rfl (Nat.le_of_ble_eq_true rfl) rfl ?_
        refine Cp.goto X 12 dX5_fewest_47 (by decide) ?_
        exact hk12 x3 (x3 + 1) s_35)
set_option maxRecDepth 20000 in
theorem pX5_fewest {M : MC} {w : WE} (X : Cx M w shC cX5_fewest 4 RX5 (some .int) 3)    (σ : Mem) : Cp M w shC 4 iIM 0 [some (.ref (wad w 0)), none, none, none] [] σ (fX5_fewest σ) := by
  unfold fX5_fewest
  refine Cp.aload_n (i := 0) X dX5_fewest_0 rfl rfl ?_
  refine gfX5_10 X 1 sc_0 rfl dX5_fewest_1 ?_
  refine Cp.cVIT [] X [] cvX1_everybody (kX1_everybody X.ok 1 isRm_1 σ) sc_1 rfl rfl wmX5_208 rfl rfl dX5_fewest_4 rfl (Nat.le_of_ble_eq_true rfl) ?_
  refine Cp.nameI (fun x1_7 => ?_)
  refine Cp.istore_n (i := 1) X dX5_fewest_7 rfl (Nat.le_of_ble_eq_true rfl) rfl ?_
  refine Cp.iload_n (i := 1) X dX5_fewest_8 rfl rfl ?_
  refine Cp.istore_n (i := 2) X dX5_fewest_9 rfl (Nat.le_of_ble_eq_true rfl) rfl ?_
  refine Cp.iconst (v := 0) X dX5_fewest_10 rfl ?_
  refine Cp.istore_n (i := 3) X dX5_fewest_11 rfl (Nat.le_of_ble_eq_true rfl) rfl ?_
  exact pX5_fewest_12 X x1_7 FU x1_7 0 σ
theorem kX5_fewest {l : Launch} {w : WE} (hok : OkW w shC)    (σ : Mem) : ∀ v, fX5_fewest σ = some v → Ctr l w shC yX5_fewest cX5_fewest 4 (some .int) 3 [.ref (wad w 0)] σ (iIM v) := fun v hv => Ctr.of [some (.ref (wad w 0)), none, none, none] (by decide) hok rfl (Nat.le_of_ble_eq_true rfl) (fun M _ X => pX5_fewest X    σ v hv)
def fX5_away_71 (x2 : Int32) (x3 : Int32) (x4 : Int32) (k71 : Int32 → Int32 → Mem → Option (Int32 × Mem)) (x5 : Int32) (x6 : Int32) (σ : Mem) : Option (Int32 × Mem) :=
  (if x4 < x6 then (some (x5, σ)) else (if fX5_isSmaller x6 x5 = true then (bnd2 (fX4_spread 1 (x3 &&& (x6 ^^^ (-1))) (x4 &&& (x6 ^^^ (-1))) σ) fun v_109 s_109 => (if x2 < (fJ6_bitCount_0f7a4 v_109) then (k71 x5 (x6 + 1) s_109) else (k71 x6 (x6 + 1) s_109))) else (k71 x5 (x6 + 1) σ)))
def fX5_away (x1 : Int32) (x2 : Int32) (σ : Mem) : Option (Int32 × Mem) :=
  (if fX5_hasJoke x1 σ = true then (if fX5_within x2 0 8 = true then (gd (inB x1 8 = true) (gd (inB x1 8 = true) ((fX4_startersOf 1 (σ 8 x1.toNatClampNeg) (σ 9 x1.toNatClampNeg) σ).bind fun v_51 => (pb (fX1_everybody 1 σ : Int32) fun x4_62 => (lw3 (fX5_away_71 x2 v_51 x4_62) FU x4_62 0 σ))))) else (bnd2 (fX5_found (-1000001) σ) fun v_21 s_21 => (some (v_21, s_21)))) else (bnd2 (fX5_found (-1000001) σ) fun v_21 s_21 => (some (v_21, s_21))))
set_option maxRecDepth 20000 in
theorem pX5_away_71 {M : MC} {w : WE} (X : Cx M w shC cX5_away 7 RX5 (some .int) 3)   (x2 : Int32) (x3 : Int32) (x4 : Int32)    : ∀ (n : Nat) (x5 : Int32) (x6 : Int32) (σ : Mem), Cp M w shC 7 iIM 71 [some (.ref (wad w 0)), none, some (.int x2), some (.int x3), some (.int x4), some (.int x5), some (.int x6)] [] σ (lw3 (fX5_away_71 x2 x3 x4) n x5 x6 σ) :=
  lw3_i (P := fun x5 x6 σ b => Cp M w shC 7 iIM 71 [some (.ref (wad w 0)), none, some (.int x2), some (.int x3), some (.int x4), some (.int x5), some (.int x6)] [] σ b) (fun _ _ _ => Cp.non) (fun k71 hk71 x5 x6 σ => by
  unfold fX5_away_71
  refine Cp.iload X dX5_away_71 rfl ?_
  refine Cp.iload X dX5_away_73 rfl ?_
  refine Cp.icmp_gt X 129 dX5_away_75 (by decide) (fun c_75 => ?_) (fun c_75 => ?_)
  · refine Cp.iload X dX5_away_129 rfl ?_
    exact Cp.iret X dX5_away_131 rfl
  · refine Cp.iload X dX5_away_78 rfl ?_
    refine Cp.iload X dX5_away_80 rfl ?_
    refine Cp.cSBT [] X [.int x6, .int x5] csX5_isSmaller (kX5_isSmaller X.ok x6 x5 σ) wmX5_214 rfl rfl dX5_away_82 rfl (Nat.le_of_ble_eq_true rfl) ?_
    refine Cp.if_eqB X 123 dX5_away_85 (by decide) (fun c_85 => ?_) (fun c_85 => ?_)
    · refine Cp.iinc (v := x6 + 1) X dX5_away_123 rfl rfl (Nat.le_of_ble_eq_true rfl) rfl ?_
      refine Cp.goto X 71 dX5_away_126 (by decide) ?_
      exact hk71 x5 (x6 + 1) σ
    · refine Cp.aload_n (i := 0) X dX5_away_88 rfl rfl ?_
      refine gfX5_29 X 31 sc_0 rfl dX5_away_89 ?_
      refine Cp.aload_n (i := 0) X dX5_away_92 rfl rfl ?_
      refine gfX5_10 X 1 sc_0 rfl dX5_away_93 ?_
      refine Cp.iload_n (i := 3) X dX5_away_96 rfl rfl ?_
      refine Cp.iload X dX5_away_97 rfl ?_
      refine Cp.iconst (v := (-1)) X dX5_away_99 rfl ?_
      refine Cp.ixor X dX5_away_100 ?_
      refine Cp.iand X dX5_away_101 ?_
      refine Cp.iload X dX5_away_102 rfl ?_
      refine Cp.iload X dX5_away_104 rfl ?_
      refine Cp.iconst (v := (-1)) X dX5_away_106 rfl ?_
      refine Cp.ixor X dX5_away_107 ?_
      refine Cp.iand X dX5_away_108 ?_
      refine Cp.cVIM [] X [.ref (wad w 1), .int (x3 &&& (x6 ^^^ (-1))), .int (x4 &&& (x6 ^^^ (-1)))] cvX4_spread (kX4_spread X.ok 1 isRm_1 (x3 &&& (x6 ^^^ (-1))) (x4 &&& (x6 ^^^ (-1))) σ) sc_31 rfl rfl wmX5_211 rfl rfl dX5_away_109 rfl (Nat.le_of_ble_eq_true rfl) (fun v_109 s_109 => ?_)
      refine Cp.cSIT [] X [.int v_109] csJ6_bitCount_0f7a4 (kJ6_bitCount_0f7a4 X.ok v_109 s_109) wmX5_101 rfl rfl dX5_away_112 rfl (Nat.le_of_ble_eq_true rfl) ?_
      refine Cp.iload_n (i := 2) X dX5_away_115 rfl rfl ?_
      refine Cp.icmp_gt X 123 dX5_away_116 (by decide) (fun c_116 => ?_) (fun c_116 => ?_)
      · refine Cp.iinc (v := x6 + 1) X dX5_away_123 rfl rfl (Nat.le_of_ble_eq_true rfl) rfl ?_
        refine Cp.goto X 71 dX5_away_126 (by decide) ?_
        exact hk71 x5 (x6 + 1) s_109
      · refine Cp.iload X dX5_away_119 rfl ?_
        refine Cp.istore X dX5_away_121 (Nat.le_of_ble_eq_true rfl) rfl ?_
        refine Cp.iinc (v := x6 + 1) X dX5_away_123 rfl rfl (Nat.le_of_ble_eq_true rfl) rfl ?_
        refine Cp.goto X 71 dX5_away_126 (by decide) ?_
        exact hk71 x6 (x6 + 1) s_109)
set_option maxRecDepth 20000 in
theorem pX5_away {M : MC} {w : WE} (X : Cx M w shC cX5_away 7 RX5 (some .int) 3)   (x1 : Int32) (x2 : Int32) (σ : Mem) : Cp M w shC 7 iIM 0 [some (.ref (wad w 0)), some (.int x1), some (.int x2), none, none, none, none] [] σ (fX5_away x1 x2 σ) := by
  unfold fX5_away
  refine Cp.aload_n (i := 0) X dX5_away_0 rfl rfl ?_
  refine Cp.iload_n (i := 1) X dX5_away_1 rfl rfl ?_
  refine Cp.cVBT [] X [.int x1] cvX5_hasJoke (kX5_hasJoke X.ok x1 σ) sc_0 rfl rfl wmX5_129 rfl rfl dX5_away_2 rfl (Nat.le_of_ble_eq_true rfl) ?_
  refine Cp.if_eqB X 18 dX5_away_5 (by decide) (fun c_5 => ?_) (fun c_5 => ?_)
  · refine Cp.aload_n (i := 0) X dX5_away_18 rfl rfl ?_
    refine Cp.ldc (v := (-1000001)) X wcX5_58 dX5_away_19 ?_
    refine Cp.cVIM [] X [.int (-1000001)] cvX5_found (kX5_found X.ok (-1000001) σ) sc_0 rfl rfl wmX5_59 rfl rfl dX5_away_21 rfl (Nat.le_of_ble_eq_true rfl) (fun v_21 s_21 => ?_)
    exact Cp.iret X dX5_away_24 rfl
  · refine Cp.iload_n (i := 2) X dX5_away_8 rfl rfl ?_
    refine Cp.iconst (v := 0) X dX5_away_9 rfl ?_
    refine Cp.bipush (v := 8) X dX5_away_10 rfl ?_
    refine Cp.cSBT [] X [.int x2, .int 0, .int 8] csX5_within (kX5_within X.ok x2 0 8 σ) wmX5_132 rfl rfl dX5_away_12 rfl (Nat.le_of_ble_eq_true rfl) ?_
    refine Cp.if_neB X 25 dX5_away_15 (by decide) (fun c_15 => ?_) (fun c_15 => ?_)
    · refine Cp.aload_n (i := 0) X dX5_away_25 rfl rfl ?_
      refine gfX5_29 X 31 sc_0 rfl dX5_away_26 ?_
      refine Cp.aload_n (i := 0) X dX5_away_29 rfl rfl ?_
      refine gfX5_10 X 1 sc_0 rfl dX5_away_30 ?_
      refine Cp.aload_n (i := 0) X dX5_away_33 rfl rfl ?_
      refine gfX5_10 X 1 sc_0 rfl dX5_away_34 ?_
      refine gfX5_136 X 8 sc_1 rfl dX5_away_37 ?_
      refine Cp.iload_n (i := 1) X dX5_away_40 rfl rfl ?_
      refine Cp.iald X sc_8 dX5_away_41 ?_
      refine Cp.aload_n (i := 0) X dX5_away_42 rfl rfl ?_
      refine gfX5_10 X 1 sc_0 rfl dX5_away_43 ?_
      refine gfX5_139 X 9 sc_1 rfl dX5_away_46 ?_
      refine Cp.iload_n (i := 1) X dX5_away_49 rfl rfl ?_
      refine Cp.iald X sc_9 dX5_away_50 ?_
      refine Cp.cVI [] X [.ref (wad w 1), .int (σ 8 x1.toNatClampNeg), .int (σ 9 x1.toNatClampNeg)] cvX4_startersOf (kX4_startersOf X.ok 1 isRm_1 (σ 8 x1.toNatClampNeg) (σ 9 x1.toNatClampNeg) σ) sc_31 rfl rfl wmX5_192 rfl rfl dX5_away_51 rfl (Nat.le_of_ble_eq_true rfl) (fun v_51 => ?_)
      refine Cp.istore_n (i := 3) X dX5_away_54 rfl (Nat.le_of_ble_eq_true rfl) rfl ?_
      refine Cp.aload_n (i := 0) X dX5_away_55 rfl rfl ?_
      refine gfX5_10 X 1 sc_0 rfl dX5_away_56 ?_
      refine Cp.cVIT [] X [] cvX1_everybody (kX1_everybody X.ok 1 isRm_1 σ) sc_1 rfl rfl wmX5_208 rfl rfl dX5_away_59 rfl (Nat.le_of_ble_eq_true rfl) ?_
      refine Cp.nameI (fun x4_62 => ?_)
      refine Cp.istore X dX5_away_62 (Nat.le_of_ble_eq_true rfl) rfl ?_
      refine Cp.iload X dX5_away_64 rfl ?_
      refine Cp.istore X dX5_away_66 (Nat.le_of_ble_eq_true rfl) rfl ?_
      refine Cp.iconst (v := 0) X dX5_away_68 rfl ?_
      refine Cp.istore X dX5_away_69 (Nat.le_of_ble_eq_true rfl) rfl ?_
      refine Cp.mask [true, false, true, true, true, true, true] ?_
      exact pX5_away_71 X x2 v_51 x4_62 FU x4_62 0 σ
    · refine Cp.aload_n (i := 0) X dX5_away_18 rfl rfl ?_
      refine Cp.ldc (v := (-1000001)) X wcX5_58 dX5_away_19 ?_
      refine Cp.cVIM [] X [.int (-1000001)] cvX5_found (kX5_found X.ok (-1000001) σ) sc_0 rfl rfl wmX5_59 rfl rfl dX5_away_21 rfl (Nat.le_of_ble_eq_true rfl) (fun v_21 s_21 => ?_)
      exact Cp.iret X dX5_away_24 rfl
theorem kX5_away {l : Launch} {w : WE} (hok : OkW w shC)   (x1 : Int32) (x2 : Int32) (σ : Mem) : ∀ v, fX5_away x1 x2 σ = some v → Ctr l w shC yX5_away cX5_away 7 (some .int) 3 [.ref (wad w 0), .int x1, .int x2] σ (iIM v) := fun v hv => Ctr.of [some (.ref (wad w 0)), some (.int x1), some (.int x2), none, none, none, none] (by decide) hok rfl (Nat.le_of_ble_eq_true rfl) (fun M _ X => pX5_away X   x1 x2 σ v hv)
def fX5_seatFor_43 (x1 : Int32) (x2 : Int32) (k43 : Int32 → Int32 → Int32 → Mem → Option (Int32 × Mem)) (x3 : Int32) (x4 : Int32) (x5 : Int32) (σ : Mem) : Option (Int32 × Mem) :=
  (if 15 < x5 then (some (x3, σ)) else ((fX1_setSeat 11 x1 x5 σ).bind fun s_57 => (bnd2 (fX4_laughersOf 11 x2 s_57) fun v_69 s_69 => (pb (fJ6_bitCount_0f7a4 v_69 : Int32) fun x6_75 => (if x4 ≤ x6_75 then (k43 x3 x4 (x5 + 1) s_69) else (k43 x5 x6_75 (x5 + 1) s_69))))))
def fX5_seatFor (x1 : Int32) (x2 : Int32) (σ : Mem) : Option (Int32 × Mem) :=
  (if fX5_hasPerson x1 σ = true then (if fX5_hasJoke x2 σ = true then ((fX1_takeOver 11 1 σ).bind fun s_31 => (lw4 (fX5_seatFor_43 x1 x2) FU 0 9 0 s_31)) else (bnd2 (fX5_found (-1000001) σ) fun v_19 s_19 => (some (v_19, s_19)))) else (bnd2 (fX5_found (-1000001) σ) fun v_19 s_19 => (some (v_19, s_19))))
set_option maxRecDepth 20000 in
theorem pX5_seatFor_43 {M : MC} {w : WE} (X : Cx M w shC cX5_seatFor 7 RX5 (some .int) 4)   (x1 : Int32) (x2 : Int32)    : ∀ (n : Nat) (x3 : Int32) (x4 : Int32) (x5 : Int32) (σ : Mem), Cp M w shC 7 iIM 43 [some (.ref (wad w 0)), some (.int x1), some (.int x2), some (.int x3), some (.int x4), some (.int x5), none] [] σ (lw4 (fX5_seatFor_43 x1 x2) n x3 x4 x5 σ) :=
  lw4_i (P := fun x3 x4 x5 σ b => Cp M w shC 7 iIM 43 [some (.ref (wad w 0)), some (.int x1), some (.int x2), some (.int x3), some (.int x4), some (.int x5), none] [] σ b) (fun _ _ _ _ => Cp.non) (fun k43 hk43 x3 x4 x5 σ => by
  unfold fX5_seatFor_43
  refine Cp.iload X dX5_seatFor_43 rfl ?_
  refine Cp.bipush (v := 15) X dX5_seatFor_45 rfl ?_
  refine Cp.icmp_gt X 97 dX5_seatFor_47 (by decide) (fun c_47 => ?_) (fun c_47 => ?_)
  · refine Cp.iload_n (i := 3) X dX5_seatFor_97 rfl rfl ?_
    exact Cp.iret X dX5_seatFor_98 rfl
  · refine Cp.aload_n (i := 0) X dX5_seatFor_50 rfl rfl ?_
    refine gfX5_16 X 11 sc_0 rfl dX5_seatFor_51 ?_
    refine Cp.iload_n (i := 1) X dX5_seatFor_54 rfl rfl ?_
    refine Cp.iload X dX5_seatFor_55 rfl ?_
    refine Cp.cVV [] X [.int x1, .int x5] cvX1_setSeat (kX1_setSeat X.ok 11 isRm_11 x1 x5 σ) sc_11 rfl rfl wmX5_217 rfl rfl dX5_seatFor_57 rfl (Nat.le_of_ble_eq_true rfl) (fun s_57 => ?_)
    refine Cp.aload_n (i := 0) X dX5_seatFor_60 rfl rfl ?_
    refine gfX5_29 X 31 sc_0 rfl dX5_seatFor_61 ?_
    refine Cp.aload_n (i := 0) X dX5_seatFor_64 rfl rfl ?_
    refine gfX5_16 X 11 sc_0 rfl dX5_seatFor_65 ?_
    refine Cp.iload_n (i := 2) X dX5_seatFor_68 rfl rfl ?_
    refine Cp.cVIM [] X [.ref (wad w 11), .int x2] cvX4_laughersOf (kX4_laughersOf X.ok 11 isRm_11 x2 s_57) sc_31 rfl rfl wmX5_195 rfl rfl dX5_seatFor_69 rfl (Nat.le_of_ble_eq_true rfl) (fun v_69 s_69 => ?_)
    refine Cp.cSIT [] X [.int v_69] csJ6_bitCount_0f7a4 (kJ6_bitCount_0f7a4 X.ok v_69 s_69) wmX5_101 rfl rfl dX5_seatFor_72 rfl (Nat.le_of_ble_eq_true rfl) ?_
    refine Cp.nameI (fun x6_75 => ?_)
    refine Cp.istore X dX5_seatFor_75 (Nat.le_of_ble_eq_true rfl) rfl ?_
    refine Cp.iload X dX5_seatFor_77 rfl ?_
    refine Cp.iload X dX5_seatFor_79 rfl ?_
    refine Cp.icmp_ge X 91 dX5_seatFor_81 (by decide) (fun c_81 => ?_) (fun c_81 => ?_)
    · refine Cp.iinc (v := x5 + 1) X dX5_seatFor_91 rfl rfl (Nat.le_of_ble_eq_true rfl) rfl ?_
      refine Cp.goto X 43 dX5_seatFor_94 (by decide) ?_
      refine Cp.mask [true, true, true, true, true, true, false] ?_
      exact hk43 x3 x4 (x5 + 1) s_69
    · refine Cp.iload X dX5_seatFor_84 rfl ?_
      refine Cp.istore X dX5_seatFor_86 (Nat.le_of_ble_eq_true rfl) rfl ?_
      refine Cp.iload X dX5_seatFor_88 rfl ?_
      refine Cp.istore_n (i := 3) X dX5_seatFor_90 rfl (Nat.le_of_ble_eq_true rfl) rfl ?_
      refine Cp.iinc (v := x5 + 1) X dX5_seatFor_91 rfl rfl (Nat.le_of_ble_eq_true rfl) rfl ?_
      refine Cp.goto X 43 dX5_seatFor_94 (by decide) ?_
      refine Cp.mask [true, true, true, true, true, true, false] ?_
      exact hk43 x5 x6_75 (x5 + 1) s_69)
set_option maxRecDepth 20000 in
theorem pX5_seatFor {M : MC} {w : WE} (X : Cx M w shC cX5_seatFor 7 RX5 (some .int) 4)   (x1 : Int32) (x2 : Int32) (σ : Mem) : Cp M w shC 7 iIM 0 [some (.ref (wad w 0)), some (.int x1), some (.int x2), none, none, none, none] [] σ (fX5_seatFor x1 x2 σ) := by
  unfold fX5_seatFor
  refine Cp.aload_n (i := 0) X dX5_seatFor_0 rfl rfl ?_
  refine Cp.iload_n (i := 1) X dX5_seatFor_1 rfl rfl ?_
  refine Cp.cVBT [] X [.int x1] cvX5_hasPerson (kX5_hasPerson X.ok x1 σ) sc_0 rfl rfl wmX5_72 rfl rfl dX5_seatFor_2 rfl (Nat.le_of_ble_eq_true rfl) ?_
  refine Cp.if_eqB X 16 dX5_seatFor_5 (by decide) (fun c_5 => ?_) (fun c_5 => ?_)
  · refine Cp.aload_n (i := 0) X dX5_seatFor_16 rfl rfl ?_
    refine Cp.ldc (v := (-1000001)) X wcX5_58 dX5_seatFor_17 ?_
    refine Cp.cVIM [] X [.int (-1000001)] cvX5_found (kX5_found X.ok (-1000001) σ) sc_0 rfl rfl wmX5_59 rfl rfl dX5_seatFor_19 rfl (Nat.le_of_ble_eq_true rfl) (fun v_19 s_19 => ?_)
    exact Cp.iret X dX5_seatFor_22 rfl
  · refine Cp.aload_n (i := 0) X dX5_seatFor_8 rfl rfl ?_
    refine Cp.iload_n (i := 2) X dX5_seatFor_9 rfl rfl ?_
    refine Cp.cVBT [] X [.int x2] cvX5_hasJoke (kX5_hasJoke X.ok x2 σ) sc_0 rfl rfl wmX5_129 rfl rfl dX5_seatFor_10 rfl (Nat.le_of_ble_eq_true rfl) ?_
    refine Cp.if_neB X 23 dX5_seatFor_13 (by decide) (fun c_13 => ?_) (fun c_13 => ?_)
    · refine Cp.aload_n (i := 0) X dX5_seatFor_23 rfl rfl ?_
      refine gfX5_16 X 11 sc_0 rfl dX5_seatFor_24 ?_
      refine Cp.aload_n (i := 0) X dX5_seatFor_27 rfl rfl ?_
      refine gfX5_10 X 1 sc_0 rfl dX5_seatFor_28 ?_
      refine Cp.cVV [] X [.ref (wad w 1)] cvX1_takeOver (kX1_takeOver X.ok 11 1 isRm_11 isRm_1 σ) sc_11 rfl rfl wmX5_201 rfl rfl dX5_seatFor_31 rfl (Nat.le_of_ble_eq_true rfl) (fun s_31 => ?_)
      refine Cp.iconst (v := 0) X dX5_seatFor_34 rfl ?_
      refine Cp.istore_n (i := 3) X dX5_seatFor_35 rfl (Nat.le_of_ble_eq_true rfl) rfl ?_
      refine Cp.bipush (v := 9) X dX5_seatFor_36 rfl ?_
      refine Cp.istore X dX5_seatFor_38 (Nat.le_of_ble_eq_true rfl) rfl ?_
      refine Cp.iconst (v := 0) X dX5_seatFor_40 rfl ?_
      refine Cp.istore X dX5_seatFor_41 (Nat.le_of_ble_eq_true rfl) rfl ?_
      exact pX5_seatFor_43 X x1 x2 FU 0 9 0 s_31
    · refine Cp.aload_n (i := 0) X dX5_seatFor_16 rfl rfl ?_
      refine Cp.ldc (v := (-1000001)) X wcX5_58 dX5_seatFor_17 ?_
      refine Cp.cVIM [] X [.int (-1000001)] cvX5_found (kX5_found X.ok (-1000001) σ) sc_0 rfl rfl wmX5_59 rfl rfl dX5_seatFor_19 rfl (Nat.le_of_ble_eq_true rfl) (fun v_19 s_19 => ?_)
      exact Cp.iret X dX5_seatFor_22 rfl
theorem kX5_seatFor {l : Launch} {w : WE} (hok : OkW w shC)   (x1 : Int32) (x2 : Int32) (σ : Mem) : ∀ v, fX5_seatFor x1 x2 σ = some v → Ctr l w shC yX5_seatFor cX5_seatFor 7 (some .int) 4 [.ref (wad w 0), .int x1, .int x2] σ (iIM v) := fun v hv => Ctr.of [some (.ref (wad w 0)), some (.int x1), some (.int x2), none, none, none, none] (by decide) hok rfl (Nat.le_of_ble_eq_true rfl) (fun M _ X => pX5_seatFor X   x1 x2 σ v hv)
def fX5_kindFor_42 (x1 : Int32) (x2 : Int32) (k42 : Int32 → Int32 → Int32 → Mem → Option (Int32 × Mem)) (x3 : Int32) (x4 : Int32) (x5 : Int32) (σ : Mem) : Option (Int32 × Mem) :=
  (if 7 ≤ x5 then (some (x3, σ)) else (gd (inB x1 8 = true) (pb (up2 σ 12 x1.toNatClampNeg x5 : Mem) fun s_59 => (bnd2 (fX4_laughersOf 11 x2 s_59) fun v_69 s_69 => (pb (fJ6_bitCount_0f7a4 v_69 : Int32) fun x6_75 => (if x6_75 ≤ x4 then (k42 x3 x4 (x5 + 1) s_69) else (k42 x5 x6_75 (x5 + 1) s_69)))))))
def fX5_kindFor (x1 : Int32) (x2 : Int32) (σ : Mem) : Option (Int32 × Mem) :=
  (if fX5_hasPerson x1 σ = true then (if fX5_hasJoke x2 σ = true then ((fX1_takeOver 11 1 σ).bind fun s_31 => (pb ((-1) : Int32) fun x4_37 => (lw4 (fX5_kindFor_42 x1 x2) FU 0 x4_37 0 s_31))) else (bnd2 (fX5_found (-1000001) σ) fun v_19 s_19 => (some (v_19, s_19)))) else (bnd2 (fX5_found (-1000001) σ) fun v_19 s_19 => (some (v_19, s_19))))
set_option maxRecDepth 20000 in
theorem pX5_kindFor_42 {M : MC} {w : WE} (X : Cx M w shC cX5_kindFor 7 RX5 (some .int) 4)   (x1 : Int32) (x2 : Int32)    : ∀ (n : Nat) (x3 : Int32) (x4 : Int32) (x5 : Int32) (σ : Mem), Cp M w shC 7 iIM 42 [some (.ref (wad w 0)), some (.int x1), some (.int x2), some (.int x3), some (.int x4), some (.int x5), none] [] σ (lw4 (fX5_kindFor_42 x1 x2) n x3 x4 x5 σ) :=
  lw4_i (P := fun x3 x4 x5 σ b => Cp M w shC 7 iIM 42 [some (.ref (wad w 0)), some (.int x1), some (.int x2), some (.int x3), some (.int x4), some (.int x5), none] [] σ b) (fun _ _ _ _ => Cp.non) (fun k42 hk42 x3 x4 x5 σ => by
  unfold fX5_kindFor_42
  refine Cp.iload X dX5_kindFor_42 rfl ?_
  refine Cp.bipush (v := 7) X dX5_kindFor_44 rfl ?_
  refine Cp.icmp_ge X 97 dX5_kindFor_46 (by decide) (fun c_46 => ?_) (fun c_46 => ?_)
  · refine Cp.iload_n (i := 3) X dX5_kindFor_97 rfl rfl ?_
    exact Cp.iret X dX5_kindFor_98 rfl
  · refine Cp.aload_n (i := 0) X dX5_kindFor_49 rfl rfl ?_
    refine gfX5_16 X 11 sc_0 rfl dX5_kindFor_50 ?_
    refine gfX5_75 X 12 sc_11 rfl dX5_kindFor_53 ?_
    refine Cp.iload_n (i := 1) X dX5_kindFor_56 rfl rfl ?_
    refine Cp.iload X dX5_kindFor_57 rfl ?_
    refine Cp.iast X sc_12 dX5_kindFor_59 ?_
    refine Cp.nameM (fun s_59 => ?_)
    refine Cp.aload_n (i := 0) X dX5_kindFor_60 rfl rfl ?_
    refine gfX5_29 X 31 sc_0 rfl dX5_kindFor_61 ?_
    refine Cp.aload_n (i := 0) X dX5_kindFor_64 rfl rfl ?_
    refine gfX5_16 X 11 sc_0 rfl dX5_kindFor_65 ?_
    refine Cp.iload_n (i := 2) X dX5_kindFor_68 rfl rfl ?_
    refine Cp.cVIM [] X [.ref (wad w 11), .int x2] cvX4_laughersOf (kX4_laughersOf X.ok 11 isRm_11 x2 s_59) sc_31 rfl rfl wmX5_195 rfl rfl dX5_kindFor_69 rfl (Nat.le_of_ble_eq_true rfl) (fun v_69 s_69 => ?_)
    refine Cp.cSIT [] X [.int v_69] csJ6_bitCount_0f7a4 (kJ6_bitCount_0f7a4 X.ok v_69 s_69) wmX5_101 rfl rfl dX5_kindFor_72 rfl (Nat.le_of_ble_eq_true rfl) ?_
    refine Cp.nameI (fun x6_75 => ?_)
    refine Cp.istore X dX5_kindFor_75 (Nat.le_of_ble_eq_true rfl) rfl ?_
    refine Cp.iload X dX5_kindFor_77 rfl ?_
    refine Cp.iload X dX5_kindFor_79 rfl ?_
    refine Cp.icmp_le X 91 dX5_kindFor_81 (by decide) (fun c_81 => ?_) (fun c_81 => ?_)
    · refine Cp.iinc (v := x5 + 1) X dX5_kindFor_91 rfl rfl (Nat.le_of_ble_eq_true rfl) rfl ?_
      refine Cp.goto X 42 dX5_kindFor_94 (by decide) ?_
      refine Cp.mask [true, true, true, true, true, true, false] ?_
      exact hk42 x3 x4 (x5 + 1) s_69
    · refine Cp.iload X dX5_kindFor_84 rfl ?_
      refine Cp.istore X dX5_kindFor_86 (Nat.le_of_ble_eq_true rfl) rfl ?_
      refine Cp.iload X dX5_kindFor_88 rfl ?_
      refine Cp.istore_n (i := 3) X dX5_kindFor_90 rfl (Nat.le_of_ble_eq_true rfl) rfl ?_
      refine Cp.iinc (v := x5 + 1) X dX5_kindFor_91 rfl rfl (Nat.le_of_ble_eq_true rfl) rfl ?_
      refine Cp.goto X 42 dX5_kindFor_94 (by decide) ?_
      refine Cp.mask [true, true, true, true, true, true, false] ?_
      exact hk42 x5 x6_75 (x5 + 1) s_69)
set_option maxRecDepth 20000 in
theorem pX5_kindFor {M : MC} {w : WE} (X : Cx M w shC cX5_kindFor 7 RX5 (some .int) 4)   (x1 : Int32) (x2 : Int32) (σ : Mem) : Cp M w shC 7 iIM 0 [some (.ref (wad w 0)), some (.int x1), some (.int x2), none, none, none, none] [] σ (fX5_kindFor x1 x2 σ) := by
  unfold fX5_kindFor
  refine Cp.aload_n (i := 0) X dX5_kindFor_0 rfl rfl ?_
  refine Cp.iload_n (i := 1) X dX5_kindFor_1 rfl rfl ?_
  refine Cp.cVBT [] X [.int x1] cvX5_hasPerson (kX5_hasPerson X.ok x1 σ) sc_0 rfl rfl wmX5_72 rfl rfl dX5_kindFor_2 rfl (Nat.le_of_ble_eq_true rfl) ?_
  refine Cp.if_eqB X 16 dX5_kindFor_5 (by decide) (fun c_5 => ?_) (fun c_5 => ?_)
  · refine Cp.aload_n (i := 0) X dX5_kindFor_16 rfl rfl ?_
    refine Cp.ldc (v := (-1000001)) X wcX5_58 dX5_kindFor_17 ?_
    refine Cp.cVIM [] X [.int (-1000001)] cvX5_found (kX5_found X.ok (-1000001) σ) sc_0 rfl rfl wmX5_59 rfl rfl dX5_kindFor_19 rfl (Nat.le_of_ble_eq_true rfl) (fun v_19 s_19 => ?_)
    exact Cp.iret X dX5_kindFor_22 rfl
  · refine Cp.aload_n (i := 0) X dX5_kindFor_8 rfl rfl ?_
    refine Cp.iload_n (i := 2) X dX5_kindFor_9 rfl rfl ?_
    refine Cp.cVBT [] X [.int x2] cvX5_hasJoke (kX5_hasJoke X.ok x2 σ) sc_0 rfl rfl wmX5_129 rfl rfl dX5_kindFor_10 rfl (Nat.le_of_ble_eq_true rfl) ?_
    refine Cp.if_neB X 23 dX5_kindFor_13 (by decide) (fun c_13 => ?_) (fun c_13 => ?_)
    · refine Cp.aload_n (i := 0) X dX5_kindFor_23 rfl rfl ?_
      refine gfX5_16 X 11 sc_0 rfl dX5_kindFor_24 ?_
      refine Cp.aload_n (i := 0) X dX5_kindFor_27 rfl rfl ?_
      refine gfX5_10 X 1 sc_0 rfl dX5_kindFor_28 ?_
      refine Cp.cVV [] X [.ref (wad w 1)] cvX1_takeOver (kX1_takeOver X.ok 11 1 isRm_11 isRm_1 σ) sc_11 rfl rfl wmX5_201 rfl rfl dX5_kindFor_31 rfl (Nat.le_of_ble_eq_true rfl) (fun s_31 => ?_)
      refine Cp.iconst (v := 0) X dX5_kindFor_34 rfl ?_
      refine Cp.istore_n (i := 3) X dX5_kindFor_35 rfl (Nat.le_of_ble_eq_true rfl) rfl ?_
      refine Cp.iconst (v := (-1)) X dX5_kindFor_36 rfl ?_
      refine Cp.nameI (fun x4_37 => ?_)
      refine Cp.istore X dX5_kindFor_37 (Nat.le_of_ble_eq_true rfl) rfl ?_
      refine Cp.iconst (v := 0) X dX5_kindFor_39 rfl ?_
      refine Cp.istore X dX5_kindFor_40 (Nat.le_of_ble_eq_true rfl) rfl ?_
      exact pX5_kindFor_42 X x1 x2 FU 0 x4_37 0 s_31
    · refine Cp.aload_n (i := 0) X dX5_kindFor_16 rfl rfl ?_
      refine Cp.ldc (v := (-1000001)) X wcX5_58 dX5_kindFor_17 ?_
      refine Cp.cVIM [] X [.int (-1000001)] cvX5_found (kX5_found X.ok (-1000001) σ) sc_0 rfl rfl wmX5_59 rfl rfl dX5_kindFor_19 rfl (Nat.le_of_ble_eq_true rfl) (fun v_19 s_19 => ?_)
      exact Cp.iret X dX5_kindFor_22 rfl
theorem kX5_kindFor {l : Launch} {w : WE} (hok : OkW w shC)   (x1 : Int32) (x2 : Int32) (σ : Mem) : ∀ v, fX5_kindFor x1 x2 σ = some v → Ctr l w shC yX5_kindFor cX5_kindFor 7 (some .int) 4 [.ref (wad w 0), .int x1, .int x2] σ (iIM v) := fun v hv => Ctr.of [some (.ref (wad w 0)), some (.int x1), some (.int x2), none, none, none, none] (by decide) hok rfl (Nat.le_of_ble_eq_true rfl) (fun M _ X => pX5_kindFor X   x1 x2 σ v hv)
def fX5_reachFor_28 (x1 : Int32) (k28 : Int32 → Mem → Option (Int32 × Mem)) (x2 : Int32) (σ : Mem) : Option (Int32 × Mem) :=
  (if 15 < x2 then (bnd2 (fX5_found (-1000004) σ) fun v_75 s_75 => (some (v_75, s_75))) else ((fX1_setReach 11 x2 σ).bind fun s_39 => (bnd2 (fX4_laughersOf 11 x1 s_39) fun v_51 s_51 => (if v_51 = (fX1_everybody 11 s_51) then (some (x2, s_51)) else (k28 (x2 + 1) s_51)))))
def fX5_reachFor (x1 : Int32) (σ : Mem) : Option (Int32 × Mem) :=
  (if fX5_hasJoke x1 σ = true then ((fX1_takeOver 11 1 σ).bind fun s_23 => (lw2 (fX5_reachFor_28 x1) FU 0 s_23)) else (bnd2 (fX5_found (-1000001) σ) fun v_11 s_11 => (some (v_11, s_11))))
set_option maxRecDepth 20000 in
theorem pX5_reachFor_28 {M : MC} {w : WE} (X : Cx M w shC cX5_reachFor 3 RX5 (some .int) 4)   (x1 : Int32)    : ∀ (n : Nat) (x2 : Int32) (σ : Mem), Cp M w shC 3 iIM 28 [some (.ref (wad w 0)), some (.int x1), some (.int x2)] [] σ (lw2 (fX5_reachFor_28 x1) n x2 σ) :=
  lw2_i (P := fun x2 σ b => Cp M w shC 3 iIM 28 [some (.ref (wad w 0)), some (.int x1), some (.int x2)] [] σ b) (fun _ _ => Cp.non) (fun k28 hk28 x2 σ => by
  unfold fX5_reachFor_28
  refine Cp.iload_n (i := 2) X dX5_reachFor_28 rfl rfl ?_
  refine Cp.bipush (v := 15) X dX5_reachFor_29 rfl ?_
  refine Cp.icmp_gt X 72 dX5_reachFor_31 (by decide) (fun c_31 => ?_) (fun c_31 => ?_)
  · refine Cp.aload_n (i := 0) X dX5_reachFor_72 rfl rfl ?_
    refine Cp.ldc (v := (-1000004)) X wcX5_182 dX5_reachFor_73 ?_
    refine Cp.cVIM [] X [.int (-1000004)] cvX5_found (kX5_found X.ok (-1000004) σ) sc_0 rfl rfl wmX5_59 rfl rfl dX5_reachFor_75 rfl (Nat.le_of_ble_eq_true rfl) (fun v_75 s_75 => ?_)
    exact Cp.iret X dX5_reachFor_78 rfl
  · refine Cp.aload_n (i := 0) X dX5_reachFor_34 rfl rfl ?_
    refine gfX5_16 X 11 sc_0 rfl dX5_reachFor_35 ?_
    refine Cp.iload_n (i := 2) X dX5_reachFor_38 rfl rfl ?_
    refine Cp.cVV [] X [.int x2] cvX1_setReach (kX1_setReach X.ok 11 isRm_11 x2 σ) sc_11 rfl rfl wmX5_148 rfl rfl dX5_reachFor_39 rfl (Nat.le_of_ble_eq_true rfl) (fun s_39 => ?_)
    refine Cp.aload_n (i := 0) X dX5_reachFor_42 rfl rfl ?_
    refine gfX5_29 X 31 sc_0 rfl dX5_reachFor_43 ?_
    refine Cp.aload_n (i := 0) X dX5_reachFor_46 rfl rfl ?_
    refine gfX5_16 X 11 sc_0 rfl dX5_reachFor_47 ?_
    refine Cp.iload_n (i := 1) X dX5_reachFor_50 rfl rfl ?_
    refine Cp.cVIM [] X [.ref (wad w 11), .int x1] cvX4_laughersOf (kX4_laughersOf X.ok 11 isRm_11 x1 s_39) sc_31 rfl rfl wmX5_195 rfl rfl dX5_reachFor_51 rfl (Nat.le_of_ble_eq_true rfl) (fun v_51 s_51 => ?_)
    refine Cp.aload_n (i := 0) X dX5_reachFor_54 rfl rfl ?_
    refine gfX5_16 X 11 sc_0 rfl dX5_reachFor_55 ?_
    refine Cp.cVIT [.int v_51] X [] cvX1_everybody (kX1_everybody X.ok 11 isRm_11 s_51) sc_11 rfl rfl wmX5_208 rfl rfl dX5_reachFor_58 rfl (Nat.le_of_ble_eq_true rfl) ?_
    refine Cp.icmp_ne X 66 dX5_reachFor_61 (by decide) (fun c_61 => ?_) (fun c_61 => ?_)
    · refine Cp.iinc (v := x2 + 1) X dX5_reachFor_66 rfl rfl (Nat.le_of_ble_eq_true rfl) rfl ?_
      refine Cp.goto X 28 dX5_reachFor_69 (by decide) ?_
      exact hk28 (x2 + 1) s_51
    · refine Cp.iload_n (i := 2) X dX5_reachFor_64 rfl rfl ?_
      exact Cp.iret X dX5_reachFor_65 rfl)
set_option maxRecDepth 20000 in
theorem pX5_reachFor {M : MC} {w : WE} (X : Cx M w shC cX5_reachFor 3 RX5 (some .int) 4)   (x1 : Int32) (σ : Mem) : Cp M w shC 3 iIM 0 [some (.ref (wad w 0)), some (.int x1), none] [] σ (fX5_reachFor x1 σ) := by
  unfold fX5_reachFor
  refine Cp.aload_n (i := 0) X dX5_reachFor_0 rfl rfl ?_
  refine Cp.iload_n (i := 1) X dX5_reachFor_1 rfl rfl ?_
  refine Cp.cVBT [] X [.int x1] cvX5_hasJoke (kX5_hasJoke X.ok x1 σ) sc_0 rfl rfl wmX5_129 rfl rfl dX5_reachFor_2 rfl (Nat.le_of_ble_eq_true rfl) ?_
  refine Cp.if_neB X 15 dX5_reachFor_5 (by decide) (fun c_5 => ?_) (fun c_5 => ?_)
  · refine Cp.aload_n (i := 0) X dX5_reachFor_15 rfl rfl ?_
    refine gfX5_16 X 11 sc_0 rfl dX5_reachFor_16 ?_
    refine Cp.aload_n (i := 0) X dX5_reachFor_19 rfl rfl ?_
    refine gfX5_10 X 1 sc_0 rfl dX5_reachFor_20 ?_
    refine Cp.cVV [] X [.ref (wad w 1)] cvX1_takeOver (kX1_takeOver X.ok 11 1 isRm_11 isRm_1 σ) sc_11 rfl rfl wmX5_201 rfl rfl dX5_reachFor_23 rfl (Nat.le_of_ble_eq_true rfl) (fun s_23 => ?_)
    refine Cp.iconst (v := 0) X dX5_reachFor_26 rfl ?_
    refine Cp.istore_n (i := 2) X dX5_reachFor_27 rfl (Nat.le_of_ble_eq_true rfl) rfl ?_
    exact pX5_reachFor_28 X x1 FU 0 s_23
  · refine Cp.aload_n (i := 0) X dX5_reachFor_8 rfl rfl ?_
    refine Cp.ldc (v := (-1000001)) X wcX5_58 dX5_reachFor_9 ?_
    refine Cp.cVIM [] X [.int (-1000001)] cvX5_found (kX5_found X.ok (-1000001) σ) sc_0 rfl rfl wmX5_59 rfl rfl dX5_reachFor_11 rfl (Nat.le_of_ble_eq_true rfl) (fun v_11 s_11 => ?_)
    exact Cp.iret X dX5_reachFor_14 rfl
theorem kX5_reachFor {l : Launch} {w : WE} (hok : OkW w shC)   (x1 : Int32) (σ : Mem) : ∀ v, fX5_reachFor x1 σ = some v → Ctr l w shC yX5_reachFor cX5_reachFor 3 (some .int) 4 [.ref (wad w 0), .int x1] σ (iIM v) := fun v hv => Ctr.of [some (.ref (wad w 0)), some (.int x1), none] (by decide) hok rfl (Nat.le_of_ble_eq_true rfl) (fun M _ X => pX5_reachFor X   x1 σ v hv)
def fX5_rateFor_33 (x1 : Int32) (x2 : Int32) (k33 : Int32 → Int32 → Int32 → Mem → Option (Int32 × Mem)) (x3 : Int32) (x4 : Int32) (x5 : Int32) (σ : Mem) : Option (Int32 × Mem) :=
  (if 20 < x5 then (some (x3, σ)) else ((fX1_takeOver 11 1 σ).bind fun s_48 => (pb (up2 s_48 11 10 x5 : Mem) fun s_57 => (bnd2 (fX4_performOften 11 x1 x2 s_57) fun v_70 s_70 => (if v_70 ≤ x4 then (k33 x3 x4 (x5 + 1) s_70) else (k33 x5 v_70 (x5 + 1) s_70))))))
def fX5_rateFor (x1 : Int32) (x2 : Int32) (σ : Mem) : Option (Int32 × Mem) :=
  (if fX5_hasJoke x1 σ = true then (if fX5_within x2 1 20 = true then (pb ((-1) : Int32) fun x4_28 => (lw4 (fX5_rateFor_33 x1 x2) FU 0 x4_28 0 σ)) else (bnd2 (fX5_found (-1000001) σ) fun v_21 s_21 => (some (v_21, s_21)))) else (bnd2 (fX5_found (-1000001) σ) fun v_21 s_21 => (some (v_21, s_21))))
set_option maxRecDepth 20000 in
theorem pX5_rateFor_33 {M : MC} {w : WE} (X : Cx M w shC cX5_rateFor 7 RX5 (some .int) 6)   (x1 : Int32) (x2 : Int32)    : ∀ (n : Nat) (x3 : Int32) (x4 : Int32) (x5 : Int32) (σ : Mem), Cp M w shC 7 iIM 33 [some (.ref (wad w 0)), some (.int x1), some (.int x2), some (.int x3), some (.int x4), some (.int x5), none] [] σ (lw4 (fX5_rateFor_33 x1 x2) n x3 x4 x5 σ) :=
  lw4_i (P := fun x3 x4 x5 σ b => Cp M w shC 7 iIM 33 [some (.ref (wad w 0)), some (.int x1), some (.int x2), some (.int x3), some (.int x4), some (.int x5), none] [] σ b) (fun _ _ _ _ => Cp.non) (fun k33 hk33 x3 x4 x5 σ => by
  unfold fX5_rateFor_33
  refine Cp.iload X dX5_rateFor_33 rfl ?_
  refine Cp.bipush (v := 20) X dX5_rateFor_35 rfl ?_
  refine Cp.icmp_gt X 95 dX5_rateFor_37 (by decide) (fun c_37 => ?_) (fun c_37 => ?_)
  · refine Cp.iload_n (i := 3) X dX5_rateFor_95 rfl rfl ?_
    exact Cp.iret X dX5_rateFor_96 rfl
  · refine Cp.aload_n (i := 0) X dX5_rateFor_40 rfl rfl ?_
    refine gfX5_16 X 11 sc_0 rfl dX5_rateFor_41 ?_
    refine Cp.aload_n (i := 0) X dX5_rateFor_44 rfl rfl ?_
    refine gfX5_10 X 1 sc_0 rfl dX5_rateFor_45 ?_
    refine Cp.cVV [] X [.ref (wad w 1)] cvX1_takeOver (kX1_takeOver X.ok 11 1 isRm_11 isRm_1 σ) sc_11 rfl rfl wmX5_201 rfl rfl dX5_rateFor_48 rfl (Nat.le_of_ble_eq_true rfl) (fun s_48 => ?_)
    refine Cp.aload_n (i := 0) X dX5_rateFor_51 rfl rfl ?_
    refine gfX5_16 X 11 sc_0 rfl dX5_rateFor_52 ?_
    refine Cp.iload X dX5_rateFor_55 rfl ?_
    refine pfX5_142 X sc_11 rfl dX5_rateFor_57 ?_
    refine Cp.nameM (fun s_57 => ?_)
    refine Cp.aload_n (i := 0) X dX5_rateFor_60 rfl rfl ?_
    refine gfX5_29 X 31 sc_0 rfl dX5_rateFor_61 ?_
    refine Cp.aload_n (i := 0) X dX5_rateFor_64 rfl rfl ?_
    refine gfX5_16 X 11 sc_0 rfl dX5_rateFor_65 ?_
    refine Cp.iload_n (i := 1) X dX5_rateFor_68 rfl rfl ?_
    refine Cp.iload_n (i := 2) X dX5_rateFor_69 rfl rfl ?_
    refine Cp.cVIM [] X [.ref (wad w 11), .int x1, .int x2] cvX4_performOften (kX4_performOften X.ok 11 isRm_11 x1 x2 s_57) sc_31 rfl rfl wmX5_171 rfl rfl dX5_rateFor_70 rfl (Nat.le_of_ble_eq_true rfl) (fun v_70 s_70 => ?_)
    refine Cp.istore X dX5_rateFor_73 (Nat.le_of_ble_eq_true rfl) rfl ?_
    refine Cp.iload X dX5_rateFor_75 rfl ?_
    refine Cp.iload X dX5_rateFor_77 rfl ?_
    refine Cp.icmp_le X 89 dX5_rateFor_79 (by decide) (fun c_79 => ?_) (fun c_79 => ?_)
    · refine Cp.iinc (v := x5 + 1) X dX5_rateFor_89 rfl rfl (Nat.le_of_ble_eq_true rfl) rfl ?_
      refine Cp.goto X 33 dX5_rateFor_92 (by decide) ?_
      refine Cp.mask [true, true, true, true, true, true, false] ?_
      exact hk33 x3 x4 (x5 + 1) s_70
    · refine Cp.iload X dX5_rateFor_82 rfl ?_
      refine Cp.istore X dX5_rateFor_84 (Nat.le_of_ble_eq_true rfl) rfl ?_
      refine Cp.iload X dX5_rateFor_86 rfl ?_
      refine Cp.istore_n (i := 3) X dX5_rateFor_88 rfl (Nat.le_of_ble_eq_true rfl) rfl ?_
      refine Cp.iinc (v := x5 + 1) X dX5_rateFor_89 rfl rfl (Nat.le_of_ble_eq_true rfl) rfl ?_
      refine Cp.goto X 33 dX5_rateFor_92 (by decide) ?_
      refine Cp.mask [true, true, true, true, true, true, false] ?_
      exact hk33 x5 v_70 (x5 + 1) s_70)
set_option maxRecDepth 20000 in
theorem pX5_rateFor {M : MC} {w : WE} (X : Cx M w shC cX5_rateFor 7 RX5 (some .int) 6)   (x1 : Int32) (x2 : Int32) (σ : Mem) : Cp M w shC 7 iIM 0 [some (.ref (wad w 0)), some (.int x1), some (.int x2), none, none, none, none] [] σ (fX5_rateFor x1 x2 σ) := by
  unfold fX5_rateFor
  refine Cp.aload_n (i := 0) X dX5_rateFor_0 rfl rfl ?_
  refine Cp.iload_n (i := 1) X dX5_rateFor_1 rfl rfl ?_
  refine Cp.cVBT [] X [.int x1] cvX5_hasJoke (kX5_hasJoke X.ok x1 σ) sc_0 rfl rfl wmX5_129 rfl rfl dX5_rateFor_2 rfl (Nat.le_of_ble_eq_true rfl) ?_
  refine Cp.if_eqB X 18 dX5_rateFor_5 (by decide) (fun c_5 => ?_) (fun c_5 => ?_)
  · refine Cp.aload_n (i := 0) X dX5_rateFor_18 rfl rfl ?_
    refine Cp.ldc (v := (-1000001)) X wcX5_58 dX5_rateFor_19 ?_
    refine Cp.cVIM [] X [.int (-1000001)] cvX5_found (kX5_found X.ok (-1000001) σ) sc_0 rfl rfl wmX5_59 rfl rfl dX5_rateFor_21 rfl (Nat.le_of_ble_eq_true rfl) (fun v_21 s_21 => ?_)
    exact Cp.iret X dX5_rateFor_24 rfl
  · refine Cp.iload_n (i := 2) X dX5_rateFor_8 rfl rfl ?_
    refine Cp.iconst (v := 1) X dX5_rateFor_9 rfl ?_
    refine Cp.bipush (v := 20) X dX5_rateFor_10 rfl ?_
    refine Cp.cSBT [] X [.int x2, .int 1, .int 20] csX5_within (kX5_within X.ok x2 1 20 σ) wmX5_132 rfl rfl dX5_rateFor_12 rfl (Nat.le_of_ble_eq_true rfl) ?_
    refine Cp.if_neB X 25 dX5_rateFor_15 (by decide) (fun c_15 => ?_) (fun c_15 => ?_)
    · refine Cp.iconst (v := 0) X dX5_rateFor_25 rfl ?_
      refine Cp.istore_n (i := 3) X dX5_rateFor_26 rfl (Nat.le_of_ble_eq_true rfl) rfl ?_
      refine Cp.iconst (v := (-1)) X dX5_rateFor_27 rfl ?_
      refine Cp.nameI (fun x4_28 => ?_)
      refine Cp.istore X dX5_rateFor_28 (Nat.le_of_ble_eq_true rfl) rfl ?_
      refine Cp.iconst (v := 0) X dX5_rateFor_30 rfl ?_
      refine Cp.istore X dX5_rateFor_31 (Nat.le_of_ble_eq_true rfl) rfl ?_
      exact pX5_rateFor_33 X x1 x2 FU 0 x4_28 0 σ
    · refine Cp.aload_n (i := 0) X dX5_rateFor_18 rfl rfl ?_
      refine Cp.ldc (v := (-1000001)) X wcX5_58 dX5_rateFor_19 ?_
      refine Cp.cVIM [] X [.int (-1000001)] cvX5_found (kX5_found X.ok (-1000001) σ) sc_0 rfl rfl wmX5_59 rfl rfl dX5_rateFor_21 rfl (Nat.le_of_ble_eq_true rfl) (fun v_21 s_21 => ?_)
      exact Cp.iret X dX5_rateFor_24 rfl
theorem kX5_rateFor {l : Launch} {w : WE} (hok : OkW w shC)   (x1 : Int32) (x2 : Int32) (σ : Mem) : ∀ v, fX5_rateFor x1 x2 σ = some v → Ctr l w shC yX5_rateFor cX5_rateFor 7 (some .int) 6 [.ref (wad w 0), .int x1, .int x2] σ (iIM v) := fun v hv => Ctr.of [some (.ref (wad w 0)), some (.int x1), some (.int x2), none, none, none, none] (by decide) hok rfl (Nat.le_of_ble_eq_true rfl) (fun M _ X => pX5_rateFor X   x1 x2 σ v hv)
def fX5_laughingAt (x1 : Int32) (x2 : Int32) (σ : Mem) : Option (Int32 × Mem) :=
  ((fX4_startersOf 1 x1 x2 σ).bind fun v_10 => (bnd2 (fX4_spread 1 v_10 (fX1_everybody 1 σ) σ) fun v_30 s_30 => (some (fJ6_bitCount_0f7a4 v_30, s_30))))
set_option maxRecDepth 20000 in
theorem pX5_laughingAt {M : MC} {w : WE} (X : Cx M w shC cX5_laughingAt 4 RX5 (some .int) 3)   (x1 : Int32) (x2 : Int32) (σ : Mem) : Cp M w shC 4 iIM 0 [some (.ref (wad w 0)), some (.int x1), some (.int x2), none] [] σ (fX5_laughingAt x1 x2 σ) := by
  unfold fX5_laughingAt
  refine Cp.aload_n (i := 0) X dX5_laughingAt_0 rfl rfl ?_
  refine gfX5_29 X 31 sc_0 rfl dX5_laughingAt_1 ?_
  refine Cp.aload_n (i := 0) X dX5_laughingAt_4 rfl rfl ?_
  refine gfX5_10 X 1 sc_0 rfl dX5_laughingAt_5 ?_
  refine Cp.iload_n (i := 1) X dX5_laughingAt_8 rfl rfl ?_
  refine Cp.iload_n (i := 2) X dX5_laughingAt_9 rfl rfl ?_
  refine Cp.cVI [] X [.ref (wad w 1), .int x1, .int x2] cvX4_startersOf (kX4_startersOf X.ok 1 isRm_1 x1 x2 σ) sc_31 rfl rfl wmX5_192 rfl rfl dX5_laughingAt_10 rfl (Nat.le_of_ble_eq_true rfl) (fun v_10 => ?_)
  refine Cp.istore_n (i := 3) X dX5_laughingAt_13 rfl (Nat.le_of_ble_eq_true rfl) rfl ?_
  refine Cp.aload_n (i := 0) X dX5_laughingAt_14 rfl rfl ?_
  refine gfX5_29 X 31 sc_0 rfl dX5_laughingAt_15 ?_
  refine Cp.aload_n (i := 0) X dX5_laughingAt_18 rfl rfl ?_
  refine gfX5_10 X 1 sc_0 rfl dX5_laughingAt_19 ?_
  refine Cp.iload_n (i := 3) X dX5_laughingAt_22 rfl rfl ?_
  refine Cp.aload_n (i := 0) X dX5_laughingAt_23 rfl rfl ?_
  refine gfX5_10 X 1 sc_0 rfl dX5_laughingAt_24 ?_
  refine Cp.cVIT [.int v_10, .ref (wad w 1), .ref (wad w 31)] X [] cvX1_everybody (kX1_everybody X.ok 1 isRm_1 σ) sc_1 rfl rfl wmX5_208 rfl rfl dX5_laughingAt_27 rfl (Nat.le_of_ble_eq_true rfl) ?_
  refine Cp.cVIM [] X [.ref (wad w 1), .int v_10, .int (fX1_everybody 1 σ)] cvX4_spread (kX4_spread X.ok 1 isRm_1 v_10 (fX1_everybody 1 σ) σ) sc_31 rfl rfl wmX5_211 rfl rfl dX5_laughingAt_30 rfl (Nat.le_of_ble_eq_true rfl) (fun v_30 s_30 => ?_)
  refine Cp.cSIT [] X [.int v_30] csJ6_bitCount_0f7a4 (kJ6_bitCount_0f7a4 X.ok v_30 s_30) wmX5_101 rfl rfl dX5_laughingAt_33 rfl (Nat.le_of_ble_eq_true rfl) ?_
  exact Cp.iret X dX5_laughingAt_36 rfl
theorem kX5_laughingAt {l : Launch} {w : WE} (hok : OkW w shC)   (x1 : Int32) (x2 : Int32) (σ : Mem) : ∀ v, fX5_laughingAt x1 x2 σ = some v → Ctr l w shC yX5_laughingAt cX5_laughingAt 4 (some .int) 3 [.ref (wad w 0), .int x1, .int x2] σ (iIM v) := fun v hv => Ctr.of [some (.ref (wad w 0)), some (.int x1), some (.int x2), none] (by decide) hok rfl (Nat.le_of_ble_eq_true rfl) (fun M _ X => pX5_laughingAt X   x1 x2 σ v hv)
def fX5_best_21 (x1 : Int32) (k21 : Int32 → Int32 → Int32 → Mem → Option (Int32 × Mem)) (x2 : Int32) (x3 : Int32) (x4 : Int32) (σ : Mem) : Option (Int32 × Mem) :=
  (if 63 < x4 then (some (x2, σ)) else (bnd2 (fX5_laughingAt x4 x1 σ) fun v_32 s_32 => (if v_32 ≤ x3 then (k21 x2 x3 (x4 + 1) s_32) else (k21 x4 v_32 (x4 + 1) s_32))))
def fX5_best (x1 : Int32) (σ : Mem) : Option (Int32 × Mem) :=
  (if fX5_isFun x1 = true then (pb ((-1) : Int32) fun x3_17 => (lw4 (fX5_best_21 x1) FU 1 x3_17 1 σ)) else (bnd2 (fX5_found (-1000001) σ) fun v_10 s_10 => (some (v_10, s_10))))
set_option maxRecDepth 20000 in
theorem pX5_best_21 {M : MC} {w : WE} (X : Cx M w shC cX5_best 6 RX5 (some .int) 4)   (x1 : Int32)    : ∀ (n : Nat) (x2 : Int32) (x3 : Int32) (x4 : Int32) (σ : Mem), Cp M w shC 6 iIM 21 [some (.ref (wad w 0)), some (.int x1), some (.int x2), some (.int x3), some (.int x4), none] [] σ (lw4 (fX5_best_21 x1) n x2 x3 x4 σ) :=
  lw4_i (P := fun x2 x3 x4 σ b => Cp M w shC 6 iIM 21 [some (.ref (wad w 0)), some (.int x1), some (.int x2), some (.int x3), some (.int x4), none] [] σ b) (fun _ _ _ _ => Cp.non) (fun k21 hk21 x2 x3 x4 σ => by
  unfold fX5_best_21
  refine Cp.iload X dX5_best_21 rfl ?_
  refine Cp.bipush (v := 63) X dX5_best_23 rfl ?_
  refine Cp.icmp_gt X 55 dX5_best_25 (by decide) (fun c_25 => ?_) (fun c_25 => ?_)
  · refine Cp.iload_n (i := 2) X dX5_best_55 rfl rfl ?_
    exact Cp.iret X dX5_best_56 rfl
  · refine Cp.aload_n (i := 0) X dX5_best_28 rfl rfl ?_
    refine Cp.iload X dX5_best_29 rfl ?_
    refine Cp.iload_n (i := 1) X dX5_best_31 rfl rfl ?_
    refine Cp.cVIM [] X [.int x4, .int x1] cvX5_laughingAt (kX5_laughingAt X.ok x4 x1 σ) sc_0 rfl rfl wmX5_221 rfl rfl dX5_best_32 rfl (Nat.le_of_ble_eq_true rfl) (fun v_32 s_32 => ?_)
    refine Cp.istore X dX5_best_35 (Nat.le_of_ble_eq_true rfl) rfl ?_
    refine Cp.iload X dX5_best_37 rfl ?_
    refine Cp.iload_n (i := 3) X dX5_best_39 rfl rfl ?_
    refine Cp.icmp_le X 49 dX5_best_40 (by decide) (fun c_40 => ?_) (fun c_40 => ?_)
    · refine Cp.iinc (v := x4 + 1) X dX5_best_49 rfl rfl (Nat.le_of_ble_eq_true rfl) rfl ?_
      refine Cp.goto X 21 dX5_best_52 (by decide) ?_
      refine Cp.mask [true, true, true, true, true, false] ?_
      exact hk21 x2 x3 (x4 + 1) s_32
    · refine Cp.iload X dX5_best_43 rfl ?_
      refine Cp.istore_n (i := 3) X dX5_best_45 rfl (Nat.le_of_ble_eq_true rfl) rfl ?_
      refine Cp.iload X dX5_best_46 rfl ?_
      refine Cp.istore_n (i := 2) X dX5_best_48 rfl (Nat.le_of_ble_eq_true rfl) rfl ?_
      refine Cp.iinc (v := x4 + 1) X dX5_best_49 rfl rfl (Nat.le_of_ble_eq_true rfl) rfl ?_
      refine Cp.goto X 21 dX5_best_52 (by decide) ?_
      refine Cp.mask [true, true, true, true, true, false] ?_
      exact hk21 x4 v_32 (x4 + 1) s_32)
set_option maxRecDepth 20000 in
theorem pX5_best {M : MC} {w : WE} (X : Cx M w shC cX5_best 6 RX5 (some .int) 4)   (x1 : Int32) (σ : Mem) : Cp M w shC 6 iIM 0 [some (.ref (wad w 0)), some (.int x1), none, none, none, none] [] σ (fX5_best x1 σ) := by
  unfold fX5_best
  refine Cp.iload_n (i := 1) X dX5_best_0 rfl rfl ?_
  refine Cp.cSBT [] X [.int x1] csX5_isFun (kX5_isFun X.ok x1 σ) wmX5_120 rfl rfl dX5_best_1 rfl (Nat.le_of_ble_eq_true rfl) ?_
  refine Cp.if_neB X 14 dX5_best_4 (by decide) (fun c_4 => ?_) (fun c_4 => ?_)
  · refine Cp.iconst (v := 1) X dX5_best_14 rfl ?_
    refine Cp.istore_n (i := 2) X dX5_best_15 rfl (Nat.le_of_ble_eq_true rfl) rfl ?_
    refine Cp.iconst (v := (-1)) X dX5_best_16 rfl ?_
    refine Cp.nameI (fun x3_17 => ?_)
    refine Cp.istore_n (i := 3) X dX5_best_17 rfl (Nat.le_of_ble_eq_true rfl) rfl ?_
    refine Cp.iconst (v := 1) X dX5_best_18 rfl ?_
    refine Cp.istore X dX5_best_19 (Nat.le_of_ble_eq_true rfl) rfl ?_
    exact pX5_best_21 X x1 FU 1 x3_17 1 σ
  · refine Cp.aload_n (i := 0) X dX5_best_7 rfl rfl ?_
    refine Cp.ldc (v := (-1000001)) X wcX5_58 dX5_best_8 ?_
    refine Cp.cVIM [] X [.int (-1000001)] cvX5_found (kX5_found X.ok (-1000001) σ) sc_0 rfl rfl wmX5_59 rfl rfl dX5_best_10 rfl (Nat.le_of_ble_eq_true rfl) (fun v_10 s_10 => ?_)
    exact Cp.iret X dX5_best_13 rfl
theorem kX5_best {l : Launch} {w : WE} (hok : OkW w shC)   (x1 : Int32) (σ : Mem) : ∀ v, fX5_best x1 σ = some v → Ctr l w shC yX5_best cX5_best 6 (some .int) 4 [.ref (wad w 0), .int x1] σ (iIM v) := fun v hv => Ctr.of [some (.ref (wad w 0)), some (.int x1), none, none, none, none] (by decide) hok rfl (Nat.le_of_ble_eq_true rfl) (fun M _ X => pX5_best X   x1 σ v hv)
def fX5_quiet_22 (x1 : Int32) (k22 : Int32 → Int32 → Int32 → Mem → Option (Int32 × Mem)) (x2 : Int32) (x3 : Int32) (x4 : Int32) (σ : Mem) : Option (Int32 × Mem) :=
  (if 63 < x4 then (if x2 = 0 then (bnd2 (fX5_found (-1000004) σ) fun v_68 s_68 => (some (v_68, s_68))) else (some (x2, σ))) else (bnd2 (fX5_laughingAt x4 x1 σ) fun v_33 s_33 => (if v_33 ≤ 0 then (k22 x2 x3 (x4 + 1) s_33) else (if x3 ≤ v_33 then (k22 x2 x3 (x4 + 1) s_33) else (k22 x4 v_33 (x4 + 1) s_33)))))
def fX5_quiet (x1 : Int32) (σ : Mem) : Option (Int32 × Mem) :=
  (if fX5_isFun x1 = true then (lw4 (fX5_quiet_22 x1) FU 0 9 1 σ) else (bnd2 (fX5_found (-1000001) σ) fun v_10 s_10 => (some (v_10, s_10))))
set_option maxRecDepth 20000 in
theorem pX5_quiet_22 {M : MC} {w : WE} (X : Cx M w shC cX5_quiet 6 RX5 (some .int) 4)   (x1 : Int32)    : ∀ (n : Nat) (x2 : Int32) (x3 : Int32) (x4 : Int32) (σ : Mem), Cp M w shC 6 iIM 22 [some (.ref (wad w 0)), some (.int x1), some (.int x2), some (.int x3), some (.int x4), none] [] σ (lw4 (fX5_quiet_22 x1) n x2 x3 x4 σ) :=
  lw4_i (P := fun x2 x3 x4 σ b => Cp M w shC 6 iIM 22 [some (.ref (wad w 0)), some (.int x1), some (.int x2), some (.int x3), some (.int x4), none] [] σ b) (fun _ _ _ _ => Cp.non) (fun k22 hk22 x2 x3 x4 σ => by
  unfold fX5_quiet_22
  refine Cp.iload X dX5_quiet_22 rfl ?_
  refine Cp.bipush (v := 63) X dX5_quiet_24 rfl ?_
  refine Cp.icmp_gt X 61 dX5_quiet_26 (by decide) (fun c_26 => ?_) (fun c_26 => ?_)
  · refine Cp.iload_n (i := 2) X dX5_quiet_61 rfl rfl ?_
    refine Cp.if_ne X 74 dX5_quiet_62 (by decide) (fun c_62 => ?_) (fun c_62 => ?_)
    · refine Cp.iload_n (i := 2) X dX5_quiet_74 rfl rfl ?_
      exact Cp.iret X dX5_quiet_75 rfl
    · refine Cp.aload_n (i := 0) X dX5_quiet_65 rfl rfl ?_
      refine Cp.ldc (v := (-1000004)) X wcX5_182 dX5_quiet_66 ?_
      refine Cp.cVIM [] X [.int (-1000004)] cvX5_found (kX5_found X.ok (-1000004) σ) sc_0 rfl rfl wmX5_59 rfl rfl dX5_quiet_68 rfl (Nat.le_of_ble_eq_true rfl) (fun v_68 s_68 => ?_)
      refine Cp.goto X 75 dX5_quiet_71 (by decide) ?_
      exact Cp.iret X dX5_quiet_75 rfl
  · refine Cp.aload_n (i := 0) X dX5_quiet_29 rfl rfl ?_
    refine Cp.iload X dX5_quiet_30 rfl ?_
    refine Cp.iload_n (i := 1) X dX5_quiet_32 rfl rfl ?_
    refine Cp.cVIM [] X [.int x4, .int x1] cvX5_laughingAt (kX5_laughingAt X.ok x4 x1 σ) sc_0 rfl rfl wmX5_221 rfl rfl dX5_quiet_33 rfl (Nat.le_of_ble_eq_true rfl) (fun v_33 s_33 => ?_)
    refine Cp.istore X dX5_quiet_36 (Nat.le_of_ble_eq_true rfl) rfl ?_
    refine Cp.iload X dX5_quiet_38 rfl ?_
    refine Cp.if_le X 55 dX5_quiet_40 (by decide) (fun c_40 => ?_) (fun c_40 => ?_)
    · refine Cp.iinc (v := x4 + 1) X dX5_quiet_55 rfl rfl (Nat.le_of_ble_eq_true rfl) rfl ?_
      refine Cp.goto X 22 dX5_quiet_58 (by decide) ?_
      refine Cp.mask [true, true, true, true, true, false] ?_
      exact hk22 x2 x3 (x4 + 1) s_33
    · refine Cp.iload X dX5_quiet_43 rfl ?_
      refine Cp.iload_n (i := 3) X dX5_quiet_45 rfl rfl ?_
      refine Cp.icmp_ge X 55 dX5_quiet_46 (by decide) (fun c_46 => ?_) (fun c_46 => ?_)
      · refine Cp.iinc (v := x4 + 1) X dX5_quiet_55 rfl rfl (Nat.le_of_ble_eq_true rfl) rfl ?_
        refine Cp.goto X 22 dX5_quiet_58 (by decide) ?_
        refine Cp.mask [true, true, true, true, true, false] ?_
        exact hk22 x2 x3 (x4 + 1) s_33
      · refine Cp.iload X dX5_quiet_49 rfl ?_
        refine Cp.istore_n (i := 3) X dX5_quiet_51 rfl (Nat.le_of_ble_eq_true rfl) rfl ?_
        refine Cp.iload X dX5_quiet_52 rfl ?_
        refine Cp.istore_n (i := 2) X dX5_quiet_54 rfl (Nat.le_of_ble_eq_true rfl) rfl ?_
        refine Cp.iinc (v := x4 + 1) X dX5_quiet_55 rfl rfl (Nat.le_of_ble_eq_true rfl) rfl ?_
        refine Cp.goto X 22 dX5_quiet_58 (by decide) ?_
        refine Cp.mask [true, true, true, true, true, false] ?_
        exact hk22 x4 v_33 (x4 + 1) s_33)
set_option maxRecDepth 20000 in
theorem pX5_quiet {M : MC} {w : WE} (X : Cx M w shC cX5_quiet 6 RX5 (some .int) 4)   (x1 : Int32) (σ : Mem) : Cp M w shC 6 iIM 0 [some (.ref (wad w 0)), some (.int x1), none, none, none, none] [] σ (fX5_quiet x1 σ) := by
  unfold fX5_quiet
  refine Cp.iload_n (i := 1) X dX5_quiet_0 rfl rfl ?_
  refine Cp.cSBT [] X [.int x1] csX5_isFun (kX5_isFun X.ok x1 σ) wmX5_120 rfl rfl dX5_quiet_1 rfl (Nat.le_of_ble_eq_true rfl) ?_
  refine Cp.if_neB X 14 dX5_quiet_4 (by decide) (fun c_4 => ?_) (fun c_4 => ?_)
  · refine Cp.iconst (v := 0) X dX5_quiet_14 rfl ?_
    refine Cp.istore_n (i := 2) X dX5_quiet_15 rfl (Nat.le_of_ble_eq_true rfl) rfl ?_
    refine Cp.bipush (v := 9) X dX5_quiet_16 rfl ?_
    refine Cp.istore_n (i := 3) X dX5_quiet_18 rfl (Nat.le_of_ble_eq_true rfl) rfl ?_
    refine Cp.iconst (v := 1) X dX5_quiet_19 rfl ?_
    refine Cp.istore X dX5_quiet_20 (Nat.le_of_ble_eq_true rfl) rfl ?_
    exact pX5_quiet_22 X x1 FU 0 9 1 σ
  · refine Cp.aload_n (i := 0) X dX5_quiet_7 rfl rfl ?_
    refine Cp.ldc (v := (-1000001)) X wcX5_58 dX5_quiet_8 ?_
    refine Cp.cVIM [] X [.int (-1000001)] cvX5_found (kX5_found X.ok (-1000001) σ) sc_0 rfl rfl wmX5_59 rfl rfl dX5_quiet_10 rfl (Nat.le_of_ble_eq_true rfl) (fun v_10 s_10 => ?_)
    exact Cp.iret X dX5_quiet_13 rfl
theorem kX5_quiet {l : Launch} {w : WE} (hok : OkW w shC)   (x1 : Int32) (σ : Mem) : ∀ v, fX5_quiet x1 σ = some v → Ctr l w shC yX5_quiet cX5_quiet 6 (some .int) 4 [.ref (wad w 0), .int x1] σ (iIM v) := fun v hv => Ctr.of [some (.ref (wad w 0)), some (.int x1), none, none, none, none] (by decide) hok rfl (Nat.le_of_ble_eq_true rfl) (fun M _ X => pX5_quiet X   x1 σ v hv)
def fX5_safe_17 (x1 : Int32) (k17 : Int32 → Mem → Option (Int32 × Mem)) (x2 : Int32) (σ : Mem) : Option (Int32 × Mem) :=
  (if x2 < 0 then (bnd2 (fX5_found (-1000004) σ) fun v_41 s_41 => (some (v_41, s_41))) else (bnd2 (fX5_laughingAt x1 x2 σ) fun v_24 s_24 => (if v_24 = 0 then (some (x2, s_24)) else (k17 (x2 + (-1)) s_24))))
def fX5_safe (x1 : Int32) (σ : Mem) : Option (Int32 × Mem) :=
  (if fX5_isTopics x1 = true then (lw2 (fX5_safe_17 x1) FU 9 σ) else (bnd2 (fX5_found (-1000001) σ) fun v_10 s_10 => (some (v_10, s_10))))
set_option maxRecDepth 20000 in
theorem pX5_safe_17 {M : MC} {w : WE} (X : Cx M w shC cX5_safe 3 RX5 (some .int) 4)   (x1 : Int32)    : ∀ (n : Nat) (x2 : Int32) (σ : Mem), Cp M w shC 3 iIM 17 [some (.ref (wad w 0)), some (.int x1), some (.int x2)] [] σ (lw2 (fX5_safe_17 x1) n x2 σ) :=
  lw2_i (P := fun x2 σ b => Cp M w shC 3 iIM 17 [some (.ref (wad w 0)), some (.int x1), some (.int x2)] [] σ b) (fun _ _ => Cp.non) (fun k17 hk17 x2 σ => by
  unfold fX5_safe_17
  refine Cp.iload_n (i := 2) X dX5_safe_17 rfl rfl ?_
  refine Cp.if_lt X 38 dX5_safe_18 (by decide) (fun c_18 => ?_) (fun c_18 => ?_)
  · refine Cp.aload_n (i := 0) X dX5_safe_38 rfl rfl ?_
    refine Cp.ldc (v := (-1000004)) X wcX5_182 dX5_safe_39 ?_
    refine Cp.cVIM [] X [.int (-1000004)] cvX5_found (kX5_found X.ok (-1000004) σ) sc_0 rfl rfl wmX5_59 rfl rfl dX5_safe_41 rfl (Nat.le_of_ble_eq_true rfl) (fun v_41 s_41 => ?_)
    exact Cp.iret X dX5_safe_44 rfl
  · refine Cp.aload_n (i := 0) X dX5_safe_21 rfl rfl ?_
    refine Cp.iload_n (i := 1) X dX5_safe_22 rfl rfl ?_
    refine Cp.iload_n (i := 2) X dX5_safe_23 rfl rfl ?_
    refine Cp.cVIM [] X [.int x1, .int x2] cvX5_laughingAt (kX5_laughingAt X.ok x1 x2 σ) sc_0 rfl rfl wmX5_221 rfl rfl dX5_safe_24 rfl (Nat.le_of_ble_eq_true rfl) (fun v_24 s_24 => ?_)
    refine Cp.if_ne X 32 dX5_safe_27 (by decide) (fun c_27 => ?_) (fun c_27 => ?_)
    · refine Cp.iinc (v := x2 + (-1)) X dX5_safe_32 rfl rfl (Nat.le_of_ble_eq_true rfl) rfl ?_
      refine Cp.goto X 17 dX5_safe_35 (by decide) ?_
      exact hk17 (x2 + (-1)) s_24
    · refine Cp.iload_n (i := 2) X dX5_safe_30 rfl rfl ?_
      exact Cp.iret X dX5_safe_31 rfl)
set_option maxRecDepth 20000 in
theorem pX5_safe {M : MC} {w : WE} (X : Cx M w shC cX5_safe 3 RX5 (some .int) 4)   (x1 : Int32) (σ : Mem) : Cp M w shC 3 iIM 0 [some (.ref (wad w 0)), some (.int x1), none] [] σ (fX5_safe x1 σ) := by
  unfold fX5_safe
  refine Cp.iload_n (i := 1) X dX5_safe_0 rfl rfl ?_
  refine Cp.cSBT [] X [.int x1] csX5_isTopics (kX5_isTopics X.ok x1 σ) wmX5_117 rfl rfl dX5_safe_1 rfl (Nat.le_of_ble_eq_true rfl) ?_
  refine Cp.if_neB X 14 dX5_safe_4 (by decide) (fun c_4 => ?_) (fun c_4 => ?_)
  · refine Cp.bipush (v := 9) X dX5_safe_14 rfl ?_
    refine Cp.istore_n (i := 2) X dX5_safe_16 rfl (Nat.le_of_ble_eq_true rfl) rfl ?_
    exact pX5_safe_17 X x1 FU 9 σ
  · refine Cp.aload_n (i := 0) X dX5_safe_7 rfl rfl ?_
    refine Cp.ldc (v := (-1000001)) X wcX5_58 dX5_safe_8 ?_
    refine Cp.cVIM [] X [.int (-1000001)] cvX5_found (kX5_found X.ok (-1000001) σ) sc_0 rfl rfl wmX5_59 rfl rfl dX5_safe_10 rfl (Nat.le_of_ble_eq_true rfl) (fun v_10 s_10 => ?_)
    exact Cp.iret X dX5_safe_13 rfl
theorem kX5_safe {l : Launch} {w : WE} (hok : OkW w shC)   (x1 : Int32) (σ : Mem) : ∀ v, fX5_safe x1 σ = some v → Ctr l w shC yX5_safe cX5_safe 3 (some .int) 4 [.ref (wad w 0), .int x1] σ (iIM v) := fun v hv => Ctr.of [some (.ref (wad w 0)), some (.int x1), none] (by decide) hok rfl (Nat.le_of_ble_eq_true rfl) (fun M _ X => pX5_safe X   x1 σ v hv)
def fX5_sheetFinding (x1 : Int32) (σ : Mem) : Option Int32 :=
  (if fX5_within x1 0 3 = true then (gd (inB x1 4 = true) (if fX2_isMissing (37 + 2 * x1.toNatClampNeg) σ = true then (some (-1000006)) else (some 0))) else (some (-1000001)))
set_option maxRecDepth 20000 in
theorem pX5_sheetFinding {M : MC} {w : WE} (X : Cx M w shC cX5_sheetFinding 2 RX5 (some .int) 1)   (x1 : Int32) (σ : Mem) : Cp M w shC 2 (iI σ) 0 [some (.ref (wad w 0)), some (.int x1)] [] σ (fX5_sheetFinding x1 σ) := by
  unfold fX5_sheetFinding
  refine Cp.iload_n (i := 1) X dX5_sheetFinding_0 rfl rfl ?_
  refine Cp.iconst (v := 0) X dX5_sheetFinding_1 rfl ?_
  refine Cp.iconst (v := 3) X dX5_sheetFinding_2 rfl ?_
  refine Cp.cSBT [] X [.int x1, .int 0, .int 3] csX5_within (kX5_within X.ok x1 0 3 σ) wmX5_132 rfl rfl dX5_sheetFinding_3 rfl (Nat.le_of_ble_eq_true rfl) ?_
  refine Cp.if_neB X 12 dX5_sheetFinding_6 (by decide) (fun c_6 => ?_) (fun c_6 => ?_)
  · refine Cp.aload_n (i := 0) X dX5_sheetFinding_12 rfl rfl ?_
    refine gfX5_42 X 36 sc_0 rfl dX5_sheetFinding_13 ?_
    refine Cp.iload_n (i := 1) X dX5_sheetFinding_16 rfl rfl ?_
    refine Cp.aaldh X sc_36 dX5_sheetFinding_17 (fun h_17 => ?_)
    refine Cp.cVBT [] X [] cvX2_isMissing (kX2_isMissing X.ok (37 + 2 * x1.toNatClampNeg) (isSe_of h_17) σ) (s_se (isSe_of h_17)) rfl rfl wmX5_277 rfl rfl dX5_sheetFinding_18 rfl (Nat.le_of_ble_eq_true rfl) ?_
    refine Cp.if_eqB X 30 dX5_sheetFinding_21 (by decide) (fun c_21 => ?_) (fun c_21 => ?_)
    · refine Cp.iconst (v := 0) X dX5_sheetFinding_30 rfl ?_
      exact Cp.iret X dX5_sheetFinding_31 rfl
    · refine Cp.ldcw (v := (-1000006)) X wcX5_265 dX5_sheetFinding_24 ?_
      refine Cp.goto X 31 dX5_sheetFinding_27 (by decide) ?_
      exact Cp.iret X dX5_sheetFinding_31 rfl
  · refine Cp.ldc (v := (-1000001)) X wcX5_58 dX5_sheetFinding_9 ?_
    exact Cp.iret X dX5_sheetFinding_11 rfl
theorem kX5_sheetFinding {l : Launch} {w : WE} (hok : OkW w shC)   (x1 : Int32) (σ : Mem) : ∀ v, fX5_sheetFinding x1 σ = some v → Ctr l w shC yX5_sheetFinding cX5_sheetFinding 2 (some .int) 1 [.ref (wad w 0), .int x1] σ ((iI σ) v) := fun v hv => Ctr.of [some (.ref (wad w 0)), some (.int x1)] (by decide) hok rfl (Nat.le_of_ble_eq_true rfl) (fun M _ X => pX5_sheetFinding X   x1 σ v hv)
def fX5_paymentsFinding (x1 : Int32) (x2 : Int32) (x3 : Int32) (σ : Mem) : Option Int32 :=
  ((fX5_sheetFinding x1 σ).bind fun v_2 => (if v_2 = 0 then (if fX5_hasPerson x2 σ = true then (if fX5_hasJoke x3 σ = true then (some 0) else (some (-1000001))) else (some (-1000001))) else (some v_2)))
set_option maxRecDepth 20000 in
theorem pX5_paymentsFinding {M : MC} {w : WE} (X : Cx M w shC cX5_paymentsFinding 5 RX5 (some .int) 2)   (x1 : Int32) (x2 : Int32) (x3 : Int32) (σ : Mem) : Cp M w shC 5 (iI σ) 0 [some (.ref (wad w 0)), some (.int x1), some (.int x2), some (.int x3), none] [] σ (fX5_paymentsFinding x1 x2 x3 σ) := by
  unfold fX5_paymentsFinding
  refine Cp.aload_n (i := 0) X dX5_paymentsFinding_0 rfl rfl ?_
  refine Cp.iload_n (i := 1) X dX5_paymentsFinding_1 rfl rfl ?_
  refine Cp.cVI [] X [.int x1] cvX5_sheetFinding (kX5_sheetFinding X.ok x1 σ) sc_0 rfl rfl wmX5_231 rfl rfl dX5_paymentsFinding_2 rfl (Nat.le_of_ble_eq_true rfl) (fun v_2 => ?_)
  refine Cp.istore X dX5_paymentsFinding_5 (Nat.le_of_ble_eq_true rfl) rfl ?_
  refine Cp.iload X dX5_paymentsFinding_7 rfl ?_
  refine Cp.if_eq X 15 dX5_paymentsFinding_9 (by decide) (fun c_9 => ?_) (fun c_9 => ?_)
  · refine Cp.aload_n (i := 0) X dX5_paymentsFinding_15 rfl rfl ?_
    refine Cp.iload_n (i := 2) X dX5_paymentsFinding_16 rfl rfl ?_
    refine Cp.cVBT [] X [.int x2] cvX5_hasPerson (kX5_hasPerson X.ok x2 σ) sc_0 rfl rfl wmX5_72 rfl rfl dX5_paymentsFinding_17 rfl (Nat.le_of_ble_eq_true rfl) ?_
    refine Cp.if_eqB X 35 dX5_paymentsFinding_20 (by decide) (fun c_20 => ?_) (fun c_20 => ?_)
    · refine Cp.ldc (v := (-1000001)) X wcX5_58 dX5_paymentsFinding_35 ?_
      exact Cp.iret X dX5_paymentsFinding_37 rfl
    · refine Cp.aload_n (i := 0) X dX5_paymentsFinding_23 rfl rfl ?_
      refine Cp.iload_n (i := 3) X dX5_paymentsFinding_24 rfl rfl ?_
      refine Cp.cVBT [] X [.int x3] cvX5_hasJoke (kX5_hasJoke X.ok x3 σ) sc_0 rfl rfl wmX5_129 rfl rfl dX5_paymentsFinding_25 rfl (Nat.le_of_ble_eq_true rfl) ?_
      refine Cp.if_eqB X 35 dX5_paymentsFinding_28 (by decide) (fun c_28 => ?_) (fun c_28 => ?_)
      · refine Cp.ldc (v := (-1000001)) X wcX5_58 dX5_paymentsFinding_35 ?_
        exact Cp.iret X dX5_paymentsFinding_37 rfl
      · refine Cp.iconst (v := 0) X dX5_paymentsFinding_31 rfl ?_
        refine Cp.goto X 37 dX5_paymentsFinding_32 (by decide) ?_
        exact Cp.iret X dX5_paymentsFinding_37 rfl
  · refine Cp.iload X dX5_paymentsFinding_12 rfl ?_
    exact Cp.iret X dX5_paymentsFinding_14 rfl
theorem kX5_paymentsFinding {l : Launch} {w : WE} (hok : OkW w shC)   (x1 : Int32) (x2 : Int32) (x3 : Int32) (σ : Mem) : ∀ v, fX5_paymentsFinding x1 x2 x3 σ = some v → Ctr l w shC yX5_paymentsFinding cX5_paymentsFinding 5 (some .int) 2 [.ref (wad w 0), .int x1, .int x2, .int x3] σ ((iI σ) v) := fun v hv => Ctr.of [some (.ref (wad w 0)), some (.int x1), some (.int x2), some (.int x3), none] (by decide) hok rfl (Nat.le_of_ble_eq_true rfl) (fun M _ X => pX5_paymentsFinding X   x1 x2 x3 σ v hv)
def fX5_fits_25 (k1 : Nat) (x2 : Int32) (x3 : Int32) (k25 : Int32 → Mem → Option (Bool × Mem)) (x5 : Int32) (σ : Mem) : Option (Bool × Mem) :=
  (if (σ k1 2) ≤ x5 then (some (true, σ)) else (bnd2 (fX4_perform 11 x3 σ) fun v_43 s_43 => (gd (inB x2 8 = true) ((fX2_tells k1 x5 (s_43 33 x2.toNatClampNeg) s_43).bind fun v_59 => (if v_59 = true then (k25 (x5 + 1) s_43) else (some (false, s_43)))))))
def fX5_fits (k1 : Nat) (x2 : Int32) (x3 : Int32) (x4 : Int32) (σ : Mem) : Option (Bool × Mem) :=
  ((fX1_takeOver 11 1 σ).bind fun s_8 => (gd (inB x2 8 = true) (pb (up2 s_8 14 x2.toNatClampNeg x4 : Mem) fun s_21 => (lw2 (fX5_fits_25 k1 x2 x3) FU 0 s_21))))
set_option maxRecDepth 20000 in
theorem pX5_fits_25 {M : MC} {w : WE} (X : Cx M w shC cX5_fits 6 RX5 (some .boolean) 5) (k1 : Nat) (h1 : isSe k1) (x2 : Int32) (x3 : Int32)    : ∀ (n : Nat) (x5 : Int32) (σ : Mem), Cp M w shC 6 iBM 25 [some (.ref (wad w 0)), some (.ref (wad w k1)), some (.int x2), some (.int x3), none, some (.int x5)] [] σ (lw2 (fX5_fits_25 k1 x2 x3) n x5 σ) :=
  lw2_i (P := fun x5 σ b => Cp M w shC 6 iBM 25 [some (.ref (wad w 0)), some (.ref (wad w k1)), some (.int x2), some (.int x3), none, some (.int x5)] [] σ b) (fun _ _ => Cp.non) (fun k25 hk25 x5 σ => by
  unfold fX5_fits_25
  refine Cp.iload X dX5_fits_25 rfl ?_
  refine Cp.aload_n (i := 1) X dX5_fits_27 rfl rfl ?_
  refine gfX5_274 X (s_se h1) rfl dX5_fits_28 ?_
  refine Cp.icmp_ge X 73 dX5_fits_31 (by decide) (fun c_31 => ?_) (fun c_31 => ?_)
  · refine Cp.iconst (v := 1) X dX5_fits_73 rfl ?_
    exact Cp.bret (v := true) X dX5_fits_74 rfl
  · refine Cp.aload_n (i := 0) X dX5_fits_34 rfl rfl ?_
    refine gfX5_29 X 31 sc_0 rfl dX5_fits_35 ?_
    refine Cp.aload_n (i := 0) X dX5_fits_38 rfl rfl ?_
    refine gfX5_16 X 11 sc_0 rfl dX5_fits_39 ?_
    refine Cp.iload_n (i := 3) X dX5_fits_42 rfl rfl ?_
    refine Cp.cVIM [] X [.ref (wad w 11), .int x3] cvX4_perform (kX4_perform X.ok 11 isRm_11 x3 σ) sc_31 rfl rfl wmX5_167 rfl rfl dX5_fits_43 rfl (Nat.le_of_ble_eq_true rfl) (fun v_43 s_43 => ?_)
    refine Cp.pop X dX5_fits_46 rfl ?_
    refine Cp.aload_n (i := 1) X dX5_fits_47 rfl rfl ?_
    refine Cp.iload X dX5_fits_48 rfl ?_
    refine Cp.aload_n (i := 0) X dX5_fits_50 rfl rfl ?_
    refine gfX5_29 X 31 sc_0 rfl dX5_fits_51 ?_
    refine gfX5_205 X 33 sc_31 rfl dX5_fits_54 ?_
    refine Cp.iload_n (i := 2) X dX5_fits_57 rfl rfl ?_
    refine Cp.iald X sc_33 dX5_fits_58 ?_
    refine Cp.cVB [] X [.int x5, .int (s_43 33 x2.toNatClampNeg)] cvX2_tells (kX2_tells X.ok k1 h1 x5 (s_43 33 x2.toNatClampNeg) s_43) (s_se h1) rfl rfl wmX5_305 rfl rfl dX5_fits_59 rfl (Nat.le_of_ble_eq_true rfl) (fun v_59 => ?_)
    refine Cp.if_neB X 67 dX5_fits_62 (by decide) (fun c_62 => ?_) (fun c_62 => ?_)
    · refine Cp.iinc (v := x5 + 1) X dX5_fits_67 rfl rfl (Nat.le_of_ble_eq_true rfl) rfl ?_
      refine Cp.goto X 25 dX5_fits_70 (by decide) ?_
      exact hk25 (x5 + 1) s_43
    · refine Cp.iconst (v := 0) X dX5_fits_65 rfl ?_
      exact Cp.bret (v := false) X dX5_fits_66 rfl)
set_option maxRecDepth 20000 in
theorem pX5_fits {M : MC} {w : WE} (X : Cx M w shC cX5_fits 6 RX5 (some .boolean) 5) (k1 : Nat) (h1 : isSe k1) (x2 : Int32) (x3 : Int32) (x4 : Int32) (σ : Mem) : Cp M w shC 6 iBM 0 [some (.ref (wad w 0)), some (.ref (wad w k1)), some (.int x2), some (.int x3), some (.int x4), none] [] σ (fX5_fits k1 x2 x3 x4 σ) := by
  unfold fX5_fits
  refine Cp.aload_n (i := 0) X dX5_fits_0 rfl rfl ?_
  refine gfX5_16 X 11 sc_0 rfl dX5_fits_1 ?_
  refine Cp.aload_n (i := 0) X dX5_fits_4 rfl rfl ?_
  refine gfX5_10 X 1 sc_0 rfl dX5_fits_5 ?_
  refine Cp.cVV [] X [.ref (wad w 1)] cvX1_takeOver (kX1_takeOver X.ok 11 1 isRm_11 isRm_1 σ) sc_11 rfl rfl wmX5_201 rfl rfl dX5_fits_8 rfl (Nat.le_of_ble_eq_true rfl) (fun s_8 => ?_)
  refine Cp.aload_n (i := 0) X dX5_fits_11 rfl rfl ?_
  refine gfX5_16 X 11 sc_0 rfl dX5_fits_12 ?_
  refine gfX5_81 X 14 sc_11 rfl dX5_fits_15 ?_
  refine Cp.iload_n (i := 2) X dX5_fits_18 rfl rfl ?_
  refine Cp.iload X dX5_fits_19 rfl ?_
  refine Cp.iast X sc_14 dX5_fits_21 ?_
  refine Cp.nameM (fun s_21 => ?_)
  refine Cp.iconst (v := 0) X dX5_fits_22 rfl ?_
  refine Cp.istore X dX5_fits_23 (Nat.le_of_ble_eq_true rfl) rfl ?_
  refine Cp.mask [true, true, true, true, false, true] ?_
  exact pX5_fits_25 X k1 h1 x2 x3 FU 0 s_21
theorem kX5_fits {l : Launch} {w : WE} (hok : OkW w shC) (k1 : Nat) (h1 : isSe k1) (x2 : Int32) (x3 : Int32) (x4 : Int32) (σ : Mem) : ∀ v, fX5_fits k1 x2 x3 x4 σ = some v → Ctr l w shC yX5_fits cX5_fits 6 (some .boolean) 5 [.ref (wad w 0), .ref (wad w k1), .int x2, .int x3, .int x4] σ (iBM v) := fun v hv => Ctr.of [some (.ref (wad w 0)), some (.ref (wad w k1)), some (.int x2), some (.int x3), some (.int x4), none] (by decide) hok rfl (Nat.le_of_ble_eq_true rfl) (fun M _ X => pX5_fits X k1 h1 x2 x3 x4 σ v hv)
def fX5_tastes_27 (x1 : Int32) (x2 : Int32) (x3 : Int32) (k27 : Int32 → Int32 → Mem → Option (Int32 × Mem)) (x5 : Int32) (x6 : Int32) (σ : Mem) : Option (Int32 × Mem) :=
  (if 63 < x6 then (some (x5, σ)) else (gd (inB x1 4 = true) (bnd2 (fX5_fits (37 + 2 * x1.toNatClampNeg) x2 x3 x6 σ) fun v_45 s_45 => (if v_45 = true then (k27 (x5 + 1) (x6 + 1) s_45) else (k27 x5 (x6 + 1) s_45)))))
def fX5_tastes (x1 : Int32) (x2 : Int32) (x3 : Int32) (σ : Mem) : Option (Int32 × Mem) :=
  ((fX5_paymentsFinding x1 x2 x3 σ).bind fun v_4 => (if v_4 = 0 then (lw3 (fX5_tastes_27 x1 x2 x3) FU 0 0 σ) else (bnd2 (fX5_found v_4 σ) fun v_17 s_17 => (some (v_17, s_17)))))
set_option maxRecDepth 20000 in
theorem pX5_tastes_27 {M : MC} {w : WE} (X : Cx M w shC cX5_tastes 7 RX5 (some .int) 6)   (x1 : Int32) (x2 : Int32) (x3 : Int32)    : ∀ (n : Nat) (x5 : Int32) (x6 : Int32) (σ : Mem), Cp M w shC 7 iIM 27 [some (.ref (wad w 0)), some (.int x1), some (.int x2), some (.int x3), none, some (.int x5), some (.int x6)] [] σ (lw3 (fX5_tastes_27 x1 x2 x3) n x5 x6 σ) :=
  lw3_i (P := fun x5 x6 σ b => Cp M w shC 7 iIM 27 [some (.ref (wad w 0)), some (.int x1), some (.int x2), some (.int x3), none, some (.int x5), some (.int x6)] [] σ b) (fun _ _ _ => Cp.non) (fun k27 hk27 x5 x6 σ => by
  unfold fX5_tastes_27
  refine Cp.iload X dX5_tastes_27 rfl ?_
  refine Cp.bipush (v := 63) X dX5_tastes_29 rfl ?_
  refine Cp.icmp_gt X 60 dX5_tastes_31 (by decide) (fun c_31 => ?_) (fun c_31 => ?_)
  · refine Cp.iload X dX5_tastes_60 rfl ?_
    exact Cp.iret X dX5_tastes_62 rfl
  · refine Cp.aload_n (i := 0) X dX5_tastes_34 rfl rfl ?_
    refine Cp.aload_n (i := 0) X dX5_tastes_35 rfl rfl ?_
    refine gfX5_42 X 36 sc_0 rfl dX5_tastes_36 ?_
    refine Cp.iload_n (i := 1) X dX5_tastes_39 rfl rfl ?_
    refine Cp.aaldh X sc_36 dX5_tastes_40 (fun h_40 => ?_)
    refine Cp.iload_n (i := 2) X dX5_tastes_41 rfl rfl ?_
    refine Cp.iload_n (i := 3) X dX5_tastes_42 rfl rfl ?_
    refine Cp.iload X dX5_tastes_43 rfl ?_
    refine Cp.cVBM [] X [.ref (wad w (37 + 2 * x1.toNatClampNeg)), .int x2, .int x3, .int x6] cvX5_fits (kX5_fits X.ok (37 + 2 * x1.toNatClampNeg) (isSe_of h_40) x2 x3 x6 σ) sc_0 rfl rfl wmX5_227 rfl rfl dX5_tastes_45 rfl (Nat.le_of_ble_eq_true rfl) (fun v_45 s_45 => ?_)
    refine Cp.if_eqB X 54 dX5_tastes_48 (by decide) (fun c_48 => ?_) (fun c_48 => ?_)
    · refine Cp.iinc (v := x6 + 1) X dX5_tastes_54 rfl rfl (Nat.le_of_ble_eq_true rfl) rfl ?_
      refine Cp.goto X 27 dX5_tastes_57 (by decide) ?_
      exact hk27 x5 (x6 + 1) s_45
    · refine Cp.iinc (v := x5 + 1) X dX5_tastes_51 rfl rfl (Nat.le_of_ble_eq_true rfl) rfl ?_
      refine Cp.iinc (v := x6 + 1) X dX5_tastes_54 rfl rfl (Nat.le_of_ble_eq_true rfl) rfl ?_
      refine Cp.goto X 27 dX5_tastes_57 (by decide) ?_
      exact hk27 (x5 + 1) (x6 + 1) s_45)
set_option maxRecDepth 20000 in
theorem pX5_tastes {M : MC} {w : WE} (X : Cx M w shC cX5_tastes 7 RX5 (some .int) 6)   (x1 : Int32) (x2 : Int32) (x3 : Int32) (σ : Mem) : Cp M w shC 7 iIM 0 [some (.ref (wad w 0)), some (.int x1), some (.int x2), some (.int x3), none, none, none] [] σ (fX5_tastes x1 x2 x3 σ) := by
  unfold fX5_tastes
  refine Cp.aload_n (i := 0) X dX5_tastes_0 rfl rfl ?_
  refine Cp.iload_n (i := 1) X dX5_tastes_1 rfl rfl ?_
  refine Cp.iload_n (i := 2) X dX5_tastes_2 rfl rfl ?_
  refine Cp.iload_n (i := 3) X dX5_tastes_3 rfl rfl ?_
  refine Cp.cVI [] X [.int x1, .int x2, .int x3] cvX5_paymentsFinding (kX5_paymentsFinding X.ok x1 x2 x3 σ) sc_0 rfl rfl wmX5_224 rfl rfl dX5_tastes_4 rfl (Nat.le_of_ble_eq_true rfl) (fun v_4 => ?_)
  refine Cp.istore X dX5_tastes_7 (Nat.le_of_ble_eq_true rfl) rfl ?_
  refine Cp.iload X dX5_tastes_9 rfl ?_
  refine Cp.if_eq X 21 dX5_tastes_11 (by decide) (fun c_11 => ?_) (fun c_11 => ?_)
  · refine Cp.iconst (v := 0) X dX5_tastes_21 rfl ?_
    refine Cp.istore X dX5_tastes_22 (Nat.le_of_ble_eq_true rfl) rfl ?_
    refine Cp.iconst (v := 0) X dX5_tastes_24 rfl ?_
    refine Cp.istore X dX5_tastes_25 (Nat.le_of_ble_eq_true rfl) rfl ?_
    refine Cp.mask [true, true, true, true, false, true, true] ?_
    exact pX5_tastes_27 X x1 x2 x3 FU 0 0 σ
  · refine Cp.aload_n (i := 0) X dX5_tastes_14 rfl rfl ?_
    refine Cp.iload X dX5_tastes_15 rfl ?_
    refine Cp.cVIM [] X [.int v_4] cvX5_found (kX5_found X.ok v_4 σ) sc_0 rfl rfl wmX5_59 rfl rfl dX5_tastes_17 rfl (Nat.le_of_ble_eq_true rfl) (fun v_17 s_17 => ?_)
    exact Cp.iret X dX5_tastes_20 rfl
theorem kX5_tastes {l : Launch} {w : WE} (hok : OkW w shC)   (x1 : Int32) (x2 : Int32) (x3 : Int32) (σ : Mem) : ∀ v, fX5_tastes x1 x2 x3 σ = some v → Ctr l w shC yX5_tastes cX5_tastes 7 (some .int) 6 [.ref (wad w 0), .int x1, .int x2, .int x3] σ (iIM v) := fun v hv => Ctr.of [some (.ref (wad w 0)), some (.int x1), some (.int x2), some (.int x3), none, none, none] (by decide) hok rfl (Nat.le_of_ble_eq_true rfl) (fun M _ X => pX5_tastes X   x1 x2 x3 σ v hv)
def fX5_taste_24 (x1 : Int32) (x2 : Int32) (x3 : Int32) (k24 : Int32 → Mem → Option (Int32 × Mem)) (x5 : Int32) (σ : Mem) : Option (Int32 × Mem) :=
  (if 63 < x5 then (bnd2 (fX5_found (-1000004) σ) fun v_60 s_60 => (some (v_60, s_60))) else (gd (inB x1 4 = true) (bnd2 (fX5_fits (37 + 2 * x1.toNatClampNeg) x2 x3 x5 σ) fun v_42 s_42 => (if v_42 = true then (some (x5, s_42)) else (k24 (x5 + 1) s_42)))))
def fX5_taste (x1 : Int32) (x2 : Int32) (x3 : Int32) (σ : Mem) : Option (Int32 × Mem) :=
  ((fX5_paymentsFinding x1 x2 x3 σ).bind fun v_4 => (if v_4 = 0 then (lw2 (fX5_taste_24 x1 x2 x3) FU 0 σ) else (bnd2 (fX5_found v_4 σ) fun v_17 s_17 => (some (v_17, s_17)))))
set_option maxRecDepth 20000 in
theorem pX5_taste_24 {M : MC} {w : WE} (X : Cx M w shC cX5_taste 6 RX5 (some .int) 6)   (x1 : Int32) (x2 : Int32) (x3 : Int32)    : ∀ (n : Nat) (x5 : Int32) (σ : Mem), Cp M w shC 6 iIM 24 [some (.ref (wad w 0)), some (.int x1), some (.int x2), some (.int x3), none, some (.int x5)] [] σ (lw2 (fX5_taste_24 x1 x2 x3) n x5 σ) :=
  lw2_i (P := fun x5 σ b => Cp M w shC 6 iIM 24 [some (.ref (wad w 0)), some (.int x1), some (.int x2), some (.int x3), none, some (.int x5)] [] σ b) (fun _ _ => Cp.non) (fun k24 hk24 x5 σ => by
  unfold fX5_taste_24
  refine Cp.iload X dX5_taste_24 rfl ?_
  refine Cp.bipush (v := 63) X dX5_taste_26 rfl ?_
  refine Cp.icmp_gt X 57 dX5_taste_28 (by decide) (fun c_28 => ?_) (fun c_28 => ?_)
  · refine Cp.aload_n (i := 0) X dX5_taste_57 rfl rfl ?_
    refine Cp.ldc (v := (-1000004)) X wcX5_182 dX5_taste_58 ?_
    refine Cp.cVIM [] X [.int (-1000004)] cvX5_found (kX5_found X.ok (-1000004) σ) sc_0 rfl rfl wmX5_59 rfl rfl dX5_taste_60 rfl (Nat.le_of_ble_eq_true rfl) (fun v_60 s_60 => ?_)
    exact Cp.iret X dX5_taste_63 rfl
  · refine Cp.aload_n (i := 0) X dX5_taste_31 rfl rfl ?_
    refine Cp.aload_n (i := 0) X dX5_taste_32 rfl rfl ?_
    refine gfX5_42 X 36 sc_0 rfl dX5_taste_33 ?_
    refine Cp.iload_n (i := 1) X dX5_taste_36 rfl rfl ?_
    refine Cp.aaldh X sc_36 dX5_taste_37 (fun h_37 => ?_)
    refine Cp.iload_n (i := 2) X dX5_taste_38 rfl rfl ?_
    refine Cp.iload_n (i := 3) X dX5_taste_39 rfl rfl ?_
    refine Cp.iload X dX5_taste_40 rfl ?_
    refine Cp.cVBM [] X [.ref (wad w (37 + 2 * x1.toNatClampNeg)), .int x2, .int x3, .int x5] cvX5_fits (kX5_fits X.ok (37 + 2 * x1.toNatClampNeg) (isSe_of h_37) x2 x3 x5 σ) sc_0 rfl rfl wmX5_227 rfl rfl dX5_taste_42 rfl (Nat.le_of_ble_eq_true rfl) (fun v_42 s_42 => ?_)
    refine Cp.if_eqB X 51 dX5_taste_45 (by decide) (fun c_45 => ?_) (fun c_45 => ?_)
    · refine Cp.iinc (v := x5 + 1) X dX5_taste_51 rfl rfl (Nat.le_of_ble_eq_true rfl) rfl ?_
      refine Cp.goto X 24 dX5_taste_54 (by decide) ?_
      exact hk24 (x5 + 1) s_42
    · refine Cp.iload X dX5_taste_48 rfl ?_
      exact Cp.iret X dX5_taste_50 rfl)
set_option maxRecDepth 20000 in
theorem pX5_taste {M : MC} {w : WE} (X : Cx M w shC cX5_taste 6 RX5 (some .int) 6)   (x1 : Int32) (x2 : Int32) (x3 : Int32) (σ : Mem) : Cp M w shC 6 iIM 0 [some (.ref (wad w 0)), some (.int x1), some (.int x2), some (.int x3), none, none] [] σ (fX5_taste x1 x2 x3 σ) := by
  unfold fX5_taste
  refine Cp.aload_n (i := 0) X dX5_taste_0 rfl rfl ?_
  refine Cp.iload_n (i := 1) X dX5_taste_1 rfl rfl ?_
  refine Cp.iload_n (i := 2) X dX5_taste_2 rfl rfl ?_
  refine Cp.iload_n (i := 3) X dX5_taste_3 rfl rfl ?_
  refine Cp.cVI [] X [.int x1, .int x2, .int x3] cvX5_paymentsFinding (kX5_paymentsFinding X.ok x1 x2 x3 σ) sc_0 rfl rfl wmX5_224 rfl rfl dX5_taste_4 rfl (Nat.le_of_ble_eq_true rfl) (fun v_4 => ?_)
  refine Cp.istore X dX5_taste_7 (Nat.le_of_ble_eq_true rfl) rfl ?_
  refine Cp.iload X dX5_taste_9 rfl ?_
  refine Cp.if_eq X 21 dX5_taste_11 (by decide) (fun c_11 => ?_) (fun c_11 => ?_)
  · refine Cp.iconst (v := 0) X dX5_taste_21 rfl ?_
    refine Cp.istore X dX5_taste_22 (Nat.le_of_ble_eq_true rfl) rfl ?_
    refine Cp.mask [true, true, true, true, false, true] ?_
    exact pX5_taste_24 X x1 x2 x3 FU 0 σ
  · refine Cp.aload_n (i := 0) X dX5_taste_14 rfl rfl ?_
    refine Cp.iload X dX5_taste_15 rfl ?_
    refine Cp.cVIM [] X [.int v_4] cvX5_found (kX5_found X.ok v_4 σ) sc_0 rfl rfl wmX5_59 rfl rfl dX5_taste_17 rfl (Nat.le_of_ble_eq_true rfl) (fun v_17 s_17 => ?_)
    exact Cp.iret X dX5_taste_20 rfl
theorem kX5_taste {l : Launch} {w : WE} (hok : OkW w shC)   (x1 : Int32) (x2 : Int32) (x3 : Int32) (σ : Mem) : ∀ v, fX5_taste x1 x2 x3 σ = some v → Ctr l w shC yX5_taste cX5_taste 6 (some .int) 6 [.ref (wad w 0), .int x1, .int x2, .int x3] σ (iIM v) := fun v hv => Ctr.of [some (.ref (wad w 0)), some (.int x1), some (.int x2), some (.int x3), none, none] (by decide) hok rfl (Nat.le_of_ble_eq_true rfl) (fun M _ X => pX5_taste X   x1 x2 x3 σ v hv)
def fX5_which_21 (x1 : Int32) (k21 : Int32 → Int32 → Mem → Option (Int32 × Mem)) (x3 : Int32) (x4 : Int32) (σ : Mem) : Option (Int32 × Mem) :=
  (if (σ 1 7) ≤ x4 then (some (x3, σ)) else ((fX1_takeOver 11 1 σ).bind fun s_41 => (bnd2 (fX4_perform 11 x4 s_41) fun v_54 s_54 => (gd (inB x1 4 = true) ((fX2_tellsFirst (37 + 2 * x1.toNatClampNeg) 33 (s_54 1 0) s_54).bind fun v_78 => (if v_78 = true then (pb (x3 ||| (1 <<< (x4 &&& 31)) : Int32) fun x3_90 => (k21 x3_90 (x4 + 1) s_54)) else (k21 x3 (x4 + 1) s_54)))))))
def fX5_which (x1 : Int32) (σ : Mem) : Option (Int32 × Mem) :=
  ((fX5_sheetFinding x1 σ).bind fun v_2 => (if v_2 = 0 then (lw3 (fX5_which_21 x1) FU 0 0 σ) else (bnd2 (fX5_found v_2 σ) fun v_12 s_12 => (some (v_12, s_12)))))
set_option maxRecDepth 20000 in
theorem pX5_which_21 {M : MC} {w : WE} (X : Cx M w shC cX5_which 5 RX5 (some .int) 5)   (x1 : Int32)    : ∀ (n : Nat) (x3 : Int32) (x4 : Int32) (σ : Mem), Cp M w shC 5 iIM 21 [some (.ref (wad w 0)), some (.int x1), none, some (.int x3), some (.int x4)] [] σ (lw3 (fX5_which_21 x1) n x3 x4 σ) :=
  lw3_i (P := fun x3 x4 σ b => Cp M w shC 5 iIM 21 [some (.ref (wad w 0)), some (.int x1), none, some (.int x3), some (.int x4)] [] σ b) (fun _ _ _ => Cp.non) (fun k21 hk21 x3 x4 σ => by
  unfold fX5_which_21
  refine Cp.iload X dX5_which_21 rfl ?_
  refine Cp.aload_n (i := 0) X dX5_which_23 rfl rfl ?_
  refine gfX5_10 X 1 sc_0 rfl dX5_which_24 ?_
  refine gfX5_123 X sc_1 rfl dX5_which_27 ?_
  refine Cp.icmp_ge X 97 dX5_which_30 (by decide) (fun c_30 => ?_) (fun c_30 => ?_)
  · refine Cp.iload_n (i := 3) X dX5_which_97 rfl rfl ?_
    exact Cp.iret X dX5_which_98 rfl
  · refine Cp.aload_n (i := 0) X dX5_which_33 rfl rfl ?_
    refine gfX5_16 X 11 sc_0 rfl dX5_which_34 ?_
    refine Cp.aload_n (i := 0) X dX5_which_37 rfl rfl ?_
    refine gfX5_10 X 1 sc_0 rfl dX5_which_38 ?_
    refine Cp.cVV [] X [.ref (wad w 1)] cvX1_takeOver (kX1_takeOver X.ok 11 1 isRm_11 isRm_1 σ) sc_11 rfl rfl wmX5_201 rfl rfl dX5_which_41 rfl (Nat.le_of_ble_eq_true rfl) (fun s_41 => ?_)
    refine Cp.aload_n (i := 0) X dX5_which_44 rfl rfl ?_
    refine gfX5_29 X 31 sc_0 rfl dX5_which_45 ?_
    refine Cp.aload_n (i := 0) X dX5_which_48 rfl rfl ?_
    refine gfX5_16 X 11 sc_0 rfl dX5_which_49 ?_
    refine Cp.iload X dX5_which_52 rfl ?_
    refine Cp.cVIM [] X [.ref (wad w 11), .int x4] cvX4_perform (kX4_perform X.ok 11 isRm_11 x4 s_41) sc_31 rfl rfl wmX5_167 rfl rfl dX5_which_54 rfl (Nat.le_of_ble_eq_true rfl) (fun v_54 s_54 => ?_)
    refine Cp.pop X dX5_which_57 rfl ?_
    refine Cp.aload_n (i := 0) X dX5_which_58 rfl rfl ?_
    refine gfX5_42 X 36 sc_0 rfl dX5_which_59 ?_
    refine Cp.iload_n (i := 1) X dX5_which_62 rfl rfl ?_
    refine Cp.aaldh X sc_36 dX5_which_63 (fun h_63 => ?_)
    refine Cp.aload_n (i := 0) X dX5_which_64 rfl rfl ?_
    refine gfX5_29 X 31 sc_0 rfl dX5_which_65 ?_
    refine gfX5_205 X 33 sc_31 rfl dX5_which_68 ?_
    refine Cp.aload_n (i := 0) X dX5_which_71 rfl rfl ?_
    refine gfX5_10 X 1 sc_0 rfl dX5_which_72 ?_
    refine gfX5_63 X sc_1 rfl dX5_which_75 ?_
    refine Cp.cVB [] X [.ref (wad w 33), .int (s_54 1 0)] cvX2_tellsFirst (kX2_tellsFirst X.ok (37 + 2 * x1.toNatClampNeg) 33 (isSe_of h_63) sc_33 (s_54 1 0) s_54) (s_se (isSe_of h_63)) rfl rfl wmX5_234 rfl rfl dX5_which_78 rfl (Nat.le_of_ble_eq_true rfl) (fun v_78 => ?_)
    refine Cp.if_eqB X 91 dX5_which_81 (by decide) (fun c_81 => ?_) (fun c_81 => ?_)
    · refine Cp.iinc (v := x4 + 1) X dX5_which_91 rfl rfl (Nat.le_of_ble_eq_true rfl) rfl ?_
      refine Cp.goto X 21 dX5_which_94 (by decide) ?_
      exact hk21 x3 (x4 + 1) s_54
    · refine Cp.iload_n (i := 3) X dX5_which_84 rfl rfl ?_
      refine Cp.iconst (v := 1) X dX5_which_85 rfl ?_
      refine Cp.iload X dX5_which_86 rfl ?_
      refine Cp.ishl X dX5_which_88 ?_
      refine Cp.ior X dX5_which_89 ?_
      refine Cp.nameI (fun x3_90 => ?_)
      refine Cp.istore_n (i := 3) X dX5_which_90 rfl (Nat.le_of_ble_eq_true rfl) rfl ?_
      refine Cp.iinc (v := x4 + 1) X dX5_which_91 rfl rfl (Nat.le_of_ble_eq_true rfl) rfl ?_
      refine Cp.goto X 21 dX5_which_94 (by decide) ?_
      exact hk21 x3_90 (x4 + 1) s_54)
set_option maxRecDepth 20000 in
theorem pX5_which {M : MC} {w : WE} (X : Cx M w shC cX5_which 5 RX5 (some .int) 5)   (x1 : Int32) (σ : Mem) : Cp M w shC 5 iIM 0 [some (.ref (wad w 0)), some (.int x1), none, none, none] [] σ (fX5_which x1 σ) := by
  unfold fX5_which
  refine Cp.aload_n (i := 0) X dX5_which_0 rfl rfl ?_
  refine Cp.iload_n (i := 1) X dX5_which_1 rfl rfl ?_
  refine Cp.cVI [] X [.int x1] cvX5_sheetFinding (kX5_sheetFinding X.ok x1 σ) sc_0 rfl rfl wmX5_231 rfl rfl dX5_which_2 rfl (Nat.le_of_ble_eq_true rfl) (fun v_2 => ?_)
  refine Cp.istore_n (i := 2) X dX5_which_5 rfl (Nat.le_of_ble_eq_true rfl) rfl ?_
  refine Cp.iload_n (i := 2) X dX5_which_6 rfl rfl ?_
  refine Cp.if_eq X 16 dX5_which_7 (by decide) (fun c_7 => ?_) (fun c_7 => ?_)
  · refine Cp.iconst (v := 0) X dX5_which_16 rfl ?_
    refine Cp.istore_n (i := 3) X dX5_which_17 rfl (Nat.le_of_ble_eq_true rfl) rfl ?_
    refine Cp.iconst (v := 0) X dX5_which_18 rfl ?_
    refine Cp.istore X dX5_which_19 (Nat.le_of_ble_eq_true rfl) rfl ?_
    refine Cp.mask [true, true, false, true, true] ?_
    exact pX5_which_21 X x1 FU 0 0 σ
  · refine Cp.aload_n (i := 0) X dX5_which_10 rfl rfl ?_
    refine Cp.iload_n (i := 2) X dX5_which_11 rfl rfl ?_
    refine Cp.cVIM [] X [.int v_2] cvX5_found (kX5_found X.ok v_2 σ) sc_0 rfl rfl wmX5_59 rfl rfl dX5_which_12 rfl (Nat.le_of_ble_eq_true rfl) (fun v_12 s_12 => ?_)
    exact Cp.iret X dX5_which_15 rfl
theorem kX5_which {l : Launch} {w : WE} (hok : OkW w shC)   (x1 : Int32) (σ : Mem) : ∀ v, fX5_which x1 σ = some v → Ctr l w shC yX5_which cX5_which 5 (some .int) 5 [.ref (wad w 0), .int x1] σ (iIM v) := fun v hv => Ctr.of [some (.ref (wad w 0)), some (.int x1), none, none, none] (by decide) hok rfl (Nat.le_of_ble_eq_true rfl) (fun M _ X => pX5_which X   x1 σ v hv)
def fX5_shows_50 (x1 : Int32) (k50 : Int32 → Mem → Option (Int32 × Mem)) (x2 : Int32) (σ : Mem) : Option (Int32 × Mem) :=
  (if x1 ≤ x2 then (some (σ 1 12, σ)) else (bnd2 (fX1_drawBelow 1 (σ 1 7) σ) fun v_74 s_74 => (bnd2 (fX4_perform 1 v_74 s_74) fun v_77 s_77 => (k50 (x2 + 1) s_77))))
def fX5_shows (x1 : Int32) (σ : Mem) : Option (Int32 × Mem) :=
  (if fX5_within x1 1 20 = true then (if (σ 1 7) = 0 then (bnd2 (fX5_found (-1000005) σ) fun v_44 s_44 => (some (v_44, s_44))) else (if ((σ 1 13) + x1) ≤ 99999 then (lw2 (fX5_shows_50 x1) FU 0 σ) else (bnd2 (fX5_found (-1000005) σ) fun v_44 s_44 => (some (v_44, s_44))))) else (bnd2 (fX5_found (-1000001) σ) fun v_13 s_13 => (some (v_13, s_13))))
set_option maxRecDepth 20000 in
theorem pX5_shows_50 {M : MC} {w : WE} (X : Cx M w shC cX5_shows 3 RX5 (some .int) 5)   (x1 : Int32)    : ∀ (n : Nat) (x2 : Int32) (σ : Mem), Cp M w shC 3 iIM 50 [some (.ref (wad w 0)), some (.int x1), some (.int x2)] [] σ (lw2 (fX5_shows_50 x1) n x2 σ) :=
  lw2_i (P := fun x2 σ b => Cp M w shC 3 iIM 50 [some (.ref (wad w 0)), some (.int x1), some (.int x2)] [] σ b) (fun _ _ => Cp.non) (fun k50 hk50 x2 σ => by
  unfold fX5_shows_50
  refine Cp.iload_n (i := 2) X dX5_shows_50 rfl rfl ?_
  refine Cp.iload_n (i := 1) X dX5_shows_51 rfl rfl ?_
  refine Cp.icmp_ge X 87 dX5_shows_52 (by decide) (fun c_52 => ?_) (fun c_52 => ?_)
  · refine Cp.aload_n (i := 0) X dX5_shows_87 rfl rfl ?_
    refine gfX5_10 X 1 sc_0 rfl dX5_shows_88 ?_
    refine gfX5_175 X sc_1 rfl dX5_shows_91 ?_
    exact Cp.iret X dX5_shows_94 rfl
  · refine Cp.aload_n (i := 0) X dX5_shows_55 rfl rfl ?_
    refine gfX5_29 X 31 sc_0 rfl dX5_shows_56 ?_
    refine Cp.aload_n (i := 0) X dX5_shows_59 rfl rfl ?_
    refine gfX5_10 X 1 sc_0 rfl dX5_shows_60 ?_
    refine Cp.aload_n (i := 0) X dX5_shows_63 rfl rfl ?_
    refine gfX5_10 X 1 sc_0 rfl dX5_shows_64 ?_
    refine Cp.aload_n (i := 0) X dX5_shows_67 rfl rfl ?_
    refine gfX5_10 X 1 sc_0 rfl dX5_shows_68 ?_
    refine gfX5_123 X sc_1 rfl dX5_shows_71 ?_
    refine Cp.cVIM [.ref (wad w 1), .ref (wad w 31)] X [.int (σ 1 7)] cvX1_drawBelow (kX1_drawBelow X.ok 1 isRm_1 (σ 1 7) σ) sc_1 rfl rfl wmX5_238 rfl rfl dX5_shows_74 rfl (Nat.le_of_ble_eq_true rfl) (fun v_74 s_74 => ?_)
    refine Cp.cVIM [] X [.ref (wad w 1), .int v_74] cvX4_perform (kX4_perform X.ok 1 isRm_1 v_74 s_74) sc_31 rfl rfl wmX5_167 rfl rfl dX5_shows_77 rfl (Nat.le_of_ble_eq_true rfl) (fun v_77 s_77 => ?_)
    refine Cp.pop X dX5_shows_80 rfl ?_
    refine Cp.iinc (v := x2 + 1) X dX5_shows_81 rfl rfl (Nat.le_of_ble_eq_true rfl) rfl ?_
    refine Cp.goto X 50 dX5_shows_84 (by decide) ?_
    exact hk50 (x2 + 1) s_77)
set_option maxRecDepth 20000 in
theorem pX5_shows {M : MC} {w : WE} (X : Cx M w shC cX5_shows 3 RX5 (some .int) 5)   (x1 : Int32) (σ : Mem) : Cp M w shC 3 iIM 0 [some (.ref (wad w 0)), some (.int x1), none] [] σ (fX5_shows x1 σ) := by
  unfold fX5_shows
  refine Cp.iload_n (i := 1) X dX5_shows_0 rfl rfl ?_
  refine Cp.iconst (v := 1) X dX5_shows_1 rfl ?_
  refine Cp.bipush (v := 20) X dX5_shows_2 rfl ?_
  refine Cp.cSBT [] X [.int x1, .int 1, .int 20] csX5_within (kX5_within X.ok x1 1 20 σ) wmX5_132 rfl rfl dX5_shows_4 rfl (Nat.le_of_ble_eq_true rfl) ?_
  refine Cp.if_neB X 17 dX5_shows_7 (by decide) (fun c_7 => ?_) (fun c_7 => ?_)
  · refine Cp.aload_n (i := 0) X dX5_shows_17 rfl rfl ?_
    refine gfX5_10 X 1 sc_0 rfl dX5_shows_18 ?_
    refine gfX5_123 X sc_1 rfl dX5_shows_21 ?_
    refine Cp.if_eq X 41 dX5_shows_24 (by decide) (fun c_24 => ?_) (fun c_24 => ?_)
    · refine Cp.aload_n (i := 0) X dX5_shows_41 rfl rfl ?_
      refine Cp.ldc (v := (-1000005)) X wcX5_166 dX5_shows_42 ?_
      refine Cp.cVIM [] X [.int (-1000005)] cvX5_found (kX5_found X.ok (-1000005) σ) sc_0 rfl rfl wmX5_59 rfl rfl dX5_shows_44 rfl (Nat.le_of_ble_eq_true rfl) (fun v_44 s_44 => ?_)
      exact Cp.iret X dX5_shows_47 rfl
    · refine Cp.aload_n (i := 0) X dX5_shows_27 rfl rfl ?_
      refine gfX5_10 X 1 sc_0 rfl dX5_shows_28 ?_
      refine gfX5_162 X sc_1 rfl dX5_shows_31 ?_
      refine Cp.iload_n (i := 1) X dX5_shows_34 rfl rfl ?_
      refine Cp.iadd X dX5_shows_35 ?_
      refine Cp.ldc (v := 99999) X wcX5_165 dX5_shows_36 ?_
      refine Cp.icmp_le X 48 dX5_shows_38 (by decide) (fun c_38 => ?_) (fun c_38 => ?_)
      · refine Cp.iconst (v := 0) X dX5_shows_48 rfl ?_
        refine Cp.istore_n (i := 2) X dX5_shows_49 rfl (Nat.le_of_ble_eq_true rfl) rfl ?_
        exact pX5_shows_50 X x1 FU 0 σ
      · refine Cp.aload_n (i := 0) X dX5_shows_41 rfl rfl ?_
        refine Cp.ldc (v := (-1000005)) X wcX5_166 dX5_shows_42 ?_
        refine Cp.cVIM [] X [.int (-1000005)] cvX5_found (kX5_found X.ok (-1000005) σ) sc_0 rfl rfl wmX5_59 rfl rfl dX5_shows_44 rfl (Nat.le_of_ble_eq_true rfl) (fun v_44 s_44 => ?_)
        exact Cp.iret X dX5_shows_47 rfl
  · refine Cp.aload_n (i := 0) X dX5_shows_10 rfl rfl ?_
    refine Cp.ldc (v := (-1000001)) X wcX5_58 dX5_shows_11 ?_
    refine Cp.cVIM [] X [.int (-1000001)] cvX5_found (kX5_found X.ok (-1000001) σ) sc_0 rfl rfl wmX5_59 rfl rfl dX5_shows_13 rfl (Nat.le_of_ble_eq_true rfl) (fun v_13 s_13 => ?_)
    exact Cp.iret X dX5_shows_16 rfl
theorem kX5_shows {l : Launch} {w : WE} (hok : OkW w shC)   (x1 : Int32) (σ : Mem) : ∀ v, fX5_shows x1 σ = some v → Ctr l w shC yX5_shows cX5_shows 3 (some .int) 5 [.ref (wad w 0), .int x1] σ (iIM v) := fun v hv => Ctr.of [some (.ref (wad w 0)), some (.int x1), none] (by decide) hok rfl (Nat.le_of_ble_eq_true rfl) (fun M _ X => pX5_shows X   x1 σ v hv)
def fX5_inLowestTerms_6 (x0 : Int32) (x1 : Int32) (k6 : Int32 → Option Int32) (x2 : Int32) : Option Int32 :=
  (if x2 ≤ 1 then (some x0) else (gd (¬ x2 = 0) (if (x0 - x0 / x2 * x2) = 0 then (gd (¬ x2 = 0) (if (x1 - x1 / x2 * x2) = 0 then (gd (¬ x2 = 0) (some (x0 / x2))) else (k6 (x2 + (-1))))) else (k6 (x2 + (-1))))))
def fX5_inLowestTerms (x0 : Int32) (x1 : Int32) : Option Int32 :=
  (pb (iMax x0 x1 : Int32) fun x2_5 => (lw1 (fX5_inLowestTerms_6 x0 x1) FU x2_5))
set_option maxRecDepth 20000 in
theorem pX5_inLowestTerms_6 {M : MC} {w : WE} (X : Cx M w shC cX5_inLowestTerms 3 RX5 (some .int) 1)   (x0 : Int32) (x1 : Int32)  (σ : Mem)  : ∀ (n : Nat) (x2 : Int32), Cp M w shC 3 (iI σ) 6 [some (.int x0), some (.int x1), some (.int x2)] [] σ (lw1 (fX5_inLowestTerms_6 x0 x1) n x2) :=
  lw1_i (P := fun x2 b => Cp M w shC 3 (iI σ) 6 [some (.int x0), some (.int x1), some (.int x2)] [] σ b) (fun _ => Cp.non) (fun k6 hk6 x2 => by
  unfold fX5_inLowestTerms_6
  refine Cp.iload_n (i := 2) X dX5_inLowestTerms_6 rfl rfl ?_
  refine Cp.iconst (v := 1) X dX5_inLowestTerms_7 rfl ?_
  refine Cp.icmp_le X 33 dX5_inLowestTerms_8 (by decide) (fun c_8 => ?_) (fun c_8 => ?_)
  · refine Cp.iload_n (i := 0) X dX5_inLowestTerms_33 rfl rfl ?_
    exact Cp.iret X dX5_inLowestTerms_34 rfl
  · refine Cp.iload_n (i := 0) X dX5_inLowestTerms_11 rfl rfl ?_
    refine Cp.iload_n (i := 2) X dX5_inLowestTerms_12 rfl rfl ?_
    refine Cp.iremg X dX5_inLowestTerms_13 ?_
    refine Cp.if_ne X 27 dX5_inLowestTerms_14 (by decide) (fun c_14 => ?_) (fun c_14 => ?_)
    · refine Cp.iinc (v := x2 + (-1)) X dX5_inLowestTerms_27 rfl rfl (Nat.le_of_ble_eq_true rfl) rfl ?_
      refine Cp.goto X 6 dX5_inLowestTerms_30 (by decide) ?_
      exact hk6 (x2 + (-1))
    · refine Cp.iload_n (i := 1) X dX5_inLowestTerms_17 rfl rfl ?_
      refine Cp.iload_n (i := 2) X dX5_inLowestTerms_18 rfl rfl ?_
      refine Cp.iremg X dX5_inLowestTerms_19 ?_
      refine Cp.if_ne X 27 dX5_inLowestTerms_20 (by decide) (fun c_20 => ?_) (fun c_20 => ?_)
      · refine Cp.iinc (v := x2 + (-1)) X dX5_inLowestTerms_27 rfl rfl (Nat.le_of_ble_eq_true rfl) rfl ?_
        refine Cp.goto X 6 dX5_inLowestTerms_30 (by decide) ?_
        exact hk6 (x2 + (-1))
      · refine Cp.iload_n (i := 0) X dX5_inLowestTerms_23 rfl rfl ?_
        refine Cp.iload_n (i := 2) X dX5_inLowestTerms_24 rfl rfl ?_
        refine Cp.idivg X dX5_inLowestTerms_25 ?_
        exact Cp.iret X dX5_inLowestTerms_26 rfl)
set_option maxRecDepth 20000 in
theorem pX5_inLowestTerms {M : MC} {w : WE} (X : Cx M w shC cX5_inLowestTerms 3 RX5 (some .int) 1)   (x0 : Int32) (x1 : Int32) (σ : Mem) : Cp M w shC 3 (iI σ) 0 [some (.int x0), some (.int x1), none] [] σ (fX5_inLowestTerms x0 x1) := by
  unfold fX5_inLowestTerms
  refine Cp.iload_n (i := 0) X dX5_inLowestTerms_0 rfl rfl ?_
  refine Cp.iload_n (i := 1) X dX5_inLowestTerms_1 rfl rfl ?_
  refine Cp.mmax X wqX5_308 (by decide) dX5_inLowestTerms_2 (Nat.le_of_ble_eq_true rfl) ?_
  refine Cp.nameI (fun x2_5 => ?_)
  refine Cp.istore_n (i := 2) X dX5_inLowestTerms_5 rfl (Nat.le_of_ble_eq_true rfl) rfl ?_
  exact pX5_inLowestTerms_6 X x0 x1 σ FU x2_5
theorem kX5_inLowestTerms {l : Launch} {w : WE} (hok : OkW w shC)   (x0 : Int32) (x1 : Int32) (σ : Mem) : ∀ v, fX5_inLowestTerms x0 x1 = some v → Ctr l w shC yX5_inLowestTerms cX5_inLowestTerms 3 (some .int) 1 [.int x0, .int x1] σ ((iI σ) v) := fun v hv => Ctr.of [some (.int x0), some (.int x1), none] (by decide) hok rfl (Nat.le_of_ble_eq_true rfl) (fun M _ X => pX5_inLowestTerms X   x0 x1 σ v hv)
def fX5_power_5 (x0 : Int32) (x1 : Int32) (k5 : Int64 → Int32 → Option Int64) (x2 : Int64) (x4 : Int32) : Option Int64 :=
  (if x1 ≤ x4 then (some x2) else (pb (x2 * ((x0 : Int32).toInt64) : Int64) fun x2_15 => (k5 x2_15 (x4 + 1))))
def fX5_power (x0 : Int32) (x1 : Int32) : Option Int64 :=
  (lw2 (fX5_power_5 x0 x1) FU 1 0)
set_option maxRecDepth 20000 in
theorem pX5_power_5 {M : MC} {w : WE} (X : Cx M w shC cX5_power 5 RX5 (some .long) 0)   (x0 : Int32) (x1 : Int32)  (σ : Mem)  : ∀ (n : Nat) (x2 : Int64) (x4 : Int32), Cp M w shC 5 (iL σ) 5 [some (.int x0), some (.int x1), some (.long x2), none, some (.int x4)] [] σ (lw2 (fX5_power_5 x0 x1) n x2 x4) :=
  lw2_i (P := fun x2 x4 b => Cp M w shC 5 (iL σ) 5 [some (.int x0), some (.int x1), some (.long x2), none, some (.int x4)] [] σ b) (fun _ _ => Cp.non) (fun k5 hk5 x2 x4 => by
  unfold fX5_power_5
  refine Cp.iload X dX5_power_5 rfl ?_
  refine Cp.iload_n (i := 1) X dX5_power_7 rfl rfl ?_
  refine Cp.icmp_ge X 22 dX5_power_8 (by decide) (fun c_8 => ?_) (fun c_8 => ?_)
  · refine Cp.lload_n (i := 2) X dX5_power_22 rfl rfl ?_
    exact Cp.lret X dX5_power_23 rfl
  · refine Cp.lload_n (i := 2) X dX5_power_11 rfl rfl ?_
    refine Cp.iload_n (i := 0) X dX5_power_12 rfl rfl ?_
    refine Cp.i2l X dX5_power_13 ?_
    refine Cp.lmul X dX5_power_14 ?_
    refine Cp.nameL (fun x2_15 => ?_)
    refine Cp.lstore_n (i := 2) X dX5_power_15 rfl (Nat.le_of_ble_eq_true rfl) rfl ?_
    refine Cp.iinc (v := x4 + 1) X dX5_power_16 rfl rfl (Nat.le_of_ble_eq_true rfl) rfl ?_
    refine Cp.goto X 5 dX5_power_19 (by decide) ?_
    exact hk5 x2_15 (x4 + 1))
set_option maxRecDepth 20000 in
theorem pX5_power {M : MC} {w : WE} (X : Cx M w shC cX5_power 5 RX5 (some .long) 0)   (x0 : Int32) (x1 : Int32) (σ : Mem) : Cp M w shC 5 (iL σ) 0 [some (.int x0), some (.int x1), none, none, none] [] σ (fX5_power x0 x1) := by
  unfold fX5_power
  refine Cp.lconst (v := 1) X dX5_power_0 rfl ?_
  refine Cp.lstore_n (i := 2) X dX5_power_1 rfl (Nat.le_of_ble_eq_true rfl) rfl ?_
  refine Cp.iconst (v := 0) X dX5_power_2 rfl ?_
  refine Cp.istore X dX5_power_3 (Nat.le_of_ble_eq_true rfl) rfl ?_
  exact pX5_power_5 X x0 x1 σ FU 1 0
theorem kX5_power {l : Launch} {w : WE} (hok : OkW w shC)   (x0 : Int32) (x1 : Int32) (σ : Mem) : ∀ v, fX5_power x0 x1 = some v → Ctr l w shC yX5_power cX5_power 5 (some .long) 0 [.int x0, .int x1] σ ((iL σ) v) := fun v hv => Ctr.of [some (.int x0), some (.int x1), none, none, none] (by decide) hok rfl (Nat.le_of_ble_eq_true rfl) (fun M _ X => pX5_power X   x0 x1 σ v hv)
def fX5_odds_50 (x1 : Int32) (x2 : Int32) (k50 : Int32 → Int32 → Mem → Option (Int64 × Mem)) (x3 : Int32) (x4 : Int32) (σ : Mem) : Option (Int64 × Mem) :=
  (if (σ 1 7) ≤ x4 then (if x2 = 0 then ((fX5_inLowestTerms x3 (σ 1 7)).bind fun v_99 => ((fX5_power v_99 x1).bind fun v_121 => (some (v_121, σ)))) else ((fX5_inLowestTerms (σ 1 7) x3).bind fun v_113 => ((fX5_power v_113 x1).bind fun v_121 => (some (v_121, σ))))) else (bnd2 (fX4_laughersOf 1 x4 σ) fun v_72 s_72 => (if v_72 = 0 then (k50 x3 (x4 + 1) s_72) else (k50 (x3 + 1) (x4 + 1) s_72))))
def fX5_odds (x1 : Int32) (x2 : Int32) (σ : Mem) : Option (Int64 × Mem) :=
  (if fX5_within x1 0 14 = true then (if fX5_within x2 0 1 = true then (if (σ 1 7) = 0 then (bnd2 (fX5_found (-1000004) σ) fun v_40 s_40 => (some ((v_40 : Int32).toInt64, s_40))) else (lw3 (fX5_odds_50 x1 x2) FU 0 0 σ)) else (bnd2 (fX5_found (-1000001) σ) fun v_22 s_22 => (some ((v_22 : Int32).toInt64, s_22)))) else (bnd2 (fX5_found (-1000001) σ) fun v_22 s_22 => (some ((v_22 : Int32).toInt64, s_22))))
set_option maxRecDepth 20000 in
theorem pX5_odds_50 {M : MC} {w : WE} (X : Cx M w shC cX5_odds 5 RX5 (some .long) 4)   (x1 : Int32) (x2 : Int32)    : ∀ (n : Nat) (x3 : Int32) (x4 : Int32) (σ : Mem), Cp M w shC 5 iLM 50 [some (.ref (wad w 0)), some (.int x1), some (.int x2), some (.int x3), some (.int x4)] [] σ (lw3 (fX5_odds_50 x1 x2) n x3 x4 σ) :=
  lw3_i (P := fun x3 x4 σ b => Cp M w shC 5 iLM 50 [some (.ref (wad w 0)), some (.int x1), some (.int x2), some (.int x3), some (.int x4)] [] σ b) (fun _ _ _ => Cp.non) (fun k50 hk50 x3 x4 σ => by
  unfold fX5_odds_50
  refine Cp.iload X dX5_odds_50 rfl ?_
  refine Cp.aload_n (i := 0) X dX5_odds_52 rfl rfl ?_
  refine gfX5_10 X 1 sc_0 rfl dX5_odds_53 ?_
  refine gfX5_123 X sc_1 rfl dX5_odds_56 ?_
  refine Cp.icmp_ge X 87 dX5_odds_59 (by decide) (fun c_59 => ?_) (fun c_59 => ?_)
  · refine Cp.iload_n (i := 2) X dX5_odds_87 rfl rfl ?_
    refine Cp.if_ne X 105 dX5_odds_88 (by decide) (fun c_88 => ?_) (fun c_88 => ?_)
    · refine Cp.aload_n (i := 0) X dX5_odds_105 rfl rfl ?_
      refine gfX5_10 X 1 sc_0 rfl dX5_odds_106 ?_
      refine gfX5_123 X sc_1 rfl dX5_odds_109 ?_
      refine Cp.iload_n (i := 3) X dX5_odds_112 rfl rfl ?_
      refine Cp.cSI [] X [.int (σ 1 7), .int x3] csX5_inLowestTerms (kX5_inLowestTerms X.ok (σ 1 7) x3 σ) wmX5_241 rfl rfl dX5_odds_113 rfl (Nat.le_of_ble_eq_true rfl) (fun v_113 => ?_)
      refine Cp.istore X dX5_odds_116 (Nat.le_of_ble_eq_true rfl) rfl ?_
      refine Cp.iload X dX5_odds_118 rfl ?_
      refine Cp.iload_n (i := 1) X dX5_odds_120 rfl rfl ?_
      refine Cp.cSL [] X [.int v_113, .int x1] csX5_power (kX5_power X.ok v_113 x1 σ) wmX5_244 rfl rfl dX5_odds_121 rfl (Nat.le_of_ble_eq_true rfl) (fun v_121 => ?_)
      exact Cp.lret X dX5_odds_124 rfl
    · refine Cp.iload_n (i := 3) X dX5_odds_91 rfl rfl ?_
      refine Cp.aload_n (i := 0) X dX5_odds_92 rfl rfl ?_
      refine gfX5_10 X 1 sc_0 rfl dX5_odds_93 ?_
      refine gfX5_123 X sc_1 rfl dX5_odds_96 ?_
      refine Cp.cSI [] X [.int x3, .int (σ 1 7)] csX5_inLowestTerms (kX5_inLowestTerms X.ok x3 (σ 1 7) σ) wmX5_241 rfl rfl dX5_odds_99 rfl (Nat.le_of_ble_eq_true rfl) (fun v_99 => ?_)
      refine Cp.goto X 116 dX5_odds_102 (by decide) ?_
      refine Cp.istore X dX5_odds_116 (Nat.le_of_ble_eq_true rfl) rfl ?_
      refine Cp.iload X dX5_odds_118 rfl ?_
      refine Cp.iload_n (i := 1) X dX5_odds_120 rfl rfl ?_
      refine Cp.cSL [] X [.int v_99, .int x1] csX5_power (kX5_power X.ok v_99 x1 σ) wmX5_244 rfl rfl dX5_odds_121 rfl (Nat.le_of_ble_eq_true rfl) (fun v_121 => ?_)
      exact Cp.lret X dX5_odds_124 rfl
  · refine Cp.aload_n (i := 0) X dX5_odds_62 rfl rfl ?_
    refine gfX5_29 X 31 sc_0 rfl dX5_odds_63 ?_
    refine Cp.aload_n (i := 0) X dX5_odds_66 rfl rfl ?_
    refine gfX5_10 X 1 sc_0 rfl dX5_odds_67 ?_
    refine Cp.iload X dX5_odds_70 rfl ?_
    refine Cp.cVIM [] X [.ref (wad w 1), .int x4] cvX4_laughersOf (kX4_laughersOf X.ok 1 isRm_1 x4 σ) sc_31 rfl rfl wmX5_195 rfl rfl dX5_odds_72 rfl (Nat.le_of_ble_eq_true rfl) (fun v_72 s_72 => ?_)
    refine Cp.if_eq X 81 dX5_odds_75 (by decide) (fun c_75 => ?_) (fun c_75 => ?_)
    · refine Cp.iinc (v := x4 + 1) X dX5_odds_81 rfl rfl (Nat.le_of_ble_eq_true rfl) rfl ?_
      refine Cp.goto X 50 dX5_odds_84 (by decide) ?_
      exact hk50 x3 (x4 + 1) s_72
    · refine Cp.iinc (v := x3 + 1) X dX5_odds_78 rfl rfl (Nat.le_of_ble_eq_true rfl) rfl ?_
      refine Cp.iinc (v := x4 + 1) X dX5_odds_81 rfl rfl (Nat.le_of_ble_eq_true rfl) rfl ?_
      refine Cp.goto X 50 dX5_odds_84 (by decide) ?_
      exact hk50 (x3 + 1) (x4 + 1) s_72)
set_option maxRecDepth 20000 in
theorem pX5_odds {M : MC} {w : WE} (X : Cx M w shC cX5_odds 5 RX5 (some .long) 4)   (x1 : Int32) (x2 : Int32) (σ : Mem) : Cp M w shC 5 iLM 0 [some (.ref (wad w 0)), some (.int x1), some (.int x2), none, none] [] σ (fX5_odds x1 x2 σ) := by
  unfold fX5_odds
  refine Cp.iload_n (i := 1) X dX5_odds_0 rfl rfl ?_
  refine Cp.iconst (v := 0) X dX5_odds_1 rfl ?_
  refine Cp.bipush (v := 14) X dX5_odds_2 rfl ?_
  refine Cp.cSBT [] X [.int x1, .int 0, .int 14] csX5_within (kX5_within X.ok x1 0 14 σ) wmX5_132 rfl rfl dX5_odds_4 rfl (Nat.le_of_ble_eq_true rfl) ?_
  refine Cp.if_eqB X 19 dX5_odds_7 (by decide) (fun c_7 => ?_) (fun c_7 => ?_)
  · refine Cp.aload_n (i := 0) X dX5_odds_19 rfl rfl ?_
    refine Cp.ldc (v := (-1000001)) X wcX5_58 dX5_odds_20 ?_
    refine Cp.cVIM [] X [.int (-1000001)] cvX5_found (kX5_found X.ok (-1000001) σ) sc_0 rfl rfl wmX5_59 rfl rfl dX5_odds_22 rfl (Nat.le_of_ble_eq_true rfl) (fun v_22 s_22 => ?_)
    refine Cp.i2l X dX5_odds_25 ?_
    exact Cp.lret X dX5_odds_26 rfl
  · refine Cp.iload_n (i := 2) X dX5_odds_10 rfl rfl ?_
    refine Cp.iconst (v := 0) X dX5_odds_11 rfl ?_
    refine Cp.iconst (v := 1) X dX5_odds_12 rfl ?_
    refine Cp.cSBT [] X [.int x2, .int 0, .int 1] csX5_within (kX5_within X.ok x2 0 1 σ) wmX5_132 rfl rfl dX5_odds_13 rfl (Nat.le_of_ble_eq_true rfl) ?_
    refine Cp.if_neB X 27 dX5_odds_16 (by decide) (fun c_16 => ?_) (fun c_16 => ?_)
    · refine Cp.aload_n (i := 0) X dX5_odds_27 rfl rfl ?_
      refine gfX5_10 X 1 sc_0 rfl dX5_odds_28 ?_
      refine gfX5_123 X sc_1 rfl dX5_odds_31 ?_
      refine Cp.if_ne X 45 dX5_odds_34 (by decide) (fun c_34 => ?_) (fun c_34 => ?_)
      · refine Cp.iconst (v := 0) X dX5_odds_45 rfl ?_
        refine Cp.istore_n (i := 3) X dX5_odds_46 rfl (Nat.le_of_ble_eq_true rfl) rfl ?_
        refine Cp.iconst (v := 0) X dX5_odds_47 rfl ?_
        refine Cp.istore X dX5_odds_48 (Nat.le_of_ble_eq_true rfl) rfl ?_
        exact pX5_odds_50 X x1 x2 FU 0 0 σ
      · refine Cp.aload_n (i := 0) X dX5_odds_37 rfl rfl ?_
        refine Cp.ldc (v := (-1000004)) X wcX5_182 dX5_odds_38 ?_
        refine Cp.cVIM [] X [.int (-1000004)] cvX5_found (kX5_found X.ok (-1000004) σ) sc_0 rfl rfl wmX5_59 rfl rfl dX5_odds_40 rfl (Nat.le_of_ble_eq_true rfl) (fun v_40 s_40 => ?_)
        refine Cp.i2l X dX5_odds_43 ?_
        exact Cp.lret X dX5_odds_44 rfl
    · refine Cp.aload_n (i := 0) X dX5_odds_19 rfl rfl ?_
      refine Cp.ldc (v := (-1000001)) X wcX5_58 dX5_odds_20 ?_
      refine Cp.cVIM [] X [.int (-1000001)] cvX5_found (kX5_found X.ok (-1000001) σ) sc_0 rfl rfl wmX5_59 rfl rfl dX5_odds_22 rfl (Nat.le_of_ble_eq_true rfl) (fun v_22 s_22 => ?_)
      refine Cp.i2l X dX5_odds_25 ?_
      exact Cp.lret X dX5_odds_26 rfl
theorem kX5_odds {l : Launch} {w : WE} (hok : OkW w shC)   (x1 : Int32) (x2 : Int32) (σ : Mem) : ∀ v, fX5_odds x1 x2 σ = some v → Ctr l w shC yX5_odds cX5_odds 5 (some .long) 4 [.ref (wad w 0), .int x1, .int x2] σ (iLM v) := fun v hv => Ctr.of [some (.ref (wad w 0)), some (.int x1), some (.int x2), none, none] (by decide) hok rfl (Nat.le_of_ble_eq_true rfl) (fun M _ X => pX5_odds X   x1 x2 σ v hv)
def fX5_seed (x1 : Int32) (σ : Mem) : Option (Int32 × Mem) :=
  (pb (σ 1 14 : Int32) fun x2_7 => (pb (up2 σ 1 14 x1 : Mem) fun s_13 => (some (x2_7, s_13))))
set_option maxRecDepth 20000 in
theorem pX5_seed {M : MC} {w : WE} (X : Cx M w shC cX5_seed 3 RX5 (some .int) 0)   (x1 : Int32) (σ : Mem) : Cp M w shC 3 iIM 0 [some (.ref (wad w 0)), some (.int x1), none] [] σ (fX5_seed x1 σ) := by
  unfold fX5_seed
  refine Cp.aload_n (i := 0) X dX5_seed_0 rfl rfl ?_
  refine gfX5_10 X 1 sc_0 rfl dX5_seed_1 ?_
  refine gfX5_248 X sc_1 rfl dX5_seed_4 ?_
  refine Cp.nameI (fun x2_7 => ?_)
  refine Cp.istore_n (i := 2) X dX5_seed_7 rfl (Nat.le_of_ble_eq_true rfl) rfl ?_
  refine Cp.aload_n (i := 0) X dX5_seed_8 rfl rfl ?_
  refine gfX5_10 X 1 sc_0 rfl dX5_seed_9 ?_
  refine Cp.iload_n (i := 1) X dX5_seed_12 rfl rfl ?_
  refine pfX5_248 X sc_1 rfl dX5_seed_13 ?_
  refine Cp.nameM (fun s_13 => ?_)
  refine Cp.iload_n (i := 2) X dX5_seed_16 rfl rfl ?_
  exact Cp.iret X dX5_seed_17 rfl
theorem kX5_seed {l : Launch} {w : WE} (hok : OkW w shC)   (x1 : Int32) (σ : Mem) : ∀ v, fX5_seed x1 σ = some v → Ctr l w shC yX5_seed cX5_seed 3 (some .int) 0 [.ref (wad w 0), .int x1] σ (iIM v) := fun v hv => Ctr.of [some (.ref (wad w 0)), some (.int x1), none] (by decide) hok rfl (Nat.le_of_ble_eq_true rfl) (fun M _ X => pX5_seed X   x1 σ v hv)
def fX5_feed_41 (x1 : Int32) (k41 : Int32 → Mem → Option (Int32 × Mem)) (x3 : Int32) (σ : Mem) : Option (Int32 × Mem) :=
  (if x3 < 0 then (some (σ 34 1, σ)) else ((fX3_put ((((x1 : Int32).toUInt32 >>> ((8 * x3 : Int32).toUInt32 &&& Int32.toUInt32 31)).toInt32 : Int32).toInt8.toInt32) σ).bind fun s_56 => (k41 (x3 + (-1)) s_56)))
def fX5_feed (x1 : Int32) (x2 : Int32) (σ : Mem) : Option (Int32 × Mem) :=
  (if fX5_within x2 1 4 = true then (if ((σ 34 1) + x2) ≤ 120 then (pb (x2 - 1 : Int32) fun x3_40 => (lw2 (fX5_feed_41 x1) FU x3_40 σ)) else (bnd2 (fX5_found (-1000002) σ) fun v_33 s_33 => (some (v_33, s_33)))) else (bnd2 (fX5_found (-1000001) σ) fun v_12 s_12 => (some (v_12, s_12))))
set_option maxRecDepth 20000 in
theorem pX5_feed_41 {M : MC} {w : WE} (X : Cx M w shC cX5_feed 4 RX5 (some .int) 2)   (x1 : Int32)    : ∀ (n : Nat) (x3 : Int32) (σ : Mem), Cp M w shC 4 iIM 41 [some (.ref (wad w 0)), some (.int x1), none, some (.int x3)] [] σ (lw2 (fX5_feed_41 x1) n x3 σ) :=
  lw2_i (P := fun x3 σ b => Cp M w shC 4 iIM 41 [some (.ref (wad w 0)), some (.int x1), none, some (.int x3)] [] σ b) (fun _ _ => Cp.non) (fun k41 hk41 x3 σ => by
  unfold fX5_feed_41
  refine Cp.iload_n (i := 3) X dX5_feed_41 rfl rfl ?_
  refine Cp.if_lt X 65 dX5_feed_42 (by decide) (fun c_42 => ?_) (fun c_42 => ?_)
  · refine Cp.aload_n (i := 0) X dX5_feed_65 rfl rfl ?_
    refine gfX5_36 X 34 sc_0 rfl dX5_feed_66 ?_
    refine gfX5_251 X sc_34 rfl dX5_feed_69 ?_
    exact Cp.iret X dX5_feed_72 rfl
  · refine Cp.aload_n (i := 0) X dX5_feed_45 rfl rfl ?_
    refine gfX5_36 X 34 sc_0 rfl dX5_feed_46 ?_
    refine Cp.iload_n (i := 1) X dX5_feed_49 rfl rfl ?_
    refine Cp.bipush (v := 8) X dX5_feed_50 rfl ?_
    refine Cp.iload_n (i := 3) X dX5_feed_52 rfl rfl ?_
    refine Cp.imul X dX5_feed_53 ?_
    refine Cp.iushr X dX5_feed_54 ?_
    refine Cp.i2b X dX5_feed_55 ?_
    refine Cp.cVV [] X [.int ((((x1 : Int32).toUInt32 >>> ((8 * x3 : Int32).toUInt32 &&& Int32.toUInt32 31)).toInt32 : Int32).toInt8.toInt32)] cvX3_put (kX3_put X.ok ((((x1 : Int32).toUInt32 >>> ((8 * x3 : Int32).toUInt32 &&& Int32.toUInt32 31)).toInt32 : Int32).toInt8.toInt32) σ) sc_34 rfl rfl wmX5_254 rfl rfl dX5_feed_56 rfl (Nat.le_of_ble_eq_true rfl) (fun s_56 => ?_)
    refine Cp.iinc (v := x3 + (-1)) X dX5_feed_59 rfl rfl (Nat.le_of_ble_eq_true rfl) rfl ?_
    refine Cp.goto X 41 dX5_feed_62 (by decide) ?_
    exact hk41 (x3 + (-1)) s_56)
set_option maxRecDepth 20000 in
theorem pX5_feed {M : MC} {w : WE} (X : Cx M w shC cX5_feed 4 RX5 (some .int) 2)   (x1 : Int32) (x2 : Int32) (σ : Mem) : Cp M w shC 4 iIM 0 [some (.ref (wad w 0)), some (.int x1), some (.int x2), none] [] σ (fX5_feed x1 x2 σ) := by
  unfold fX5_feed
  refine Cp.iload_n (i := 2) X dX5_feed_0 rfl rfl ?_
  refine Cp.iconst (v := 1) X dX5_feed_1 rfl ?_
  refine Cp.iconst (v := 4) X dX5_feed_2 rfl ?_
  refine Cp.cSBT [] X [.int x2, .int 1, .int 4] csX5_within (kX5_within X.ok x2 1 4 σ) wmX5_132 rfl rfl dX5_feed_3 rfl (Nat.le_of_ble_eq_true rfl) ?_
  refine Cp.if_neB X 16 dX5_feed_6 (by decide) (fun c_6 => ?_) (fun c_6 => ?_)
  · refine Cp.aload_n (i := 0) X dX5_feed_16 rfl rfl ?_
    refine gfX5_36 X 34 sc_0 rfl dX5_feed_17 ?_
    refine gfX5_251 X sc_34 rfl dX5_feed_20 ?_
    refine Cp.iload_n (i := 2) X dX5_feed_23 rfl rfl ?_
    refine Cp.iadd X dX5_feed_24 ?_
    refine Cp.bipush (v := 120) X dX5_feed_25 rfl ?_
    refine Cp.icmp_le X 37 dX5_feed_27 (by decide) (fun c_27 => ?_) (fun c_27 => ?_)
    · refine Cp.iload_n (i := 2) X dX5_feed_37 rfl rfl ?_
      refine Cp.iconst (v := 1) X dX5_feed_38 rfl ?_
      refine Cp.isub X dX5_feed_39 ?_
      refine Cp.nameI (fun x3_40 => ?_)
      refine Cp.istore_n (i := 3) X dX5_feed_40 rfl (Nat.le_of_ble_eq_true rfl) rfl ?_
      refine Cp.mask [true, true, false, true] ?_
      exact pX5_feed_41 X x1 FU x3_40 σ
    · refine Cp.aload_n (i := 0) X dX5_feed_30 rfl rfl ?_
      refine Cp.ldc (v := (-1000002)) X wcX5_67 dX5_feed_31 ?_
      refine Cp.cVIM [] X [.int (-1000002)] cvX5_found (kX5_found X.ok (-1000002) σ) sc_0 rfl rfl wmX5_59 rfl rfl dX5_feed_33 rfl (Nat.le_of_ble_eq_true rfl) (fun v_33 s_33 => ?_)
      exact Cp.iret X dX5_feed_36 rfl
  · refine Cp.aload_n (i := 0) X dX5_feed_9 rfl rfl ?_
    refine Cp.ldc (v := (-1000001)) X wcX5_58 dX5_feed_10 ?_
    refine Cp.cVIM [] X [.int (-1000001)] cvX5_found (kX5_found X.ok (-1000001) σ) sc_0 rfl rfl wmX5_59 rfl rfl dX5_feed_12 rfl (Nat.le_of_ble_eq_true rfl) (fun v_12 s_12 => ?_)
    exact Cp.iret X dX5_feed_15 rfl
theorem kX5_feed {l : Launch} {w : WE} (hok : OkW w shC)   (x1 : Int32) (x2 : Int32) (σ : Mem) : ∀ v, fX5_feed x1 x2 σ = some v → Ctr l w shC yX5_feed cX5_feed 4 (some .int) 2 [.ref (wad w 0), .int x1, .int x2] σ (iIM v) := fun v hv => Ctr.of [some (.ref (wad w 0)), some (.int x1), some (.int x2), none] (by decide) hok rfl (Nat.le_of_ble_eq_true rfl) (fun M _ X => pX5_feed X   x1 x2 σ v hv)
def fX5_wipe  (σ : Mem) : Option (Int32 × Mem) :=
  (pb (σ 34 1 : Int32) fun x1_7 => (pb (up2 σ 34 1 0 : Mem) fun s_13 => (some (x1_7, s_13))))
set_option maxRecDepth 20000 in
theorem pX5_wipe {M : MC} {w : WE} (X : Cx M w shC cX5_wipe 2 RX5 (some .int) 0)    (σ : Mem) : Cp M w shC 2 iIM 0 [some (.ref (wad w 0)), none] [] σ (fX5_wipe σ) := by
  unfold fX5_wipe
  refine Cp.aload_n (i := 0) X dX5_wipe_0 rfl rfl ?_
  refine gfX5_36 X 34 sc_0 rfl dX5_wipe_1 ?_
  refine gfX5_251 X sc_34 rfl dX5_wipe_4 ?_
  refine Cp.nameI (fun x1_7 => ?_)
  refine Cp.istore_n (i := 1) X dX5_wipe_7 rfl (Nat.le_of_ble_eq_true rfl) rfl ?_
  refine Cp.aload_n (i := 0) X dX5_wipe_8 rfl rfl ?_
  refine gfX5_36 X 34 sc_0 rfl dX5_wipe_9 ?_
  refine Cp.iconst (v := 0) X dX5_wipe_12 rfl ?_
  refine pfX5_251 X sc_34 rfl dX5_wipe_13 ?_
  refine Cp.nameM (fun s_13 => ?_)
  refine Cp.iload_n (i := 1) X dX5_wipe_16 rfl rfl ?_
  exact Cp.iret X dX5_wipe_17 rfl
theorem kX5_wipe {l : Launch} {w : WE} (hok : OkW w shC)    (σ : Mem) : ∀ v, fX5_wipe σ = some v → Ctr l w shC yX5_wipe cX5_wipe 2 (some .int) 0 [.ref (wad w 0)] σ (iIM v) := fun v hv => Ctr.of [some (.ref (wad w 0)), none] (by decide) hok rfl (Nat.le_of_ble_eq_true rfl) (fun M _ X => pX5_wipe X    σ v hv)
def fX5_hold_10 (x1 : Int32) (x2 : Int32) (t0 : Int32) (σ : Mem) : Option (Int32 × Mem) :=
  (if fX5_within x1 0 9 = true then (if t0 = 0 then (if fX5_hasPerson x2 σ = true then (gd (inB x1 10 = true) (pb (up2 σ 10 x1.toNatClampNeg x2 : Mem) fun s_49 => (some (1, s_49)))) else (bnd2 (fX5_found (-1000001) σ) fun v_36 s_36 => (some (v_36, s_36)))) else (gd (inB x1 10 = true) (pb (up2 σ 10 x1.toNatClampNeg x2 : Mem) fun s_49 => (some (1, s_49))))) else (bnd2 (fX5_found (-1000001) σ) fun v_36 s_36 => (some (v_36, s_36))))
def fX5_hold (x1 : Int32) (x2 : Int32) (σ : Mem) : Option (Int32 × Mem) :=
  (if x2 = (-1) then (fX5_hold_10 x1 x2 1 σ) else (fX5_hold_10 x1 x2 0 σ))
set_option maxRecDepth 20000 in
theorem pX5_hold_10 {M : MC} {w : WE} (X : Cx M w shC cX5_hold 4 RX5 (some .int) 2)   (x1 : Int32) (x2 : Int32) (t0 : Int32)  (σ : Mem)  : Cp M w shC 4 iIM 10 [some (.ref (wad w 0)), some (.int x1), some (.int x2), none] [.int t0] σ (fX5_hold_10 x1 x2 t0 σ) := by
  unfold fX5_hold_10
  refine Cp.istore_n (i := 3) X dX5_hold_10 rfl (Nat.le_of_ble_eq_true rfl) rfl ?_
  refine Cp.iload_n (i := 1) X dX5_hold_11 rfl rfl ?_
  refine Cp.iconst (v := 0) X dX5_hold_12 rfl ?_
  refine Cp.bipush (v := 9) X dX5_hold_13 rfl ?_
  refine Cp.cSBT [] X [.int x1, .int 0, .int 9] csX5_within (kX5_within X.ok x1 0 9 σ) wmX5_132 rfl rfl dX5_hold_15 rfl (Nat.le_of_ble_eq_true rfl) ?_
  refine Cp.if_eqB X 33 dX5_hold_18 (by decide) (fun c_18 => ?_) (fun c_18 => ?_)
  · refine Cp.aload_n (i := 0) X dX5_hold_33 rfl rfl ?_
    refine Cp.ldc (v := (-1000001)) X wcX5_58 dX5_hold_34 ?_
    refine Cp.cVIM [] X [.int (-1000001)] cvX5_found (kX5_found X.ok (-1000001) σ) sc_0 rfl rfl wmX5_59 rfl rfl dX5_hold_36 rfl (Nat.le_of_ble_eq_true rfl) (fun v_36 s_36 => ?_)
    exact Cp.iret X dX5_hold_39 rfl
  · refine Cp.iload_n (i := 3) X dX5_hold_21 rfl rfl ?_
    refine Cp.if_ne X 40 dX5_hold_22 (by decide) (fun c_22 => ?_) (fun c_22 => ?_)
    · refine Cp.aload_n (i := 0) X dX5_hold_40 rfl rfl ?_
      refine gfX5_10 X 1 sc_0 rfl dX5_hold_41 ?_
      refine gfX5_262 X 10 sc_1 rfl dX5_hold_44 ?_
      refine Cp.iload_n (i := 1) X dX5_hold_47 rfl rfl ?_
      refine Cp.iload_n (i := 2) X dX5_hold_48 rfl rfl ?_
      refine Cp.iast X sc_10 dX5_hold_49 ?_
      refine Cp.nameM (fun s_49 => ?_)
      refine Cp.iconst (v := 1) X dX5_hold_50 rfl ?_
      exact Cp.iret X dX5_hold_51 rfl
    · refine Cp.aload_n (i := 0) X dX5_hold_25 rfl rfl ?_
      refine Cp.iload_n (i := 2) X dX5_hold_26 rfl rfl ?_
      refine Cp.cVBT [] X [.int x2] cvX5_hasPerson (kX5_hasPerson X.ok x2 σ) sc_0 rfl rfl wmX5_72 rfl rfl dX5_hold_27 rfl (Nat.le_of_ble_eq_true rfl) ?_
      refine Cp.if_neB X 40 dX5_hold_30 (by decide) (fun c_30 => ?_) (fun c_30 => ?_)
      · refine Cp.aload_n (i := 0) X dX5_hold_40 rfl rfl ?_
        refine gfX5_10 X 1 sc_0 rfl dX5_hold_41 ?_
        refine gfX5_262 X 10 sc_1 rfl dX5_hold_44 ?_
        refine Cp.iload_n (i := 1) X dX5_hold_47 rfl rfl ?_
        refine Cp.iload_n (i := 2) X dX5_hold_48 rfl rfl ?_
        refine Cp.iast X sc_10 dX5_hold_49 ?_
        refine Cp.nameM (fun s_49 => ?_)
        refine Cp.iconst (v := 1) X dX5_hold_50 rfl ?_
        exact Cp.iret X dX5_hold_51 rfl
      · refine Cp.aload_n (i := 0) X dX5_hold_33 rfl rfl ?_
        refine Cp.ldc (v := (-1000001)) X wcX5_58 dX5_hold_34 ?_
        refine Cp.cVIM [] X [.int (-1000001)] cvX5_found (kX5_found X.ok (-1000001) σ) sc_0 rfl rfl wmX5_59 rfl rfl dX5_hold_36 rfl (Nat.le_of_ble_eq_true rfl) (fun v_36 s_36 => ?_)
        exact Cp.iret X dX5_hold_39 rfl
set_option maxRecDepth 20000 in
theorem pX5_hold {M : MC} {w : WE} (X : Cx M w shC cX5_hold 4 RX5 (some .int) 2)   (x1 : Int32) (x2 : Int32) (σ : Mem) : Cp M w shC 4 iIM 0 [some (.ref (wad w 0)), some (.int x1), some (.int x2), none] [] σ (fX5_hold x1 x2 σ) := by
  unfold fX5_hold
  refine Cp.iload_n (i := 2) X dX5_hold_0 rfl rfl ?_
  refine Cp.iconst (v := (-1)) X dX5_hold_1 rfl ?_
  refine Cp.icmp_ne X 9 dX5_hold_2 (by decide) (fun c_2 => ?_) (fun c_2 => ?_)
  · refine Cp.iconst (v := 0) X dX5_hold_9 rfl ?_
    exact pX5_hold_10 X x1 x2 0 σ
  · refine Cp.iconst (v := 1) X dX5_hold_5 rfl ?_
    refine Cp.goto X 10 dX5_hold_6 (by decide) ?_
    exact pX5_hold_10 X x1 x2 1 σ
theorem kX5_hold {l : Launch} {w : WE} (hok : OkW w shC)   (x1 : Int32) (x2 : Int32) (σ : Mem) : ∀ v, fX5_hold x1 x2 σ = some v → Ctr l w shC yX5_hold cX5_hold 4 (some .int) 2 [.ref (wad w 0), .int x1, .int x2] σ (iIM v) := fun v hv => Ctr.of [some (.ref (wad w 0)), some (.int x1), some (.int x2), none] (by decide) hok rfl (Nat.le_of_ble_eq_true rfl) (fun M _ X => pX5_hold X   x1 x2 σ v hv)
def fX5_as (x1 : Int32) (x2 : Int32) (σ : Mem) : Option (Int32 × Mem) :=
  (if fX5_within x1 0 9 = true then (if fX5_isKind x2 = true then (gd (inB x1 10 = true) (pb (σ 10 x1.toNatClampNeg : Int32) fun x3_33 => (if fX5_hasPerson x3_33 σ = true then (gd (inB x3_33 8 = true) ((fX0_isA (σ 2 x3_33.toNatClampNeg) x2 σ).bind fun v_60 => (if v_60 = true then (some (x3_33, σ)) else (bnd2 (fX5_found (-1000003) σ) fun v_74 s_74 => (some (v_74, s_74)))))) else (bnd2 (fX5_found (-1000006) σ) fun v_46 s_46 => (some (v_46, s_46)))))) else (bnd2 (fX5_found (-1000001) σ) fun v_20 s_20 => (some (v_20, s_20)))) else (bnd2 (fX5_found (-1000001) σ) fun v_20 s_20 => (some (v_20, s_20))))
set_option maxRecDepth 20000 in
theorem pX5_as {M : MC} {w : WE} (X : Cx M w shC cX5_as 4 RX5 (some .int) 2)   (x1 : Int32) (x2 : Int32) (σ : Mem) : Cp M w shC 4 iIM 0 [some (.ref (wad w 0)), some (.int x1), some (.int x2), none] [] σ (fX5_as x1 x2 σ) := by
  unfold fX5_as
  refine Cp.iload_n (i := 1) X dX5_as_0 rfl rfl ?_
  refine Cp.iconst (v := 0) X dX5_as_1 rfl ?_
  refine Cp.bipush (v := 9) X dX5_as_2 rfl ?_
  refine Cp.cSBT [] X [.int x1, .int 0, .int 9] csX5_within (kX5_within X.ok x1 0 9 σ) wmX5_132 rfl rfl dX5_as_4 rfl (Nat.le_of_ble_eq_true rfl) ?_
  refine Cp.if_eqB X 17 dX5_as_7 (by decide) (fun c_7 => ?_) (fun c_7 => ?_)
  · refine Cp.aload_n (i := 0) X dX5_as_17 rfl rfl ?_
    refine Cp.ldc (v := (-1000001)) X wcX5_58 dX5_as_18 ?_
    refine Cp.cVIM [] X [.int (-1000001)] cvX5_found (kX5_found X.ok (-1000001) σ) sc_0 rfl rfl wmX5_59 rfl rfl dX5_as_20 rfl (Nat.le_of_ble_eq_true rfl) (fun v_20 s_20 => ?_)
    exact Cp.iret X dX5_as_23 rfl
  · refine Cp.iload_n (i := 2) X dX5_as_10 rfl rfl ?_
    refine Cp.cSBT [] X [.int x2] csX5_isKind (kX5_isKind X.ok x2 σ) wmX5_51 rfl rfl dX5_as_11 rfl (Nat.le_of_ble_eq_true rfl) ?_
    refine Cp.if_neB X 24 dX5_as_14 (by decide) (fun c_14 => ?_) (fun c_14 => ?_)
    · refine Cp.aload_n (i := 0) X dX5_as_24 rfl rfl ?_
      refine gfX5_10 X 1 sc_0 rfl dX5_as_25 ?_
      refine gfX5_262 X 10 sc_1 rfl dX5_as_28 ?_
      refine Cp.iload_n (i := 1) X dX5_as_31 rfl rfl ?_
      refine Cp.iald X sc_10 dX5_as_32 ?_
      refine Cp.nameI (fun x3_33 => ?_)
      refine Cp.istore_n (i := 3) X dX5_as_33 rfl (Nat.le_of_ble_eq_true rfl) rfl ?_
      refine Cp.aload_n (i := 0) X dX5_as_34 rfl rfl ?_
      refine Cp.iload_n (i := 3) X dX5_as_35 rfl rfl ?_
      refine Cp.cVBT [] X [.int x3_33] cvX5_hasPerson (kX5_hasPerson X.ok x3_33 σ) sc_0 rfl rfl wmX5_72 rfl rfl dX5_as_36 rfl (Nat.le_of_ble_eq_true rfl) ?_
      refine Cp.if_neB X 50 dX5_as_39 (by decide) (fun c_39 => ?_) (fun c_39 => ?_)
      · refine Cp.aload_n (i := 0) X dX5_as_50 rfl rfl ?_
        refine gfX5_10 X 1 sc_0 rfl dX5_as_51 ?_
        refine gfX5_75 X 2 sc_1 rfl dX5_as_54 ?_
        refine Cp.iload_n (i := 3) X dX5_as_57 rfl rfl ?_
        refine Cp.iald X sc_2 dX5_as_58 ?_
        refine Cp.iload_n (i := 2) X dX5_as_59 rfl rfl ?_
        refine Cp.cSB [] X [.int (σ 2 x3_33.toNatClampNeg), .int x2] csX0_isA (kX0_isA X.ok (σ 2 x3_33.toNatClampNeg) x2 σ) wmX5_266 rfl rfl dX5_as_60 rfl (Nat.le_of_ble_eq_true rfl) (fun v_60 => ?_)
        refine Cp.if_eqB X 70 dX5_as_63 (by decide) (fun c_63 => ?_) (fun c_63 => ?_)
        · refine Cp.aload_n (i := 0) X dX5_as_70 rfl rfl ?_
          refine Cp.ldcw (v := (-1000003)) X wcX5_269 dX5_as_71 ?_
          refine Cp.cVIM [] X [.int (-1000003)] cvX5_found (kX5_found X.ok (-1000003) σ) sc_0 rfl rfl wmX5_59 rfl rfl dX5_as_74 rfl (Nat.le_of_ble_eq_true rfl) (fun v_74 s_74 => ?_)
          exact Cp.iret X dX5_as_77 rfl
        · refine Cp.iload_n (i := 3) X dX5_as_66 rfl rfl ?_
          refine Cp.goto X 77 dX5_as_67 (by decide) ?_
          exact Cp.iret X dX5_as_77 rfl
      · refine Cp.aload_n (i := 0) X dX5_as_42 rfl rfl ?_
        refine Cp.ldcw (v := (-1000006)) X wcX5_265 dX5_as_43 ?_
        refine Cp.cVIM [] X [.int (-1000006)] cvX5_found (kX5_found X.ok (-1000006) σ) sc_0 rfl rfl wmX5_59 rfl rfl dX5_as_46 rfl (Nat.le_of_ble_eq_true rfl) (fun v_46 s_46 => ?_)
        exact Cp.iret X dX5_as_49 rfl
    · refine Cp.aload_n (i := 0) X dX5_as_17 rfl rfl ?_
      refine Cp.ldc (v := (-1000001)) X wcX5_58 dX5_as_18 ?_
      refine Cp.cVIM [] X [.int (-1000001)] cvX5_found (kX5_found X.ok (-1000001) σ) sc_0 rfl rfl wmX5_59 rfl rfl dX5_as_20 rfl (Nat.le_of_ble_eq_true rfl) (fun v_20 s_20 => ?_)
      exact Cp.iret X dX5_as_23 rfl
theorem kX5_as {l : Launch} {w : WE} (hok : OkW w shC)   (x1 : Int32) (x2 : Int32) (σ : Mem) : ∀ v, fX5_as x1 x2 σ = some v → Ctr l w shC yX5_as cX5_as 4 (some .int) 2 [.ref (wad w 0), .int x1, .int x2] σ (iIM v) := fun v hv => Ctr.of [some (.ref (wad w 0)), some (.int x1), some (.int x2), none] (by decide) hok rfl (Nat.le_of_ble_eq_true rfl) (fun M _ X => pX5_as X   x1 x2 σ v hv)
def fX5_sheet_27 (x1 : Int32) (x2 : Int32) (x3 : Int32) (t0 : Int32) (σ : Mem) : Option (Int32 × Mem) :=
  (if fX5_within x1 0 3 = true then (if t0 = 0 then (bnd2 (fX5_found (-1000001) σ) fun v_46 s_46 => (some (v_46, s_46))) else (if 0 ≤ x3 then (if x3 ≤ 40 then (gd (inB x1 4 = true) (if x2 = 0 then ((fX2_begin (37 + 2 * x1.toNatClampNeg) x2 0 σ).bind fun s_91 => (gd (inB x1 4 = true) (some (s_91 (37 + 2 * x1.toNatClampNeg) 2, s_91)))) else ((fX2_begin (37 + 2 * x1.toNatClampNeg) x2 x3 σ).bind fun s_91 => (gd (inB x1 4 = true) (some (s_91 (37 + 2 * x1.toNatClampNeg) 2, s_91)))))) else (bnd2 (fX5_found (-1000001) σ) fun v_71 s_71 => (some (v_71, s_71)))) else (bnd2 (fX5_found (-1000007) σ) fun v_58 s_58 => (some (v_58, s_58))))) else (bnd2 (fX5_found (-1000001) σ) fun v_46 s_46 => (some (v_46, s_46))))
def fX5_sheet_22 (x1 : Int32) (x2 : Int32) (x3 : Int32) (σ : Mem) : Option (Int32 × Mem) :=
  (fX5_sheet_27 x1 x2 x3 1 σ)
def fX5_sheet (x1 : Int32) (x2 : Int32) (x3 : Int32) (σ : Mem) : Option (Int32 × Mem) :=
  (if x2 = 0 then (fX5_sheet_22 x1 x2 x3 σ) else (if x2 = 8 then (fX5_sheet_22 x1 x2 x3 σ) else (if x2 = 16 then (fX5_sheet_22 x1 x2 x3 σ) else (if x2 = 32 then (fX5_sheet_22 x1 x2 x3 σ) else (fX5_sheet_27 x1 x2 x3 0 σ)))))
set_option maxRecDepth 20000 in
theorem pX5_sheet_27 {M : MC} {w : WE} (X : Cx M w shC cX5_sheet 5 RX5 (some .int) 2)   (x1 : Int32) (x2 : Int32) (x3 : Int32) (t0 : Int32)  (σ : Mem)  : Cp M w shC 5 iIM 27 [some (.ref (wad w 0)), some (.int x1), some (.int x2), some (.int x3), none] [.int t0] σ (fX5_sheet_27 x1 x2 x3 t0 σ) := by
  unfold fX5_sheet_27
  refine Cp.istore X dX5_sheet_27 (Nat.le_of_ble_eq_true rfl) rfl ?_
  refine Cp.iload_n (i := 1) X dX5_sheet_29 rfl rfl ?_
  refine Cp.iconst (v := 0) X dX5_sheet_30 rfl ?_
  refine Cp.iconst (v := 3) X dX5_sheet_31 rfl ?_
  refine Cp.cSBT [] X [.int x1, .int 0, .int 3] csX5_within (kX5_within X.ok x1 0 3 σ) wmX5_132 rfl rfl dX5_sheet_32 rfl (Nat.le_of_ble_eq_true rfl) ?_
  refine Cp.if_eqB X 43 dX5_sheet_35 (by decide) (fun c_35 => ?_) (fun c_35 => ?_)
  · refine Cp.aload_n (i := 0) X dX5_sheet_43 rfl rfl ?_
    refine Cp.ldc (v := (-1000001)) X wcX5_58 dX5_sheet_44 ?_
    refine Cp.cVIM [] X [.int (-1000001)] cvX5_found (kX5_found X.ok (-1000001) σ) sc_0 rfl rfl wmX5_59 rfl rfl dX5_sheet_46 rfl (Nat.le_of_ble_eq_true rfl) (fun v_46 s_46 => ?_)
    exact Cp.iret X dX5_sheet_49 rfl
  · refine Cp.iload X dX5_sheet_38 rfl ?_
    refine Cp.if_ne X 50 dX5_sheet_40 (by decide) (fun c_40 => ?_) (fun c_40 => ?_)
    · refine Cp.iload_n (i := 3) X dX5_sheet_50 rfl rfl ?_
      refine Cp.if_ge X 62 dX5_sheet_51 (by decide) (fun c_51 => ?_) (fun c_51 => ?_)
      · refine Cp.iload_n (i := 3) X dX5_sheet_62 rfl rfl ?_
        refine Cp.bipush (v := 40) X dX5_sheet_63 rfl ?_
        refine Cp.icmp_le X 75 dX5_sheet_65 (by decide) (fun c_65 => ?_) (fun c_65 => ?_)
        · refine Cp.aload_n (i := 0) X dX5_sheet_75 rfl rfl ?_
          refine gfX5_42 X 36 sc_0 rfl dX5_sheet_76 ?_
          refine Cp.iload_n (i := 1) X dX5_sheet_79 rfl rfl ?_
          refine Cp.aaldh X sc_36 dX5_sheet_80 (fun h_80 => ?_)
          refine Cp.iload_n (i := 2) X dX5_sheet_81 rfl rfl ?_
          refine Cp.iload_n (i := 2) X dX5_sheet_82 rfl rfl ?_
          refine Cp.if_ne X 90 dX5_sheet_83 (by decide) (fun c_83 => ?_) (fun c_83 => ?_)
          · refine Cp.iload_n (i := 3) X dX5_sheet_90 rfl rfl ?_
            refine Cp.cVV [] X [.int x2, .int x3] cvX2_begin (kX2_begin X.ok (37 + 2 * x1.toNatClampNeg) (isSe_of h_80) x2 x3 σ) (s_se (isSe_of h_80)) rfl rfl wmX5_271 rfl rfl dX5_sheet_91 rfl (Nat.le_of_ble_eq_true rfl) (fun s_91 => ?_)
            refine Cp.aload_n (i := 0) X dX5_sheet_94 rfl rfl ?_
            refine gfX5_42 X 36 sc_0 rfl dX5_sheet_95 ?_
            refine Cp.iload_n (i := 1) X dX5_sheet_98 rfl rfl ?_
            refine Cp.aaldh X sc_36 dX5_sheet_99 (fun h_99 => ?_)
            refine gfX5_274 X (s_se (isSe_of h_99)) rfl dX5_sheet_100 ?_
            exact Cp.iret X dX5_sheet_103 rfl
          · refine Cp.iconst (v := 0) X dX5_sheet_86 rfl ?_
            refine Cp.goto X 91 dX5_sheet_87 (by decide) ?_
            refine Cp.cVV [] X [.int x2, .int 0] cvX2_begin (kX2_begin X.ok (37 + 2 * x1.toNatClampNeg) (isSe_of h_80) x2 0 σ) (s_se (isSe_of h_80)) rfl rfl wmX5_271 rfl rfl dX5_sheet_91 rfl (Nat.le_of_ble_eq_true rfl) (fun s_91 => ?_)
            refine Cp.aload_n (i := 0) X dX5_sheet_94 rfl rfl ?_
            refine gfX5_42 X 36 sc_0 rfl dX5_sheet_95 ?_
            refine Cp.iload_n (i := 1) X dX5_sheet_98 rfl rfl ?_
            refine Cp.aaldh X sc_36 dX5_sheet_99 (fun h_99 => ?_)
            refine gfX5_274 X (s_se (isSe_of h_99)) rfl dX5_sheet_100 ?_
            exact Cp.iret X dX5_sheet_103 rfl
        · refine Cp.aload_n (i := 0) X dX5_sheet_68 rfl rfl ?_
          refine Cp.ldc (v := (-1000001)) X wcX5_58 dX5_sheet_69 ?_
          refine Cp.cVIM [] X [.int (-1000001)] cvX5_found (kX5_found X.ok (-1000001) σ) sc_0 rfl rfl wmX5_59 rfl rfl dX5_sheet_71 rfl (Nat.le_of_ble_eq_true rfl) (fun v_71 s_71 => ?_)
          exact Cp.iret X dX5_sheet_74 rfl
      · refine Cp.aload_n (i := 0) X dX5_sheet_54 rfl rfl ?_
        refine Cp.ldcw (v := (-1000007)) X wcX5_270 dX5_sheet_55 ?_
        refine Cp.cVIM [] X [.int (-1000007)] cvX5_found (kX5_found X.ok (-1000007) σ) sc_0 rfl rfl wmX5_59 rfl rfl dX5_sheet_58 rfl (Nat.le_of_ble_eq_true rfl) (fun v_58 s_58 => ?_)
        exact Cp.iret X dX5_sheet_61 rfl
    · refine Cp.aload_n (i := 0) X dX5_sheet_43 rfl rfl ?_
      refine Cp.ldc (v := (-1000001)) X wcX5_58 dX5_sheet_44 ?_
      refine Cp.cVIM [] X [.int (-1000001)] cvX5_found (kX5_found X.ok (-1000001) σ) sc_0 rfl rfl wmX5_59 rfl rfl dX5_sheet_46 rfl (Nat.le_of_ble_eq_true rfl) (fun v_46 s_46 => ?_)
      exact Cp.iret X dX5_sheet_49 rfl
set_option maxRecDepth 20000 in
theorem pX5_sheet_22 {M : MC} {w : WE} (X : Cx M w shC cX5_sheet 5 RX5 (some .int) 2)   (x1 : Int32) (x2 : Int32) (x3 : Int32)  (σ : Mem)  : Cp M w shC 5 iIM 22 [some (.ref (wad w 0)), some (.int x1), some (.int x2), some (.int x3), none] [] σ (fX5_sheet_22 x1 x2 x3 σ) := by
  unfold fX5_sheet_22
  refine Cp.iconst (v := 1) X dX5_sheet_22 rfl ?_
  refine Cp.goto X 27 dX5_sheet_23 (by decide) ?_
  exact pX5_sheet_27 X x1 x2 x3 1 σ
set_option maxRecDepth 20000 in
theorem pX5_sheet {M : MC} {w : WE} (X : Cx M w shC cX5_sheet 5 RX5 (some .int) 2)   (x1 : Int32) (x2 : Int32) (x3 : Int32) (σ : Mem) : Cp M w shC 5 iIM 0 [some (.ref (wad w 0)), some (.int x1), some (.int x2), some (.int x3), none] [] σ (fX5_sheet x1 x2 x3 σ) := by
  unfold fX5_sheet
  refine Cp.iload_n (i := 2) X dX5_sheet_0 rfl rfl ?_
  refine Cp.if_eq X 22 dX5_sheet_1 (by decide) (fun c_1 => ?_) (fun c_1 => ?_)
  · exact pX5_sheet_22 X x1 x2 x3 σ
  · refine Cp.iload_n (i := 2) X dX5_sheet_4 rfl rfl ?_
    refine Cp.bipush (v := 8) X dX5_sheet_5 rfl ?_
    refine Cp.icmp_eq X 22 dX5_sheet_7 (by decide) (fun c_7 => ?_) (fun c_7 => ?_)
    · exact pX5_sheet_22 X x1 x2 x3 σ
    · refine Cp.iload_n (i := 2) X dX5_sheet_10 rfl rfl ?_
      refine Cp.bipush (v := 16) X dX5_sheet_11 rfl ?_
      refine Cp.icmp_eq X 22 dX5_sheet_13 (by decide) (fun c_13 => ?_) (fun c_13 => ?_)
      · exact pX5_sheet_22 X x1 x2 x3 σ
      · refine Cp.iload_n (i := 2) X dX5_sheet_16 rfl rfl ?_
        refine Cp.bipush (v := 32) X dX5_sheet_17 rfl ?_
        refine Cp.icmp_ne X 26 dX5_sheet_19 (by decide) (fun c_19 => ?_) (fun c_19 => ?_)
        · refine Cp.iconst (v := 0) X dX5_sheet_26 rfl ?_
          exact pX5_sheet_27 X x1 x2 x3 0 σ
        · exact pX5_sheet_22 X x1 x2 x3 σ
theorem kX5_sheet {l : Launch} {w : WE} (hok : OkW w shC)   (x1 : Int32) (x2 : Int32) (x3 : Int32) (σ : Mem) : ∀ v, fX5_sheet x1 x2 x3 σ = some v → Ctr l w shC yX5_sheet cX5_sheet 5 (some .int) 2 [.ref (wad w 0), .int x1, .int x2, .int x3] σ (iIM v) := fun v hv => Ctr.of [some (.ref (wad w 0)), some (.int x1), some (.int x2), some (.int x3), none] (by decide) hok rfl (Nat.le_of_ble_eq_true rfl) (fun M _ X => pX5_sheet X   x1 x2 x3 σ v hv)
def fX5_write (x1 : Int32) (x2 : Int32) (x3 : Int32) (σ : Mem) : Option (Int32 × Mem) :=
  ((fX5_sheetFinding x1 σ).bind fun v_2 => (if v_2 = 0 then (gd (inB x1 4 = true) (if fX5_within x2 0 ((σ (37 + 2 * x1.toNatClampNeg) 2) - 1) = true then (gd (inB x1 4 = true) ((fX2_put (37 + 2 * x1.toNatClampNeg) x2 x3 σ).bind fun s_53 => (some (1, s_53)))) else (bnd2 (fX5_found (-1000001) σ) fun v_41 s_41 => (some (v_41, s_41))))) else (bnd2 (fX5_found v_2 σ) fun v_15 s_15 => (some (v_15, s_15)))))
set_option maxRecDepth 20000 in
theorem pX5_write {M : MC} {w : WE} (X : Cx M w shC cX5_write 5 RX5 (some .int) 2)   (x1 : Int32) (x2 : Int32) (x3 : Int32) (σ : Mem) : Cp M w shC 5 iIM 0 [some (.ref (wad w 0)), some (.int x1), some (.int x2), some (.int x3), none] [] σ (fX5_write x1 x2 x3 σ) := by
  unfold fX5_write
  refine Cp.aload_n (i := 0) X dX5_write_0 rfl rfl ?_
  refine Cp.iload_n (i := 1) X dX5_write_1 rfl rfl ?_
  refine Cp.cVI [] X [.int x1] cvX5_sheetFinding (kX5_sheetFinding X.ok x1 σ) sc_0 rfl rfl wmX5_231 rfl rfl dX5_write_2 rfl (Nat.le_of_ble_eq_true rfl) (fun v_2 => ?_)
  refine Cp.istore X dX5_write_5 (Nat.le_of_ble_eq_true rfl) rfl ?_
  refine Cp.iload X dX5_write_7 rfl ?_
  refine Cp.if_eq X 19 dX5_write_9 (by decide) (fun c_9 => ?_) (fun c_9 => ?_)
  · refine Cp.iload_n (i := 2) X dX5_write_19 rfl rfl ?_
    refine Cp.iconst (v := 0) X dX5_write_20 rfl ?_
    refine Cp.aload_n (i := 0) X dX5_write_21 rfl rfl ?_
    refine gfX5_42 X 36 sc_0 rfl dX5_write_22 ?_
    refine Cp.iload_n (i := 1) X dX5_write_25 rfl rfl ?_
    refine Cp.aaldh X sc_36 dX5_write_26 (fun h_26 => ?_)
    refine gfX5_274 X (s_se (isSe_of h_26)) rfl dX5_write_27 ?_
    refine Cp.iconst (v := 1) X dX5_write_30 rfl ?_
    refine Cp.isub X dX5_write_31 ?_
    refine Cp.cSBT [] X [.int x2, .int 0, .int ((σ (37 + 2 * x1.toNatClampNeg) 2) - 1)] csX5_within (kX5_within X.ok x2 0 ((σ (37 + 2 * x1.toNatClampNeg) 2) - 1) σ) wmX5_132 rfl rfl dX5_write_32 rfl (Nat.le_of_ble_eq_true rfl) ?_
    refine Cp.if_neB X 45 dX5_write_35 (by decide) (fun c_35 => ?_) (fun c_35 => ?_)
    · refine Cp.aload_n (i := 0) X dX5_write_45 rfl rfl ?_
      refine gfX5_42 X 36 sc_0 rfl dX5_write_46 ?_
      refine Cp.iload_n (i := 1) X dX5_write_49 rfl rfl ?_
      refine Cp.aaldh X sc_36 dX5_write_50 (fun h_50 => ?_)
      refine Cp.iload_n (i := 2) X dX5_write_51 rfl rfl ?_
      refine Cp.iload_n (i := 3) X dX5_write_52 rfl rfl ?_
      refine Cp.cVV [] X [.int x2, .int x3] cvX2_put (kX2_put X.ok (37 + 2 * x1.toNatClampNeg) (isSe_of h_50) x2 x3 σ) (s_se (isSe_of h_50)) rfl rfl wmX5_275 rfl rfl dX5_write_53 rfl (Nat.le_of_ble_eq_true rfl) (fun s_53 => ?_)
      refine Cp.iconst (v := 1) X dX5_write_56 rfl ?_
      exact Cp.iret X dX5_write_57 rfl
    · refine Cp.aload_n (i := 0) X dX5_write_38 rfl rfl ?_
      refine Cp.ldc (v := (-1000001)) X wcX5_58 dX5_write_39 ?_
      refine Cp.cVIM [] X [.int (-1000001)] cvX5_found (kX5_found X.ok (-1000001) σ) sc_0 rfl rfl wmX5_59 rfl rfl dX5_write_41 rfl (Nat.le_of_ble_eq_true rfl) (fun v_41 s_41 => ?_)
      exact Cp.iret X dX5_write_44 rfl
  · refine Cp.aload_n (i := 0) X dX5_write_12 rfl rfl ?_
    refine Cp.iload X dX5_write_13 rfl ?_
    refine Cp.cVIM [] X [.int v_2] cvX5_found (kX5_found X.ok v_2 σ) sc_0 rfl rfl wmX5_59 rfl rfl dX5_write_15 rfl (Nat.le_of_ble_eq_true rfl) (fun v_15 s_15 => ?_)
    exact Cp.iret X dX5_write_18 rfl
theorem kX5_write {l : Launch} {w : WE} (hok : OkW w shC)   (x1 : Int32) (x2 : Int32) (x3 : Int32) (σ : Mem) : ∀ v, fX5_write x1 x2 x3 σ = some v → Ctr l w shC yX5_write cX5_write 5 (some .int) 2 [.ref (wad w 0), .int x1, .int x2, .int x3] σ (iIM v) := fun v hv => Ctr.of [some (.ref (wad w 0)), some (.int x1), some (.int x2), some (.int x3), none] (by decide) hok rfl (Nat.le_of_ble_eq_true rfl) (fun M _ X => pX5_write X   x1 x2 x3 σ v hv)
def fX5_copy (x1 : Int32) (x2 : Int32) (x3 : Int32) (x4 : Int32) (x5 : Int32) (σ : Mem) : Option (Int32 × Mem) :=
  (if fX5_within x1 0 3 = true then (if fX5_within x3 0 3 = true then (gd (inB x1 4 = true) (gd (inB x3 4 = true) (if fX2_isMissing (37 + 2 * x1.toNatClampNeg) σ = true then (bnd2 (fX5_found (-1000006) σ) fun v_61 s_61 => (some (v_61, s_61))) else (if fX2_isMissing (37 + 2 * x3.toNatClampNeg) σ = true then (bnd2 (fX5_found (-1000006) σ) fun v_61 s_61 => (some (v_61, s_61))) else (if (σ (37 + 2 * x1.toNatClampNeg) 1) = (σ (37 + 2 * x3.toNatClampNeg) 1) then (if fX2_has (37 + 2 * x1.toNatClampNeg) x2 x5 σ = true then (if fX2_has (37 + 2 * x3.toNatClampNeg) x4 x5 σ = true then (gd (cpOk x2 x4 x5 40 40 = true) (pb (upR σ (37 + 2 * x3.toNatClampNeg + 1) (va_cpy (σ (37 + 2 * x1.toNatClampNeg + 1)) (σ (37 + 2 * x3.toNatClampNeg + 1)) x2.toNatClampNeg x4.toNatClampNeg x5.toNatClampNeg) : Mem) fun s_131 => (some (x5, s_131)))) else (bnd2 (fX5_found (-1000001) σ) fun v_112 s_112 => (some (v_112, s_112)))) else (bnd2 (fX5_found (-1000001) σ) fun v_112 s_112 => (some (v_112, s_112)))) else (bnd2 (fX5_found (-1000003) σ) fun v_82 s_82 => (some (v_82, s_82)))))))) else (bnd2 (fX5_found (-1000001) σ) fun v_21 s_21 => (some (v_21, s_21)))) else (bnd2 (fX5_found (-1000001) σ) fun v_21 s_21 => (some (v_21, s_21))))
set_option maxRecDepth 20000 in
theorem pX5_copy {M : MC} {w : WE} (X : Cx M w shC cX5_copy 8 RX5 (some .int) 2)   (x1 : Int32) (x2 : Int32) (x3 : Int32) (x4 : Int32) (x5 : Int32) (σ : Mem) : Cp M w shC 8 iIM 0 [some (.ref (wad w 0)), some (.int x1), some (.int x2), some (.int x3), some (.int x4), some (.int x5), none, none] [] σ (fX5_copy x1 x2 x3 x4 x5 σ) := by
  unfold fX5_copy
  refine Cp.iload_n (i := 1) X dX5_copy_0 rfl rfl ?_
  refine Cp.iconst (v := 0) X dX5_copy_1 rfl ?_
  refine Cp.iconst (v := 3) X dX5_copy_2 rfl ?_
  refine Cp.cSBT [] X [.int x1, .int 0, .int 3] csX5_within (kX5_within X.ok x1 0 3 σ) wmX5_132 rfl rfl dX5_copy_3 rfl (Nat.le_of_ble_eq_true rfl) ?_
  refine Cp.if_eqB X 18 dX5_copy_6 (by decide) (fun c_6 => ?_) (fun c_6 => ?_)
  · refine Cp.aload_n (i := 0) X dX5_copy_18 rfl rfl ?_
    refine Cp.ldc (v := (-1000001)) X wcX5_58 dX5_copy_19 ?_
    refine Cp.cVIM [] X [.int (-1000001)] cvX5_found (kX5_found X.ok (-1000001) σ) sc_0 rfl rfl wmX5_59 rfl rfl dX5_copy_21 rfl (Nat.le_of_ble_eq_true rfl) (fun v_21 s_21 => ?_)
    exact Cp.iret X dX5_copy_24 rfl
  · refine Cp.iload_n (i := 3) X dX5_copy_9 rfl rfl ?_
    refine Cp.iconst (v := 0) X dX5_copy_10 rfl ?_
    refine Cp.iconst (v := 3) X dX5_copy_11 rfl ?_
    refine Cp.cSBT [] X [.int x3, .int 0, .int 3] csX5_within (kX5_within X.ok x3 0 3 σ) wmX5_132 rfl rfl dX5_copy_12 rfl (Nat.le_of_ble_eq_true rfl) ?_
    refine Cp.if_neB X 25 dX5_copy_15 (by decide) (fun c_15 => ?_) (fun c_15 => ?_)
    · refine Cp.aload_n (i := 0) X dX5_copy_25 rfl rfl ?_
      refine gfX5_42 X 36 sc_0 rfl dX5_copy_26 ?_
      refine Cp.iload_n (i := 1) X dX5_copy_29 rfl rfl ?_
      refine Cp.aaldh X sc_36 dX5_copy_30 (fun h_30 => ?_)
      refine Cp.astore X dX5_copy_31 (Nat.le_of_ble_eq_true rfl) rfl ?_
      refine Cp.aload_n (i := 0) X dX5_copy_33 rfl rfl ?_
      refine gfX5_42 X 36 sc_0 rfl dX5_copy_34 ?_
      refine Cp.iload_n (i := 3) X dX5_copy_37 rfl rfl ?_
      refine Cp.aaldh X sc_36 dX5_copy_38 (fun h_38 => ?_)
      refine Cp.astore X dX5_copy_39 (Nat.le_of_ble_eq_true rfl) rfl ?_
      refine Cp.aload X dX5_copy_41 rfl ?_
      refine Cp.cVBT [] X [] cvX2_isMissing (kX2_isMissing X.ok (37 + 2 * x1.toNatClampNeg) (isSe_of h_30) σ) (s_se (isSe_of h_30)) rfl rfl wmX5_277 rfl rfl dX5_copy_43 rfl (Nat.le_of_ble_eq_true rfl) ?_
      refine Cp.if_neB X 57 dX5_copy_46 (by decide) (fun c_46 => ?_) (fun c_46 => ?_)
      · refine Cp.aload_n (i := 0) X dX5_copy_57 rfl rfl ?_
        refine Cp.ldcw (v := (-1000006)) X wcX5_265 dX5_copy_58 ?_
        refine Cp.cVIM [] X [.int (-1000006)] cvX5_found (kX5_found X.ok (-1000006) σ) sc_0 rfl rfl wmX5_59 rfl rfl dX5_copy_61 rfl (Nat.le_of_ble_eq_true rfl) (fun v_61 s_61 => ?_)
        exact Cp.iret X dX5_copy_64 rfl
      · refine Cp.aload X dX5_copy_49 rfl ?_
        refine Cp.cVBT [] X [] cvX2_isMissing (kX2_isMissing X.ok (37 + 2 * x3.toNatClampNeg) (isSe_of h_38) σ) (s_se (isSe_of h_38)) rfl rfl wmX5_277 rfl rfl dX5_copy_51 rfl (Nat.le_of_ble_eq_true rfl) ?_
        refine Cp.if_eqB X 65 dX5_copy_54 (by decide) (fun c_54 => ?_) (fun c_54 => ?_)
        · refine Cp.aload X dX5_copy_65 rfl ?_
          refine gfX5_281 X (s_se (isSe_of h_30)) rfl dX5_copy_67 ?_
          refine Cp.aload X dX5_copy_70 rfl ?_
          refine gfX5_281 X (s_se (isSe_of h_38)) rfl dX5_copy_72 ?_
          refine Cp.icmp_eq X 86 dX5_copy_75 (by decide) (fun c_75 => ?_) (fun c_75 => ?_)
          · refine Cp.aload X dX5_copy_86 rfl ?_
            refine Cp.iload_n (i := 2) X dX5_copy_88 rfl rfl ?_
            refine Cp.iload X dX5_copy_89 rfl ?_
            refine Cp.cVBT [] X [.int x2, .int x5] cvX2_has (kX2_has X.ok (37 + 2 * x1.toNatClampNeg) (isSe_of h_30) x2 x5 σ) (s_se (isSe_of h_30)) rfl rfl wmX5_284 rfl rfl dX5_copy_91 rfl (Nat.le_of_ble_eq_true rfl) ?_
            refine Cp.if_eqB X 109 dX5_copy_94 (by decide) (fun c_94 => ?_) (fun c_94 => ?_)
            · refine Cp.aload_n (i := 0) X dX5_copy_109 rfl rfl ?_
              refine Cp.ldc (v := (-1000001)) X wcX5_58 dX5_copy_110 ?_
              refine Cp.cVIM [] X [.int (-1000001)] cvX5_found (kX5_found X.ok (-1000001) σ) sc_0 rfl rfl wmX5_59 rfl rfl dX5_copy_112 rfl (Nat.le_of_ble_eq_true rfl) (fun v_112 s_112 => ?_)
              exact Cp.iret X dX5_copy_115 rfl
            · refine Cp.aload X dX5_copy_97 rfl ?_
              refine Cp.iload X dX5_copy_99 rfl ?_
              refine Cp.iload X dX5_copy_101 rfl ?_
              refine Cp.cVBT [] X [.int x4, .int x5] cvX2_has (kX2_has X.ok (37 + 2 * x3.toNatClampNeg) (isSe_of h_38) x4 x5 σ) (s_se (isSe_of h_38)) rfl rfl wmX5_284 rfl rfl dX5_copy_103 rfl (Nat.le_of_ble_eq_true rfl) ?_
              refine Cp.if_neB X 116 dX5_copy_106 (by decide) (fun c_106 => ?_) (fun c_106 => ?_)
              · refine Cp.aload X dX5_copy_116 rfl ?_
                refine gfX5_287 X (37 + 2 * x1.toNatClampNeg + 1) (s_se (isSe_of h_30)) rfl dX5_copy_118 ?_
                refine Cp.iload_n (i := 2) X dX5_copy_121 rfl rfl ?_
                refine Cp.aload X dX5_copy_122 rfl ?_
                refine gfX5_287 X (37 + 2 * x3.toNatClampNeg + 1) (s_se (isSe_of h_38)) rfl dX5_copy_124 ?_
                refine Cp.iload X dX5_copy_127 rfl ?_
                refine Cp.iload X dX5_copy_129 rfl ?_
                refine Cp.acp X wmX5_290 (s_sn (isSe_of h_30)) (s_sn (isSe_of h_38)) (by decide) dX5_copy_131 rfl ?_
                refine Cp.nameM (fun s_131 => ?_)
                refine Cp.iload X dX5_copy_134 rfl ?_
                exact Cp.iret X dX5_copy_136 rfl
              · refine Cp.aload_n (i := 0) X dX5_copy_109 rfl rfl ?_
                refine Cp.ldc (v := (-1000001)) X wcX5_58 dX5_copy_110 ?_
                refine Cp.cVIM [] X [.int (-1000001)] cvX5_found (kX5_found X.ok (-1000001) σ) sc_0 rfl rfl wmX5_59 rfl rfl dX5_copy_112 rfl (Nat.le_of_ble_eq_true rfl) (fun v_112 s_112 => ?_)
                exact Cp.iret X dX5_copy_115 rfl
          · refine Cp.aload_n (i := 0) X dX5_copy_78 rfl rfl ?_
            refine Cp.ldcw (v := (-1000003)) X wcX5_269 dX5_copy_79 ?_
            refine Cp.cVIM [] X [.int (-1000003)] cvX5_found (kX5_found X.ok (-1000003) σ) sc_0 rfl rfl wmX5_59 rfl rfl dX5_copy_82 rfl (Nat.le_of_ble_eq_true rfl) (fun v_82 s_82 => ?_)
            exact Cp.iret X dX5_copy_85 rfl
        · refine Cp.aload_n (i := 0) X dX5_copy_57 rfl rfl ?_
          refine Cp.ldcw (v := (-1000006)) X wcX5_265 dX5_copy_58 ?_
          refine Cp.cVIM [] X [.int (-1000006)] cvX5_found (kX5_found X.ok (-1000006) σ) sc_0 rfl rfl wmX5_59 rfl rfl dX5_copy_61 rfl (Nat.le_of_ble_eq_true rfl) (fun v_61 s_61 => ?_)
          exact Cp.iret X dX5_copy_64 rfl
    · refine Cp.aload_n (i := 0) X dX5_copy_18 rfl rfl ?_
      refine Cp.ldc (v := (-1000001)) X wcX5_58 dX5_copy_19 ?_
      refine Cp.cVIM [] X [.int (-1000001)] cvX5_found (kX5_found X.ok (-1000001) σ) sc_0 rfl rfl wmX5_59 rfl rfl dX5_copy_21 rfl (Nat.le_of_ble_eq_true rfl) (fun v_21 s_21 => ?_)
      exact Cp.iret X dX5_copy_24 rfl
theorem kX5_copy {l : Launch} {w : WE} (hok : OkW w shC)   (x1 : Int32) (x2 : Int32) (x3 : Int32) (x4 : Int32) (x5 : Int32) (σ : Mem) : ∀ v, fX5_copy x1 x2 x3 x4 x5 σ = some v → Ctr l w shC yX5_copy cX5_copy 8 (some .int) 2 [.ref (wad w 0), .int x1, .int x2, .int x3, .int x4, .int x5] σ (iIM v) := fun v hv => Ctr.of [some (.ref (wad w 0)), some (.int x1), some (.int x2), some (.int x3), some (.int x4), some (.int x5), none, none] (by decide) hok rfl (Nat.le_of_ble_eq_true rfl) (fun M _ X => pX5_copy X   x1 x2 x3 x4 x5 σ v hv)
def fX5_load_39 (x1 : Int32) (x3 : Int32) (k39 : Int32 → Mem → Option (Int32 × Mem)) (x4 : Int32) (σ : Mem) : Option (Int32 × Mem) :=
  (if x3 ≤ x4 then (some (x3, σ)) else (gd (inB x1 4 = true) (gd (inB x4 40 = true) (if fX5_isSeat (σ (37 + 2 * x1.toNatClampNeg + 1) x4.toNatClampNeg) = true then (gd (inB x1 4 = true) (gd (inB x4 40 = true) ((fX1_setSeat 1 x4 (σ (37 + 2 * x1.toNatClampNeg + 1) x4.toNatClampNeg) σ).bind fun s_84 => (k39 (x4 + 1) s_84)))) else (some (x4, σ))))))
def fX5_load (x1 : Int32) (σ : Mem) : Option (Int32 × Mem) :=
  ((fX5_sheetFinding x1 σ).bind fun v_2 => (if v_2 = 0 then (gd (inB x1 4 = true) (pb (iMin (σ (37 + 2 * x1.toNatClampNeg) 2) (σ 1 0) : Int32) fun x3_35 => (lw2 (fX5_load_39 x1 x3_35) FU 0 σ))) else (bnd2 (fX5_found v_2 σ) fun v_12 s_12 => (some (v_12, s_12)))))
set_option maxRecDepth 20000 in
theorem pX5_load_39 {M : MC} {w : WE} (X : Cx M w shC cX5_load 5 RX5 (some .int) 3)   (x1 : Int32) (x3 : Int32)    : ∀ (n : Nat) (x4 : Int32) (σ : Mem), Cp M w shC 5 iIM 39 [some (.ref (wad w 0)), some (.int x1), none, some (.int x3), some (.int x4)] [] σ (lw2 (fX5_load_39 x1 x3) n x4 σ) :=
  lw2_i (P := fun x4 σ b => Cp M w shC 5 iIM 39 [some (.ref (wad w 0)), some (.int x1), none, some (.int x3), some (.int x4)] [] σ b) (fun _ _ => Cp.non) (fun k39 hk39 x4 σ => by
  unfold fX5_load_39
  refine Cp.iload X dX5_load_39 rfl ?_
  refine Cp.iload_n (i := 3) X dX5_load_41 rfl rfl ?_
  refine Cp.icmp_ge X 93 dX5_load_42 (by decide) (fun c_42 => ?_) (fun c_42 => ?_)
  · refine Cp.iload_n (i := 3) X dX5_load_93 rfl rfl ?_
    exact Cp.iret X dX5_load_94 rfl
  · refine Cp.aload_n (i := 0) X dX5_load_45 rfl rfl ?_
    refine gfX5_42 X 36 sc_0 rfl dX5_load_46 ?_
    refine Cp.iload_n (i := 1) X dX5_load_49 rfl rfl ?_
    refine Cp.aaldh X sc_36 dX5_load_50 (fun h_50 => ?_)
    refine gfX5_287 X (37 + 2 * x1.toNatClampNeg + 1) (s_se (isSe_of h_50)) rfl dX5_load_51 ?_
    refine Cp.iload X dX5_load_54 rfl ?_
    refine Cp.iald X (s_sn (isSe_of h_50)) dX5_load_56 ?_
    refine Cp.cSBT [] X [.int (σ (37 + 2 * x1.toNatClampNeg + 1) x4.toNatClampNeg)] csX5_isSeat (kX5_isSeat X.ok (σ (37 + 2 * x1.toNatClampNeg + 1) x4.toNatClampNeg) σ) wmX5_55 rfl rfl dX5_load_57 rfl (Nat.le_of_ble_eq_true rfl) ?_
    refine Cp.if_neB X 66 dX5_load_60 (by decide) (fun c_60 => ?_) (fun c_60 => ?_)
    · refine Cp.aload_n (i := 0) X dX5_load_66 rfl rfl ?_
      refine gfX5_10 X 1 sc_0 rfl dX5_load_67 ?_
      refine Cp.iload X dX5_load_70 rfl ?_
      refine Cp.aload_n (i := 0) X dX5_load_72 rfl rfl ?_
      refine gfX5_42 X 36 sc_0 rfl dX5_load_73 ?_
      refine Cp.iload_n (i := 1) X dX5_load_76 rfl rfl ?_
      refine Cp.aaldh X sc_36 dX5_load_77 (fun h_77 => ?_)
      refine gfX5_287 X (37 + 2 * x1.toNatClampNeg + 1) (s_se (isSe_of h_77)) rfl dX5_load_78 ?_
      refine Cp.iload X dX5_load_81 rfl ?_
      refine Cp.iald X (s_sn (isSe_of h_77)) dX5_load_83 ?_
      refine Cp.cVV [] X [.int x4, .int (σ (37 + 2 * x1.toNatClampNeg + 1) x4.toNatClampNeg)] cvX1_setSeat (kX1_setSeat X.ok 1 isRm_1 x4 (σ (37 + 2 * x1.toNatClampNeg + 1) x4.toNatClampNeg) σ) sc_1 rfl rfl wmX5_217 rfl rfl dX5_load_84 rfl (Nat.le_of_ble_eq_true rfl) (fun s_84 => ?_)
      refine Cp.iinc (v := x4 + 1) X dX5_load_87 rfl rfl (Nat.le_of_ble_eq_true rfl) rfl ?_
      refine Cp.goto X 39 dX5_load_90 (by decide) ?_
      exact hk39 (x4 + 1) s_84
    · refine Cp.iload X dX5_load_63 rfl ?_
      exact Cp.iret X dX5_load_65 rfl)
set_option maxRecDepth 20000 in
theorem pX5_load {M : MC} {w : WE} (X : Cx M w shC cX5_load 5 RX5 (some .int) 3)   (x1 : Int32) (σ : Mem) : Cp M w shC 5 iIM 0 [some (.ref (wad w 0)), some (.int x1), none, none, none] [] σ (fX5_load x1 σ) := by
  unfold fX5_load
  refine Cp.aload_n (i := 0) X dX5_load_0 rfl rfl ?_
  refine Cp.iload_n (i := 1) X dX5_load_1 rfl rfl ?_
  refine Cp.cVI [] X [.int x1] cvX5_sheetFinding (kX5_sheetFinding X.ok x1 σ) sc_0 rfl rfl wmX5_231 rfl rfl dX5_load_2 rfl (Nat.le_of_ble_eq_true rfl) (fun v_2 => ?_)
  refine Cp.istore_n (i := 2) X dX5_load_5 rfl (Nat.le_of_ble_eq_true rfl) rfl ?_
  refine Cp.iload_n (i := 2) X dX5_load_6 rfl rfl ?_
  refine Cp.if_eq X 16 dX5_load_7 (by decide) (fun c_7 => ?_) (fun c_7 => ?_)
  · refine Cp.aload_n (i := 0) X dX5_load_16 rfl rfl ?_
    refine gfX5_42 X 36 sc_0 rfl dX5_load_17 ?_
    refine Cp.iload_n (i := 1) X dX5_load_20 rfl rfl ?_
    refine Cp.aaldh X sc_36 dX5_load_21 (fun h_21 => ?_)
    refine gfX5_274 X (s_se (isSe_of h_21)) rfl dX5_load_22 ?_
    refine Cp.aload_n (i := 0) X dX5_load_25 rfl rfl ?_
    refine gfX5_10 X 1 sc_0 rfl dX5_load_26 ?_
    refine gfX5_63 X sc_1 rfl dX5_load_29 ?_
    refine Cp.mmin X wqX5_183 (by decide) dX5_load_32 (Nat.le_of_ble_eq_true rfl) ?_
    refine Cp.nameI (fun x3_35 => ?_)
    refine Cp.istore_n (i := 3) X dX5_load_35 rfl (Nat.le_of_ble_eq_true rfl) rfl ?_
    refine Cp.iconst (v := 0) X dX5_load_36 rfl ?_
    refine Cp.istore X dX5_load_37 (Nat.le_of_ble_eq_true rfl) rfl ?_
    refine Cp.mask [true, true, false, true, true] ?_
    exact pX5_load_39 X x1 x3_35 FU 0 σ
  · refine Cp.aload_n (i := 0) X dX5_load_10 rfl rfl ?_
    refine Cp.iload_n (i := 2) X dX5_load_11 rfl rfl ?_
    refine Cp.cVIM [] X [.int v_2] cvX5_found (kX5_found X.ok v_2 σ) sc_0 rfl rfl wmX5_59 rfl rfl dX5_load_12 rfl (Nat.le_of_ble_eq_true rfl) (fun v_12 s_12 => ?_)
    exact Cp.iret X dX5_load_15 rfl
theorem kX5_load {l : Launch} {w : WE} (hok : OkW w shC)   (x1 : Int32) (σ : Mem) : ∀ v, fX5_load x1 σ = some v → Ctr l w shC yX5_load cX5_load 5 (some .int) 3 [.ref (wad w 0), .int x1] σ (iIM v) := fun v hv => Ctr.of [some (.ref (wad w 0)), some (.int x1), none, none, none] (by decide) hok rfl (Nat.le_of_ble_eq_true rfl) (fun M _ X => pX5_load X   x1 σ v hv)
def fX5_judge_52 (x1 : Int32) (σ : Mem) (k52 : Int32 → Int32 → Int32 → Option (Int32 × Mem)) (x3 : Int32) (x4 : Int32) (x5 : Int32) : Option (Int32 × Mem) :=
  (gd (inB x1 4 = true) (if (σ (37 + 2 * x1.toNatClampNeg) 2) ≤ x5 then (some (0, σ)) else (gd (inB x1 4 = true) (gd (inB x5 40 = true) (pb (σ (37 + 2 * x1.toNatClampNeg + 1) x5.toNatClampNeg : Int32) fun x6_78 => (if fX5_hasPerson x6_78 σ = true then (if fX5_isIn x3 x6_78 = true then (gd (inB x6_78 8 = true) (if x4 ≤ (σ 32 x6_78.toNatClampNeg) then (pb (x3 &&& ((1 <<< (x6_78 &&& 31)) ^^^ (-1)) : Int32) fun x3_126 => (gd (inB x6_78 8 = true) (pb (σ 32 x6_78.toNatClampNeg : Int32) fun x4_137 => (k52 x3_126 x4_137 (x5 + 1))))) else (some (1 + x5, σ)))) else (some (1 + x5, σ))) else (some (1 + x5, σ))))))))
def fX5_judge (x1 : Int32) (σ : Mem) : Option (Int32 × Mem) :=
  ((fX5_sheetFinding x1 σ).bind fun v_2 => (if v_2 = 0 then (if (σ 1 7) = 0 then (bnd2 (fX5_found (-1000005) σ) fun v_29 s_29 => (some (v_29, s_29))) else (bnd2 (fX4_laughersOf 1 0 σ) fun v_42 s_42 => (lw3 (fX5_judge_52 x1 s_42) FU v_42 0 0))) else (bnd2 (fX5_found v_2 σ) fun v_12 s_12 => (some (v_12, s_12)))))
set_option maxRecDepth 20000 in
theorem pX5_judge_52 {M : MC} {w : WE} (X : Cx M w shC cX5_judge 7 RX5 (some .int) 4)   (x1 : Int32)  (σ : Mem)  : ∀ (n : Nat) (x3 : Int32) (x4 : Int32) (x5 : Int32), Cp M w shC 7 iIM 52 [some (.ref (wad w 0)), some (.int x1), none, some (.int x3), some (.int x4), some (.int x5), none] [] σ (lw3 (fX5_judge_52 x1 σ) n x3 x4 x5) :=
  lw3_i (P := fun x3 x4 x5 b => Cp M w shC 7 iIM 52 [some (.ref (wad w 0)), some (.int x1), none, some (.int x3), some (.int x4), some (.int x5), none] [] σ b) (fun _ _ _ => Cp.non) (fun k52 hk52 x3 x4 x5 => by
  unfold fX5_judge_52
  refine Cp.iload X dX5_judge_52 rfl ?_
  refine Cp.aload_n (i := 0) X dX5_judge_54 rfl rfl ?_
  refine gfX5_42 X 36 sc_0 rfl dX5_judge_55 ?_
  refine Cp.iload_n (i := 1) X dX5_judge_58 rfl rfl ?_
  refine Cp.aaldh X sc_36 dX5_judge_59 (fun h_59 => ?_)
  refine gfX5_274 X (s_se (isSe_of h_59)) rfl dX5_judge_60 ?_
  refine Cp.icmp_ge X 145 dX5_judge_63 (by decide) (fun c_63 => ?_) (fun c_63 => ?_)
  · refine Cp.iconst (v := 0) X dX5_judge_145 rfl ?_
    exact Cp.iret X dX5_judge_146 rfl
  · refine Cp.aload_n (i := 0) X dX5_judge_66 rfl rfl ?_
    refine gfX5_42 X 36 sc_0 rfl dX5_judge_67 ?_
    refine Cp.iload_n (i := 1) X dX5_judge_70 rfl rfl ?_
    refine Cp.aaldh X sc_36 dX5_judge_71 (fun h_71 => ?_)
    refine gfX5_287 X (37 + 2 * x1.toNatClampNeg + 1) (s_se (isSe_of h_71)) rfl dX5_judge_72 ?_
    refine Cp.iload X dX5_judge_75 rfl ?_
    refine Cp.iald X (s_sn (isSe_of h_71)) dX5_judge_77 ?_
    refine Cp.nameI (fun x6_78 => ?_)
    refine Cp.istore X dX5_judge_78 (Nat.le_of_ble_eq_true rfl) rfl ?_
    refine Cp.aload_n (i := 0) X dX5_judge_80 rfl rfl ?_
    refine Cp.iload X dX5_judge_81 rfl ?_
    refine Cp.cVBT [] X [.int x6_78] cvX5_hasPerson (kX5_hasPerson X.ok x6_78 σ) sc_0 rfl rfl wmX5_72 rfl rfl dX5_judge_83 rfl (Nat.le_of_ble_eq_true rfl) ?_
    refine Cp.if_eqB X 113 dX5_judge_86 (by decide) (fun c_86 => ?_) (fun c_86 => ?_)
    · refine Cp.iconst (v := 1) X dX5_judge_113 rfl ?_
      refine Cp.iload X dX5_judge_114 rfl ?_
      refine Cp.iadd X dX5_judge_116 ?_
      exact Cp.iret X dX5_judge_117 rfl
    · refine Cp.iload_n (i := 3) X dX5_judge_89 rfl rfl ?_
      refine Cp.iload X dX5_judge_90 rfl ?_
      refine Cp.cSBT [] X [.int x3, .int x6_78] csX5_isIn (kX5_isIn X.ok x3 x6_78 σ) wmX5_296 rfl rfl dX5_judge_92 rfl (Nat.le_of_ble_eq_true rfl) ?_
      refine Cp.if_eqB X 113 dX5_judge_95 (by decide) (fun c_95 => ?_) (fun c_95 => ?_)
      · refine Cp.iconst (v := 1) X dX5_judge_113 rfl ?_
        refine Cp.iload X dX5_judge_114 rfl ?_
        refine Cp.iadd X dX5_judge_116 ?_
        exact Cp.iret X dX5_judge_117 rfl
      · refine Cp.aload_n (i := 0) X dX5_judge_98 rfl rfl ?_
        refine gfX5_29 X 31 sc_0 rfl dX5_judge_99 ?_
        refine gfX5_299 X 32 sc_31 rfl dX5_judge_102 ?_
        refine Cp.iload X dX5_judge_105 rfl ?_
        refine Cp.iald X sc_32 dX5_judge_107 ?_
        refine Cp.iload X dX5_judge_108 rfl ?_
        refine Cp.icmp_ge X 118 dX5_judge_110 (by decide) (fun c_110 => ?_) (fun c_110 => ?_)
        · refine Cp.iload_n (i := 3) X dX5_judge_118 rfl rfl ?_
          refine Cp.iconst (v := 1) X dX5_judge_119 rfl ?_
          refine Cp.iload X dX5_judge_120 rfl ?_
          refine Cp.ishl X dX5_judge_122 ?_
          refine Cp.iconst (v := (-1)) X dX5_judge_123 rfl ?_
          refine Cp.ixor X dX5_judge_124 ?_
          refine Cp.iand X dX5_judge_125 ?_
          refine Cp.nameI (fun x3_126 => ?_)
          refine Cp.istore_n (i := 3) X dX5_judge_126 rfl (Nat.le_of_ble_eq_true rfl) rfl ?_
          refine Cp.aload_n (i := 0) X dX5_judge_127 rfl rfl ?_
          refine gfX5_29 X 31 sc_0 rfl dX5_judge_128 ?_
          refine gfX5_299 X 32 sc_31 rfl dX5_judge_131 ?_
          refine Cp.iload X dX5_judge_134 rfl ?_
          refine Cp.iald X sc_32 dX5_judge_136 ?_
          refine Cp.nameI (fun x4_137 => ?_)
          refine Cp.istore X dX5_judge_137 (Nat.le_of_ble_eq_true rfl) rfl ?_
          refine Cp.iinc (v := x5 + 1) X dX5_judge_139 rfl rfl (Nat.le_of_ble_eq_true rfl) rfl ?_
          refine Cp.goto X 52 dX5_judge_142 (by decide) ?_
          refine Cp.mask [true, true, false, true, true, true, false] ?_
          exact hk52 x3_126 x4_137 (x5 + 1)
        · refine Cp.iconst (v := 1) X dX5_judge_113 rfl ?_
          refine Cp.iload X dX5_judge_114 rfl ?_
          refine Cp.iadd X dX5_judge_116 ?_
          exact Cp.iret X dX5_judge_117 rfl)
set_option maxRecDepth 20000 in
theorem pX5_judge {M : MC} {w : WE} (X : Cx M w shC cX5_judge 7 RX5 (some .int) 4)   (x1 : Int32) (σ : Mem) : Cp M w shC 7 iIM 0 [some (.ref (wad w 0)), some (.int x1), none, none, none, none, none] [] σ (fX5_judge x1 σ) := by
  unfold fX5_judge
  refine Cp.aload_n (i := 0) X dX5_judge_0 rfl rfl ?_
  refine Cp.iload_n (i := 1) X dX5_judge_1 rfl rfl ?_
  refine Cp.cVI [] X [.int x1] cvX5_sheetFinding (kX5_sheetFinding X.ok x1 σ) sc_0 rfl rfl wmX5_231 rfl rfl dX5_judge_2 rfl (Nat.le_of_ble_eq_true rfl) (fun v_2 => ?_)
  refine Cp.istore_n (i := 2) X dX5_judge_5 rfl (Nat.le_of_ble_eq_true rfl) rfl ?_
  refine Cp.iload_n (i := 2) X dX5_judge_6 rfl rfl ?_
  refine Cp.if_eq X 16 dX5_judge_7 (by decide) (fun c_7 => ?_) (fun c_7 => ?_)
  · refine Cp.aload_n (i := 0) X dX5_judge_16 rfl rfl ?_
    refine gfX5_10 X 1 sc_0 rfl dX5_judge_17 ?_
    refine gfX5_123 X sc_1 rfl dX5_judge_20 ?_
    refine Cp.if_ne X 33 dX5_judge_23 (by decide) (fun c_23 => ?_) (fun c_23 => ?_)
    · refine Cp.aload_n (i := 0) X dX5_judge_33 rfl rfl ?_
      refine gfX5_29 X 31 sc_0 rfl dX5_judge_34 ?_
      refine Cp.aload_n (i := 0) X dX5_judge_37 rfl rfl ?_
      refine gfX5_10 X 1 sc_0 rfl dX5_judge_38 ?_
      refine Cp.iconst (v := 0) X dX5_judge_41 rfl ?_
      refine Cp.cVIM [] X [.ref (wad w 1), .int 0] cvX4_laughersOf (kX4_laughersOf X.ok 1 isRm_1 0 σ) sc_31 rfl rfl wmX5_195 rfl rfl dX5_judge_42 rfl (Nat.le_of_ble_eq_true rfl) (fun v_42 s_42 => ?_)
      refine Cp.istore_n (i := 3) X dX5_judge_45 rfl (Nat.le_of_ble_eq_true rfl) rfl ?_
      refine Cp.iconst (v := 0) X dX5_judge_46 rfl ?_
      refine Cp.istore X dX5_judge_47 (Nat.le_of_ble_eq_true rfl) rfl ?_
      refine Cp.iconst (v := 0) X dX5_judge_49 rfl ?_
      refine Cp.istore X dX5_judge_50 (Nat.le_of_ble_eq_true rfl) rfl ?_
      refine Cp.mask [true, true, false, true, true, true, false] ?_
      exact pX5_judge_52 X x1 s_42 FU v_42 0 0
    · refine Cp.aload_n (i := 0) X dX5_judge_26 rfl rfl ?_
      refine Cp.ldc (v := (-1000005)) X wcX5_166 dX5_judge_27 ?_
      refine Cp.cVIM [] X [.int (-1000005)] cvX5_found (kX5_found X.ok (-1000005) σ) sc_0 rfl rfl wmX5_59 rfl rfl dX5_judge_29 rfl (Nat.le_of_ble_eq_true rfl) (fun v_29 s_29 => ?_)
      exact Cp.iret X dX5_judge_32 rfl
  · refine Cp.aload_n (i := 0) X dX5_judge_10 rfl rfl ?_
    refine Cp.iload_n (i := 2) X dX5_judge_11 rfl rfl ?_
    refine Cp.cVIM [] X [.int v_2] cvX5_found (kX5_found X.ok v_2 σ) sc_0 rfl rfl wmX5_59 rfl rfl dX5_judge_12 rfl (Nat.le_of_ble_eq_true rfl) (fun v_12 s_12 => ?_)
    exact Cp.iret X dX5_judge_15 rfl
theorem kX5_judge {l : Launch} {w : WE} (hok : OkW w shC)   (x1 : Int32) (σ : Mem) : ∀ v, fX5_judge x1 σ = some v → Ctr l w shC yX5_judge cX5_judge 7 (some .int) 4 [.ref (wad w 0), .int x1] σ (iIM v) := fun v hv => Ctr.of [some (.ref (wad w 0)), some (.int x1), none, none, none, none, none] (by decide) hok rfl (Nat.le_of_ble_eq_true rfl) (fun M _ X => pX5_judge X   x1 σ v hv)
def fX5_image  (σ : Mem) : Option (Int32 × Mem) :=
  ((fX1_takeOver 21 1 σ).bind fun s_8 => (pb (up2 s_8 0 3 1 : Mem) fun s_13 => (some (1, s_13))))
set_option maxRecDepth 20000 in
theorem pX5_image {M : MC} {w : WE} (X : Cx M w shC cX5_image 1 RX5 (some .int) 2)    (σ : Mem) : Cp M w shC 1 iIM 0 [some (.ref (wad w 0))] [] σ (fX5_image σ) := by
  unfold fX5_image
  refine Cp.aload_n (i := 0) X dX5_image_0 rfl rfl ?_
  refine gfX5_19 X 21 sc_0 rfl dX5_image_1 ?_
  refine Cp.aload_n (i := 0) X dX5_image_4 rfl rfl ?_
  refine gfX5_10 X 1 sc_0 rfl dX5_image_5 ?_
  refine Cp.cVV [] X [.ref (wad w 1)] cvX1_takeOver (kX1_takeOver X.ok 21 1 isRm_21 isRm_1 σ) sc_21 rfl rfl wmX5_201 rfl rfl dX5_image_8 rfl (Nat.le_of_ble_eq_true rfl) (fun s_8 => ?_)
  refine Cp.aload_n (i := 0) X dX5_image_11 rfl rfl ?_
  refine Cp.iconst (v := 1) X dX5_image_12 rfl ?_
  refine pfcX5_22 X sc_0 rfl (by decide) dX5_image_13 ?_
  refine Cp.nameM (fun s_13 => ?_)
  refine Cp.iconst (v := 1) X dX5_image_16 rfl ?_
  exact Cp.iret X dX5_image_17 rfl
theorem kX5_image {l : Launch} {w : WE} (hok : OkW w shC)    (σ : Mem) : ∀ v, fX5_image σ = some v → Ctr l w shC yX5_image cX5_image 1 (some .int) 2 [.ref (wad w 0)] σ (iIM v) := fun v hv => Ctr.of [some (.ref (wad w 0))] (by decide) hok rfl (Nat.le_of_ble_eq_true rfl) (fun M _ X => pX5_image X    σ v hv)
def fX5_undo  (σ : Mem) : Option (Int32 × Mem) :=
  (if (σ 0 3) = 0 then (bnd2 (fX5_found (-1000004) σ) fun v_10 s_10 => (some (v_10, s_10))) else ((fX1_takeOver 1 21 σ).bind fun s_22 => (some (s_22 1 13, s_22))))
set_option maxRecDepth 20000 in
theorem pX5_undo {M : MC} {w : WE} (X : Cx M w shC cX5_undo 1 RX5 (some .int) 2)    (σ : Mem) : Cp M w shC 1 iIM 0 [some (.ref (wad w 0))] [] σ (fX5_undo σ) := by
  unfold fX5_undo
  refine Cp.aload_n (i := 0) X dX5_undo_0 rfl rfl ?_
  refine gfX5_22 X sc_0 rfl dX5_undo_1 ?_
  refine Cp.if_ne X 14 dX5_undo_4 (by decide) (fun c_4 => ?_) (fun c_4 => ?_)
  · refine Cp.aload_n (i := 0) X dX5_undo_14 rfl rfl ?_
    refine gfX5_10 X 1 sc_0 rfl dX5_undo_15 ?_
    refine Cp.aload_n (i := 0) X dX5_undo_18 rfl rfl ?_
    refine gfX5_19 X 21 sc_0 rfl dX5_undo_19 ?_
    refine Cp.cVV [] X [.ref (wad w 21)] cvX1_takeOver (kX1_takeOver X.ok 1 21 isRm_1 isRm_21 σ) sc_1 rfl rfl wmX5_201 rfl rfl dX5_undo_22 rfl (Nat.le_of_ble_eq_true rfl) (fun s_22 => ?_)
    refine Cp.aload_n (i := 0) X dX5_undo_25 rfl rfl ?_
    refine gfX5_10 X 1 sc_0 rfl dX5_undo_26 ?_
    refine gfX5_162 X sc_1 rfl dX5_undo_29 ?_
    exact Cp.iret X dX5_undo_32 rfl
  · refine Cp.aload_n (i := 0) X dX5_undo_7 rfl rfl ?_
    refine Cp.ldc (v := (-1000004)) X wcX5_182 dX5_undo_8 ?_
    refine Cp.cVIM [] X [.int (-1000004)] cvX5_found (kX5_found X.ok (-1000004) σ) sc_0 rfl rfl wmX5_59 rfl rfl dX5_undo_10 rfl (Nat.le_of_ble_eq_true rfl) (fun v_10 s_10 => ?_)
    exact Cp.iret X dX5_undo_13 rfl
theorem kX5_undo {l : Launch} {w : WE} (hok : OkW w shC)    (σ : Mem) : ∀ v, fX5_undo σ = some v → Ctr l w shC yX5_undo cX5_undo 1 (some .int) 2 [.ref (wad w 0)] σ (iIM v) := fun v hv => Ctr.of [some (.ref (wad w 0))] (by decide) hok rfl (Nat.le_of_ble_eq_true rfl) (fun M _ X => pX5_undo X    σ v hv)
def fX5_tear  (σ : Mem) : Option (Int32 × Mem) :=
  (if (σ 0 3) = 0 then (pb (up2 σ 0 3 0 : Mem) fun s_15 => (some (0, s_15))) else (pb (up2 σ 0 3 0 : Mem) fun s_15 => (some (1, s_15))))
set_option maxRecDepth 20000 in
theorem pX5_tear {M : MC} {w : WE} (X : Cx M w shC cX5_tear 2 RX5 (some .int) 0)    (σ : Mem) : Cp M w shC 2 iIM 0 [some (.ref (wad w 0)), none] [] σ (fX5_tear σ) := by
  unfold fX5_tear
  refine Cp.aload_n (i := 0) X dX5_tear_0 rfl rfl ?_
  refine gfX5_22 X sc_0 rfl dX5_tear_1 ?_
  refine Cp.if_eq X 11 dX5_tear_4 (by decide) (fun c_4 => ?_) (fun c_4 => ?_)
  · refine Cp.iconst (v := 0) X dX5_tear_11 rfl ?_
    refine Cp.istore_n (i := 1) X dX5_tear_12 rfl (Nat.le_of_ble_eq_true rfl) rfl ?_
    refine Cp.aload_n (i := 0) X dX5_tear_13 rfl rfl ?_
    refine Cp.iconst (v := 0) X dX5_tear_14 rfl ?_
    refine pfcX5_22 X sc_0 rfl (by decide) dX5_tear_15 ?_
    refine Cp.nameM (fun s_15 => ?_)
    refine Cp.iload_n (i := 1) X dX5_tear_18 rfl rfl ?_
    exact Cp.iret X dX5_tear_19 rfl
  · refine Cp.iconst (v := 1) X dX5_tear_7 rfl ?_
    refine Cp.goto X 12 dX5_tear_8 (by decide) ?_
    refine Cp.istore_n (i := 1) X dX5_tear_12 rfl (Nat.le_of_ble_eq_true rfl) rfl ?_
    refine Cp.aload_n (i := 0) X dX5_tear_13 rfl rfl ?_
    refine Cp.iconst (v := 0) X dX5_tear_14 rfl ?_
    refine pfcX5_22 X sc_0 rfl (by decide) dX5_tear_15 ?_
    refine Cp.nameM (fun s_15 => ?_)
    refine Cp.iload_n (i := 1) X dX5_tear_18 rfl rfl ?_
    exact Cp.iret X dX5_tear_19 rfl
theorem kX5_tear {l : Launch} {w : WE} (hok : OkW w shC)    (σ : Mem) : ∀ v, fX5_tear σ = some v → Ctr l w shC yX5_tear cX5_tear 2 (some .int) 0 [.ref (wad w 0)] σ (iIM v) := fun v hv => Ctr.of [some (.ref (wad w 0)), none] (by decide) hok rfl (Nat.le_of_ble_eq_true rfl) (fun M _ X => pX5_tear X    σ v hv)
def fX5_count (x1 : Int32) (σ : Mem) : Option (Int32 × Mem) :=
  (if x1 = 0 then (some (σ 1 13, σ)) else (if x1 = 1 then (some (σ 1 0, σ)) else (if x1 = 2 then (some (σ 1 7, σ)) else (if x1 = 3 then (some (σ 1 12, σ)) else (if x1 = 4 then ((fX1_together 1 6 σ).bind fun v_91 => (some (v_91, σ))) else (if x1 = 5 then (some (σ 34 1, σ)) else (if x1 = 6 then (some (σ 1 14, σ)) else (if x1 = 7 then ((fX1_spotsHolding 1 σ).bind fun v_115 => (some (v_115, σ))) else (bnd2 (fX5_found (-1000001) σ) fun v_122 s_122 => (some (v_122, s_122)))))))))))
set_option maxRecDepth 20000 in
theorem pX5_count {M : MC} {w : WE} (X : Cx M w shC cX5_count 2 RX5 (some .int) 2)   (x1 : Int32) (σ : Mem) : Cp M w shC 2 iIM 0 [some (.ref (wad w 0)), some (.int x1)] [] σ (fX5_count x1 σ) := by
  unfold fX5_count
  refine Cp.iload_n (i := 1) X dX5_count_0 rfl rfl ?_
  refine Cp.ite (fun c_1 => ?_) (fun n_1_0 => ?_)
  · refine Cp.tswI X 0 48 c_1 dX5_count_1 (by decide) (by decide) rfl (by decide) ?_
    refine Cp.aload_n (i := 0) X dX5_count_48 rfl rfl ?_
    refine gfX5_10 X 1 sc_0 rfl dX5_count_49 ?_
    refine gfX5_162 X sc_1 rfl dX5_count_52 ?_
    exact Cp.iret X dX5_count_55 rfl
  refine Cp.ite (fun c_1 => ?_) (fun n_1_1 => ?_)
  · refine Cp.tswI X 1 56 c_1 dX5_count_1 (by decide) (by decide) rfl (by decide) ?_
    refine Cp.aload_n (i := 0) X dX5_count_56 rfl rfl ?_
    refine gfX5_10 X 1 sc_0 rfl dX5_count_57 ?_
    refine gfX5_63 X sc_1 rfl dX5_count_60 ?_
    exact Cp.iret X dX5_count_63 rfl
  refine Cp.ite (fun c_1 => ?_) (fun n_1_2 => ?_)
  · refine Cp.tswI X 2 64 c_1 dX5_count_1 (by decide) (by decide) rfl (by decide) ?_
    refine Cp.aload_n (i := 0) X dX5_count_64 rfl rfl ?_
    refine gfX5_10 X 1 sc_0 rfl dX5_count_65 ?_
    refine gfX5_123 X sc_1 rfl dX5_count_68 ?_
    exact Cp.iret X dX5_count_71 rfl
  refine Cp.ite (fun c_1 => ?_) (fun n_1_3 => ?_)
  · refine Cp.tswI X 3 72 c_1 dX5_count_1 (by decide) (by decide) rfl (by decide) ?_
    refine Cp.aload_n (i := 0) X dX5_count_72 rfl rfl ?_
    refine gfX5_10 X 1 sc_0 rfl dX5_count_73 ?_
    refine gfX5_175 X sc_1 rfl dX5_count_76 ?_
    exact Cp.iret X dX5_count_79 rfl
  refine Cp.ite (fun c_1 => ?_) (fun n_1_4 => ?_)
  · refine Cp.tswI X 4 80 c_1 dX5_count_1 (by decide) (by decide) rfl (by decide) ?_
    refine Cp.aload_n (i := 0) X dX5_count_80 rfl rfl ?_
    refine gfX5_10 X 1 sc_0 rfl dX5_count_81 ?_
    refine Cp.aload_n (i := 0) X dX5_count_84 rfl rfl ?_
    refine gfX5_10 X 1 sc_0 rfl dX5_count_85 ?_
    refine gfX5_87 X 6 sc_1 rfl dX5_count_88 ?_
    refine Cp.cVI [] X [.ref (wad w 6)] cvX1_together (kX1_together X.ok 1 6 isRm_1 sc_6 σ) sc_1 rfl rfl wmX5_178 rfl rfl dX5_count_91 rfl (Nat.le_of_ble_eq_true rfl) (fun v_91 => ?_)
    exact Cp.iret X dX5_count_94 rfl
  refine Cp.ite (fun c_1 => ?_) (fun n_1_5 => ?_)
  · refine Cp.tswI X 5 95 c_1 dX5_count_1 (by decide) (by decide) rfl (by decide) ?_
    refine Cp.aload_n (i := 0) X dX5_count_95 rfl rfl ?_
    refine gfX5_36 X 34 sc_0 rfl dX5_count_96 ?_
    refine gfX5_251 X sc_34 rfl dX5_count_99 ?_
    exact Cp.iret X dX5_count_102 rfl
  refine Cp.ite (fun c_1 => ?_) (fun n_1_6 => ?_)
  · refine Cp.tswI X 6 103 c_1 dX5_count_1 (by decide) (by decide) rfl (by decide) ?_
    refine Cp.aload_n (i := 0) X dX5_count_103 rfl rfl ?_
    refine gfX5_10 X 1 sc_0 rfl dX5_count_104 ?_
    refine gfX5_248 X sc_1 rfl dX5_count_107 ?_
    exact Cp.iret X dX5_count_110 rfl
  refine Cp.ite (fun c_1 => ?_) (fun n_1_7 => ?_)
  · refine Cp.tswI X 7 111 c_1 dX5_count_1 (by decide) (by decide) rfl (by decide) ?_
    refine Cp.aload_n (i := 0) X dX5_count_111 rfl rfl ?_
    refine gfX5_10 X 1 sc_0 rfl dX5_count_112 ?_
    refine Cp.cVI [] X [] cvX1_spotsHolding (kX1_spotsHolding X.ok 1 isRm_1 σ) sc_1 rfl rfl wmX5_302 rfl rfl dX5_count_115 rfl (Nat.le_of_ble_eq_true rfl) (fun v_115 => ?_)
    exact Cp.iret X dX5_count_118 rfl
  have m_1_0 := lv_neT (a := 0) n_1_0 (by decide)
  have m_1_1 := lv_neT (a := 1) n_1_1 (by decide)
  have m_1_2 := lv_neT (a := 2) n_1_2 (by decide)
  have m_1_3 := lv_neT (a := 3) n_1_3 (by decide)
  have m_1_4 := lv_neT (a := 4) n_1_4 (by decide)
  have m_1_5 := lv_neT (a := 5) n_1_5 (by decide)
  have m_1_6 := lv_neT (a := 6) n_1_6 (by decide)
  have m_1_7 := lv_neT (a := 7) n_1_7 (by decide)
  refine Cp.tswD X 119 (by omega) dX5_count_1 (by decide) ?_
  refine Cp.aload_n (i := 0) X dX5_count_119 rfl rfl ?_
  refine Cp.ldc (v := (-1000001)) X wcX5_58 dX5_count_120 ?_
  refine Cp.cVIM [] X [.int (-1000001)] cvX5_found (kX5_found X.ok (-1000001) σ) sc_0 rfl rfl wmX5_59 rfl rfl dX5_count_122 rfl (Nat.le_of_ble_eq_true rfl) (fun v_122 s_122 => ?_)
  exact Cp.iret X dX5_count_125 rfl
theorem kX5_count {l : Launch} {w : WE} (hok : OkW w shC)   (x1 : Int32) (σ : Mem) : ∀ v, fX5_count x1 σ = some v → Ctr l w shC yX5_count cX5_count 2 (some .int) 2 [.ref (wad w 0), .int x1] σ (iIM v) := fun v hv => Ctr.of [some (.ref (wad w 0)), some (.int x1)] (by decide) hok rfl (Nat.le_of_ble_eq_true rfl) (fun M _ X => pX5_count X   x1 σ v hv)
def fX5_status_32 (σ : Mem) (k32 : Int32 → Int32 → Option (Int32 × Mem)) (x2 : Int32) (x3 : Int32) : Option (Int32 × Mem) :=
  (if 7 ≤ x3 then (some (x2, σ)) else (gd (inB x3 7 = true) (pb (x2 + (σ 45 x3.toNatClampNeg) : Int32) fun x2_46 => (k32 x2_46 (x3 + 1)))))
def fX5_status (x1 : Int32) (σ : Mem) : Option (Int32 × Mem) :=
  (if fX5_within x1 (-1) 6 = true then (if x1 < 0 then (lw2 (fX5_status_32 σ) FU 0 0) else (gd (inB x1 7 = true) (some (σ 45 x1.toNatClampNeg, σ)))) else (bnd2 (fX5_found (-1000001) σ) fun v_13 s_13 => (some (v_13, s_13))))
set_option maxRecDepth 20000 in
theorem pX5_status_32 {M : MC} {w : WE} (X : Cx M w shC cX5_status 4 RX5 (some .int) 2)     (σ : Mem)  : ∀ (n : Nat) (x2 : Int32) (x3 : Int32), Cp M w shC 4 iIM 32 [some (.ref (wad w 0)), none, some (.int x2), some (.int x3)] [] σ (lw2 (fX5_status_32 σ) n x2 x3) :=
  lw2_i (P := fun x2 x3 b => Cp M w shC 4 iIM 32 [some (.ref (wad w 0)), none, some (.int x2), some (.int x3)] [] σ b) (fun _ _ => Cp.non) (fun k32 hk32 x2 x3 => by
  unfold fX5_status_32
  refine Cp.iload_n (i := 3) X dX5_status_32 rfl rfl ?_
  refine Cp.bipush (v := 7) X dX5_status_33 rfl ?_
  refine Cp.icmp_ge X 53 dX5_status_35 (by decide) (fun c_35 => ?_) (fun c_35 => ?_)
  · refine Cp.iload_n (i := 2) X dX5_status_53 rfl rfl ?_
    exact Cp.iret X dX5_status_54 rfl
  · refine Cp.iload_n (i := 2) X dX5_status_38 rfl rfl ?_
    refine Cp.aload_n (i := 0) X dX5_status_39 rfl rfl ?_
    refine gfX5_47 X 45 sc_0 rfl dX5_status_40 ?_
    refine Cp.iload_n (i := 3) X dX5_status_43 rfl rfl ?_
    refine Cp.iald X sc_45 dX5_status_44 ?_
    refine Cp.iadd X dX5_status_45 ?_
    refine Cp.nameI (fun x2_46 => ?_)
    refine Cp.istore_n (i := 2) X dX5_status_46 rfl (Nat.le_of_ble_eq_true rfl) rfl ?_
    refine Cp.iinc (v := x3 + 1) X dX5_status_47 rfl rfl (Nat.le_of_ble_eq_true rfl) rfl ?_
    refine Cp.goto X 32 dX5_status_50 (by decide) ?_
    exact hk32 x2_46 (x3 + 1))
set_option maxRecDepth 20000 in
theorem pX5_status {M : MC} {w : WE} (X : Cx M w shC cX5_status 4 RX5 (some .int) 2)   (x1 : Int32) (σ : Mem) : Cp M w shC 4 iIM 0 [some (.ref (wad w 0)), some (.int x1), none, none] [] σ (fX5_status x1 σ) := by
  unfold fX5_status
  refine Cp.iload_n (i := 1) X dX5_status_0 rfl rfl ?_
  refine Cp.iconst (v := (-1)) X dX5_status_1 rfl ?_
  refine Cp.bipush (v := 6) X dX5_status_2 rfl ?_
  refine Cp.cSBT [] X [.int x1, .int (-1), .int 6] csX5_within (kX5_within X.ok x1 (-1) 6 σ) wmX5_132 rfl rfl dX5_status_4 rfl (Nat.le_of_ble_eq_true rfl) ?_
  refine Cp.if_neB X 17 dX5_status_7 (by decide) (fun c_7 => ?_) (fun c_7 => ?_)
  · refine Cp.iload_n (i := 1) X dX5_status_17 rfl rfl ?_
    refine Cp.if_lt X 28 dX5_status_18 (by decide) (fun c_18 => ?_) (fun c_18 => ?_)
    · refine Cp.iconst (v := 0) X dX5_status_28 rfl ?_
      refine Cp.istore_n (i := 2) X dX5_status_29 rfl (Nat.le_of_ble_eq_true rfl) rfl ?_
      refine Cp.iconst (v := 0) X dX5_status_30 rfl ?_
      refine Cp.istore_n (i := 3) X dX5_status_31 rfl (Nat.le_of_ble_eq_true rfl) rfl ?_
      refine Cp.mask [true, false, true, true] ?_
      exact pX5_status_32 X σ FU 0 0
    · refine Cp.aload_n (i := 0) X dX5_status_21 rfl rfl ?_
      refine gfX5_47 X 45 sc_0 rfl dX5_status_22 ?_
      refine Cp.iload_n (i := 1) X dX5_status_25 rfl rfl ?_
      refine Cp.iald X sc_45 dX5_status_26 ?_
      exact Cp.iret X dX5_status_27 rfl
  · refine Cp.aload_n (i := 0) X dX5_status_10 rfl rfl ?_
    refine Cp.ldc (v := (-1000001)) X wcX5_58 dX5_status_11 ?_
    refine Cp.cVIM [] X [.int (-1000001)] cvX5_found (kX5_found X.ok (-1000001) σ) sc_0 rfl rfl wmX5_59 rfl rfl dX5_status_13 rfl (Nat.le_of_ble_eq_true rfl) (fun v_13 s_13 => ?_)
    exact Cp.iret X dX5_status_16 rfl
theorem kX5_status {l : Launch} {w : WE} (hok : OkW w shC)   (x1 : Int32) (σ : Mem) : ∀ v, fX5_status x1 σ = some v → Ctr l w shC yX5_status cX5_status 4 (some .int) 2 [.ref (wad w 0), .int x1] σ (iIM v) := fun v hv => Ctr.of [some (.ref (wad w 0)), some (.int x1), none, none] (by decide) hok rfl (Nat.le_of_ble_eq_true rfl) (fun M _ X => pX5_status X   x1 σ v hv)
