def fX6_in (x0 : Int64) (x2 : Int64) (x4 : Int64) : Bool :=
  (if (lg_cmp x0 x2) < 0 then false else (if 0 < (lg_cmp x0 x4) then false else true))
set_option maxRecDepth 20000 in
theorem pX6_in {M : MC} {w : WE} (X : Cx M w shR cX6_in 6 RX6 (some .boolean) 0)   (x0 : Int64) (x2 : Int64) (x4 : Int64) (σ : Mem) : Cp M w shR 6 (iB σ) 0 [some (.long x0), none, some (.long x2), none, some (.long x4), none] [] σ (some (fX6_in x0 x2 x4)) := by
  unfold fX6_in
  refine Cp.lload_n (i := 0) X dX6_in_0 rfl rfl ?_
  refine Cp.lload_n (i := 2) X dX6_in_1 rfl rfl ?_
  refine Cp.lcmp X dX6_in_2 ?_
  refine Cp.if_ltT X 17 dX6_in_3 (by decide) (fun c_3 => ?_) (fun c_3 => ?_)
  · refine Cp.iconst (v := 0) X dX6_in_17 rfl ?_
    exact Cp.bret (v := false) X dX6_in_18 rfl
  · refine Cp.lload_n (i := 0) X dX6_in_6 rfl rfl ?_
    refine Cp.lload X dX6_in_7 rfl ?_
    refine Cp.lcmp X dX6_in_9 ?_
    refine Cp.if_gtT X 17 dX6_in_10 (by decide) (fun c_10 => ?_) (fun c_10 => ?_)
    · refine Cp.iconst (v := 0) X dX6_in_17 rfl ?_
      exact Cp.bret (v := false) X dX6_in_18 rfl
    · refine Cp.iconst (v := 1) X dX6_in_13 rfl ?_
      refine Cp.goto X 18 dX6_in_14 (by decide) ?_
      exact Cp.bret (v := true) X dX6_in_18 rfl
theorem kX6_in {l : Launch} {w : WE} (hok : OkW w shR)   (x0 : Int64) (x2 : Int64) (x4 : Int64) (σ : Mem) : Ctr l w shR yX6_in cX6_in 6 (some .boolean) 0 [.long x0, .long x2, .long x4] σ ((iB σ) (fX6_in x0 x2 x4)) := Ctr.of [some (.long x0), none, some (.long x2), none, some (.long x4), none] (by decide) hok rfl (Nat.le_of_ble_eq_true rfl) (fun M _ X => pX6_in X   x0 x2 x4 σ _ rfl)
def fX6_isKind (x0 : Int32) : Bool :=
  fX6_in ((x0 : Int32).toInt64) 0 6
set_option maxRecDepth 20000 in
theorem pX6_isKind {M : MC} {w : WE} (X : Cx M w shR cX6_isKind 1 RX6 (some .boolean) 1)   (x0 : Int32) (σ : Mem) : Cp M w shR 1 (iB σ) 0 [some (.int x0)] [] σ (some (fX6_isKind x0)) := by
  unfold fX6_isKind
  refine Cp.iload_n (i := 0) X dX6_isKind_0 rfl rfl ?_
  refine Cp.i2l X dX6_isKind_1 ?_
  refine Cp.lconst (v := 0) X dX6_isKind_2 rfl ?_
  refine Cp.ldc2 (v := 6) X wcX6_62 dX6_isKind_3 ?_
  refine Cp.cSBT [] X [.long ((x0 : Int32).toInt64), .long 0, .long 6] csX6_in (kX6_in X.ok ((x0 : Int32).toInt64) 0 6 σ) wmX6_48 rfl rfl dX6_isKind_6 rfl (Nat.le_of_ble_eq_true rfl) ?_
  exact Cp.bret X dX6_isKind_9 rfl
theorem kX6_isKind {l : Launch} {w : WE} (hok : OkW w shR)   (x0 : Int32) (σ : Mem) : Ctr l w shR yX6_isKind cX6_isKind 1 (some .boolean) 1 [.int x0] σ ((iB σ) (fX6_isKind x0)) := Ctr.of [some (.int x0)] (by decide) hok rfl (Nat.le_of_ble_eq_true rfl) (fun M _ X => pX6_isKind X   x0 σ _ rfl)
def fX6_isSeat (x0 : Int32) : Bool :=
  fX6_in ((x0 : Int32).toInt64) 0 15
set_option maxRecDepth 20000 in
theorem pX6_isSeat {M : MC} {w : WE} (X : Cx M w shR cX6_isSeat 1 RX6 (some .boolean) 1)   (x0 : Int32) (σ : Mem) : Cp M w shR 1 (iB σ) 0 [some (.int x0)] [] σ (some (fX6_isSeat x0)) := by
  unfold fX6_isSeat
  refine Cp.iload_n (i := 0) X dX6_isSeat_0 rfl rfl ?_
  refine Cp.i2l X dX6_isSeat_1 ?_
  refine Cp.lconst (v := 0) X dX6_isSeat_2 rfl ?_
  refine Cp.ldc2 (v := 15) X wcX6_52 dX6_isSeat_3 ?_
  refine Cp.cSBT [] X [.long ((x0 : Int32).toInt64), .long 0, .long 15] csX6_in (kX6_in X.ok ((x0 : Int32).toInt64) 0 15 σ) wmX6_48 rfl rfl dX6_isSeat_6 rfl (Nat.le_of_ble_eq_true rfl) ?_
  exact Cp.bret X dX6_isSeat_9 rfl
theorem kX6_isSeat {l : Launch} {w : WE} (hok : OkW w shR)   (x0 : Int32) (σ : Mem) : Ctr l w shR yX6_isSeat cX6_isSeat 1 (some .boolean) 1 [.int x0] σ ((iB σ) (fX6_isSeat x0)) := Ctr.of [some (.int x0)] (by decide) hok rfl (Nat.le_of_ble_eq_true rfl) (fun M _ X => pX6_isSeat X   x0 σ _ rfl)
def fX6_finds (x1 : Int32) (σ : Mem) : Option (Int32 × Mem) :=
  (gd (inB x1 7 = true) (gd (inB x1 7 = true) (pb (up2 σ 4 x1.toNatClampNeg ((σ 4 x1.toNatClampNeg) + 1) : Mem) fun s_9 => (some ((-1000001) - x1, s_9)))))
set_option maxRecDepth 20000 in
theorem pX6_finds {M : MC} {w : WE} (X : Cx M w shR cX6_finds 2 RX6 (some .int) 0)   (x1 : Int32) (σ : Mem) : Cp M w shR 2 iIM 0 [some (.ref (wad w 0)), some (.int x1)] [] σ (fX6_finds x1 σ) := by
  unfold fX6_finds
  refine Cp.aload_n (i := 0) X dX6_finds_0 rfl rfl ?_
  refine gfX6_19 X 4 sr_0 rfl dX6_finds_1 ?_
  refine Cp.iload_n (i := 1) X dX6_finds_4 rfl rfl ?_
  refine Cp.dup2 X dX6_finds_5 rfl rfl ?_
  refine Cp.iald X sr_4 dX6_finds_6 ?_
  refine Cp.iconst (v := 1) X dX6_finds_7 rfl ?_
  refine Cp.iadd X dX6_finds_8 ?_
  refine Cp.iast X sr_4 dX6_finds_9 ?_
  refine Cp.nameM (fun s_9 => ?_)
  refine Cp.ldc (v := (-1000001)) X wcX6_43 dX6_finds_10 ?_
  refine Cp.iload_n (i := 1) X dX6_finds_12 rfl rfl ?_
  refine Cp.isub X dX6_finds_13 ?_
  exact Cp.iret X dX6_finds_14 rfl
theorem kX6_finds {l : Launch} {w : WE} (hok : OkW w shR)   (x1 : Int32) (σ : Mem) : ∀ v, fX6_finds x1 σ = some v → Ctr l w shR yX6_finds cX6_finds 2 (some .int) 0 [.ref (wad w 0), .int x1] σ (iIM v) := fun v hv => Ctr.of [some (.ref (wad w 0)), some (.int x1)] (by decide) hok rfl (Nat.le_of_ble_eq_true rfl) (fun M _ X => pX6_finds X   x1 σ v hv)
def fX6_sets (x1 : Int32) (x2 : Int32) (x3 : Int32) (σ : Mem) : Option Mem :=
  (gd (inB ((23 + (5 * x1)) + x2) 73 = true) (pb (up2 σ 1 ((23 + (5 * x1)) + x2).toNatClampNeg x3 : Mem) fun s_13 => (some s_13)))
set_option maxRecDepth 20000 in
theorem pX6_sets {M : MC} {w : WE} (X : Cx M w shR cX6_sets 4 RX6 none 0)   (x1 : Int32) (x2 : Int32) (x3 : Int32) (σ : Mem) : Cp M w shR 4 iVM 0 [some (.ref (wad w 0)), some (.int x1), some (.int x2), some (.int x3)] [] σ (fX6_sets x1 x2 x3 σ) := by
  unfold fX6_sets
  refine Cp.aload_n (i := 0) X dX6_sets_0 rfl rfl ?_
  refine gfX6_9 X 1 sr_0 rfl dX6_sets_1 ?_
  refine Cp.bipush (v := 23) X dX6_sets_4 rfl ?_
  refine Cp.iconst (v := 5) X dX6_sets_6 rfl ?_
  refine Cp.iload_n (i := 1) X dX6_sets_7 rfl rfl ?_
  refine Cp.imul X dX6_sets_8 ?_
  refine Cp.iadd X dX6_sets_9 ?_
  refine Cp.iload_n (i := 2) X dX6_sets_10 rfl rfl ?_
  refine Cp.iadd X dX6_sets_11 ?_
  refine Cp.iload_n (i := 3) X dX6_sets_12 rfl rfl ?_
  refine Cp.iast X sr_1 dX6_sets_13 ?_
  refine Cp.nameM (fun s_13 => ?_)
  exact Cp.vret X dX6_sets_14 rfl
theorem kX6_sets {l : Launch} {w : WE} (hok : OkW w shR)   (x1 : Int32) (x2 : Int32) (x3 : Int32) (σ : Mem) : ∀ v, fX6_sets x1 x2 x3 σ = some v → Ctr l w shR yX6_sets cX6_sets 4 none 0 [.ref (wad w 0), .int x1, .int x2, .int x3] σ (iVM v) := fun v hv => Ctr.of [some (.ref (wad w 0)), some (.int x1), some (.int x2), some (.int x3)] (by decide) hok rfl (Nat.le_of_ble_eq_true rfl) (fun M _ X => pX6_sets X   x1 x2 x3 σ v hv)
def fX6_adds (x1 : Int32) (x2 : Int32) (σ : Mem) : Option (Int32 × Mem) :=
  (pb (σ 1 5 : Int32) fun x3_6 => (pb (up2 σ 1 5 ((σ 1 5) + 1) : Mem) fun s_16 => ((fX6_sets x3_6 0 x1 s_16).bind fun s_21 => ((fX6_sets x3_6 1 x2 s_21).bind fun s_28 => ((fX6_sets x3_6 2 1 s_28).bind fun s_35 => ((fX6_sets x3_6 3 3 s_35).bind fun s_42 => ((fX6_sets x3_6 4 100 s_42).bind fun s_50 => (some (x3_6, s_50)))))))))
set_option maxRecDepth 20000 in
theorem pX6_adds {M : MC} {w : WE} (X : Cx M w shR cX6_adds 4 RX6 (some .int) 1)   (x1 : Int32) (x2 : Int32) (σ : Mem) : Cp M w shR 4 iIM 0 [some (.ref (wad w 0)), some (.int x1), some (.int x2), none] [] σ (fX6_adds x1 x2 σ) := by
  unfold fX6_adds
  refine Cp.aload_n (i := 0) X dX6_adds_0 rfl rfl ?_
  refine gfX6_9 X 1 sr_0 rfl dX6_adds_1 ?_
  refine Cp.iconst (v := 5) X dX6_adds_4 rfl ?_
  refine Cp.ialdc (j := 5) X sr_1 (by decide) (by decide) dX6_adds_5 ?_
  refine Cp.nameI (fun x3_6 => ?_)
  refine Cp.istore_n (i := 3) X dX6_adds_6 rfl (Nat.le_of_ble_eq_true rfl) rfl ?_
  refine Cp.aload_n (i := 0) X dX6_adds_7 rfl rfl ?_
  refine gfX6_9 X 1 sr_0 rfl dX6_adds_8 ?_
  refine Cp.iconst (v := 5) X dX6_adds_11 rfl ?_
  refine Cp.dup2 X dX6_adds_12 rfl rfl ?_
  refine Cp.ialdc (j := 5) X sr_1 (by decide) (by decide) dX6_adds_13 ?_
  refine Cp.iconst (v := 1) X dX6_adds_14 rfl ?_
  refine Cp.iadd X dX6_adds_15 ?_
  refine Cp.iastc (j := 5) X sr_1 (by decide) (by decide) dX6_adds_16 ?_
  refine Cp.nameM (fun s_16 => ?_)
  refine Cp.aload_n (i := 0) X dX6_adds_17 rfl rfl ?_
  refine Cp.iload_n (i := 3) X dX6_adds_18 rfl rfl ?_
  refine Cp.iconst (v := 0) X dX6_adds_19 rfl ?_
  refine Cp.iload_n (i := 1) X dX6_adds_20 rfl rfl ?_
  refine Cp.cVV [] X [.int x3_6, .int 0, .int x1] cvX6_sets (kX6_sets X.ok x3_6 0 x1 s_16) sr_0 rfl rfl wmX6_92 rfl rfl dX6_adds_21 rfl (Nat.le_of_ble_eq_true rfl) (fun s_21 => ?_)
  refine Cp.aload_n (i := 0) X dX6_adds_24 rfl rfl ?_
  refine Cp.iload_n (i := 3) X dX6_adds_25 rfl rfl ?_
  refine Cp.iconst (v := 1) X dX6_adds_26 rfl ?_
  refine Cp.iload_n (i := 2) X dX6_adds_27 rfl rfl ?_
  refine Cp.cVV [] X [.int x3_6, .int 1, .int x2] cvX6_sets (kX6_sets X.ok x3_6 1 x2 s_21) sr_0 rfl rfl wmX6_92 rfl rfl dX6_adds_28 rfl (Nat.le_of_ble_eq_true rfl) (fun s_28 => ?_)
  refine Cp.aload_n (i := 0) X dX6_adds_31 rfl rfl ?_
  refine Cp.iload_n (i := 3) X dX6_adds_32 rfl rfl ?_
  refine Cp.iconst (v := 2) X dX6_adds_33 rfl ?_
  refine Cp.iconst (v := 1) X dX6_adds_34 rfl ?_
  refine Cp.cVV [] X [.int x3_6, .int 2, .int 1] cvX6_sets (kX6_sets X.ok x3_6 2 1 s_28) sr_0 rfl rfl wmX6_92 rfl rfl dX6_adds_35 rfl (Nat.le_of_ble_eq_true rfl) (fun s_35 => ?_)
  refine Cp.aload_n (i := 0) X dX6_adds_38 rfl rfl ?_
  refine Cp.iload_n (i := 3) X dX6_adds_39 rfl rfl ?_
  refine Cp.iconst (v := 3) X dX6_adds_40 rfl ?_
  refine Cp.iconst (v := 3) X dX6_adds_41 rfl ?_
  refine Cp.cVV [] X [.int x3_6, .int 3, .int 3] cvX6_sets (kX6_sets X.ok x3_6 3 3 s_35) sr_0 rfl rfl wmX6_92 rfl rfl dX6_adds_42 rfl (Nat.le_of_ble_eq_true rfl) (fun s_42 => ?_)
  refine Cp.aload_n (i := 0) X dX6_adds_45 rfl rfl ?_
  refine Cp.iload_n (i := 3) X dX6_adds_46 rfl rfl ?_
  refine Cp.iconst (v := 4) X dX6_adds_47 rfl ?_
  refine Cp.bipush (v := 100) X dX6_adds_48 rfl ?_
  refine Cp.cVV [] X [.int x3_6, .int 4, .int 100] cvX6_sets (kX6_sets X.ok x3_6 4 100 s_42) sr_0 rfl rfl wmX6_92 rfl rfl dX6_adds_50 rfl (Nat.le_of_ble_eq_true rfl) (fun s_50 => ?_)
  refine Cp.iload_n (i := 3) X dX6_adds_53 rfl rfl ?_
  exact Cp.iret X dX6_adds_54 rfl
theorem kX6_adds {l : Launch} {w : WE} (hok : OkW w shR)   (x1 : Int32) (x2 : Int32) (σ : Mem) : ∀ v, fX6_adds x1 x2 σ = some v → Ctr l w shR yX6_adds cX6_adds 4 (some .int) 1 [.ref (wad w 0), .int x1, .int x2] σ (iIM v) := fun v hv => Ctr.of [some (.ref (wad w 0)), some (.int x1), some (.int x2), none] (by decide) hok rfl (Nat.le_of_ble_eq_true rfl) (fun M _ X => pX6_adds X   x1 x2 σ v hv)
def fX6_person (x1 : Int32) (x2 : Int32) (σ : Mem) : Option (Int32 × Mem) :=
  (if fX6_isKind x1 = true then (if fX6_isSeat x2 = true then (if (σ 1 5) = 8 then (bnd2 (fX6_finds 1 σ) fun v_33 s_33 => (some (v_33, s_33))) else (bnd2 (fX6_adds x1 x2 σ) fun v_42 s_42 => (some (v_42, s_42)))) else (bnd2 (fX6_finds 0 σ) fun v_16 s_16 => (some (v_16, s_16)))) else (bnd2 (fX6_finds 0 σ) fun v_16 s_16 => (some (v_16, s_16))))
set_option maxRecDepth 20000 in
theorem pX6_person {M : MC} {w : WE} (X : Cx M w shR cX6_person 3 RX6 (some .int) 2)   (x1 : Int32) (x2 : Int32) (σ : Mem) : Cp M w shR 3 iIM 0 [some (.ref (wad w 0)), some (.int x1), some (.int x2)] [] σ (fX6_person x1 x2 σ) := by
  unfold fX6_person
  refine Cp.iload_n (i := 1) X dX6_person_0 rfl rfl ?_
  refine Cp.cSBT [] X [.int x1] csX6_isKind (kX6_isKind X.ok x1 σ) wmX6_96 rfl rfl dX6_person_1 rfl (Nat.le_of_ble_eq_true rfl) ?_
  refine Cp.if_eqB X 14 dX6_person_4 (by decide) (fun c_4 => ?_) (fun c_4 => ?_)
  · refine Cp.aload_n (i := 0) X dX6_person_14 rfl rfl ?_
    refine Cp.iconst (v := 0) X dX6_person_15 rfl ?_
    refine Cp.cVIM [] X [.int 0] cvX6_finds (kX6_finds X.ok 0 σ) sr_0 rfl rfl wmX6_103 rfl rfl dX6_person_16 rfl (Nat.le_of_ble_eq_true rfl) (fun v_16 s_16 => ?_)
    exact Cp.iret X dX6_person_19 rfl
  · refine Cp.iload_n (i := 2) X dX6_person_7 rfl rfl ?_
    refine Cp.cSBT [] X [.int x2] csX6_isSeat (kX6_isSeat X.ok x2 σ) wmX6_100 rfl rfl dX6_person_8 rfl (Nat.le_of_ble_eq_true rfl) ?_
    refine Cp.if_neB X 20 dX6_person_11 (by decide) (fun c_11 => ?_) (fun c_11 => ?_)
    · refine Cp.aload_n (i := 0) X dX6_person_20 rfl rfl ?_
      refine gfX6_9 X 1 sr_0 rfl dX6_person_21 ?_
      refine Cp.iconst (v := 5) X dX6_person_24 rfl ?_
      refine Cp.ialdc (j := 5) X sr_1 (by decide) (by decide) dX6_person_25 ?_
      refine Cp.bipush (v := 8) X dX6_person_26 rfl ?_
      refine Cp.icmp_ne X 39 dX6_person_28 (by decide) (fun c_28 => ?_) (fun c_28 => ?_)
      · refine Cp.aload_n (i := 0) X dX6_person_39 rfl rfl ?_
        refine Cp.iload_n (i := 1) X dX6_person_40 rfl rfl ?_
        refine Cp.iload_n (i := 2) X dX6_person_41 rfl rfl ?_
        refine Cp.cVIM [] X [.int x1, .int x2] cvX6_adds (kX6_adds X.ok x1 x2 σ) sr_0 rfl rfl wmX6_106 rfl rfl dX6_person_42 rfl (Nat.le_of_ble_eq_true rfl) (fun v_42 s_42 => ?_)
        exact Cp.iret X dX6_person_45 rfl
      · refine Cp.aload_n (i := 0) X dX6_person_31 rfl rfl ?_
        refine Cp.iconst (v := 1) X dX6_person_32 rfl ?_
        refine Cp.cVIM [] X [.int 1] cvX6_finds (kX6_finds X.ok 1 σ) sr_0 rfl rfl wmX6_103 rfl rfl dX6_person_33 rfl (Nat.le_of_ble_eq_true rfl) (fun v_33 s_33 => ?_)
        refine Cp.goto X 45 dX6_person_36 (by decide) ?_
        exact Cp.iret X dX6_person_45 rfl
    · refine Cp.aload_n (i := 0) X dX6_person_14 rfl rfl ?_
      refine Cp.iconst (v := 0) X dX6_person_15 rfl ?_
      refine Cp.cVIM [] X [.int 0] cvX6_finds (kX6_finds X.ok 0 σ) sr_0 rfl rfl wmX6_103 rfl rfl dX6_person_16 rfl (Nat.le_of_ble_eq_true rfl) (fun v_16 s_16 => ?_)
      exact Cp.iret X dX6_person_19 rfl
theorem kX6_person {l : Launch} {w : WE} (hok : OkW w shR)   (x1 : Int32) (x2 : Int32) (σ : Mem) : ∀ v, fX6_person x1 x2 σ = some v → Ctr l w shR yX6_person cX6_person 3 (some .int) 2 [.ref (wad w 0), .int x1, .int x2] σ (iIM v) := fun v hv => Ctr.of [some (.ref (wad w 0)), some (.int x1), some (.int x2)] (by decide) hok rfl (Nat.le_of_ble_eq_true rfl) (fun M _ X => pX6_person X   x1 x2 σ v hv)
def fX6_isPerson (x1 : Int32) (σ : Mem) : Bool :=
  fX6_in ((x1 : Int32).toInt64) 0 (((σ 1 5) - 1 : Int32).toInt64)
set_option maxRecDepth 20000 in
theorem pX6_isPerson {M : MC} {w : WE} (X : Cx M w shR cX6_isPerson 2 RX6 (some .boolean) 1)   (x1 : Int32) (σ : Mem) : Cp M w shR 2 (iB σ) 0 [some (.ref (wad w 0)), some (.int x1)] [] σ (some (fX6_isPerson x1 σ)) := by
  unfold fX6_isPerson
  refine Cp.iload_n (i := 1) X dX6_isPerson_0 rfl rfl ?_
  refine Cp.i2l X dX6_isPerson_1 ?_
  refine Cp.lconst (v := 0) X dX6_isPerson_2 rfl ?_
  refine Cp.aload_n (i := 0) X dX6_isPerson_3 rfl rfl ?_
  refine gfX6_9 X 1 sr_0 rfl dX6_isPerson_4 ?_
  refine Cp.iconst (v := 5) X dX6_isPerson_7 rfl ?_
  refine Cp.ialdc (j := 5) X sr_1 (by decide) (by decide) dX6_isPerson_8 ?_
  refine Cp.iconst (v := 1) X dX6_isPerson_9 rfl ?_
  refine Cp.isub X dX6_isPerson_10 ?_
  refine Cp.i2l X dX6_isPerson_11 ?_
  refine Cp.cSBT [] X [.long ((x1 : Int32).toInt64), .long 0, .long (((σ 1 5) - 1 : Int32).toInt64)] csX6_in (kX6_in X.ok ((x1 : Int32).toInt64) 0 (((σ 1 5) - 1 : Int32).toInt64) σ) wmX6_48 rfl rfl dX6_isPerson_12 rfl (Nat.le_of_ble_eq_true rfl) ?_
  exact Cp.bret X dX6_isPerson_15 rfl
theorem kX6_isPerson {l : Launch} {w : WE} (hok : OkW w shR)   (x1 : Int32) (σ : Mem) : Ctr l w shR yX6_isPerson cX6_isPerson 2 (some .boolean) 1 [.ref (wad w 0), .int x1] σ ((iB σ) (fX6_isPerson x1 σ)) := Ctr.of [some (.ref (wad w 0)), some (.int x1)] (by decide) hok rfl (Nat.le_of_ble_eq_true rfl) (fun M _ X => pX6_isPerson X   x1 σ _ rfl)
def fX6_its (x1 : Int32) (x2 : Int32) (σ : Mem) : Option Int32 :=
  (gd (inB ((23 + (5 * x1)) + x2) 73 = true) (some (σ 1 ((23 + (5 * x1)) + x2).toNatClampNeg)))
set_option maxRecDepth 20000 in
theorem pX6_its {M : MC} {w : WE} (X : Cx M w shR cX6_its 3 RX6 (some .int) 0)   (x1 : Int32) (x2 : Int32) (σ : Mem) : Cp M w shR 3 (iI σ) 0 [some (.ref (wad w 0)), some (.int x1), some (.int x2)] [] σ (fX6_its x1 x2 σ) := by
  unfold fX6_its
  refine Cp.aload_n (i := 0) X dX6_its_0 rfl rfl ?_
  refine gfX6_9 X 1 sr_0 rfl dX6_its_1 ?_
  refine Cp.bipush (v := 23) X dX6_its_4 rfl ?_
  refine Cp.iconst (v := 5) X dX6_its_6 rfl ?_
  refine Cp.iload_n (i := 1) X dX6_its_7 rfl rfl ?_
  refine Cp.imul X dX6_its_8 ?_
  refine Cp.iadd X dX6_its_9 ?_
  refine Cp.iload_n (i := 2) X dX6_its_10 rfl rfl ?_
  refine Cp.iadd X dX6_its_11 ?_
  refine Cp.iald X sr_1 dX6_its_12 ?_
  exact Cp.iret X dX6_its_13 rfl
theorem kX6_its {l : Launch} {w : WE} (hok : OkW w shR)   (x1 : Int32) (x2 : Int32) (σ : Mem) : ∀ v, fX6_its x1 x2 σ = some v → Ctr l w shR yX6_its cX6_its 3 (some .int) 0 [.ref (wad w 0), .int x1, .int x2] σ ((iI σ) v) := fun v hv => Ctr.of [some (.ref (wad w 0)), some (.int x1), some (.int x2)] (by decide) hok rfl (Nat.le_of_ble_eq_true rfl) (fun M _ X => pX6_its X   x1 x2 σ v hv)
def fX6_bound (x1 : Int32) (σ : Mem) : Option Int32 :=
  ((fX6_its x1 4 σ).bind fun v_7 => (pb (8 + (iMin 20 (v_7 / 10)) : Int32) fun x2_17 => ((fX6_its x1 0 σ).bind fun v_21 => (if v_21 = 1 then (some x2_17) else (if v_21 = 2 then (some 4) else (if v_21 = 3 then (some 3) else (if v_21 = 4 then (some 93) else (if v_21 = 5 then (some 5) else (if v_21 = 6 then (some (x2_17 + 4)) else (some 8))))))))))
set_option maxRecDepth 20000 in
theorem pX6_bound {M : MC} {w : WE} (X : Cx M w shR cX6_bound 3 RX6 (some .int) 1)   (x1 : Int32) (σ : Mem) : Cp M w shR 3 (iI σ) 0 [some (.ref (wad w 0)), some (.int x1), none] [] σ (fX6_bound x1 σ) := by
  unfold fX6_bound
  refine Cp.bipush (v := 8) X dX6_bound_0 rfl ?_
  refine Cp.bipush (v := 20) X dX6_bound_2 rfl ?_
  refine Cp.aload_n (i := 0) X dX6_bound_4 rfl rfl ?_
  refine Cp.iload_n (i := 1) X dX6_bound_5 rfl rfl ?_
  refine Cp.iconst (v := 4) X dX6_bound_6 rfl ?_
  refine Cp.cVI [.int 20, .int 8] X [.int x1, .int 4] cvX6_its (kX6_its X.ok x1 4 σ) sr_0 rfl rfl wmX6_64 rfl rfl dX6_bound_7 rfl (Nat.le_of_ble_eq_true rfl) (fun v_7 => ?_)
  refine Cp.bipush (v := 10) X dX6_bound_10 rfl ?_
  refine Cp.idiv X dX6_bound_12 (by decide) ?_
  refine Cp.mmin X wqX6_68 (by decide) dX6_bound_13 (Nat.le_of_ble_eq_true rfl) ?_
  refine Cp.iadd X dX6_bound_16 ?_
  refine Cp.nameI (fun x2_17 => ?_)
  refine Cp.istore_n (i := 2) X dX6_bound_17 rfl (Nat.le_of_ble_eq_true rfl) rfl ?_
  refine Cp.aload_n (i := 0) X dX6_bound_18 rfl rfl ?_
  refine Cp.iload_n (i := 1) X dX6_bound_19 rfl rfl ?_
  refine Cp.iconst (v := 0) X dX6_bound_20 rfl ?_
  refine Cp.cVI [] X [.int x1, .int 0] cvX6_its (kX6_its X.ok x1 0 σ) sr_0 rfl rfl wmX6_64 rfl rfl dX6_bound_21 rfl (Nat.le_of_ble_eq_true rfl) (fun v_21 => ?_)
  refine Cp.ite (fun c_24 => ?_) (fun n_24_0 => ?_)
  · refine Cp.tswI X 1 64 c_24 dX6_bound_24 (by decide) (by decide) rfl (by decide) ?_
    refine Cp.iload_n (i := 2) X dX6_bound_64 rfl rfl ?_
    exact Cp.iret X dX6_bound_65 rfl
  refine Cp.ite (fun c_24 => ?_) (fun n_24_1 => ?_)
  · refine Cp.tswI X 2 70 c_24 dX6_bound_24 (by decide) (by decide) rfl (by decide) ?_
    refine Cp.iconst (v := 4) X dX6_bound_70 rfl ?_
    exact Cp.iret X dX6_bound_71 rfl
  refine Cp.ite (fun c_24 => ?_) (fun n_24_2 => ?_)
  · refine Cp.tswI X 3 72 c_24 dX6_bound_24 (by decide) (by decide) rfl (by decide) ?_
    refine Cp.iconst (v := 3) X dX6_bound_72 rfl ?_
    exact Cp.iret X dX6_bound_73 rfl
  refine Cp.ite (fun c_24 => ?_) (fun n_24_3 => ?_)
  · refine Cp.tswI X 4 74 c_24 dX6_bound_24 (by decide) (by decide) rfl (by decide) ?_
    refine Cp.bipush (v := 93) X dX6_bound_74 rfl ?_
    exact Cp.iret X dX6_bound_76 rfl
  refine Cp.ite (fun c_24 => ?_) (fun n_24_4 => ?_)
  · refine Cp.tswI X 5 77 c_24 dX6_bound_24 (by decide) (by decide) rfl (by decide) ?_
    refine Cp.iconst (v := 5) X dX6_bound_77 rfl ?_
    exact Cp.iret X dX6_bound_78 rfl
  refine Cp.ite (fun c_24 => ?_) (fun n_24_5 => ?_)
  · refine Cp.tswI X 6 66 c_24 dX6_bound_24 (by decide) (by decide) rfl (by decide) ?_
    refine Cp.iload_n (i := 2) X dX6_bound_66 rfl rfl ?_
    refine Cp.iconst (v := 4) X dX6_bound_67 rfl ?_
    refine Cp.iadd X dX6_bound_68 ?_
    exact Cp.iret X dX6_bound_69 rfl
  have m_24_0 := lv_neT (a := 1) n_24_0 (by decide)
  have m_24_1 := lv_neT (a := 2) n_24_1 (by decide)
  have m_24_2 := lv_neT (a := 3) n_24_2 (by decide)
  have m_24_3 := lv_neT (a := 4) n_24_3 (by decide)
  have m_24_4 := lv_neT (a := 5) n_24_4 (by decide)
  have m_24_5 := lv_neT (a := 6) n_24_5 (by decide)
  refine Cp.tswD X 79 (by omega) dX6_bound_24 (by decide) ?_
  refine Cp.bipush (v := 8) X dX6_bound_79 rfl ?_
  exact Cp.iret X dX6_bound_81 rfl
theorem kX6_bound {l : Launch} {w : WE} (hok : OkW w shR)   (x1 : Int32) (σ : Mem) : ∀ v, fX6_bound x1 σ = some v → Ctr l w shR yX6_bound cX6_bound 3 (some .int) 1 [.ref (wad w 0), .int x1] σ ((iI σ) v) := fun v hv => Ctr.of [some (.ref (wad w 0)), some (.int x1), none] (by decide) hok rfl (Nat.le_of_ble_eq_true rfl) (fun M _ X => pX6_bound X   x1 σ v hv)
def fX6_numberOf (x1 : Int32) (σ : Mem) : Option Int32 :=
  ((fX6_its x1 0 σ).bind fun v_3 => (if v_3 = 1 then (some 3) else (if v_3 = 2 then (some 1) else (if v_3 = 3 then (some 1) else (if v_3 = 4 then (some 9) else (if v_3 = 5 then ((fX6_its x1 3 σ).bind fun v_57 => (if v_57 < 5 then (some 2) else (some 1))) else (if v_3 = 6 then (some 6) else (some 2))))))))
set_option maxRecDepth 20000 in
theorem pX6_numberOf {M : MC} {w : WE} (X : Cx M w shR cX6_numberOf 2 RX6 (some .int) 1)   (x1 : Int32) (σ : Mem) : Cp M w shR 2 (iI σ) 0 [some (.ref (wad w 0)), some (.int x1)] [] σ (fX6_numberOf x1 σ) := by
  unfold fX6_numberOf
  refine Cp.aload_n (i := 0) X dX6_numberOf_0 rfl rfl ?_
  refine Cp.iload_n (i := 1) X dX6_numberOf_1 rfl rfl ?_
  refine Cp.iconst (v := 0) X dX6_numberOf_2 rfl ?_
  refine Cp.cVI [] X [.int x1, .int 0] cvX6_its (kX6_its X.ok x1 0 σ) sr_0 rfl rfl wmX6_64 rfl rfl dX6_numberOf_3 rfl (Nat.le_of_ble_eq_true rfl) (fun v_3 => ?_)
  refine Cp.ite (fun c_6 => ?_) (fun n_6_0 => ?_)
  · refine Cp.tswI X 1 44 c_6 dX6_numberOf_6 (by decide) (by decide) rfl (by decide) ?_
    refine Cp.iconst (v := 3) X dX6_numberOf_44 rfl ?_
    exact Cp.iret X dX6_numberOf_45 rfl
  refine Cp.ite (fun c_6 => ?_) (fun n_6_1 => ?_)
  · refine Cp.tswI X 2 49 c_6 dX6_numberOf_6 (by decide) (by decide) rfl (by decide) ?_
    refine Cp.iconst (v := 1) X dX6_numberOf_49 rfl ?_
    exact Cp.iret X dX6_numberOf_50 rfl
  refine Cp.ite (fun c_6 => ?_) (fun n_6_2 => ?_)
  · refine Cp.tswI X 3 49 c_6 dX6_numberOf_6 (by decide) (by decide) rfl (by decide) ?_
    refine Cp.iconst (v := 1) X dX6_numberOf_49 rfl ?_
    exact Cp.iret X dX6_numberOf_50 rfl
  refine Cp.ite (fun c_6 => ?_) (fun n_6_3 => ?_)
  · refine Cp.tswI X 4 51 c_6 dX6_numberOf_6 (by decide) (by decide) rfl (by decide) ?_
    refine Cp.bipush (v := 9) X dX6_numberOf_51 rfl ?_
    exact Cp.iret X dX6_numberOf_53 rfl
  refine Cp.ite (fun c_6 => ?_) (fun n_6_4 => ?_)
  · refine Cp.tswI X 5 54 c_6 dX6_numberOf_6 (by decide) (by decide) rfl (by decide) ?_
    refine Cp.aload_n (i := 0) X dX6_numberOf_54 rfl rfl ?_
    refine Cp.iload_n (i := 1) X dX6_numberOf_55 rfl rfl ?_
    refine Cp.iconst (v := 3) X dX6_numberOf_56 rfl ?_
    refine Cp.cVI [] X [.int x1, .int 3] cvX6_its (kX6_its X.ok x1 3 σ) sr_0 rfl rfl wmX6_64 rfl rfl dX6_numberOf_57 rfl (Nat.le_of_ble_eq_true rfl) (fun v_57 => ?_)
    refine Cp.iconst (v := 5) X dX6_numberOf_60 rfl ?_
    refine Cp.icmp_lt X 68 dX6_numberOf_61 (by decide) (fun c_61 => ?_) (fun c_61 => ?_)
    · refine Cp.iconst (v := 2) X dX6_numberOf_68 rfl ?_
      exact Cp.iret X dX6_numberOf_69 rfl
    · refine Cp.iconst (v := 1) X dX6_numberOf_64 rfl ?_
      refine Cp.goto X 69 dX6_numberOf_65 (by decide) ?_
      exact Cp.iret X dX6_numberOf_69 rfl
  refine Cp.ite (fun c_6 => ?_) (fun n_6_5 => ?_)
  · refine Cp.tswI X 6 46 c_6 dX6_numberOf_6 (by decide) (by decide) rfl (by decide) ?_
    refine Cp.bipush (v := 6) X dX6_numberOf_46 rfl ?_
    exact Cp.iret X dX6_numberOf_48 rfl
  have m_6_0 := lv_neT (a := 1) n_6_0 (by decide)
  have m_6_1 := lv_neT (a := 2) n_6_1 (by decide)
  have m_6_2 := lv_neT (a := 3) n_6_2 (by decide)
  have m_6_3 := lv_neT (a := 4) n_6_3 (by decide)
  have m_6_4 := lv_neT (a := 5) n_6_4 (by decide)
  have m_6_5 := lv_neT (a := 6) n_6_5 (by decide)
  refine Cp.tswD X 70 (by omega) dX6_numberOf_6 (by decide) ?_
  refine Cp.iconst (v := 2) X dX6_numberOf_70 rfl ?_
  exact Cp.iret X dX6_numberOf_71 rfl
theorem kX6_numberOf {l : Launch} {w : WE} (hok : OkW w shR)   (x1 : Int32) (σ : Mem) : ∀ v, fX6_numberOf x1 σ = some v → Ctr l w shR yX6_numberOf cX6_numberOf 2 (some .int) 1 [.ref (wad w 0), .int x1] σ ((iI σ) v) := fun v hv => Ctr.of [some (.ref (wad w 0)), some (.int x1)] (by decide) hok rfl (Nat.le_of_ble_eq_true rfl) (fun M _ X => pX6_numberOf X   x1 σ v hv)
def fX6_near_49 (k4 : Int32 → Int32 → Option Int32) (x1 : Int32) (x2 : Int32) (x3 : Int32) (t0 : Int32) (σ : Mem) : Option Int32 :=
  (if t0 = 0 then (pb (x2 ||| 0 : Int32) fun x2_65 => (k4 x2_65 (x3 + 1))) else (pb (x2 ||| (1 <<< (x3 &&& 31)) : Int32) fun x2_65 => (k4 x2_65 (x3 + 1))))
def fX6_near_48 (k4 : Int32 → Int32 → Option Int32) (x1 : Int32) (x2 : Int32) (x3 : Int32) (σ : Mem) : Option Int32 :=
  (fX6_near_49 k4 x1 x2 x3 0 σ)
def fX6_near_4 (x1 : Int32) (σ : Mem) (k4 : Int32 → Int32 → Option Int32) (x2 : Int32) (x3 : Int32) : Option Int32 :=
  (if (σ 1 5) ≤ x3 then (some x2) else (if x3 = x1 then (fX6_near_48 k4 x1 x2 x3 σ) else ((fX6_its x3 1 σ).bind fun v_22 => ((fX6_its x1 1 σ).bind fun v_28 => (if (σ 1 1) < (iAbs (v_22 - v_28)) then (fX6_near_48 k4 x1 x2 x3 σ) else (fX6_near_49 k4 x1 x2 x3 1 σ))))))
def fX6_near (x1 : Int32) (σ : Mem) : Option Int32 :=
  (lw2 (fX6_near_4 x1 σ) FU 0 0)
set_option maxRecDepth 20000 in
theorem pX6_near_49 {M : MC} {w : WE} (X : Cx M w shR cX6_near 5 RX6 (some .int) 1)   (x1 : Int32) (x2 : Int32) (x3 : Int32) (t0 : Int32)  (σ : Mem) (k4 : Int32 → Int32 → Option Int32) (hk4 : ∀ (x2 : Int32) (x3 : Int32), Cp M w shR 5 (iI σ) 4 [some (.ref (wad w 0)), some (.int x1), some (.int x2), some (.int x3), none] [] σ (k4 x2 x3)) : Cp M w shR 5 (iI σ) 49 [some (.ref (wad w 0)), some (.int x1), some (.int x2), some (.int x3), none] [.int t0] σ (fX6_near_49 k4 x1 x2 x3 t0 σ) := by
  unfold fX6_near_49
  refine Cp.istore X dX6_near_49 (Nat.le_of_ble_eq_true rfl) rfl ?_
  refine Cp.iload_n (i := 2) X dX6_near_51 rfl rfl ?_
  refine Cp.iload X dX6_near_52 rfl ?_
  refine Cp.if_eq X 63 dX6_near_54 (by decide) (fun c_54 => ?_) (fun c_54 => ?_)
  · refine Cp.iconst (v := 0) X dX6_near_63 rfl ?_
    refine Cp.ior X dX6_near_64 ?_
    refine Cp.nameI (fun x2_65 => ?_)
    refine Cp.istore_n (i := 2) X dX6_near_65 rfl (Nat.le_of_ble_eq_true rfl) rfl ?_
    refine Cp.iinc (v := x3 + 1) X dX6_near_66 rfl rfl (Nat.le_of_ble_eq_true rfl) rfl ?_
    refine Cp.goto X 4 dX6_near_69 (by decide) ?_
    refine Cp.mask [true, true, true, true, false] ?_
    exact hk4 x2_65 (x3 + 1)
  · refine Cp.iconst (v := 1) X dX6_near_57 rfl ?_
    refine Cp.iload_n (i := 3) X dX6_near_58 rfl rfl ?_
    refine Cp.ishl X dX6_near_59 ?_
    refine Cp.goto X 64 dX6_near_60 (by decide) ?_
    refine Cp.ior X dX6_near_64 ?_
    refine Cp.nameI (fun x2_65 => ?_)
    refine Cp.istore_n (i := 2) X dX6_near_65 rfl (Nat.le_of_ble_eq_true rfl) rfl ?_
    refine Cp.iinc (v := x3 + 1) X dX6_near_66 rfl rfl (Nat.le_of_ble_eq_true rfl) rfl ?_
    refine Cp.goto X 4 dX6_near_69 (by decide) ?_
    refine Cp.mask [true, true, true, true, false] ?_
    exact hk4 x2_65 (x3 + 1)
set_option maxRecDepth 20000 in
theorem pX6_near_48 {M : MC} {w : WE} (X : Cx M w shR cX6_near 5 RX6 (some .int) 1)   (x1 : Int32) (x2 : Int32) (x3 : Int32)  (σ : Mem) (k4 : Int32 → Int32 → Option Int32) (hk4 : ∀ (x2 : Int32) (x3 : Int32), Cp M w shR 5 (iI σ) 4 [some (.ref (wad w 0)), some (.int x1), some (.int x2), some (.int x3), none] [] σ (k4 x2 x3)) : Cp M w shR 5 (iI σ) 48 [some (.ref (wad w 0)), some (.int x1), some (.int x2), some (.int x3), none] [] σ (fX6_near_48 k4 x1 x2 x3 σ) := by
  unfold fX6_near_48
  refine Cp.iconst (v := 0) X dX6_near_48 rfl ?_
  exact pX6_near_49 X x1 x2 x3 0 σ k4 hk4
set_option maxRecDepth 20000 in
theorem pX6_near_4 {M : MC} {w : WE} (X : Cx M w shR cX6_near 5 RX6 (some .int) 1)   (x1 : Int32)  (σ : Mem)  : ∀ (n : Nat) (x2 : Int32) (x3 : Int32), Cp M w shR 5 (iI σ) 4 [some (.ref (wad w 0)), some (.int x1), some (.int x2), some (.int x3), none] [] σ (lw2 (fX6_near_4 x1 σ) n x2 x3) :=
  lw2_i (P := fun x2 x3 b => Cp M w shR 5 (iI σ) 4 [some (.ref (wad w 0)), some (.int x1), some (.int x2), some (.int x3), none] [] σ b) (fun _ _ => Cp.non) (fun k4 hk4 x2 x3 => by
  unfold fX6_near_4
  refine Cp.iload_n (i := 3) X dX6_near_4 rfl rfl ?_
  refine Cp.aload_n (i := 0) X dX6_near_5 rfl rfl ?_
  refine gfX6_9 X 1 sr_0 rfl dX6_near_6 ?_
  refine Cp.iconst (v := 5) X dX6_near_9 rfl ?_
  refine Cp.ialdc (j := 5) X sr_1 (by decide) (by decide) dX6_near_10 ?_
  refine Cp.icmp_ge X 72 dX6_near_11 (by decide) (fun c_11 => ?_) (fun c_11 => ?_)
  · refine Cp.iload_n (i := 2) X dX6_near_72 rfl rfl ?_
    exact Cp.iret X dX6_near_73 rfl
  · refine Cp.iload_n (i := 3) X dX6_near_14 rfl rfl ?_
    refine Cp.iload_n (i := 1) X dX6_near_15 rfl rfl ?_
    refine Cp.icmp_eq X 48 dX6_near_16 (by decide) (fun c_16 => ?_) (fun c_16 => ?_)
    · exact pX6_near_48 X x1 x2 x3 σ k4 hk4
    · refine Cp.aload_n (i := 0) X dX6_near_19 rfl rfl ?_
      refine Cp.iload_n (i := 3) X dX6_near_20 rfl rfl ?_
      refine Cp.iconst (v := 1) X dX6_near_21 rfl ?_
      refine Cp.cVI [] X [.int x3, .int 1] cvX6_its (kX6_its X.ok x3 1 σ) sr_0 rfl rfl wmX6_64 rfl rfl dX6_near_22 rfl (Nat.le_of_ble_eq_true rfl) (fun v_22 => ?_)
      refine Cp.aload_n (i := 0) X dX6_near_25 rfl rfl ?_
      refine Cp.iload_n (i := 1) X dX6_near_26 rfl rfl ?_
      refine Cp.iconst (v := 1) X dX6_near_27 rfl ?_
      refine Cp.cVI [.int v_22] X [.int x1, .int 1] cvX6_its (kX6_its X.ok x1 1 σ) sr_0 rfl rfl wmX6_64 rfl rfl dX6_near_28 rfl (Nat.le_of_ble_eq_true rfl) (fun v_28 => ?_)
      refine Cp.isub X dX6_near_31 ?_
      refine Cp.mabs X wqX6_73 (by decide) dX6_near_32 (Nat.le_of_ble_eq_true rfl) ?_
      refine Cp.aload_n (i := 0) X dX6_near_35 rfl rfl ?_
      refine gfX6_9 X 1 sr_0 rfl dX6_near_36 ?_
      refine Cp.iconst (v := 1) X dX6_near_39 rfl ?_
      refine Cp.ialdc (j := 1) X sr_1 (by decide) (by decide) dX6_near_40 ?_
      refine Cp.icmp_gt X 48 dX6_near_41 (by decide) (fun c_41 => ?_) (fun c_41 => ?_)
      · exact pX6_near_48 X x1 x2 x3 σ k4 hk4
      · refine Cp.iconst (v := 1) X dX6_near_44 rfl ?_
        refine Cp.goto X 49 dX6_near_45 (by decide) ?_
        exact pX6_near_49 X x1 x2 x3 1 σ k4 hk4)
set_option maxRecDepth 20000 in
theorem pX6_near {M : MC} {w : WE} (X : Cx M w shR cX6_near 5 RX6 (some .int) 1)   (x1 : Int32) (σ : Mem) : Cp M w shR 5 (iI σ) 0 [some (.ref (wad w 0)), some (.int x1), none, none, none] [] σ (fX6_near x1 σ) := by
  unfold fX6_near
  refine Cp.iconst (v := 0) X dX6_near_0 rfl ?_
  refine Cp.istore_n (i := 2) X dX6_near_1 rfl (Nat.le_of_ble_eq_true rfl) rfl ?_
  refine Cp.iconst (v := 0) X dX6_near_2 rfl ?_
  refine Cp.istore_n (i := 3) X dX6_near_3 rfl (Nat.le_of_ble_eq_true rfl) rfl ?_
  exact pX6_near_4 X x1 σ FU 0 0
theorem kX6_near {l : Launch} {w : WE} (hok : OkW w shR)   (x1 : Int32) (σ : Mem) : ∀ v, fX6_near x1 σ = some v → Ctr l w shR yX6_near cX6_near 5 (some .int) 1 [.ref (wad w 0), .int x1] σ ((iI σ) v) := fun v hv => Ctr.of [some (.ref (wad w 0)), some (.int x1), none, none, none] (by decide) hok rfl (Nat.le_of_ble_eq_true rfl) (fun M _ X => pX6_near X   x1 σ v hv)
def fX6_ones_4 (x0 : Int32) (k4 : Int32 → Int32 → Option Int32) (x1 : Int32) (x2 : Int32) : Option Int32 :=
  (if 8 ≤ x2 then (some x1) else (pb (x1 + ((x0 >>> (x2 &&& 31)) &&& 1) : Int32) fun x1_17 => (k4 x1_17 (x2 + 1))))
def fX6_ones (x0 : Int32) : Option Int32 :=
  (lw2 (fX6_ones_4 x0) FU 0 0)
set_option maxRecDepth 20000 in
theorem pX6_ones_4 {M : MC} {w : WE} (X : Cx M w shR cX6_ones 3 RX6 (some .int) 0)   (x0 : Int32)  (σ : Mem)  : ∀ (n : Nat) (x1 : Int32) (x2 : Int32), Cp M w shR 3 (iI σ) 4 [some (.int x0), some (.int x1), some (.int x2)] [] σ (lw2 (fX6_ones_4 x0) n x1 x2) :=
  lw2_i (P := fun x1 x2 b => Cp M w shR 3 (iI σ) 4 [some (.int x0), some (.int x1), some (.int x2)] [] σ b) (fun _ _ => Cp.non) (fun k4 hk4 x1 x2 => by
  unfold fX6_ones_4
  refine Cp.iload_n (i := 2) X dX6_ones_4 rfl rfl ?_
  refine Cp.bipush (v := 8) X dX6_ones_5 rfl ?_
  refine Cp.icmp_ge X 24 dX6_ones_7 (by decide) (fun c_7 => ?_) (fun c_7 => ?_)
  · refine Cp.iload_n (i := 1) X dX6_ones_24 rfl rfl ?_
    exact Cp.iret X dX6_ones_25 rfl
  · refine Cp.iload_n (i := 1) X dX6_ones_10 rfl rfl ?_
    refine Cp.iload_n (i := 0) X dX6_ones_11 rfl rfl ?_
    refine Cp.iload_n (i := 2) X dX6_ones_12 rfl rfl ?_
    refine Cp.ishr X dX6_ones_13 ?_
    refine Cp.iconst (v := 1) X dX6_ones_14 rfl ?_
    refine Cp.iand X dX6_ones_15 ?_
    refine Cp.iadd X dX6_ones_16 ?_
    refine Cp.nameI (fun x1_17 => ?_)
    refine Cp.istore_n (i := 1) X dX6_ones_17 rfl (Nat.le_of_ble_eq_true rfl) rfl ?_
    refine Cp.iinc (v := x2 + 1) X dX6_ones_18 rfl rfl (Nat.le_of_ble_eq_true rfl) rfl ?_
    refine Cp.goto X 4 dX6_ones_21 (by decide) ?_
    exact hk4 x1_17 (x2 + 1))
set_option maxRecDepth 20000 in
theorem pX6_ones {M : MC} {w : WE} (X : Cx M w shR cX6_ones 3 RX6 (some .int) 0)   (x0 : Int32) (σ : Mem) : Cp M w shR 3 (iI σ) 0 [some (.int x0), none, none] [] σ (fX6_ones x0) := by
  unfold fX6_ones
  refine Cp.iconst (v := 0) X dX6_ones_0 rfl ?_
  refine Cp.istore_n (i := 1) X dX6_ones_1 rfl (Nat.le_of_ble_eq_true rfl) rfl ?_
  refine Cp.iconst (v := 0) X dX6_ones_2 rfl ?_
  refine Cp.istore_n (i := 2) X dX6_ones_3 rfl (Nat.le_of_ble_eq_true rfl) rfl ?_
  exact pX6_ones_4 X x0 σ FU 0 0
theorem kX6_ones {l : Launch} {w : WE} (hok : OkW w shR)   (x0 : Int32) (σ : Mem) : ∀ v, fX6_ones x0 = some v → Ctr l w shR yX6_ones cX6_ones 3 (some .int) 0 [.int x0] σ ((iI σ) v) := fun v hv => Ctr.of [some (.int x0), none, none] (by decide) hok rfl (Nat.le_of_ble_eq_true rfl) (fun M _ X => pX6_ones X   x0 σ v hv)
def fX6_of (x1 : Int32) (x2 : Int32) (σ : Mem) : Option (Int32 × Mem) :=
  (if fX6_isPerson x1 σ = true then (if fX6_in ((x2 : Int32).toInt64) 0 7 = true then (if x2 = 5 then ((fX6_bound x1 σ).bind fun v_54 => (some (v_54, σ))) else (if x2 = 6 then ((fX6_numberOf x1 σ).bind fun v_60 => (some (v_60, σ))) else (if x2 = 7 then ((fX6_near x1 σ).bind fun v_66 => ((fX6_ones v_66).bind fun v_69 => (some (v_69, σ)))) else ((fX6_its x1 x2 σ).bind fun v_76 => (some (v_76, σ)))))) else (bnd2 (fX6_finds 0 σ) fun v_22 s_22 => (some (v_22, s_22)))) else (bnd2 (fX6_finds 0 σ) fun v_22 s_22 => (some (v_22, s_22))))
set_option maxRecDepth 20000 in
theorem pX6_of {M : MC} {w : WE} (X : Cx M w shR cX6_of 3 RX6 (some .int) 2)   (x1 : Int32) (x2 : Int32) (σ : Mem) : Cp M w shR 3 iIM 0 [some (.ref (wad w 0)), some (.int x1), some (.int x2)] [] σ (fX6_of x1 x2 σ) := by
  unfold fX6_of
  refine Cp.aload_n (i := 0) X dX6_of_0 rfl rfl ?_
  refine Cp.iload_n (i := 1) X dX6_of_1 rfl rfl ?_
  refine Cp.cVBT [] X [.int x1] cvX6_isPerson (kX6_isPerson X.ok x1 σ) sr_0 rfl rfl wmX6_109 rfl rfl dX6_of_2 rfl (Nat.le_of_ble_eq_true rfl) ?_
  refine Cp.if_eqB X 20 dX6_of_5 (by decide) (fun c_5 => ?_) (fun c_5 => ?_)
  · refine Cp.aload_n (i := 0) X dX6_of_20 rfl rfl ?_
    refine Cp.iconst (v := 0) X dX6_of_21 rfl ?_
    refine Cp.cVIM [] X [.int 0] cvX6_finds (kX6_finds X.ok 0 σ) sr_0 rfl rfl wmX6_103 rfl rfl dX6_of_22 rfl (Nat.le_of_ble_eq_true rfl) (fun v_22 s_22 => ?_)
    exact Cp.iret X dX6_of_25 rfl
  · refine Cp.iload_n (i := 2) X dX6_of_8 rfl rfl ?_
    refine Cp.i2l X dX6_of_9 ?_
    refine Cp.lconst (v := 0) X dX6_of_10 rfl ?_
    refine Cp.ldc2 (v := 7) X wcX6_112 dX6_of_11 ?_
    refine Cp.cSBT [] X [.long ((x2 : Int32).toInt64), .long 0, .long 7] csX6_in (kX6_in X.ok ((x2 : Int32).toInt64) 0 7 σ) wmX6_48 rfl rfl dX6_of_14 rfl (Nat.le_of_ble_eq_true rfl) ?_
    refine Cp.if_neB X 26 dX6_of_17 (by decide) (fun c_17 => ?_) (fun c_17 => ?_)
    · refine Cp.iload_n (i := 2) X dX6_of_26 rfl rfl ?_
      refine Cp.ite (fun c_27 => ?_) (fun n_27_0 => ?_)
      · refine Cp.tswI X 5 52 c_27 dX6_of_27 (by decide) (by decide) rfl (by decide) ?_
        refine Cp.aload_n (i := 0) X dX6_of_52 rfl rfl ?_
        refine Cp.iload_n (i := 1) X dX6_of_53 rfl rfl ?_
        refine Cp.cVI [] X [.int x1] cvX6_bound (kX6_bound X.ok x1 σ) sr_0 rfl rfl wmX6_114 rfl rfl dX6_of_54 rfl (Nat.le_of_ble_eq_true rfl) (fun v_54 => ?_)
        exact Cp.iret X dX6_of_57 rfl
      refine Cp.ite (fun c_27 => ?_) (fun n_27_1 => ?_)
      · refine Cp.tswI X 6 58 c_27 dX6_of_27 (by decide) (by decide) rfl (by decide) ?_
        refine Cp.aload_n (i := 0) X dX6_of_58 rfl rfl ?_
        refine Cp.iload_n (i := 1) X dX6_of_59 rfl rfl ?_
        refine Cp.cVI [] X [.int x1] cvX6_numberOf (kX6_numberOf X.ok x1 σ) sr_0 rfl rfl wmX6_117 rfl rfl dX6_of_60 rfl (Nat.le_of_ble_eq_true rfl) (fun v_60 => ?_)
        exact Cp.iret X dX6_of_63 rfl
      refine Cp.ite (fun c_27 => ?_) (fun n_27_2 => ?_)
      · refine Cp.tswI X 7 64 c_27 dX6_of_27 (by decide) (by decide) rfl (by decide) ?_
        refine Cp.aload_n (i := 0) X dX6_of_64 rfl rfl ?_
        refine Cp.iload_n (i := 1) X dX6_of_65 rfl rfl ?_
        refine Cp.cVI [] X [.int x1] cvX6_near (kX6_near X.ok x1 σ) sr_0 rfl rfl wmX6_89 rfl rfl dX6_of_66 rfl (Nat.le_of_ble_eq_true rfl) (fun v_66 => ?_)
        refine Cp.cSI [] X [.int v_66] csX6_ones (kX6_ones X.ok v_66 σ) wmX6_76 rfl rfl dX6_of_69 rfl (Nat.le_of_ble_eq_true rfl) (fun v_69 => ?_)
        exact Cp.iret X dX6_of_72 rfl
      have m_27_0 := lv_neT (a := 5) n_27_0 (by decide)
      have m_27_1 := lv_neT (a := 6) n_27_1 (by decide)
      have m_27_2 := lv_neT (a := 7) n_27_2 (by decide)
      refine Cp.tswD X 73 (by omega) dX6_of_27 (by decide) ?_
      refine Cp.aload_n (i := 0) X dX6_of_73 rfl rfl ?_
      refine Cp.iload_n (i := 1) X dX6_of_74 rfl rfl ?_
      refine Cp.iload_n (i := 2) X dX6_of_75 rfl rfl ?_
      refine Cp.cVI [] X [.int x1, .int x2] cvX6_its (kX6_its X.ok x1 x2 σ) sr_0 rfl rfl wmX6_64 rfl rfl dX6_of_76 rfl (Nat.le_of_ble_eq_true rfl) (fun v_76 => ?_)
      exact Cp.iret X dX6_of_79 rfl
    · refine Cp.aload_n (i := 0) X dX6_of_20 rfl rfl ?_
      refine Cp.iconst (v := 0) X dX6_of_21 rfl ?_
      refine Cp.cVIM [] X [.int 0] cvX6_finds (kX6_finds X.ok 0 σ) sr_0 rfl rfl wmX6_103 rfl rfl dX6_of_22 rfl (Nat.le_of_ble_eq_true rfl) (fun v_22 s_22 => ?_)
      exact Cp.iret X dX6_of_25 rfl
theorem kX6_of {l : Launch} {w : WE} (hok : OkW w shR)   (x1 : Int32) (x2 : Int32) (σ : Mem) : ∀ v, fX6_of x1 x2 σ = some v → Ctr l w shR yX6_of cX6_of 3 (some .int) 2 [.ref (wad w 0), .int x1, .int x2] σ (iIM v) := fun v hv => Ctr.of [some (.ref (wad w 0)), some (.int x1), some (.int x2)] (by decide) hok rfl (Nat.le_of_ble_eq_true rfl) (fun M _ X => pX6_of X   x1 x2 σ v hv)
def fX6_mayBe (x0 : Int32) (x1 : Int32) : Bool :=
  (if x0 = 0 then fX6_isKind x1 else (if x0 = 1 then fX6_isSeat x1 else (if x0 = 2 then fX6_in ((x1 : Int32).toInt64) 0 63 else (if x0 = 3 then fX6_in ((x1 : Int32).toInt64) 0 9 else (if x0 = 4 then (if fX6_in ((x1 : Int32).toInt64) 0 9999 = true then true else false) else false)))))
set_option maxRecDepth 20000 in
theorem pX6_mayBe {M : MC} {w : WE} (X : Cx M w shR cX6_mayBe 2 RX6 (some .boolean) 2)   (x0 : Int32) (x1 : Int32) (σ : Mem) : Cp M w shR 2 (iB σ) 0 [some (.int x0), some (.int x1)] [] σ (some (fX6_mayBe x0 x1)) := by
  unfold fX6_mayBe
  refine Cp.iload_n (i := 0) X dX6_mayBe_0 rfl rfl ?_
  refine Cp.iteT (fun c_1 => ?_) (fun n_1_0 => ?_)
  · refine Cp.tswI X 0 32 c_1 dX6_mayBe_1 (by decide) (by decide) rfl (by decide) ?_
    refine Cp.iload_n (i := 1) X dX6_mayBe_32 rfl rfl ?_
    refine Cp.cSBT [] X [.int x1] csX6_isKind (kX6_isKind X.ok x1 σ) wmX6_96 rfl rfl dX6_mayBe_33 rfl (Nat.le_of_ble_eq_true rfl) ?_
    exact Cp.bret X dX6_mayBe_36 rfl
  refine Cp.iteT (fun c_1 => ?_) (fun n_1_1 => ?_)
  · refine Cp.tswI X 1 37 c_1 dX6_mayBe_1 (by decide) (by decide) rfl (by decide) ?_
    refine Cp.iload_n (i := 1) X dX6_mayBe_37 rfl rfl ?_
    refine Cp.cSBT [] X [.int x1] csX6_isSeat (kX6_isSeat X.ok x1 σ) wmX6_100 rfl rfl dX6_mayBe_38 rfl (Nat.le_of_ble_eq_true rfl) ?_
    exact Cp.bret X dX6_mayBe_41 rfl
  refine Cp.iteT (fun c_1 => ?_) (fun n_1_2 => ?_)
  · refine Cp.tswI X 2 42 c_1 dX6_mayBe_1 (by decide) (by decide) rfl (by decide) ?_
    refine Cp.iload_n (i := 1) X dX6_mayBe_42 rfl rfl ?_
    refine Cp.i2l X dX6_mayBe_43 ?_
    refine Cp.lconst (v := 0) X dX6_mayBe_44 rfl ?_
    refine Cp.ldc2 (v := 63) X wcX6_54 dX6_mayBe_45 ?_
    refine Cp.cSBT [] X [.long ((x1 : Int32).toInt64), .long 0, .long 63] csX6_in (kX6_in X.ok ((x1 : Int32).toInt64) 0 63 σ) wmX6_48 rfl rfl dX6_mayBe_48 rfl (Nat.le_of_ble_eq_true rfl) ?_
    exact Cp.bret X dX6_mayBe_51 rfl
  refine Cp.iteT (fun c_1 => ?_) (fun n_1_3 => ?_)
  · refine Cp.tswI X 3 52 c_1 dX6_mayBe_1 (by decide) (by decide) rfl (by decide) ?_
    refine Cp.iload_n (i := 1) X dX6_mayBe_52 rfl rfl ?_
    refine Cp.i2l X dX6_mayBe_53 ?_
    refine Cp.lconst (v := 0) X dX6_mayBe_54 rfl ?_
    refine Cp.ldc2 (v := 9) X wcX6_56 dX6_mayBe_55 ?_
    refine Cp.cSBT [] X [.long ((x1 : Int32).toInt64), .long 0, .long 9] csX6_in (kX6_in X.ok ((x1 : Int32).toInt64) 0 9 σ) wmX6_48 rfl rfl dX6_mayBe_58 rfl (Nat.le_of_ble_eq_true rfl) ?_
    exact Cp.bret X dX6_mayBe_61 rfl
  have m_1_0 := lv_neT (a := 0) n_1_0 (by decide)
  have m_1_1 := lv_neT (a := 1) n_1_1 (by decide)
  have m_1_2 := lv_neT (a := 2) n_1_2 (by decide)
  have m_1_3 := lv_neT (a := 3) n_1_3 (by decide)
  refine Cp.tswD X 62 (by omega) dX6_mayBe_1 (by decide) ?_
  refine Cp.iload_n (i := 0) X dX6_mayBe_62 rfl rfl ?_
  refine Cp.iconst (v := 4) X dX6_mayBe_63 rfl ?_
  refine Cp.icmp_neT X 83 dX6_mayBe_64 (by decide) (fun c_64 => ?_) (fun c_64 => ?_)
  · refine Cp.iconst (v := 0) X dX6_mayBe_83 rfl ?_
    exact Cp.bret (v := false) X dX6_mayBe_84 rfl
  · refine Cp.iload_n (i := 1) X dX6_mayBe_67 rfl rfl ?_
    refine Cp.i2l X dX6_mayBe_68 ?_
    refine Cp.lconst (v := 0) X dX6_mayBe_69 rfl ?_
    refine Cp.ldc2 (v := 9999) X wcX6_120 dX6_mayBe_70 ?_
    refine Cp.cSBT [] X [.long ((x1 : Int32).toInt64), .long 0, .long 9999] csX6_in (kX6_in X.ok ((x1 : Int32).toInt64) 0 9999 σ) wmX6_48 rfl rfl dX6_mayBe_73 rfl (Nat.le_of_ble_eq_true rfl) ?_
    refine Cp.if_eqBT X 83 dX6_mayBe_76 (by decide) (fun c_76 => ?_) (fun c_76 => ?_)
    · refine Cp.iconst (v := 0) X dX6_mayBe_83 rfl ?_
      exact Cp.bret (v := false) X dX6_mayBe_84 rfl
    · refine Cp.iconst (v := 1) X dX6_mayBe_79 rfl ?_
      refine Cp.goto X 84 dX6_mayBe_80 (by decide) ?_
      exact Cp.bret (v := true) X dX6_mayBe_84 rfl
theorem kX6_mayBe {l : Launch} {w : WE} (hok : OkW w shR)   (x0 : Int32) (x1 : Int32) (σ : Mem) : Ctr l w shR yX6_mayBe cX6_mayBe 2 (some .boolean) 2 [.int x0, .int x1] σ ((iB σ) (fX6_mayBe x0 x1)) := Ctr.of [some (.int x0), some (.int x1)] (by decide) hok rfl (Nat.le_of_ble_eq_true rfl) (fun M _ X => pX6_mayBe X   x0 x1 σ _ rfl)
def fX6_becomes (x1 : Int32) (x2 : Int32) (σ : Mem) : Option (Int32 × Mem) :=
  (gd (inB x1 73 = true) (pb (σ 1 x1.toNatClampNeg : Int32) fun x3_6 => (gd (inB x1 73 = true) (pb (up2 σ 1 x1.toNatClampNeg x2 : Mem) fun s_13 => (some (x3_6, s_13))))))
set_option maxRecDepth 20000 in
theorem pX6_becomes {M : MC} {w : WE} (X : Cx M w shR cX6_becomes 4 RX6 (some .int) 0)   (x1 : Int32) (x2 : Int32) (σ : Mem) : Cp M w shR 4 iIM 0 [some (.ref (wad w 0)), some (.int x1), some (.int x2), none] [] σ (fX6_becomes x1 x2 σ) := by
  unfold fX6_becomes
  refine Cp.aload_n (i := 0) X dX6_becomes_0 rfl rfl ?_
  refine gfX6_9 X 1 sr_0 rfl dX6_becomes_1 ?_
  refine Cp.iload_n (i := 1) X dX6_becomes_4 rfl rfl ?_
  refine Cp.iald X sr_1 dX6_becomes_5 ?_
  refine Cp.nameI (fun x3_6 => ?_)
  refine Cp.istore_n (i := 3) X dX6_becomes_6 rfl (Nat.le_of_ble_eq_true rfl) rfl ?_
  refine Cp.aload_n (i := 0) X dX6_becomes_7 rfl rfl ?_
  refine gfX6_9 X 1 sr_0 rfl dX6_becomes_8 ?_
  refine Cp.iload_n (i := 1) X dX6_becomes_11 rfl rfl ?_
  refine Cp.iload_n (i := 2) X dX6_becomes_12 rfl rfl ?_
  refine Cp.iast X sr_1 dX6_becomes_13 ?_
  refine Cp.nameM (fun s_13 => ?_)
  refine Cp.iload_n (i := 3) X dX6_becomes_14 rfl rfl ?_
  exact Cp.iret X dX6_becomes_15 rfl
theorem kX6_becomes {l : Launch} {w : WE} (hok : OkW w shR)   (x1 : Int32) (x2 : Int32) (σ : Mem) : ∀ v, fX6_becomes x1 x2 σ = some v → Ctr l w shR yX6_becomes cX6_becomes 4 (some .int) 0 [.ref (wad w 0), .int x1, .int x2] σ (iIM v) := fun v hv => Ctr.of [some (.ref (wad w 0)), some (.int x1), some (.int x2), none] (by decide) hok rfl (Nat.le_of_ble_eq_true rfl) (fun M _ X => pX6_becomes X   x1 x2 σ v hv)
def fX6_change (x1 : Int32) (x2 : Int32) (x3 : Int32) (σ : Mem) : Option (Int32 × Mem) :=
  (if fX6_isPerson x1 σ = true then (if fX6_mayBe x2 x3 = true then (bnd2 (fX6_becomes ((23 + (5 * x1)) + x2) x3 σ) fun v_26 s_26 => (some (v_26, s_26))) else (bnd2 (fX6_finds 0 σ) fun v_34 s_34 => (some (v_34, s_34)))) else (bnd2 (fX6_finds 0 σ) fun v_34 s_34 => (some (v_34, s_34))))
set_option maxRecDepth 20000 in
theorem pX6_change {M : MC} {w : WE} (X : Cx M w shR cX6_change 4 RX6 (some .int) 3)   (x1 : Int32) (x2 : Int32) (x3 : Int32) (σ : Mem) : Cp M w shR 4 iIM 0 [some (.ref (wad w 0)), some (.int x1), some (.int x2), some (.int x3)] [] σ (fX6_change x1 x2 x3 σ) := by
  unfold fX6_change
  refine Cp.aload_n (i := 0) X dX6_change_0 rfl rfl ?_
  refine Cp.iload_n (i := 1) X dX6_change_1 rfl rfl ?_
  refine Cp.cVBT [] X [.int x1] cvX6_isPerson (kX6_isPerson X.ok x1 σ) sr_0 rfl rfl wmX6_109 rfl rfl dX6_change_2 rfl (Nat.le_of_ble_eq_true rfl) ?_
  refine Cp.if_eqB X 32 dX6_change_5 (by decide) (fun c_5 => ?_) (fun c_5 => ?_)
  · refine Cp.aload_n (i := 0) X dX6_change_32 rfl rfl ?_
    refine Cp.iconst (v := 0) X dX6_change_33 rfl ?_
    refine Cp.cVIM [] X [.int 0] cvX6_finds (kX6_finds X.ok 0 σ) sr_0 rfl rfl wmX6_103 rfl rfl dX6_change_34 rfl (Nat.le_of_ble_eq_true rfl) (fun v_34 s_34 => ?_)
    exact Cp.iret X dX6_change_37 rfl
  · refine Cp.iload_n (i := 2) X dX6_change_8 rfl rfl ?_
    refine Cp.iload_n (i := 3) X dX6_change_9 rfl rfl ?_
    refine Cp.cSBT [] X [.int x2, .int x3] csX6_mayBe (kX6_mayBe X.ok x2 x3 σ) wmX6_122 rfl rfl dX6_change_10 rfl (Nat.le_of_ble_eq_true rfl) ?_
    refine Cp.if_eqB X 32 dX6_change_13 (by decide) (fun c_13 => ?_) (fun c_13 => ?_)
    · refine Cp.aload_n (i := 0) X dX6_change_32 rfl rfl ?_
      refine Cp.iconst (v := 0) X dX6_change_33 rfl ?_
      refine Cp.cVIM [] X [.int 0] cvX6_finds (kX6_finds X.ok 0 σ) sr_0 rfl rfl wmX6_103 rfl rfl dX6_change_34 rfl (Nat.le_of_ble_eq_true rfl) (fun v_34 s_34 => ?_)
      exact Cp.iret X dX6_change_37 rfl
    · refine Cp.aload_n (i := 0) X dX6_change_16 rfl rfl ?_
      refine Cp.bipush (v := 23) X dX6_change_17 rfl ?_
      refine Cp.iconst (v := 5) X dX6_change_19 rfl ?_
      refine Cp.iload_n (i := 1) X dX6_change_20 rfl rfl ?_
      refine Cp.imul X dX6_change_21 ?_
      refine Cp.iadd X dX6_change_22 ?_
      refine Cp.iload_n (i := 2) X dX6_change_23 rfl rfl ?_
      refine Cp.iadd X dX6_change_24 ?_
      refine Cp.iload_n (i := 3) X dX6_change_25 rfl rfl ?_
      refine Cp.cVIM [] X [.int ((23 + (5 * x1)) + x2), .int x3] cvX6_becomes (kX6_becomes X.ok ((23 + (5 * x1)) + x2) x3 σ) sr_0 rfl rfl wmX6_126 rfl rfl dX6_change_26 rfl (Nat.le_of_ble_eq_true rfl) (fun v_26 s_26 => ?_)
      refine Cp.goto X 37 dX6_change_29 (by decide) ?_
      exact Cp.iret X dX6_change_37 rfl
theorem kX6_change {l : Launch} {w : WE} (hok : OkW w shR)   (x1 : Int32) (x2 : Int32) (x3 : Int32) (σ : Mem) : ∀ v, fX6_change x1 x2 x3 σ = some v → Ctr l w shR yX6_change cX6_change 4 (some .int) 3 [.ref (wad w 0), .int x1, .int x2, .int x3] σ (iIM v) := fun v hv => Ctr.of [some (.ref (wad w 0)), some (.int x1), some (.int x2), some (.int x3)] (by decide) hok rfl (Nat.le_of_ble_eq_true rfl) (fun M _ X => pX6_change X   x1 x2 x3 σ v hv)
def fX6_isTopics (x0 : Int32) : Bool :=
  fX6_in ((x0 : Int32).toInt64) 1 63
set_option maxRecDepth 20000 in
theorem pX6_isTopics {M : MC} {w : WE} (X : Cx M w shR cX6_isTopics 1 RX6 (some .boolean) 1)   (x0 : Int32) (σ : Mem) : Cp M w shR 1 (iB σ) 0 [some (.int x0)] [] σ (some (fX6_isTopics x0)) := by
  unfold fX6_isTopics
  refine Cp.iload_n (i := 0) X dX6_isTopics_0 rfl rfl ?_
  refine Cp.i2l X dX6_isTopics_1 ?_
  refine Cp.lconst (v := 1) X dX6_isTopics_2 rfl ?_
  refine Cp.ldc2 (v := 63) X wcX6_54 dX6_isTopics_3 ?_
  refine Cp.cSBT [] X [.long ((x0 : Int32).toInt64), .long 1, .long 63] csX6_in (kX6_in X.ok ((x0 : Int32).toInt64) 1 63 σ) wmX6_48 rfl rfl dX6_isTopics_6 rfl (Nat.le_of_ble_eq_true rfl) ?_
  exact Cp.bret X dX6_isTopics_9 rfl
theorem kX6_isTopics {l : Launch} {w : WE} (hok : OkW w shR)   (x0 : Int32) (σ : Mem) : Ctr l w shR yX6_isTopics cX6_isTopics 1 (some .boolean) 1 [.int x0] σ ((iB σ) (fX6_isTopics x0)) := Ctr.of [some (.int x0)] (by decide) hok rfl (Nat.le_of_ble_eq_true rfl) (fun M _ X => pX6_isTopics X   x0 σ _ rfl)
def fX6_isFun (x0 : Int32) : Bool :=
  fX6_in ((x0 : Int32).toInt64) 0 9
set_option maxRecDepth 20000 in
theorem pX6_isFun {M : MC} {w : WE} (X : Cx M w shR cX6_isFun 1 RX6 (some .boolean) 1)   (x0 : Int32) (σ : Mem) : Cp M w shR 1 (iB σ) 0 [some (.int x0)] [] σ (some (fX6_isFun x0)) := by
  unfold fX6_isFun
  refine Cp.iload_n (i := 0) X dX6_isFun_0 rfl rfl ?_
  refine Cp.i2l X dX6_isFun_1 ?_
  refine Cp.lconst (v := 0) X dX6_isFun_2 rfl ?_
  refine Cp.ldc2 (v := 9) X wcX6_56 dX6_isFun_3 ?_
  refine Cp.cSBT [] X [.long ((x0 : Int32).toInt64), .long 0, .long 9] csX6_in (kX6_in X.ok ((x0 : Int32).toInt64) 0 9 σ) wmX6_48 rfl rfl dX6_isFun_6 rfl (Nat.le_of_ble_eq_true rfl) ?_
  exact Cp.bret X dX6_isFun_9 rfl
theorem kX6_isFun {l : Launch} {w : WE} (hok : OkW w shR)   (x0 : Int32) (σ : Mem) : Ctr l w shR yX6_isFun cX6_isFun 1 (some .boolean) 1 [.int x0] σ ((iB σ) (fX6_isFun x0)) := Ctr.of [some (.int x0)] (by decide) hok rfl (Nat.le_of_ble_eq_true rfl) (fun M _ X => pX6_isFun X   x0 σ _ rfl)
def fX6_addsJoke (x1 : Int32) (x2 : Int32) (σ : Mem) : Option (Int32 × Mem) :=
  (pb (σ 1 6 : Int32) fun x3_7 => (pb (up2 σ 1 6 ((σ 1 6) + 1) : Mem) fun s_18 => (gd (inB (7 + (2 * x3_7)) 73 = true) (pb (up2 s_18 1 (7 + (2 * x3_7)).toNatClampNeg x1 : Mem) fun s_30 => (gd (inB ((7 + (2 * x3_7)) + 1) 73 = true) (pb (up2 s_30 1 ((7 + (2 * x3_7)) + 1).toNatClampNeg x2 : Mem) fun s_44 => (some (x3_7, s_44))))))))
set_option maxRecDepth 20000 in
theorem pX6_addsJoke {M : MC} {w : WE} (X : Cx M w shR cX6_addsJoke 4 RX6 (some .int) 0)   (x1 : Int32) (x2 : Int32) (σ : Mem) : Cp M w shR 4 iIM 0 [some (.ref (wad w 0)), some (.int x1), some (.int x2), none] [] σ (fX6_addsJoke x1 x2 σ) := by
  unfold fX6_addsJoke
  refine Cp.aload_n (i := 0) X dX6_addsJoke_0 rfl rfl ?_
  refine gfX6_9 X 1 sr_0 rfl dX6_addsJoke_1 ?_
  refine Cp.bipush (v := 6) X dX6_addsJoke_4 rfl ?_
  refine Cp.ialdc (j := 6) X sr_1 (by decide) (by decide) dX6_addsJoke_6 ?_
  refine Cp.nameI (fun x3_7 => ?_)
  refine Cp.istore_n (i := 3) X dX6_addsJoke_7 rfl (Nat.le_of_ble_eq_true rfl) rfl ?_
  refine Cp.aload_n (i := 0) X dX6_addsJoke_8 rfl rfl ?_
  refine gfX6_9 X 1 sr_0 rfl dX6_addsJoke_9 ?_
  refine Cp.bipush (v := 6) X dX6_addsJoke_12 rfl ?_
  refine Cp.dup2 X dX6_addsJoke_14 rfl rfl ?_
  refine Cp.ialdc (j := 6) X sr_1 (by decide) (by decide) dX6_addsJoke_15 ?_
  refine Cp.iconst (v := 1) X dX6_addsJoke_16 rfl ?_
  refine Cp.iadd X dX6_addsJoke_17 ?_
  refine Cp.iastc (j := 6) X sr_1 (by decide) (by decide) dX6_addsJoke_18 ?_
  refine Cp.nameM (fun s_18 => ?_)
  refine Cp.aload_n (i := 0) X dX6_addsJoke_19 rfl rfl ?_
  refine gfX6_9 X 1 sr_0 rfl dX6_addsJoke_20 ?_
  refine Cp.bipush (v := 7) X dX6_addsJoke_23 rfl ?_
  refine Cp.iconst (v := 2) X dX6_addsJoke_25 rfl ?_
  refine Cp.iload_n (i := 3) X dX6_addsJoke_26 rfl rfl ?_
  refine Cp.imul X dX6_addsJoke_27 ?_
  refine Cp.iadd X dX6_addsJoke_28 ?_
  refine Cp.iload_n (i := 1) X dX6_addsJoke_29 rfl rfl ?_
  refine Cp.iast X sr_1 dX6_addsJoke_30 ?_
  refine Cp.nameM (fun s_30 => ?_)
  refine Cp.aload_n (i := 0) X dX6_addsJoke_31 rfl rfl ?_
  refine gfX6_9 X 1 sr_0 rfl dX6_addsJoke_32 ?_
  refine Cp.bipush (v := 7) X dX6_addsJoke_35 rfl ?_
  refine Cp.iconst (v := 2) X dX6_addsJoke_37 rfl ?_
  refine Cp.iload_n (i := 3) X dX6_addsJoke_38 rfl rfl ?_
  refine Cp.imul X dX6_addsJoke_39 ?_
  refine Cp.iadd X dX6_addsJoke_40 ?_
  refine Cp.iconst (v := 1) X dX6_addsJoke_41 rfl ?_
  refine Cp.iadd X dX6_addsJoke_42 ?_
  refine Cp.iload_n (i := 2) X dX6_addsJoke_43 rfl rfl ?_
  refine Cp.iast X sr_1 dX6_addsJoke_44 ?_
  refine Cp.nameM (fun s_44 => ?_)
  refine Cp.iload_n (i := 3) X dX6_addsJoke_45 rfl rfl ?_
  exact Cp.iret X dX6_addsJoke_46 rfl
theorem kX6_addsJoke {l : Launch} {w : WE} (hok : OkW w shR)   (x1 : Int32) (x2 : Int32) (σ : Mem) : ∀ v, fX6_addsJoke x1 x2 σ = some v → Ctr l w shR yX6_addsJoke cX6_addsJoke 4 (some .int) 0 [.ref (wad w 0), .int x1, .int x2] σ (iIM v) := fun v hv => Ctr.of [some (.ref (wad w 0)), some (.int x1), some (.int x2), none] (by decide) hok rfl (Nat.le_of_ble_eq_true rfl) (fun M _ X => pX6_addsJoke X   x1 x2 σ v hv)
def fX6_joke (x1 : Int32) (x2 : Int32) (σ : Mem) : Option (Int32 × Mem) :=
  (if fX6_isTopics x1 = true then (if fX6_isFun x2 = true then (if (σ 1 6) = 8 then (bnd2 (fX6_finds 1 σ) fun v_34 s_34 => (some (v_34, s_34))) else (bnd2 (fX6_addsJoke x1 x2 σ) fun v_43 s_43 => (some (v_43, s_43)))) else (bnd2 (fX6_finds 0 σ) fun v_16 s_16 => (some (v_16, s_16)))) else (bnd2 (fX6_finds 0 σ) fun v_16 s_16 => (some (v_16, s_16))))
set_option maxRecDepth 20000 in
theorem pX6_joke {M : MC} {w : WE} (X : Cx M w shR cX6_joke 3 RX6 (some .int) 2)   (x1 : Int32) (x2 : Int32) (σ : Mem) : Cp M w shR 3 iIM 0 [some (.ref (wad w 0)), some (.int x1), some (.int x2)] [] σ (fX6_joke x1 x2 σ) := by
  unfold fX6_joke
  refine Cp.iload_n (i := 1) X dX6_joke_0 rfl rfl ?_
  refine Cp.cSBT [] X [.int x1] csX6_isTopics (kX6_isTopics X.ok x1 σ) wmX6_129 rfl rfl dX6_joke_1 rfl (Nat.le_of_ble_eq_true rfl) ?_
  refine Cp.if_eqB X 14 dX6_joke_4 (by decide) (fun c_4 => ?_) (fun c_4 => ?_)
  · refine Cp.aload_n (i := 0) X dX6_joke_14 rfl rfl ?_
    refine Cp.iconst (v := 0) X dX6_joke_15 rfl ?_
    refine Cp.cVIM [] X [.int 0] cvX6_finds (kX6_finds X.ok 0 σ) sr_0 rfl rfl wmX6_103 rfl rfl dX6_joke_16 rfl (Nat.le_of_ble_eq_true rfl) (fun v_16 s_16 => ?_)
    exact Cp.iret X dX6_joke_19 rfl
  · refine Cp.iload_n (i := 2) X dX6_joke_7 rfl rfl ?_
    refine Cp.cSBT [] X [.int x2] csX6_isFun (kX6_isFun X.ok x2 σ) wmX6_132 rfl rfl dX6_joke_8 rfl (Nat.le_of_ble_eq_true rfl) ?_
    refine Cp.if_neB X 20 dX6_joke_11 (by decide) (fun c_11 => ?_) (fun c_11 => ?_)
    · refine Cp.aload_n (i := 0) X dX6_joke_20 rfl rfl ?_
      refine gfX6_9 X 1 sr_0 rfl dX6_joke_21 ?_
      refine Cp.bipush (v := 6) X dX6_joke_24 rfl ?_
      refine Cp.ialdc (j := 6) X sr_1 (by decide) (by decide) dX6_joke_26 ?_
      refine Cp.bipush (v := 8) X dX6_joke_27 rfl ?_
      refine Cp.icmp_ne X 40 dX6_joke_29 (by decide) (fun c_29 => ?_) (fun c_29 => ?_)
      · refine Cp.aload_n (i := 0) X dX6_joke_40 rfl rfl ?_
        refine Cp.iload_n (i := 1) X dX6_joke_41 rfl rfl ?_
        refine Cp.iload_n (i := 2) X dX6_joke_42 rfl rfl ?_
        refine Cp.cVIM [] X [.int x1, .int x2] cvX6_addsJoke (kX6_addsJoke X.ok x1 x2 σ) sr_0 rfl rfl wmX6_135 rfl rfl dX6_joke_43 rfl (Nat.le_of_ble_eq_true rfl) (fun v_43 s_43 => ?_)
        exact Cp.iret X dX6_joke_46 rfl
      · refine Cp.aload_n (i := 0) X dX6_joke_32 rfl rfl ?_
        refine Cp.iconst (v := 1) X dX6_joke_33 rfl ?_
        refine Cp.cVIM [] X [.int 1] cvX6_finds (kX6_finds X.ok 1 σ) sr_0 rfl rfl wmX6_103 rfl rfl dX6_joke_34 rfl (Nat.le_of_ble_eq_true rfl) (fun v_34 s_34 => ?_)
        refine Cp.goto X 46 dX6_joke_37 (by decide) ?_
        exact Cp.iret X dX6_joke_46 rfl
    · refine Cp.aload_n (i := 0) X dX6_joke_14 rfl rfl ?_
      refine Cp.iconst (v := 0) X dX6_joke_15 rfl ?_
      refine Cp.cVIM [] X [.int 0] cvX6_finds (kX6_finds X.ok 0 σ) sr_0 rfl rfl wmX6_103 rfl rfl dX6_joke_16 rfl (Nat.le_of_ble_eq_true rfl) (fun v_16 s_16 => ?_)
      exact Cp.iret X dX6_joke_19 rfl
theorem kX6_joke {l : Launch} {w : WE} (hok : OkW w shR)   (x1 : Int32) (x2 : Int32) (σ : Mem) : ∀ v, fX6_joke x1 x2 σ = some v → Ctr l w shR yX6_joke cX6_joke 3 (some .int) 2 [.ref (wad w 0), .int x1, .int x2] σ (iIM v) := fun v hv => Ctr.of [some (.ref (wad w 0)), some (.int x1), some (.int x2)] (by decide) hok rfl (Nat.le_of_ble_eq_true rfl) (fun M _ X => pX6_joke X   x1 x2 σ v hv)
def fX6_isJoke (x1 : Int32) (σ : Mem) : Bool :=
  fX6_in ((x1 : Int32).toInt64) 0 (((σ 1 6) - 1 : Int32).toInt64)
set_option maxRecDepth 20000 in
theorem pX6_isJoke {M : MC} {w : WE} (X : Cx M w shR cX6_isJoke 2 RX6 (some .boolean) 1)   (x1 : Int32) (σ : Mem) : Cp M w shR 2 (iB σ) 0 [some (.ref (wad w 0)), some (.int x1)] [] σ (some (fX6_isJoke x1 σ)) := by
  unfold fX6_isJoke
  refine Cp.iload_n (i := 1) X dX6_isJoke_0 rfl rfl ?_
  refine Cp.i2l X dX6_isJoke_1 ?_
  refine Cp.lconst (v := 0) X dX6_isJoke_2 rfl ?_
  refine Cp.aload_n (i := 0) X dX6_isJoke_3 rfl rfl ?_
  refine gfX6_9 X 1 sr_0 rfl dX6_isJoke_4 ?_
  refine Cp.bipush (v := 6) X dX6_isJoke_7 rfl ?_
  refine Cp.ialdc (j := 6) X sr_1 (by decide) (by decide) dX6_isJoke_9 ?_
  refine Cp.iconst (v := 1) X dX6_isJoke_10 rfl ?_
  refine Cp.isub X dX6_isJoke_11 ?_
  refine Cp.i2l X dX6_isJoke_12 ?_
  refine Cp.cSBT [] X [.long ((x1 : Int32).toInt64), .long 0, .long (((σ 1 6) - 1 : Int32).toInt64)] csX6_in (kX6_in X.ok ((x1 : Int32).toInt64) 0 (((σ 1 6) - 1 : Int32).toInt64) σ) wmX6_48 rfl rfl dX6_isJoke_13 rfl (Nat.le_of_ble_eq_true rfl) ?_
  exact Cp.bret X dX6_isJoke_16 rfl
theorem kX6_isJoke {l : Launch} {w : WE} (hok : OkW w shR)   (x1 : Int32) (σ : Mem) : Ctr l w shR yX6_isJoke cX6_isJoke 2 (some .boolean) 1 [.ref (wad w 0), .int x1] σ ((iB σ) (fX6_isJoke x1 σ)) := Ctr.of [some (.ref (wad w 0)), some (.int x1)] (by decide) hok rfl (Nat.le_of_ble_eq_true rfl) (fun M _ X => pX6_isJoke X   x1 σ _ rfl)
def fX6_jokeOf (x1 : Int32) (x2 : Int32) (σ : Mem) : Option (Int32 × Mem) :=
  (if fX6_isJoke x1 σ = true then (if fX6_in ((x2 : Int32).toInt64) 0 1 = true then (gd (inB ((7 + (2 * x1)) + x2) 73 = true) (some (σ 1 ((7 + (2 * x1)) + x2).toNatClampNeg, σ))) else (bnd2 (fX6_finds 0 σ) fun v_36 s_36 => (some (v_36, s_36)))) else (bnd2 (fX6_finds 0 σ) fun v_36 s_36 => (some (v_36, s_36))))
set_option maxRecDepth 20000 in
theorem pX6_jokeOf {M : MC} {w : WE} (X : Cx M w shR cX6_jokeOf 3 RX6 (some .int) 2)   (x1 : Int32) (x2 : Int32) (σ : Mem) : Cp M w shR 3 iIM 0 [some (.ref (wad w 0)), some (.int x1), some (.int x2)] [] σ (fX6_jokeOf x1 x2 σ) := by
  unfold fX6_jokeOf
  refine Cp.aload_n (i := 0) X dX6_jokeOf_0 rfl rfl ?_
  refine Cp.iload_n (i := 1) X dX6_jokeOf_1 rfl rfl ?_
  refine Cp.cVBT [] X [.int x1] cvX6_isJoke (kX6_isJoke X.ok x1 σ) sr_0 rfl rfl wmX6_138 rfl rfl dX6_jokeOf_2 rfl (Nat.le_of_ble_eq_true rfl) ?_
  refine Cp.if_eqB X 34 dX6_jokeOf_5 (by decide) (fun c_5 => ?_) (fun c_5 => ?_)
  · refine Cp.aload_n (i := 0) X dX6_jokeOf_34 rfl rfl ?_
    refine Cp.iconst (v := 0) X dX6_jokeOf_35 rfl ?_
    refine Cp.cVIM [] X [.int 0] cvX6_finds (kX6_finds X.ok 0 σ) sr_0 rfl rfl wmX6_103 rfl rfl dX6_jokeOf_36 rfl (Nat.le_of_ble_eq_true rfl) (fun v_36 s_36 => ?_)
    exact Cp.iret X dX6_jokeOf_39 rfl
  · refine Cp.iload_n (i := 2) X dX6_jokeOf_8 rfl rfl ?_
    refine Cp.i2l X dX6_jokeOf_9 ?_
    refine Cp.lconst (v := 0) X dX6_jokeOf_10 rfl ?_
    refine Cp.lconst (v := 1) X dX6_jokeOf_11 rfl ?_
    refine Cp.cSBT [] X [.long ((x2 : Int32).toInt64), .long 0, .long 1] csX6_in (kX6_in X.ok ((x2 : Int32).toInt64) 0 1 σ) wmX6_48 rfl rfl dX6_jokeOf_12 rfl (Nat.le_of_ble_eq_true rfl) ?_
    refine Cp.if_eqB X 34 dX6_jokeOf_15 (by decide) (fun c_15 => ?_) (fun c_15 => ?_)
    · refine Cp.aload_n (i := 0) X dX6_jokeOf_34 rfl rfl ?_
      refine Cp.iconst (v := 0) X dX6_jokeOf_35 rfl ?_
      refine Cp.cVIM [] X [.int 0] cvX6_finds (kX6_finds X.ok 0 σ) sr_0 rfl rfl wmX6_103 rfl rfl dX6_jokeOf_36 rfl (Nat.le_of_ble_eq_true rfl) (fun v_36 s_36 => ?_)
      exact Cp.iret X dX6_jokeOf_39 rfl
    · refine Cp.aload_n (i := 0) X dX6_jokeOf_18 rfl rfl ?_
      refine gfX6_9 X 1 sr_0 rfl dX6_jokeOf_19 ?_
      refine Cp.bipush (v := 7) X dX6_jokeOf_22 rfl ?_
      refine Cp.iconst (v := 2) X dX6_jokeOf_24 rfl ?_
      refine Cp.iload_n (i := 1) X dX6_jokeOf_25 rfl rfl ?_
      refine Cp.imul X dX6_jokeOf_26 ?_
      refine Cp.iadd X dX6_jokeOf_27 ?_
      refine Cp.iload_n (i := 2) X dX6_jokeOf_28 rfl rfl ?_
      refine Cp.iadd X dX6_jokeOf_29 ?_
      refine Cp.iald X sr_1 dX6_jokeOf_30 ?_
      refine Cp.goto X 39 dX6_jokeOf_31 (by decide) ?_
      exact Cp.iret X dX6_jokeOf_39 rfl
theorem kX6_jokeOf {l : Launch} {w : WE} (hok : OkW w shR)   (x1 : Int32) (x2 : Int32) (σ : Mem) : ∀ v, fX6_jokeOf x1 x2 σ = some v → Ctr l w shR yX6_jokeOf cX6_jokeOf 3 (some .int) 2 [.ref (wad w 0), .int x1, .int x2] σ (iIM v) := fun v hv => Ctr.of [some (.ref (wad w 0)), some (.int x1), some (.int x2)] (by decide) hok rfl (Nat.le_of_ble_eq_true rfl) (fun M _ X => pX6_jokeOf X   x1 x2 σ v hv)
def fX6_law_26 (x1 : Int32) (x2 : Int32) (t0 : Int64) (t1 : Int64) (t2 : Int64) (σ : Mem) : Option (Int32 × Mem) :=
  (if fX6_in t2 t1 t0 = true then (bnd2 (fX6_becomes x1 x2 σ) fun v_35 s_35 => (some (v_35, s_35))) else (bnd2 (fX6_finds 0 σ) fun v_43 s_43 => (some (v_43, s_43))))
def fX6_law (x1 : Int32) (x2 : Int32) (σ : Mem) : Option (Int32 × Mem) :=
  (if fX6_in ((x1 : Int32).toInt64) 0 1 = true then (if x1 = 0 then (fX6_law_26 x1 x2 20 0 ((x2 : Int32).toInt64) σ) else (fX6_law_26 x1 x2 15 0 ((x2 : Int32).toInt64) σ)) else (bnd2 (fX6_finds 0 σ) fun v_43 s_43 => (some (v_43, s_43))))
set_option maxRecDepth 20000 in
theorem pX6_law_26 {M : MC} {w : WE} (X : Cx M w shR cX6_law 3 RX6 (some .int) 1)   (x1 : Int32) (x2 : Int32) (t0 : Int64) (t1 : Int64) (t2 : Int64)  (σ : Mem)  : Cp M w shR 3 iIM 26 [some (.ref (wad w 0)), some (.int x1), some (.int x2)] [.long t0, .long t1, .long t2] σ (fX6_law_26 x1 x2 t0 t1 t2 σ) := by
  unfold fX6_law_26
  refine Cp.cSBT [] X [.long t2, .long t1, .long t0] csX6_in (kX6_in X.ok t2 t1 t0 σ) wmX6_48 rfl rfl dX6_law_26 rfl (Nat.le_of_ble_eq_true rfl) ?_
  refine Cp.if_eqB X 41 dX6_law_29 (by decide) (fun c_29 => ?_) (fun c_29 => ?_)
  · refine Cp.aload_n (i := 0) X dX6_law_41 rfl rfl ?_
    refine Cp.iconst (v := 0) X dX6_law_42 rfl ?_
    refine Cp.cVIM [] X [.int 0] cvX6_finds (kX6_finds X.ok 0 σ) sr_0 rfl rfl wmX6_103 rfl rfl dX6_law_43 rfl (Nat.le_of_ble_eq_true rfl) (fun v_43 s_43 => ?_)
    exact Cp.iret X dX6_law_46 rfl
  · refine Cp.aload_n (i := 0) X dX6_law_32 rfl rfl ?_
    refine Cp.iload_n (i := 1) X dX6_law_33 rfl rfl ?_
    refine Cp.iload_n (i := 2) X dX6_law_34 rfl rfl ?_
    refine Cp.cVIM [] X [.int x1, .int x2] cvX6_becomes (kX6_becomes X.ok x1 x2 σ) sr_0 rfl rfl wmX6_126 rfl rfl dX6_law_35 rfl (Nat.le_of_ble_eq_true rfl) (fun v_35 s_35 => ?_)
    refine Cp.goto X 46 dX6_law_38 (by decide) ?_
    exact Cp.iret X dX6_law_46 rfl
set_option maxRecDepth 20000 in
theorem pX6_law {M : MC} {w : WE} (X : Cx M w shR cX6_law 3 RX6 (some .int) 1)   (x1 : Int32) (x2 : Int32) (σ : Mem) : Cp M w shR 3 iIM 0 [some (.ref (wad w 0)), some (.int x1), some (.int x2)] [] σ (fX6_law x1 x2 σ) := by
  unfold fX6_law
  refine Cp.iload_n (i := 1) X dX6_law_0 rfl rfl ?_
  refine Cp.i2l X dX6_law_1 ?_
  refine Cp.lconst (v := 0) X dX6_law_2 rfl ?_
  refine Cp.lconst (v := 1) X dX6_law_3 rfl ?_
  refine Cp.cSBT [] X [.long ((x1 : Int32).toInt64), .long 0, .long 1] csX6_in (kX6_in X.ok ((x1 : Int32).toInt64) 0 1 σ) wmX6_48 rfl rfl dX6_law_4 rfl (Nat.le_of_ble_eq_true rfl) ?_
  refine Cp.if_eqB X 41 dX6_law_7 (by decide) (fun c_7 => ?_) (fun c_7 => ?_)
  · refine Cp.aload_n (i := 0) X dX6_law_41 rfl rfl ?_
    refine Cp.iconst (v := 0) X dX6_law_42 rfl ?_
    refine Cp.cVIM [] X [.int 0] cvX6_finds (kX6_finds X.ok 0 σ) sr_0 rfl rfl wmX6_103 rfl rfl dX6_law_43 rfl (Nat.le_of_ble_eq_true rfl) (fun v_43 s_43 => ?_)
    exact Cp.iret X dX6_law_46 rfl
  · refine Cp.iload_n (i := 2) X dX6_law_10 rfl rfl ?_
    refine Cp.i2l X dX6_law_11 ?_
    refine Cp.lconst (v := 0) X dX6_law_12 rfl ?_
    refine Cp.iload_n (i := 1) X dX6_law_13 rfl rfl ?_
    refine Cp.if_ne X 23 dX6_law_14 (by decide) (fun c_14 => ?_) (fun c_14 => ?_)
    · refine Cp.ldc2 (v := 15) X wcX6_52 dX6_law_23 ?_
      exact pX6_law_26 X x1 x2 15 0 ((x2 : Int32).toInt64) σ
    · refine Cp.ldc2 (v := 20) X wcX6_141 dX6_law_17 ?_
      refine Cp.goto X 26 dX6_law_20 (by decide) ?_
      exact pX6_law_26 X x1 x2 20 0 ((x2 : Int32).toInt64) σ
theorem kX6_law {l : Launch} {w : WE} (hok : OkW w shR)   (x1 : Int32) (x2 : Int32) (σ : Mem) : ∀ v, fX6_law x1 x2 σ = some v → Ctr l w shR yX6_law cX6_law 3 (some .int) 1 [.ref (wad w 0), .int x1, .int x2] σ (iIM v) := fun v hv => Ctr.of [some (.ref (wad w 0)), some (.int x1), some (.int x2)] (by decide) hok rfl (Nat.le_of_ble_eq_true rfl) (fun M _ X => pX6_law X   x1 x2 σ v hv)
def fX6_strong (x1 : Int32) (x2 : Int32) (x3 : Int32) (σ : Mem) : Option Int32 :=
  ((fX6_its x3 2 σ).bind fun v_5 => ((fX6_ones (x1 &&& v_5)).bind fun v_9 => ((fX6_its x3 3 σ).bind fun v_16 => (some ((x2 * v_9) + v_16)))))
set_option maxRecDepth 20000 in
theorem pX6_strong {M : MC} {w : WE} (X : Cx M w shR cX6_strong 4 RX6 (some .int) 1)   (x1 : Int32) (x2 : Int32) (x3 : Int32) (σ : Mem) : Cp M w shR 4 (iI σ) 0 [some (.ref (wad w 0)), some (.int x1), some (.int x2), some (.int x3)] [] σ (fX6_strong x1 x2 x3 σ) := by
  unfold fX6_strong
  refine Cp.iload_n (i := 2) X dX6_strong_0 rfl rfl ?_
  refine Cp.iload_n (i := 1) X dX6_strong_1 rfl rfl ?_
  refine Cp.aload_n (i := 0) X dX6_strong_2 rfl rfl ?_
  refine Cp.iload_n (i := 3) X dX6_strong_3 rfl rfl ?_
  refine Cp.iconst (v := 2) X dX6_strong_4 rfl ?_
  refine Cp.cVI [.int x1, .int x2] X [.int x3, .int 2] cvX6_its (kX6_its X.ok x3 2 σ) sr_0 rfl rfl wmX6_64 rfl rfl dX6_strong_5 rfl (Nat.le_of_ble_eq_true rfl) (fun v_5 => ?_)
  refine Cp.iand X dX6_strong_8 ?_
  refine Cp.cSI [.int x2] X [.int (x1 &&& v_5)] csX6_ones (kX6_ones X.ok (x1 &&& v_5) σ) wmX6_76 rfl rfl dX6_strong_9 rfl (Nat.le_of_ble_eq_true rfl) (fun v_9 => ?_)
  refine Cp.imul X dX6_strong_12 ?_
  refine Cp.aload_n (i := 0) X dX6_strong_13 rfl rfl ?_
  refine Cp.iload_n (i := 3) X dX6_strong_14 rfl rfl ?_
  refine Cp.iconst (v := 3) X dX6_strong_15 rfl ?_
  refine Cp.cVI [.int (x2 * v_9)] X [.int x3, .int 3] cvX6_its (kX6_its X.ok x3 3 σ) sr_0 rfl rfl wmX6_64 rfl rfl dX6_strong_16 rfl (Nat.le_of_ble_eq_true rfl) (fun v_16 => ?_)
  refine Cp.iadd X dX6_strong_19 ?_
  exact Cp.iret X dX6_strong_20 rfl
theorem kX6_strong {l : Launch} {w : WE} (hok : OkW w shR)   (x1 : Int32) (x2 : Int32) (x3 : Int32) (σ : Mem) : ∀ v, fX6_strong x1 x2 x3 σ = some v → Ctr l w shR yX6_strong cX6_strong 4 (some .int) 1 [.ref (wad w 0), .int x1, .int x2, .int x3] σ ((iI σ) v) := fun v hv => Ctr.of [some (.ref (wad w 0)), some (.int x1), some (.int x2), some (.int x3)] (by decide) hok rfl (Nat.le_of_ble_eq_true rfl) (fun M _ X => pX6_strong X   x1 x2 x3 σ v hv)
def fX6_seconds (x1 : Int32) (x2 : Int32) (x3 : Int32) (σ : Mem) : Option Int32 :=
  ((fX6_strong x1 x2 x3 σ).bind fun v_7 => (pb (iMax 1 (iMin 30 v_7) : Int32) fun x4_16 => ((fX6_its x3 0 σ).bind fun v_21 => (if v_21 = 1 then (some ((x4_16 / 2) + 1)) else (if v_21 = 2 then (some (2 * x4_16)) else (if v_21 = 3 then (some ((2 * x4_16) + 5)) else (if v_21 = 4 then (some 0) else (if v_21 = 5 then (some x4_16) else (if v_21 = 6 then (some 1) else (some x4_16))))))))))
set_option maxRecDepth 20000 in
theorem pX6_seconds {M : MC} {w : WE} (X : Cx M w shR cX6_seconds 5 RX6 (some .int) 2)   (x1 : Int32) (x2 : Int32) (x3 : Int32) (σ : Mem) : Cp M w shR 5 (iI σ) 0 [some (.ref (wad w 0)), some (.int x1), some (.int x2), some (.int x3), none] [] σ (fX6_seconds x1 x2 x3 σ) := by
  unfold fX6_seconds
  refine Cp.iconst (v := 1) X dX6_seconds_0 rfl ?_
  refine Cp.bipush (v := 30) X dX6_seconds_1 rfl ?_
  refine Cp.aload_n (i := 0) X dX6_seconds_3 rfl rfl ?_
  refine Cp.iload_n (i := 1) X dX6_seconds_4 rfl rfl ?_
  refine Cp.iload_n (i := 2) X dX6_seconds_5 rfl rfl ?_
  refine Cp.iload_n (i := 3) X dX6_seconds_6 rfl rfl ?_
  refine Cp.cVI [.int 30, .int 1] X [.int x1, .int x2, .int x3] cvX6_strong (kX6_strong X.ok x1 x2 x3 σ) sr_0 rfl rfl wmX6_79 rfl rfl dX6_seconds_7 rfl (Nat.le_of_ble_eq_true rfl) (fun v_7 => ?_)
  refine Cp.mmin X wqX6_68 (by decide) dX6_seconds_10 (Nat.le_of_ble_eq_true rfl) ?_
  refine Cp.mmax X wqX6_83 (by decide) dX6_seconds_13 (Nat.le_of_ble_eq_true rfl) ?_
  refine Cp.nameI (fun x4_16 => ?_)
  refine Cp.istore X dX6_seconds_16 (Nat.le_of_ble_eq_true rfl) rfl ?_
  refine Cp.aload_n (i := 0) X dX6_seconds_18 rfl rfl ?_
  refine Cp.iload_n (i := 3) X dX6_seconds_19 rfl rfl ?_
  refine Cp.iconst (v := 0) X dX6_seconds_20 rfl ?_
  refine Cp.cVI [] X [.int x3, .int 0] cvX6_its (kX6_its X.ok x3 0 σ) sr_0 rfl rfl wmX6_64 rfl rfl dX6_seconds_21 rfl (Nat.le_of_ble_eq_true rfl) (fun v_21 => ?_)
  refine Cp.ite (fun c_24 => ?_) (fun n_24_0 => ?_)
  · refine Cp.tswI X 1 64 c_24 dX6_seconds_24 (by decide) (by decide) rfl (by decide) ?_
    refine Cp.iload X dX6_seconds_64 rfl ?_
    refine Cp.iconst (v := 2) X dX6_seconds_66 rfl ?_
    refine Cp.idiv X dX6_seconds_67 (by decide) ?_
    refine Cp.iconst (v := 1) X dX6_seconds_68 rfl ?_
    refine Cp.iadd X dX6_seconds_69 ?_
    exact Cp.iret X dX6_seconds_70 rfl
  refine Cp.ite (fun c_24 => ?_) (fun n_24_1 => ?_)
  · refine Cp.tswI X 2 73 c_24 dX6_seconds_24 (by decide) (by decide) rfl (by decide) ?_
    refine Cp.iconst (v := 2) X dX6_seconds_73 rfl ?_
    refine Cp.iload X dX6_seconds_74 rfl ?_
    refine Cp.imul X dX6_seconds_76 ?_
    exact Cp.iret X dX6_seconds_77 rfl
  refine Cp.ite (fun c_24 => ?_) (fun n_24_2 => ?_)
  · refine Cp.tswI X 3 78 c_24 dX6_seconds_24 (by decide) (by decide) rfl (by decide) ?_
    refine Cp.iconst (v := 2) X dX6_seconds_78 rfl ?_
    refine Cp.iload X dX6_seconds_79 rfl ?_
    refine Cp.imul X dX6_seconds_81 ?_
    refine Cp.iconst (v := 5) X dX6_seconds_82 rfl ?_
    refine Cp.iadd X dX6_seconds_83 ?_
    exact Cp.iret X dX6_seconds_84 rfl
  refine Cp.ite (fun c_24 => ?_) (fun n_24_3 => ?_)
  · refine Cp.tswI X 4 85 c_24 dX6_seconds_24 (by decide) (by decide) rfl (by decide) ?_
    refine Cp.iconst (v := 0) X dX6_seconds_85 rfl ?_
    exact Cp.iret X dX6_seconds_86 rfl
  refine Cp.ite (fun c_24 => ?_) (fun n_24_4 => ?_)
  · refine Cp.tswI X 5 87 c_24 dX6_seconds_24 (by decide) (by decide) rfl (by decide) ?_
    refine Cp.iload X dX6_seconds_87 rfl ?_
    exact Cp.iret X dX6_seconds_89 rfl
  refine Cp.ite (fun c_24 => ?_) (fun n_24_5 => ?_)
  · refine Cp.tswI X 6 71 c_24 dX6_seconds_24 (by decide) (by decide) rfl (by decide) ?_
    refine Cp.iconst (v := 1) X dX6_seconds_71 rfl ?_
    exact Cp.iret X dX6_seconds_72 rfl
  have m_24_0 := lv_neT (a := 1) n_24_0 (by decide)
  have m_24_1 := lv_neT (a := 2) n_24_1 (by decide)
  have m_24_2 := lv_neT (a := 3) n_24_2 (by decide)
  have m_24_3 := lv_neT (a := 4) n_24_3 (by decide)
  have m_24_4 := lv_neT (a := 5) n_24_4 (by decide)
  have m_24_5 := lv_neT (a := 6) n_24_5 (by decide)
  refine Cp.tswD X 87 (by omega) dX6_seconds_24 (by decide) ?_
  refine Cp.iload X dX6_seconds_87 rfl ?_
  exact Cp.iret X dX6_seconds_89 rfl
theorem kX6_seconds {l : Launch} {w : WE} (hok : OkW w shR)   (x1 : Int32) (x2 : Int32) (x3 : Int32) (σ : Mem) : ∀ v, fX6_seconds x1 x2 x3 σ = some v → Ctr l w shR yX6_seconds cX6_seconds 5 (some .int) 2 [.ref (wad w 0), .int x1, .int x2, .int x3] σ ((iI σ) v) := fun v hv => Ctr.of [some (.ref (wad w 0)), some (.int x1), some (.int x2), some (.int x3), none] (by decide) hok rfl (Nat.le_of_ble_eq_true rfl) (fun M _ X => pX6_seconds X   x1 x2 x3 σ v hv)
def fX6_due (x1 : Int32) (x2 : Int32) (x3 : Int32) (σ : Mem) : Option Int32 :=
  ((fX6_seconds x1 x2 x3 σ).bind fun v_4 => ((fX6_near x3 σ).bind fun v_16 => ((fX6_ones v_16).bind fun v_19 => (some (((v_4 * (σ 1 0)) * v_19) / 10)))))
set_option maxRecDepth 20000 in
theorem pX6_due {M : MC} {w : WE} (X : Cx M w shR cX6_due 4 RX6 (some .int) 3)   (x1 : Int32) (x2 : Int32) (x3 : Int32) (σ : Mem) : Cp M w shR 4 (iI σ) 0 [some (.ref (wad w 0)), some (.int x1), some (.int x2), some (.int x3)] [] σ (fX6_due x1 x2 x3 σ) := by
  unfold fX6_due
  refine Cp.aload_n (i := 0) X dX6_due_0 rfl rfl ?_
  refine Cp.iload_n (i := 1) X dX6_due_1 rfl rfl ?_
  refine Cp.iload_n (i := 2) X dX6_due_2 rfl rfl ?_
  refine Cp.iload_n (i := 3) X dX6_due_3 rfl rfl ?_
  refine Cp.cVI [] X [.int x1, .int x2, .int x3] cvX6_seconds (kX6_seconds X.ok x1 x2 x3 σ) sr_0 rfl rfl wmX6_86 rfl rfl dX6_due_4 rfl (Nat.le_of_ble_eq_true rfl) (fun v_4 => ?_)
  refine Cp.aload_n (i := 0) X dX6_due_7 rfl rfl ?_
  refine gfX6_9 X 1 sr_0 rfl dX6_due_8 ?_
  refine Cp.iconst (v := 0) X dX6_due_11 rfl ?_
  refine Cp.ialdc (j := 0) X sr_1 (by decide) (by decide) dX6_due_12 ?_
  refine Cp.imul X dX6_due_13 ?_
  refine Cp.aload_n (i := 0) X dX6_due_14 rfl rfl ?_
  refine Cp.iload_n (i := 3) X dX6_due_15 rfl rfl ?_
  refine Cp.cVI [.int (v_4 * (σ 1 0))] X [.int x3] cvX6_near (kX6_near X.ok x3 σ) sr_0 rfl rfl wmX6_89 rfl rfl dX6_due_16 rfl (Nat.le_of_ble_eq_true rfl) (fun v_16 => ?_)
  refine Cp.cSI [.int (v_4 * (σ 1 0))] X [.int v_16] csX6_ones (kX6_ones X.ok v_16 σ) wmX6_76 rfl rfl dX6_due_19 rfl (Nat.le_of_ble_eq_true rfl) (fun v_19 => ?_)
  refine Cp.imul X dX6_due_22 ?_
  refine Cp.bipush (v := 10) X dX6_due_23 rfl ?_
  refine Cp.idiv X dX6_due_25 (by decide) ?_
  exact Cp.iret X dX6_due_26 rfl
theorem kX6_due {l : Launch} {w : WE} (hok : OkW w shR)   (x1 : Int32) (x2 : Int32) (x3 : Int32) (σ : Mem) : ∀ v, fX6_due x1 x2 x3 σ = some v → Ctr l w shR yX6_due cX6_due 4 (some .int) 3 [.ref (wad w 0), .int x1, .int x2, .int x3] σ ((iI σ) v) := fun v hv => Ctr.of [some (.ref (wad w 0)), some (.int x1), some (.int x2), some (.int x3)] (by decide) hok rfl (Nat.le_of_ble_eq_true rfl) (fun M _ X => pX6_due X   x1 x2 x3 σ v hv)
def fX6_strength (x1 : Int32) (x2 : Int32) (x3 : Int32) (σ : Mem) : Option (Int32 × Mem) :=
  (if fX6_isJoke x1 σ = true then (if fX6_isPerson x2 σ = true then (if fX6_in ((x3 : Int32).toInt64) 0 2 = true then (gd (inB (7 + (2 * x1)) 73 = true) (pb (σ 1 (7 + (2 * x1)).toNatClampNeg : Int32) fun x4_45 => (gd (inB ((7 + (2 * x1)) + 1) 73 = true) (pb (σ 1 ((7 + (2 * x1)) + 1).toNatClampNeg : Int32) fun x5_60 => (if x3 = 0 then ((fX6_strong x4_45 x5_60 x2 σ).bind fun v_72 => (some (v_72, σ))) else (if x3 = 1 then ((fX6_seconds x4_45 x5_60 x2 σ).bind fun v_89 => (some (v_89, σ))) else ((fX6_due x4_45 x5_60 x2 σ).bind fun v_101 => (some (v_101, σ))))))))) else (bnd2 (fX6_finds 0 σ) fun v_30 s_30 => (some (v_30, s_30)))) else (bnd2 (fX6_finds 0 σ) fun v_30 s_30 => (some (v_30, s_30)))) else (bnd2 (fX6_finds 0 σ) fun v_30 s_30 => (some (v_30, s_30))))
set_option maxRecDepth 20000 in
theorem pX6_strength {M : MC} {w : WE} (X : Cx M w shR cX6_strength 6 RX6 (some .int) 4)   (x1 : Int32) (x2 : Int32) (x3 : Int32) (σ : Mem) : Cp M w shR 6 iIM 0 [some (.ref (wad w 0)), some (.int x1), some (.int x2), some (.int x3), none, none] [] σ (fX6_strength x1 x2 x3 σ) := by
  unfold fX6_strength
  refine Cp.aload_n (i := 0) X dX6_strength_0 rfl rfl ?_
  refine Cp.iload_n (i := 1) X dX6_strength_1 rfl rfl ?_
  refine Cp.cVBT [] X [.int x1] cvX6_isJoke (kX6_isJoke X.ok x1 σ) sr_0 rfl rfl wmX6_138 rfl rfl dX6_strength_2 rfl (Nat.le_of_ble_eq_true rfl) ?_
  refine Cp.if_eqB X 28 dX6_strength_5 (by decide) (fun c_5 => ?_) (fun c_5 => ?_)
  · refine Cp.aload_n (i := 0) X dX6_strength_28 rfl rfl ?_
    refine Cp.iconst (v := 0) X dX6_strength_29 rfl ?_
    refine Cp.cVIM [] X [.int 0] cvX6_finds (kX6_finds X.ok 0 σ) sr_0 rfl rfl wmX6_103 rfl rfl dX6_strength_30 rfl (Nat.le_of_ble_eq_true rfl) (fun v_30 s_30 => ?_)
    exact Cp.iret X dX6_strength_33 rfl
  · refine Cp.aload_n (i := 0) X dX6_strength_8 rfl rfl ?_
    refine Cp.iload_n (i := 2) X dX6_strength_9 rfl rfl ?_
    refine Cp.cVBT [] X [.int x2] cvX6_isPerson (kX6_isPerson X.ok x2 σ) sr_0 rfl rfl wmX6_109 rfl rfl dX6_strength_10 rfl (Nat.le_of_ble_eq_true rfl) ?_
    refine Cp.if_eqB X 28 dX6_strength_13 (by decide) (fun c_13 => ?_) (fun c_13 => ?_)
    · refine Cp.aload_n (i := 0) X dX6_strength_28 rfl rfl ?_
      refine Cp.iconst (v := 0) X dX6_strength_29 rfl ?_
      refine Cp.cVIM [] X [.int 0] cvX6_finds (kX6_finds X.ok 0 σ) sr_0 rfl rfl wmX6_103 rfl rfl dX6_strength_30 rfl (Nat.le_of_ble_eq_true rfl) (fun v_30 s_30 => ?_)
      exact Cp.iret X dX6_strength_33 rfl
    · refine Cp.iload_n (i := 3) X dX6_strength_16 rfl rfl ?_
      refine Cp.i2l X dX6_strength_17 ?_
      refine Cp.lconst (v := 0) X dX6_strength_18 rfl ?_
      refine Cp.ldc2 (v := 2) X wcX6_143 dX6_strength_19 ?_
      refine Cp.cSBT [] X [.long ((x3 : Int32).toInt64), .long 0, .long 2] csX6_in (kX6_in X.ok ((x3 : Int32).toInt64) 0 2 σ) wmX6_48 rfl rfl dX6_strength_22 rfl (Nat.le_of_ble_eq_true rfl) ?_
      refine Cp.if_neB X 34 dX6_strength_25 (by decide) (fun c_25 => ?_) (fun c_25 => ?_)
      · refine Cp.aload_n (i := 0) X dX6_strength_34 rfl rfl ?_
        refine gfX6_9 X 1 sr_0 rfl dX6_strength_35 ?_
        refine Cp.bipush (v := 7) X dX6_strength_38 rfl ?_
        refine Cp.iconst (v := 2) X dX6_strength_40 rfl ?_
        refine Cp.iload_n (i := 1) X dX6_strength_41 rfl rfl ?_
        refine Cp.imul X dX6_strength_42 ?_
        refine Cp.iadd X dX6_strength_43 ?_
        refine Cp.iald X sr_1 dX6_strength_44 ?_
        refine Cp.nameI (fun x4_45 => ?_)
        refine Cp.istore X dX6_strength_45 (Nat.le_of_ble_eq_true rfl) rfl ?_
        refine Cp.aload_n (i := 0) X dX6_strength_47 rfl rfl ?_
        refine gfX6_9 X 1 sr_0 rfl dX6_strength_48 ?_
        refine Cp.bipush (v := 7) X dX6_strength_51 rfl ?_
        refine Cp.iconst (v := 2) X dX6_strength_53 rfl ?_
        refine Cp.iload_n (i := 1) X dX6_strength_54 rfl rfl ?_
        refine Cp.imul X dX6_strength_55 ?_
        refine Cp.iadd X dX6_strength_56 ?_
        refine Cp.iconst (v := 1) X dX6_strength_57 rfl ?_
        refine Cp.iadd X dX6_strength_58 ?_
        refine Cp.iald X sr_1 dX6_strength_59 ?_
        refine Cp.nameI (fun x5_60 => ?_)
        refine Cp.istore X dX6_strength_60 (Nat.le_of_ble_eq_true rfl) rfl ?_
        refine Cp.iload_n (i := 3) X dX6_strength_62 rfl rfl ?_
        refine Cp.if_ne X 78 dX6_strength_63 (by decide) (fun c_63 => ?_) (fun c_63 => ?_)
        · refine Cp.iload_n (i := 3) X dX6_strength_78 rfl rfl ?_
          refine Cp.iconst (v := 1) X dX6_strength_79 rfl ?_
          refine Cp.icmp_ne X 95 dX6_strength_80 (by decide) (fun c_80 => ?_) (fun c_80 => ?_)
          · refine Cp.aload_n (i := 0) X dX6_strength_95 rfl rfl ?_
            refine Cp.iload X dX6_strength_96 rfl ?_
            refine Cp.iload X dX6_strength_98 rfl ?_
            refine Cp.iload_n (i := 2) X dX6_strength_100 rfl rfl ?_
            refine Cp.cVI [] X [.int x4_45, .int x5_60, .int x2] cvX6_due (kX6_due X.ok x4_45 x5_60 x2 σ) sr_0 rfl rfl wmX6_145 rfl rfl dX6_strength_101 rfl (Nat.le_of_ble_eq_true rfl) (fun v_101 => ?_)
            exact Cp.iret X dX6_strength_104 rfl
          · refine Cp.aload_n (i := 0) X dX6_strength_83 rfl rfl ?_
            refine Cp.iload X dX6_strength_84 rfl ?_
            refine Cp.iload X dX6_strength_86 rfl ?_
            refine Cp.iload_n (i := 2) X dX6_strength_88 rfl rfl ?_
            refine Cp.cVI [] X [.int x4_45, .int x5_60, .int x2] cvX6_seconds (kX6_seconds X.ok x4_45 x5_60 x2 σ) sr_0 rfl rfl wmX6_86 rfl rfl dX6_strength_89 rfl (Nat.le_of_ble_eq_true rfl) (fun v_89 => ?_)
            refine Cp.goto X 104 dX6_strength_92 (by decide) ?_
            exact Cp.iret X dX6_strength_104 rfl
        · refine Cp.aload_n (i := 0) X dX6_strength_66 rfl rfl ?_
          refine Cp.iload X dX6_strength_67 rfl ?_
          refine Cp.iload X dX6_strength_69 rfl ?_
          refine Cp.iload_n (i := 2) X dX6_strength_71 rfl rfl ?_
          refine Cp.cVI [] X [.int x4_45, .int x5_60, .int x2] cvX6_strong (kX6_strong X.ok x4_45 x5_60 x2 σ) sr_0 rfl rfl wmX6_79 rfl rfl dX6_strength_72 rfl (Nat.le_of_ble_eq_true rfl) (fun v_72 => ?_)
          refine Cp.goto X 104 dX6_strength_75 (by decide) ?_
          exact Cp.iret X dX6_strength_104 rfl
      · refine Cp.aload_n (i := 0) X dX6_strength_28 rfl rfl ?_
        refine Cp.iconst (v := 0) X dX6_strength_29 rfl ?_
        refine Cp.cVIM [] X [.int 0] cvX6_finds (kX6_finds X.ok 0 σ) sr_0 rfl rfl wmX6_103 rfl rfl dX6_strength_30 rfl (Nat.le_of_ble_eq_true rfl) (fun v_30 s_30 => ?_)
        exact Cp.iret X dX6_strength_33 rfl
theorem kX6_strength {l : Launch} {w : WE} (hok : OkW w shR)   (x1 : Int32) (x2 : Int32) (x3 : Int32) (σ : Mem) : ∀ v, fX6_strength x1 x2 x3 σ = some v → Ctr l w shR yX6_strength cX6_strength 6 (some .int) 4 [.ref (wad w 0), .int x1, .int x2, .int x3] σ (iIM v) := fun v hv => Ctr.of [some (.ref (wad w 0)), some (.int x1), some (.int x2), some (.int x3), none, none] (by decide) hok rfl (Nat.le_of_ble_eq_true rfl) (fun M _ X => pX6_strength X   x1 x2 x3 σ v hv)
def fX6_byThemselves_5 (x1 : Int32) (x2 : Int32) (σ : Mem) (k5 : Int32 → Int32 → Option Int32) (x3 : Int32) (x4 : Int32) : Option Int32 :=
  (if (σ 1 5) ≤ x4 then (some x3) else ((fX6_strong x1 x2 x4 σ).bind fun v_22 => ((fX6_bound x4 σ).bind fun v_28 => (if v_22 < v_28 then (pb (x3 ||| 0 : Int32) fun x3_43 => (k5 x3_43 (x4 + 1))) else (pb (x3 ||| (1 <<< (x4 &&& 31)) : Int32) fun x3_43 => (k5 x3_43 (x4 + 1)))))))
def fX6_byThemselves (x1 : Int32) (x2 : Int32) (σ : Mem) : Option Int32 :=
  (lw2 (fX6_byThemselves_5 x1 x2 σ) FU 0 0)
set_option maxRecDepth 20000 in
theorem pX6_byThemselves_5 {M : MC} {w : WE} (X : Cx M w shR cX6_byThemselves 5 RX6 (some .int) 2)   (x1 : Int32) (x2 : Int32)  (σ : Mem)  : ∀ (n : Nat) (x3 : Int32) (x4 : Int32), Cp M w shR 5 (iI σ) 5 [some (.ref (wad w 0)), some (.int x1), some (.int x2), some (.int x3), some (.int x4)] [] σ (lw2 (fX6_byThemselves_5 x1 x2 σ) n x3 x4) :=
  lw2_i (P := fun x3 x4 b => Cp M w shR 5 (iI σ) 5 [some (.ref (wad w 0)), some (.int x1), some (.int x2), some (.int x3), some (.int x4)] [] σ b) (fun _ _ => Cp.non) (fun k5 hk5 x3 x4 => by
  unfold fX6_byThemselves_5
  refine Cp.iload X dX6_byThemselves_5 rfl ?_
  refine Cp.aload_n (i := 0) X dX6_byThemselves_7 rfl rfl ?_
  refine gfX6_9 X 1 sr_0 rfl dX6_byThemselves_8 ?_
  refine Cp.iconst (v := 5) X dX6_byThemselves_11 rfl ?_
  refine Cp.ialdc (j := 5) X sr_1 (by decide) (by decide) dX6_byThemselves_12 ?_
  refine Cp.icmp_ge X 50 dX6_byThemselves_13 (by decide) (fun c_13 => ?_) (fun c_13 => ?_)
  · refine Cp.iload_n (i := 3) X dX6_byThemselves_50 rfl rfl ?_
    exact Cp.iret X dX6_byThemselves_51 rfl
  · refine Cp.iload_n (i := 3) X dX6_byThemselves_16 rfl rfl ?_
    refine Cp.aload_n (i := 0) X dX6_byThemselves_17 rfl rfl ?_
    refine Cp.iload_n (i := 1) X dX6_byThemselves_18 rfl rfl ?_
    refine Cp.iload_n (i := 2) X dX6_byThemselves_19 rfl rfl ?_
    refine Cp.iload X dX6_byThemselves_20 rfl ?_
    refine Cp.cVI [.int x3] X [.int x1, .int x2, .int x4] cvX6_strong (kX6_strong X.ok x1 x2 x4 σ) sr_0 rfl rfl wmX6_79 rfl rfl dX6_byThemselves_22 rfl (Nat.le_of_ble_eq_true rfl) (fun v_22 => ?_)
    refine Cp.aload_n (i := 0) X dX6_byThemselves_25 rfl rfl ?_
    refine Cp.iload X dX6_byThemselves_26 rfl ?_
    refine Cp.cVI [.int v_22, .int x3] X [.int x4] cvX6_bound (kX6_bound X.ok x4 σ) sr_0 rfl rfl wmX6_114 rfl rfl dX6_byThemselves_28 rfl (Nat.le_of_ble_eq_true rfl) (fun v_28 => ?_)
    refine Cp.icmp_lt X 41 dX6_byThemselves_31 (by decide) (fun c_31 => ?_) (fun c_31 => ?_)
    · refine Cp.iconst (v := 0) X dX6_byThemselves_41 rfl ?_
      refine Cp.ior X dX6_byThemselves_42 ?_
      refine Cp.nameI (fun x3_43 => ?_)
      refine Cp.istore_n (i := 3) X dX6_byThemselves_43 rfl (Nat.le_of_ble_eq_true rfl) rfl ?_
      refine Cp.iinc (v := x4 + 1) X dX6_byThemselves_44 rfl rfl (Nat.le_of_ble_eq_true rfl) rfl ?_
      refine Cp.goto X 5 dX6_byThemselves_47 (by decide) ?_
      exact hk5 x3_43 (x4 + 1)
    · refine Cp.iconst (v := 1) X dX6_byThemselves_34 rfl ?_
      refine Cp.iload X dX6_byThemselves_35 rfl ?_
      refine Cp.ishl X dX6_byThemselves_37 ?_
      refine Cp.goto X 42 dX6_byThemselves_38 (by decide) ?_
      refine Cp.ior X dX6_byThemselves_42 ?_
      refine Cp.nameI (fun x3_43 => ?_)
      refine Cp.istore_n (i := 3) X dX6_byThemselves_43 rfl (Nat.le_of_ble_eq_true rfl) rfl ?_
      refine Cp.iinc (v := x4 + 1) X dX6_byThemselves_44 rfl rfl (Nat.le_of_ble_eq_true rfl) rfl ?_
      refine Cp.goto X 5 dX6_byThemselves_47 (by decide) ?_
      exact hk5 x3_43 (x4 + 1))
set_option maxRecDepth 20000 in
theorem pX6_byThemselves {M : MC} {w : WE} (X : Cx M w shR cX6_byThemselves 5 RX6 (some .int) 2)   (x1 : Int32) (x2 : Int32) (σ : Mem) : Cp M w shR 5 (iI σ) 0 [some (.ref (wad w 0)), some (.int x1), some (.int x2), none, none] [] σ (fX6_byThemselves x1 x2 σ) := by
  unfold fX6_byThemselves
  refine Cp.iconst (v := 0) X dX6_byThemselves_0 rfl ?_
  refine Cp.istore_n (i := 3) X dX6_byThemselves_1 rfl (Nat.le_of_ble_eq_true rfl) rfl ?_
  refine Cp.iconst (v := 0) X dX6_byThemselves_2 rfl ?_
  refine Cp.istore X dX6_byThemselves_3 (Nat.le_of_ble_eq_true rfl) rfl ?_
  exact pX6_byThemselves_5 X x1 x2 σ FU 0 0
theorem kX6_byThemselves {l : Launch} {w : WE} (hok : OkW w shR)   (x1 : Int32) (x2 : Int32) (σ : Mem) : ∀ v, fX6_byThemselves x1 x2 σ = some v → Ctr l w shR yX6_byThemselves cX6_byThemselves 5 (some .int) 2 [.ref (wad w 0), .int x1, .int x2] σ ((iI σ) v) := fun v hv => Ctr.of [some (.ref (wad w 0)), some (.int x1), some (.int x2), none, none] (by decide) hok rfl (Nat.le_of_ble_eq_true rfl) (fun M _ X => pX6_byThemselves X   x1 x2 σ v hv)
def fX6_everybody  (σ : Mem) : Int32 :=
  (1 <<< ((σ 1 5) &&& 31)) - 1
set_option maxRecDepth 20000 in
theorem pX6_everybody {M : MC} {w : WE} (X : Cx M w shR cX6_everybody 1 RX6 (some .int) 0)    (σ : Mem) : Cp M w shR 1 (iI σ) 0 [some (.ref (wad w 0))] [] σ (some (fX6_everybody σ)) := by
  unfold fX6_everybody
  refine Cp.iconst (v := 1) X dX6_everybody_0 rfl ?_
  refine Cp.aload_n (i := 0) X dX6_everybody_1 rfl rfl ?_
  refine gfX6_9 X 1 sr_0 rfl dX6_everybody_2 ?_
  refine Cp.iconst (v := 5) X dX6_everybody_5 rfl ?_
  refine Cp.ialdc (j := 5) X sr_1 (by decide) (by decide) dX6_everybody_6 ?_
  refine Cp.ishl X dX6_everybody_7 ?_
  refine Cp.iconst (v := 1) X dX6_everybody_8 rfl ?_
  refine Cp.isub X dX6_everybody_9 ?_
  exact Cp.iret X dX6_everybody_10 rfl
theorem kX6_everybody {l : Launch} {w : WE} (hok : OkW w shR)    (σ : Mem) : Ctr l w shR yX6_everybody cX6_everybody 1 (some .int) 0 [.ref (wad w 0)] σ ((iI σ) (fX6_everybody σ)) := Ctr.of [some (.ref (wad w 0))] (by decide) hok rfl (Nat.le_of_ble_eq_true rfl) (fun M _ X => pX6_everybody X    σ _ rfl)
def fX6_caughtFrom_181 (k54 : Int32 → Int32 → Mem → Option (Int32 × Mem)) (x2 : Int32) (x4 : Int32) (x5 : Int32) (k181 : Int32 → Mem → Option (Int32 × Mem)) (x6 : Int32) (σ : Mem) : Option (Int32 × Mem) :=
  (if (σ 1 5) ≤ x6 then (k54 x5 x4 σ) else (if ((x5 >>> (x6 &&& 31)) &&& 1) = 1 then (gd (inB x6 8 = true) (if 0 ≤ (σ 5 x6.toNatClampNeg) then (gd (inB x6 8 = true) (gd (inB x6 8 = true) (pb (up2 σ 5 x6.toNatClampNeg (σ 5 x6.toNatClampNeg) : Mem) fun s_233 => (k181 (x6 + 1) s_233)))) else (gd (inB x6 8 = true) (pb (up2 σ 5 x6.toNatClampNeg (σ 0 6) : Mem) fun s_233 => (k181 (x6 + 1) s_233))))) else (gd (inB x6 8 = true) (gd (inB x6 8 = true) (pb (up2 σ 5 x6.toNatClampNeg (σ 5 x6.toNatClampNeg) : Mem) fun s_233 => (k181 (x6 + 1) s_233))))))
def fX6_caughtFrom_157 (k54 : Int32 → Int32 → Mem → Option (Int32 × Mem)) (x2 : Int32) (x5 : Int32) (t0 : Int32) (σ : Mem) : Option (Int32 × Mem) :=
  (if t0 = 0 then (pb (up2 σ 0 6 ((σ 0 6) + 0) : Mem) fun s_175 => (lw2 (fX6_caughtFrom_181 k54 x2 t0 x5) FU 0 s_175)) else (pb (up2 σ 0 6 ((σ 0 6) + 1) : Mem) fun s_175 => (lw2 (fX6_caughtFrom_181 k54 x2 t0 x5) FU 0 s_175)))
def fX6_caughtFrom_100 (k54 : Int32 → Int32 → Mem → Option (Int32 × Mem)) (k65 : Int32 → Int32 → Option (Int32 × Mem)) (x2 : Int32) (x3 : Int32) (x5 : Int32) (x6 : Int32) (t0 : Int32) (σ : Mem) : Option (Int32 × Mem) :=
  (if t0 = 0 then (pb (x5 ||| 0 : Int32) fun x5_138 => (k65 x5_138 (x6 + 1))) else ((fX6_near x6 σ).bind fun v_112 => ((fX6_ones (v_112 &&& x3)).bind fun v_117 => ((fX6_numberOf x6 σ).bind fun v_123 => (if v_117 < v_123 then (pb (x5 ||| 0 : Int32) fun x5_138 => (k65 x5_138 (x6 + 1))) else (pb (x5 ||| (1 <<< (x6 &&& 31)) : Int32) fun x5_138 => (k65 x5_138 (x6 + 1))))))))
def fX6_caughtFrom_99 (k54 : Int32 → Int32 → Mem → Option (Int32 × Mem)) (k65 : Int32 → Int32 → Option (Int32 × Mem)) (x2 : Int32) (x3 : Int32) (x5 : Int32) (x6 : Int32) (σ : Mem) : Option (Int32 × Mem) :=
  (fX6_caughtFrom_100 k54 k65 x2 x3 x5 x6 0 σ)
def fX6_caughtFrom_65 (k54 : Int32 → Int32 → Mem → Option (Int32 × Mem)) (x2 : Int32) (x3 : Int32) (σ : Mem) (k65 : Int32 → Int32 → Option (Int32 × Mem)) (x5 : Int32) (x6 : Int32) : Option (Int32 × Mem) :=
  (if (σ 1 5) ≤ x6 then (if x5 = x3 then (fX6_caughtFrom_157 k54 x2 x5 0 σ) else (fX6_caughtFrom_157 k54 x2 x5 1 σ)) else (if ((x2 >>> (x6 &&& 31)) &&& 1) = 1 then (if ((x3 >>> (x6 &&& 31)) &&& 1) = 0 then (fX6_caughtFrom_100 k54 k65 x2 x3 x5 x6 1 σ) else (fX6_caughtFrom_99 k54 k65 x2 x3 x5 x6 σ)) else (fX6_caughtFrom_99 k54 k65 x2 x3 x5 x6 σ)))
def fX6_caughtFrom_54 (x2 : Int32) (k54 : Int32 → Int32 → Mem → Option (Int32 × Mem)) (x3 : Int32) (x4 : Int32) (σ : Mem) : Option (Int32 × Mem) :=
  (if x4 = 0 then (some (x3, σ)) else (lw2 (fX6_caughtFrom_65 k54 x2 x3 σ) FU x3 0))
def fX6_caughtFrom_12 (x2 : Int32) (x3 : Int32) (k12 : Int32 → Mem → Option (Int32 × Mem)) (x4 : Int32) (σ : Mem) : Option (Int32 × Mem) :=
  (if (σ 1 5) ≤ x4 then (lw3 (fX6_caughtFrom_54 x2) FU x3 1 σ) else (if ((x3 >>> (x4 &&& 31)) &&& 1) = 1 then (gd (inB x4 8 = true) (pb (up2 σ 5 x4.toNatClampNeg 0 : Mem) fun s_44 => (k12 (x4 + 1) s_44))) else (gd (inB x4 8 = true) (pb (up2 σ 5 x4.toNatClampNeg (-1) : Mem) fun s_44 => (k12 (x4 + 1) s_44)))))
def fX6_caughtFrom (x1 : Int32) (x2 : Int32) (σ : Mem) : Option (Int32 × Mem) :=
  (pb (x1 &&& x2 : Int32) fun x3_3 => (pb (up2 σ 0 6 0 : Mem) fun s_6 => (lw2 (fX6_caughtFrom_12 x2 x3_3) FU 0 s_6)))
set_option maxRecDepth 20000 in
theorem pX6_caughtFrom_181 {M : MC} {w : WE} (X : Cx M w shR cX6_caughtFrom 8 RX6 (some .int) 2)   (x2 : Int32) (x4 : Int32) (x5 : Int32)   (k54 : Int32 → Int32 → Mem → Option (Int32 × Mem)) (hk54 : ∀ (x3 : Int32) (x4 : Int32) (σ : Mem), Cp M w shR 8 iIM 54 [some (.ref (wad w 0)), none, some (.int x2), some (.int x3), some (.int x4), none, none, none] [] σ (k54 x3 x4 σ)) : ∀ (n : Nat) (x6 : Int32) (σ : Mem), Cp M w shR 8 iIM 181 [some (.ref (wad w 0)), none, some (.int x2), none, some (.int x4), some (.int x5), some (.int x6), none] [] σ (lw2 (fX6_caughtFrom_181 k54 x2 x4 x5) n x6 σ) :=
  lw2_i (P := fun x6 σ b => Cp M w shR 8 iIM 181 [some (.ref (wad w 0)), none, some (.int x2), none, some (.int x4), some (.int x5), some (.int x6), none] [] σ b) (fun _ _ => Cp.non) (fun k181 hk181 x6 σ => by
  unfold fX6_caughtFrom_181
  refine Cp.iload X dX6_caughtFrom_181 rfl ?_
  refine Cp.aload_n (i := 0) X dX6_caughtFrom_183 rfl rfl ?_
  refine gfX6_9 X 1 sr_0 rfl dX6_caughtFrom_184 ?_
  refine Cp.iconst (v := 5) X dX6_caughtFrom_187 rfl ?_
  refine Cp.ialdc (j := 5) X sr_1 (by decide) (by decide) dX6_caughtFrom_188 ?_
  refine Cp.icmp_ge X 240 dX6_caughtFrom_189 (by decide) (fun c_189 => ?_) (fun c_189 => ?_)
  · refine Cp.iload X dX6_caughtFrom_240 rfl ?_
    refine Cp.istore_n (i := 3) X dX6_caughtFrom_242 rfl (Nat.le_of_ble_eq_true rfl) rfl ?_
    refine Cp.goto X 54 dX6_caughtFrom_243 (by decide) ?_
    refine Cp.mask [true, false, true, true, true, false, false, false] ?_
    exact hk54 x5 x4 σ
  · refine Cp.aload_n (i := 0) X dX6_caughtFrom_192 rfl rfl ?_
    refine gfX6_22 X 5 sr_0 rfl dX6_caughtFrom_193 ?_
    refine Cp.iload X dX6_caughtFrom_196 rfl ?_
    refine Cp.iload X dX6_caughtFrom_198 rfl ?_
    refine Cp.iload X dX6_caughtFrom_200 rfl ?_
    refine Cp.ishr X dX6_caughtFrom_202 ?_
    refine Cp.iconst (v := 1) X dX6_caughtFrom_203 rfl ?_
    refine Cp.iand X dX6_caughtFrom_204 ?_
    refine Cp.iconst (v := 1) X dX6_caughtFrom_205 rfl ?_
    refine Cp.icmp_ne X 226 dX6_caughtFrom_206 (by decide) (fun c_206 => ?_) (fun c_206 => ?_)
    · refine Cp.aload_n (i := 0) X dX6_caughtFrom_226 rfl rfl ?_
      refine gfX6_22 X 5 sr_0 rfl dX6_caughtFrom_227 ?_
      refine Cp.iload X dX6_caughtFrom_230 rfl ?_
      refine Cp.iald X sr_5 dX6_caughtFrom_232 ?_
      refine Cp.iast X sr_5 dX6_caughtFrom_233 ?_
      refine Cp.nameM (fun s_233 => ?_)
      refine Cp.iinc (v := x6 + 1) X dX6_caughtFrom_234 rfl rfl (Nat.le_of_ble_eq_true rfl) rfl ?_
      refine Cp.goto X 181 dX6_caughtFrom_237 (by decide) ?_
      exact hk181 (x6 + 1) s_233
    · refine Cp.aload_n (i := 0) X dX6_caughtFrom_209 rfl rfl ?_
      refine gfX6_22 X 5 sr_0 rfl dX6_caughtFrom_210 ?_
      refine Cp.iload X dX6_caughtFrom_213 rfl ?_
      refine Cp.iald X sr_5 dX6_caughtFrom_215 ?_
      refine Cp.if_ge X 226 dX6_caughtFrom_216 (by decide) (fun c_216 => ?_) (fun c_216 => ?_)
      · refine Cp.aload_n (i := 0) X dX6_caughtFrom_226 rfl rfl ?_
        refine gfX6_22 X 5 sr_0 rfl dX6_caughtFrom_227 ?_
        refine Cp.iload X dX6_caughtFrom_230 rfl ?_
        refine Cp.iald X sr_5 dX6_caughtFrom_232 ?_
        refine Cp.iast X sr_5 dX6_caughtFrom_233 ?_
        refine Cp.nameM (fun s_233 => ?_)
        refine Cp.iinc (v := x6 + 1) X dX6_caughtFrom_234 rfl rfl (Nat.le_of_ble_eq_true rfl) rfl ?_
        refine Cp.goto X 181 dX6_caughtFrom_237 (by decide) ?_
        exact hk181 (x6 + 1) s_233
      · refine Cp.aload_n (i := 0) X dX6_caughtFrom_219 rfl rfl ?_
        refine gfX6_148 X sr_0 rfl dX6_caughtFrom_220 ?_
        refine Cp.goto X 233 dX6_caughtFrom_223 (by decide) ?_
        refine Cp.iast X sr_5 dX6_caughtFrom_233 ?_
        refine Cp.nameM (fun s_233 => ?_)
        refine Cp.iinc (v := x6 + 1) X dX6_caughtFrom_234 rfl rfl (Nat.le_of_ble_eq_true rfl) rfl ?_
        refine Cp.goto X 181 dX6_caughtFrom_237 (by decide) ?_
        exact hk181 (x6 + 1) s_233)
set_option maxRecDepth 20000 in
theorem pX6_caughtFrom_157 {M : MC} {w : WE} (X : Cx M w shR cX6_caughtFrom 8 RX6 (some .int) 2)   (x2 : Int32) (x5 : Int32) (t0 : Int32)  (σ : Mem) (k54 : Int32 → Int32 → Mem → Option (Int32 × Mem)) (hk54 : ∀ (x3 : Int32) (x4 : Int32) (σ : Mem), Cp M w shR 8 iIM 54 [some (.ref (wad w 0)), none, some (.int x2), some (.int x3), some (.int x4), none, none, none] [] σ (k54 x3 x4 σ)) : Cp M w shR 8 iIM 157 [some (.ref (wad w 0)), none, some (.int x2), none, none, some (.int x5), none, none] [.int t0] σ (fX6_caughtFrom_157 k54 x2 x5 t0 σ) := by
  unfold fX6_caughtFrom_157
  refine Cp.istore X dX6_caughtFrom_157 (Nat.le_of_ble_eq_true rfl) rfl ?_
  refine Cp.aload_n (i := 0) X dX6_caughtFrom_159 rfl rfl ?_
  refine Cp.dup X dX6_caughtFrom_160 rfl ?_
  refine gfX6_148 X sr_0 rfl dX6_caughtFrom_161 ?_
  refine Cp.iload X dX6_caughtFrom_164 rfl ?_
  refine Cp.if_eq X 173 dX6_caughtFrom_166 (by decide) (fun c_166 => ?_) (fun c_166 => ?_)
  · refine Cp.iconst (v := 0) X dX6_caughtFrom_173 rfl ?_
    refine Cp.iadd X dX6_caughtFrom_174 ?_
    refine pfX6_148 X sr_0 rfl dX6_caughtFrom_175 ?_
    refine Cp.nameM (fun s_175 => ?_)
    refine Cp.iconst (v := 0) X dX6_caughtFrom_178 rfl ?_
    refine Cp.istore X dX6_caughtFrom_179 (Nat.le_of_ble_eq_true rfl) rfl ?_
    exact pX6_caughtFrom_181 X x2 t0 x5 k54 hk54 FU 0 s_175
  · refine Cp.iconst (v := 1) X dX6_caughtFrom_169 rfl ?_
    refine Cp.goto X 174 dX6_caughtFrom_170 (by decide) ?_
    refine Cp.iadd X dX6_caughtFrom_174 ?_
    refine pfX6_148 X sr_0 rfl dX6_caughtFrom_175 ?_
    refine Cp.nameM (fun s_175 => ?_)
    refine Cp.iconst (v := 0) X dX6_caughtFrom_178 rfl ?_
    refine Cp.istore X dX6_caughtFrom_179 (Nat.le_of_ble_eq_true rfl) rfl ?_
    exact pX6_caughtFrom_181 X x2 t0 x5 k54 hk54 FU 0 s_175
set_option maxRecDepth 20000 in
theorem pX6_caughtFrom_100 {M : MC} {w : WE} (X : Cx M w shR cX6_caughtFrom 8 RX6 (some .int) 2)   (x2 : Int32) (x3 : Int32) (x5 : Int32) (x6 : Int32) (t0 : Int32)  (σ : Mem) (k54 : Int32 → Int32 → Mem → Option (Int32 × Mem)) (hk54 : ∀ (x3 : Int32) (x4 : Int32) (σ : Mem), Cp M w shR 8 iIM 54 [some (.ref (wad w 0)), none, some (.int x2), some (.int x3), some (.int x4), none, none, none] [] σ (k54 x3 x4 σ)) (k65 : Int32 → Int32 → Option (Int32 × Mem)) (hk65 : ∀ (x5 : Int32) (x6 : Int32), Cp M w shR 8 iIM 65 [some (.ref (wad w 0)), none, some (.int x2), some (.int x3), none, some (.int x5), some (.int x6), none] [] σ (k65 x5 x6)) : Cp M w shR 8 iIM 100 [some (.ref (wad w 0)), none, some (.int x2), some (.int x3), none, some (.int x5), some (.int x6), none] [.int t0] σ (fX6_caughtFrom_100 k54 k65 x2 x3 x5 x6 t0 σ) := by
  unfold fX6_caughtFrom_100
  refine Cp.istore X dX6_caughtFrom_100 (Nat.le_of_ble_eq_true rfl) rfl ?_
  refine Cp.iload X dX6_caughtFrom_102 rfl ?_
  refine Cp.iload X dX6_caughtFrom_104 rfl ?_
  refine Cp.if_eq X 136 dX6_caughtFrom_106 (by decide) (fun c_106 => ?_) (fun c_106 => ?_)
  · refine Cp.iconst (v := 0) X dX6_caughtFrom_136 rfl ?_
    refine Cp.ior X dX6_caughtFrom_137 ?_
    refine Cp.nameI (fun x5_138 => ?_)
    refine Cp.istore X dX6_caughtFrom_138 (Nat.le_of_ble_eq_true rfl) rfl ?_
    refine Cp.iinc (v := x6 + 1) X dX6_caughtFrom_140 rfl rfl (Nat.le_of_ble_eq_true rfl) rfl ?_
    refine Cp.goto X 65 dX6_caughtFrom_143 (by decide) ?_
    refine Cp.mask [true, false, true, true, false, true, true, false] ?_
    exact hk65 x5_138 (x6 + 1)
  · refine Cp.aload_n (i := 0) X dX6_caughtFrom_109 rfl rfl ?_
    refine Cp.iload X dX6_caughtFrom_110 rfl ?_
    refine Cp.cVI [.int x5] X [.int x6] cvX6_near (kX6_near X.ok x6 σ) sr_0 rfl rfl wmX6_89 rfl rfl dX6_caughtFrom_112 rfl (Nat.le_of_ble_eq_true rfl) (fun v_112 => ?_)
    refine Cp.iload_n (i := 3) X dX6_caughtFrom_115 rfl rfl ?_
    refine Cp.iand X dX6_caughtFrom_116 ?_
    refine Cp.cSI [.int x5] X [.int (v_112 &&& x3)] csX6_ones (kX6_ones X.ok (v_112 &&& x3) σ) wmX6_76 rfl rfl dX6_caughtFrom_117 rfl (Nat.le_of_ble_eq_true rfl) (fun v_117 => ?_)
    refine Cp.aload_n (i := 0) X dX6_caughtFrom_120 rfl rfl ?_
    refine Cp.iload X dX6_caughtFrom_121 rfl ?_
    refine Cp.cVI [.int v_117, .int x5] X [.int x6] cvX6_numberOf (kX6_numberOf X.ok x6 σ) sr_0 rfl rfl wmX6_117 rfl rfl dX6_caughtFrom_123 rfl (Nat.le_of_ble_eq_true rfl) (fun v_123 => ?_)
    refine Cp.icmp_lt X 136 dX6_caughtFrom_126 (by decide) (fun c_126 => ?_) (fun c_126 => ?_)
    · refine Cp.iconst (v := 0) X dX6_caughtFrom_136 rfl ?_
      refine Cp.ior X dX6_caughtFrom_137 ?_
      refine Cp.nameI (fun x5_138 => ?_)
      refine Cp.istore X dX6_caughtFrom_138 (Nat.le_of_ble_eq_true rfl) rfl ?_
      refine Cp.iinc (v := x6 + 1) X dX6_caughtFrom_140 rfl rfl (Nat.le_of_ble_eq_true rfl) rfl ?_
      refine Cp.goto X 65 dX6_caughtFrom_143 (by decide) ?_
      refine Cp.mask [true, false, true, true, false, true, true, false] ?_
      exact hk65 x5_138 (x6 + 1)
    · refine Cp.iconst (v := 1) X dX6_caughtFrom_129 rfl ?_
      refine Cp.iload X dX6_caughtFrom_130 rfl ?_
      refine Cp.ishl X dX6_caughtFrom_132 ?_
      refine Cp.goto X 137 dX6_caughtFrom_133 (by decide) ?_
      refine Cp.ior X dX6_caughtFrom_137 ?_
      refine Cp.nameI (fun x5_138 => ?_)
      refine Cp.istore X dX6_caughtFrom_138 (Nat.le_of_ble_eq_true rfl) rfl ?_
      refine Cp.iinc (v := x6 + 1) X dX6_caughtFrom_140 rfl rfl (Nat.le_of_ble_eq_true rfl) rfl ?_
      refine Cp.goto X 65 dX6_caughtFrom_143 (by decide) ?_
      refine Cp.mask [true, false, true, true, false, true, true, false] ?_
      exact hk65 x5_138 (x6 + 1)
set_option maxRecDepth 20000 in
theorem pX6_caughtFrom_99 {M : MC} {w : WE} (X : Cx M w shR cX6_caughtFrom 8 RX6 (some .int) 2)   (x2 : Int32) (x3 : Int32) (x5 : Int32) (x6 : Int32)  (σ : Mem) (k54 : Int32 → Int32 → Mem → Option (Int32 × Mem)) (hk54 : ∀ (x3 : Int32) (x4 : Int32) (σ : Mem), Cp M w shR 8 iIM 54 [some (.ref (wad w 0)), none, some (.int x2), some (.int x3), some (.int x4), none, none, none] [] σ (k54 x3 x4 σ)) (k65 : Int32 → Int32 → Option (Int32 × Mem)) (hk65 : ∀ (x5 : Int32) (x6 : Int32), Cp M w shR 8 iIM 65 [some (.ref (wad w 0)), none, some (.int x2), some (.int x3), none, some (.int x5), some (.int x6), none] [] σ (k65 x5 x6)) : Cp M w shR 8 iIM 99 [some (.ref (wad w 0)), none, some (.int x2), some (.int x3), none, some (.int x5), some (.int x6), none] [] σ (fX6_caughtFrom_99 k54 k65 x2 x3 x5 x6 σ) := by
  unfold fX6_caughtFrom_99
  refine Cp.iconst (v := 0) X dX6_caughtFrom_99 rfl ?_
  exact pX6_caughtFrom_100 X x2 x3 x5 x6 0 σ k54 hk54 k65 hk65
set_option maxRecDepth 20000 in
theorem pX6_caughtFrom_65 {M : MC} {w : WE} (X : Cx M w shR cX6_caughtFrom 8 RX6 (some .int) 2)   (x2 : Int32) (x3 : Int32)  (σ : Mem) (k54 : Int32 → Int32 → Mem → Option (Int32 × Mem)) (hk54 : ∀ (x3 : Int32) (x4 : Int32) (σ : Mem), Cp M w shR 8 iIM 54 [some (.ref (wad w 0)), none, some (.int x2), some (.int x3), some (.int x4), none, none, none] [] σ (k54 x3 x4 σ)) : ∀ (n : Nat) (x5 : Int32) (x6 : Int32), Cp M w shR 8 iIM 65 [some (.ref (wad w 0)), none, some (.int x2), some (.int x3), none, some (.int x5), some (.int x6), none] [] σ (lw2 (fX6_caughtFrom_65 k54 x2 x3 σ) n x5 x6) :=
  lw2_i (P := fun x5 x6 b => Cp M w shR 8 iIM 65 [some (.ref (wad w 0)), none, some (.int x2), some (.int x3), none, some (.int x5), some (.int x6), none] [] σ b) (fun _ _ => Cp.non) (fun k65 hk65 x5 x6 => by
  unfold fX6_caughtFrom_65
  refine Cp.iload X dX6_caughtFrom_65 rfl ?_
  refine Cp.aload_n (i := 0) X dX6_caughtFrom_67 rfl rfl ?_
  refine gfX6_9 X 1 sr_0 rfl dX6_caughtFrom_68 ?_
  refine Cp.iconst (v := 5) X dX6_caughtFrom_71 rfl ?_
  refine Cp.ialdc (j := 5) X sr_1 (by decide) (by decide) dX6_caughtFrom_72 ?_
  refine Cp.icmp_ge X 146 dX6_caughtFrom_73 (by decide) (fun c_73 => ?_) (fun c_73 => ?_)
  · refine Cp.iload X dX6_caughtFrom_146 rfl ?_
    refine Cp.iload_n (i := 3) X dX6_caughtFrom_148 rfl rfl ?_
    refine Cp.icmp_eq X 156 dX6_caughtFrom_149 (by decide) (fun c_149 => ?_) (fun c_149 => ?_)
    · refine Cp.iconst (v := 0) X dX6_caughtFrom_156 rfl ?_
      refine Cp.mask [true, false, true, false, false, true, false, false] ?_
      exact pX6_caughtFrom_157 X x2 x5 0 σ k54 hk54
    · refine Cp.iconst (v := 1) X dX6_caughtFrom_152 rfl ?_
      refine Cp.goto X 157 dX6_caughtFrom_153 (by decide) ?_
      refine Cp.mask [true, false, true, false, false, true, false, false] ?_
      exact pX6_caughtFrom_157 X x2 x5 1 σ k54 hk54
  · refine Cp.iload_n (i := 2) X dX6_caughtFrom_76 rfl rfl ?_
    refine Cp.iload X dX6_caughtFrom_77 rfl ?_
    refine Cp.ishr X dX6_caughtFrom_79 ?_
    refine Cp.iconst (v := 1) X dX6_caughtFrom_80 rfl ?_
    refine Cp.iand X dX6_caughtFrom_81 ?_
    refine Cp.iconst (v := 1) X dX6_caughtFrom_82 rfl ?_
    refine Cp.icmp_ne X 99 dX6_caughtFrom_83 (by decide) (fun c_83 => ?_) (fun c_83 => ?_)
    · exact pX6_caughtFrom_99 X x2 x3 x5 x6 σ k54 hk54 k65 hk65
    · refine Cp.iload_n (i := 3) X dX6_caughtFrom_86 rfl rfl ?_
      refine Cp.iload X dX6_caughtFrom_87 rfl ?_
      refine Cp.ishr X dX6_caughtFrom_89 ?_
      refine Cp.iconst (v := 1) X dX6_caughtFrom_90 rfl ?_
      refine Cp.iand X dX6_caughtFrom_91 ?_
      refine Cp.if_ne X 99 dX6_caughtFrom_92 (by decide) (fun c_92 => ?_) (fun c_92 => ?_)
      · exact pX6_caughtFrom_99 X x2 x3 x5 x6 σ k54 hk54 k65 hk65
      · refine Cp.iconst (v := 1) X dX6_caughtFrom_95 rfl ?_
        refine Cp.goto X 100 dX6_caughtFrom_96 (by decide) ?_
        exact pX6_caughtFrom_100 X x2 x3 x5 x6 1 σ k54 hk54 k65 hk65)
set_option maxRecDepth 20000 in
theorem pX6_caughtFrom_54 {M : MC} {w : WE} (X : Cx M w shR cX6_caughtFrom 8 RX6 (some .int) 2)   (x2 : Int32)    : ∀ (n : Nat) (x3 : Int32) (x4 : Int32) (σ : Mem), Cp M w shR 8 iIM 54 [some (.ref (wad w 0)), none, some (.int x2), some (.int x3), some (.int x4), none, none, none] [] σ (lw3 (fX6_caughtFrom_54 x2) n x3 x4 σ) :=
  lw3_i (P := fun x3 x4 σ b => Cp M w shR 8 iIM 54 [some (.ref (wad w 0)), none, some (.int x2), some (.int x3), some (.int x4), none, none, none] [] σ b) (fun _ _ _ => Cp.non) (fun k54 hk54 x3 x4 σ => by
  unfold fX6_caughtFrom_54
  refine Cp.iload X dX6_caughtFrom_54 rfl ?_
  refine Cp.if_eq X 246 dX6_caughtFrom_56 (by decide) (fun c_56 => ?_) (fun c_56 => ?_)
  · refine Cp.iload_n (i := 3) X dX6_caughtFrom_246 rfl rfl ?_
    exact Cp.iret X dX6_caughtFrom_247 rfl
  · refine Cp.iload_n (i := 3) X dX6_caughtFrom_59 rfl rfl ?_
    refine Cp.istore X dX6_caughtFrom_60 (Nat.le_of_ble_eq_true rfl) rfl ?_
    refine Cp.iconst (v := 0) X dX6_caughtFrom_62 rfl ?_
    refine Cp.istore X dX6_caughtFrom_63 (Nat.le_of_ble_eq_true rfl) rfl ?_
    refine Cp.mask [true, false, true, true, false, true, true, false] ?_
    exact pX6_caughtFrom_65 X x2 x3 σ k54 hk54 FU x3 0)
set_option maxRecDepth 20000 in
theorem pX6_caughtFrom_12 {M : MC} {w : WE} (X : Cx M w shR cX6_caughtFrom 8 RX6 (some .int) 2)   (x2 : Int32) (x3 : Int32)    : ∀ (n : Nat) (x4 : Int32) (σ : Mem), Cp M w shR 8 iIM 12 [some (.ref (wad w 0)), none, some (.int x2), some (.int x3), some (.int x4), none, none, none] [] σ (lw2 (fX6_caughtFrom_12 x2 x3) n x4 σ) :=
  lw2_i (P := fun x4 σ b => Cp M w shR 8 iIM 12 [some (.ref (wad w 0)), none, some (.int x2), some (.int x3), some (.int x4), none, none, none] [] σ b) (fun _ _ => Cp.non) (fun k12 hk12 x4 σ => by
  unfold fX6_caughtFrom_12
  refine Cp.iload X dX6_caughtFrom_12 rfl ?_
  refine Cp.aload_n (i := 0) X dX6_caughtFrom_14 rfl rfl ?_
  refine gfX6_9 X 1 sr_0 rfl dX6_caughtFrom_15 ?_
  refine Cp.iconst (v := 5) X dX6_caughtFrom_18 rfl ?_
  refine Cp.ialdc (j := 5) X sr_1 (by decide) (by decide) dX6_caughtFrom_19 ?_
  refine Cp.icmp_ge X 51 dX6_caughtFrom_20 (by decide) (fun c_20 => ?_) (fun c_20 => ?_)
  · refine Cp.iconst (v := 1) X dX6_caughtFrom_51 rfl ?_
    refine Cp.istore X dX6_caughtFrom_52 (Nat.le_of_ble_eq_true rfl) rfl ?_
    exact pX6_caughtFrom_54 X x2 FU x3 1 σ
  · refine Cp.aload_n (i := 0) X dX6_caughtFrom_23 rfl rfl ?_
    refine gfX6_22 X 5 sr_0 rfl dX6_caughtFrom_24 ?_
    refine Cp.iload X dX6_caughtFrom_27 rfl ?_
    refine Cp.iload_n (i := 3) X dX6_caughtFrom_29 rfl rfl ?_
    refine Cp.iload X dX6_caughtFrom_30 rfl ?_
    refine Cp.ishr X dX6_caughtFrom_32 ?_
    refine Cp.iconst (v := 1) X dX6_caughtFrom_33 rfl ?_
    refine Cp.iand X dX6_caughtFrom_34 ?_
    refine Cp.iconst (v := 1) X dX6_caughtFrom_35 rfl ?_
    refine Cp.icmp_ne X 43 dX6_caughtFrom_36 (by decide) (fun c_36 => ?_) (fun c_36 => ?_)
    · refine Cp.iconst (v := (-1)) X dX6_caughtFrom_43 rfl ?_
      refine Cp.iast X sr_5 dX6_caughtFrom_44 ?_
      refine Cp.nameM (fun s_44 => ?_)
      refine Cp.iinc (v := x4 + 1) X dX6_caughtFrom_45 rfl rfl (Nat.le_of_ble_eq_true rfl) rfl ?_
      refine Cp.goto X 12 dX6_caughtFrom_48 (by decide) ?_
      exact hk12 (x4 + 1) s_44
    · refine Cp.iconst (v := 0) X dX6_caughtFrom_39 rfl ?_
      refine Cp.goto X 44 dX6_caughtFrom_40 (by decide) ?_
      refine Cp.iast X sr_5 dX6_caughtFrom_44 ?_
      refine Cp.nameM (fun s_44 => ?_)
      refine Cp.iinc (v := x4 + 1) X dX6_caughtFrom_45 rfl rfl (Nat.le_of_ble_eq_true rfl) rfl ?_
      refine Cp.goto X 12 dX6_caughtFrom_48 (by decide) ?_
      exact hk12 (x4 + 1) s_44)
set_option maxRecDepth 20000 in
theorem pX6_caughtFrom {M : MC} {w : WE} (X : Cx M w shR cX6_caughtFrom 8 RX6 (some .int) 2)   (x1 : Int32) (x2 : Int32) (σ : Mem) : Cp M w shR 8 iIM 0 [some (.ref (wad w 0)), some (.int x1), some (.int x2), none, none, none, none, none] [] σ (fX6_caughtFrom x1 x2 σ) := by
  unfold fX6_caughtFrom
  refine Cp.iload_n (i := 1) X dX6_caughtFrom_0 rfl rfl ?_
  refine Cp.iload_n (i := 2) X dX6_caughtFrom_1 rfl rfl ?_
  refine Cp.iand X dX6_caughtFrom_2 ?_
  refine Cp.nameI (fun x3_3 => ?_)
  refine Cp.istore_n (i := 3) X dX6_caughtFrom_3 rfl (Nat.le_of_ble_eq_true rfl) rfl ?_
  refine Cp.aload_n (i := 0) X dX6_caughtFrom_4 rfl rfl ?_
  refine Cp.iconst (v := 0) X dX6_caughtFrom_5 rfl ?_
  refine pfX6_148 X sr_0 rfl dX6_caughtFrom_6 ?_
  refine Cp.nameM (fun s_6 => ?_)
  refine Cp.iconst (v := 0) X dX6_caughtFrom_9 rfl ?_
  refine Cp.istore X dX6_caughtFrom_10 (Nat.le_of_ble_eq_true rfl) rfl ?_
  refine Cp.mask [true, false, true, true, true, false, false, false] ?_
  exact pX6_caughtFrom_12 X x2 x3_3 FU 0 s_6
theorem kX6_caughtFrom {l : Launch} {w : WE} (hok : OkW w shR)   (x1 : Int32) (x2 : Int32) (σ : Mem) : ∀ v, fX6_caughtFrom x1 x2 σ = some v → Ctr l w shR yX6_caughtFrom cX6_caughtFrom 8 (some .int) 2 [.ref (wad w 0), .int x1, .int x2] σ (iIM v) := fun v hv => Ctr.of [some (.ref (wad w 0)), some (.int x1), some (.int x2), none, none, none, none, none] (by decide) hok rfl (Nat.le_of_ble_eq_true rfl) (fun M _ X => pX6_caughtFrom X   x1 x2 σ v hv)
def fX6_laughAt (x1 : Int32) (x2 : Int32) (σ : Mem) : Option (Int32 × Mem) :=
  ((fX6_byThemselves x1 x2 σ).bind fun v_4 => (bnd2 (fX6_caughtFrom v_4 (fX6_everybody σ) σ) fun v_11 s_11 => (some (v_11, s_11))))
set_option maxRecDepth 20000 in
theorem pX6_laughAt {M : MC} {w : WE} (X : Cx M w shR cX6_laughAt 3 RX6 (some .int) 3)   (x1 : Int32) (x2 : Int32) (σ : Mem) : Cp M w shR 3 iIM 0 [some (.ref (wad w 0)), some (.int x1), some (.int x2)] [] σ (fX6_laughAt x1 x2 σ) := by
  unfold fX6_laughAt
  refine Cp.aload_n (i := 0) X dX6_laughAt_0 rfl rfl ?_
  refine Cp.aload_n (i := 0) X dX6_laughAt_1 rfl rfl ?_
  refine Cp.iload_n (i := 1) X dX6_laughAt_2 rfl rfl ?_
  refine Cp.iload_n (i := 2) X dX6_laughAt_3 rfl rfl ?_
  refine Cp.cVI [.ref (wad w 0)] X [.int x1, .int x2] cvX6_byThemselves (kX6_byThemselves X.ok x1 x2 σ) sr_0 rfl rfl wmX6_152 rfl rfl dX6_laughAt_4 rfl (Nat.le_of_ble_eq_true rfl) (fun v_4 => ?_)
  refine Cp.aload_n (i := 0) X dX6_laughAt_7 rfl rfl ?_
  refine Cp.cVIT [.int v_4, .ref (wad w 0)] X [] cvX6_everybody (kX6_everybody X.ok σ) sr_0 rfl rfl wmX6_155 rfl rfl dX6_laughAt_8 rfl (Nat.le_of_ble_eq_true rfl) ?_
  refine Cp.cVIM [] X [.int v_4, .int (fX6_everybody σ)] cvX6_caughtFrom (kX6_caughtFrom X.ok v_4 (fX6_everybody σ) σ) sr_0 rfl rfl wmX6_159 rfl rfl dX6_laughAt_11 rfl (Nat.le_of_ble_eq_true rfl) (fun v_11 s_11 => ?_)
  exact Cp.iret X dX6_laughAt_14 rfl
theorem kX6_laughAt {l : Launch} {w : WE} (hok : OkW w shR)   (x1 : Int32) (x2 : Int32) (σ : Mem) : ∀ v, fX6_laughAt x1 x2 σ = some v → Ctr l w shR yX6_laughAt cX6_laughAt 3 (some .int) 3 [.ref (wad w 0), .int x1, .int x2] σ (iIM v) := fun v hv => Ctr.of [some (.ref (wad w 0)), some (.int x1), some (.int x2)] (by decide) hok rfl (Nat.le_of_ble_eq_true rfl) (fun M _ X => pX6_laughAt X   x1 x2 σ v hv)
def fX6_tells_168 (k141 : Int32 → Mem → Option (Int32 × Mem)) (x4 : Int32) (x5 : Int32) (t0 : Int32) (σ : Mem) : Option (Int32 × Mem) :=
  ((fX6_its x5 4 σ).bind fun v_178 => (gd (inB x5 8 = true) ((fX6_sets x5 4 (v_178 - (σ 6 x5.toNatClampNeg)) σ).bind fun s_189 => ((fX6_its x5 3 s_189).bind fun v_203 => (if t0 = 0 then ((fX6_sets x5 3 (iMax 0 (iMin 9 (v_203 + (-1)))) s_189).bind fun s_223 => (k141 (x5 + 1) s_223)) else ((fX6_sets x5 3 (iMax 0 (iMin 9 (v_203 + 1))) s_189).bind fun s_223 => (k141 (x5 + 1) s_223)))))))
def fX6_tells_141 (x4 : Int32) (k141 : Int32 → Mem → Option (Int32 × Mem)) (x5 : Int32) (σ : Mem) : Option (Int32 × Mem) :=
  (if (σ 1 5) ≤ x5 then (pb (up2 σ 1 3 ((σ 1 3) + 1) : Mem) fun s_241 => (some (x4, s_241))) else (if ((x4 >>> (x5 &&& 31)) &&& 1) = 1 then (fX6_tells_168 k141 x4 x5 1 σ) else (fX6_tells_168 k141 x4 x5 0 σ)))
def fX6_tells_83 (k37 : Int32 → Mem → Option (Int32 × Mem)) (x2 : Int32) (x3 : Int32) (x4 : Int32) (x5 : Int32) (t0 : Int32) (σ : Mem) : Option (Int32 × Mem) :=
  ((fX6_its x5 4 σ).bind fun v_97 => (gd (inB x5 8 = true) (pb (up2 σ 6 x5.toNatClampNeg (iMin t0 (iMin v_97 (999999 - (σ 1 2)))) : Mem) fun s_115 => (gd (inB x5 8 = true) (pb (up2 s_115 1 2 ((s_115 1 2) + (s_115 6 x5.toNatClampNeg)) : Mem) fun s_131 => (k37 (x5 + 1) s_131))))))
def fX6_tells_64 (k37 : Int32 → Mem → Option (Int32 × Mem)) (x2 : Int32) (x3 : Int32) (x4 : Int32) (x5 : Int32) (t0 : Int32) (σ : Mem) : Option (Int32 × Mem) :=
  (if t0 = 0 then (fX6_tells_83 k37 x2 x3 x4 x5 0 σ) else ((fX6_due x2 x3 x5 σ).bind fun v_76 => (fX6_tells_83 k37 x2 x3 x4 x5 v_76 σ)))
def fX6_tells_37 (x2 : Int32) (x3 : Int32) (x4 : Int32) (k37 : Int32 → Mem → Option (Int32 × Mem)) (x5 : Int32) (σ : Mem) : Option (Int32 × Mem) :=
  (if (σ 1 5) ≤ x5 then (lw2 (fX6_tells_141 x4) FU 0 σ) else (if ((x4 >>> (x5 &&& 31)) &&& 1) = 1 then (fX6_tells_64 k37 x2 x3 x4 x5 1 σ) else (fX6_tells_64 k37 x2 x3 x4 x5 0 σ)))
def fX6_tells (x1 : Int32) (σ : Mem) : Option (Int32 × Mem) :=
  (gd (inB (7 + (2 * x1)) 73 = true) (pb (σ 1 (7 + (2 * x1)).toNatClampNeg : Int32) fun x2_11 => (gd (inB ((7 + (2 * x1)) + 1) 73 = true) (pb (σ 1 ((7 + (2 * x1)) + 1).toNatClampNeg : Int32) fun x3_25 => (bnd2 (fX6_laughAt x2_11 x3_25 σ) fun v_29 s_29 => (lw2 (fX6_tells_37 x2_11 x3_25 v_29) FU 0 s_29))))))
set_option maxRecDepth 20000 in
theorem pX6_tells_168 {M : MC} {w : WE} (X : Cx M w shR cX6_tells 8 RX6 (some .int) 4)   (x4 : Int32) (x5 : Int32) (t0 : Int32)  (σ : Mem) (k141 : Int32 → Mem → Option (Int32 × Mem)) (hk141 : ∀ (x5 : Int32) (σ : Mem), Cp M w shR 8 iIM 141 [some (.ref (wad w 0)), none, none, none, some (.int x4), some (.int x5), none, none] [] σ (k141 x5 σ)) : Cp M w shR 8 iIM 168 [some (.ref (wad w 0)), none, none, none, some (.int x4), some (.int x5), none, none] [.int t0] σ (fX6_tells_168 k141 x4 x5 t0 σ) := by
  unfold fX6_tells_168
  refine Cp.istore X dX6_tells_168 (Nat.le_of_ble_eq_true rfl) rfl ?_
  refine Cp.aload_n (i := 0) X dX6_tells_170 rfl rfl ?_
  refine Cp.iload X dX6_tells_171 rfl ?_
  refine Cp.iconst (v := 4) X dX6_tells_173 rfl ?_
  refine Cp.aload_n (i := 0) X dX6_tells_174 rfl rfl ?_
  refine Cp.iload X dX6_tells_175 rfl ?_
  refine Cp.iconst (v := 4) X dX6_tells_177 rfl ?_
  refine Cp.cVI [.int 4, .int x5, .ref (wad w 0)] X [.int x5, .int 4] cvX6_its (kX6_its X.ok x5 4 σ) sr_0 rfl rfl wmX6_64 rfl rfl dX6_tells_178 rfl (Nat.le_of_ble_eq_true rfl) (fun v_178 => ?_)
  refine Cp.aload_n (i := 0) X dX6_tells_181 rfl rfl ?_
  refine gfX6_25 X 6 sr_0 rfl dX6_tells_182 ?_
  refine Cp.iload X dX6_tells_185 rfl ?_
  refine Cp.iald X sr_6 dX6_tells_187 ?_
  refine Cp.isub X dX6_tells_188 ?_
  refine Cp.cVV [] X [.int x5, .int 4, .int (v_178 - (σ 6 x5.toNatClampNeg))] cvX6_sets (kX6_sets X.ok x5 4 (v_178 - (σ 6 x5.toNatClampNeg)) σ) sr_0 rfl rfl wmX6_92 rfl rfl dX6_tells_189 rfl (Nat.le_of_ble_eq_true rfl) (fun s_189 => ?_)
  refine Cp.aload_n (i := 0) X dX6_tells_192 rfl rfl ?_
  refine Cp.iload X dX6_tells_193 rfl ?_
  refine Cp.iconst (v := 3) X dX6_tells_195 rfl ?_
  refine Cp.iconst (v := 0) X dX6_tells_196 rfl ?_
  refine Cp.bipush (v := 9) X dX6_tells_197 rfl ?_
  refine Cp.aload_n (i := 0) X dX6_tells_199 rfl rfl ?_
  refine Cp.iload X dX6_tells_200 rfl ?_
  refine Cp.iconst (v := 3) X dX6_tells_202 rfl ?_
  refine Cp.cVI [.int 9, .int 0, .int 3, .int x5, .ref (wad w 0)] X [.int x5, .int 3] cvX6_its (kX6_its X.ok x5 3 s_189) sr_0 rfl rfl wmX6_64 rfl rfl dX6_tells_203 rfl (Nat.le_of_ble_eq_true rfl) (fun v_203 => ?_)
  refine Cp.iload X dX6_tells_206 rfl ?_
  refine Cp.if_eq X 215 dX6_tells_208 (by decide) (fun c_208 => ?_) (fun c_208 => ?_)
  · refine Cp.iconst (v := (-1)) X dX6_tells_215 rfl ?_
    refine Cp.iadd X dX6_tells_216 ?_
    refine Cp.mmin X wqX6_68 (by decide) dX6_tells_217 (Nat.le_of_ble_eq_true rfl) ?_
    refine Cp.mmax X wqX6_83 (by decide) dX6_tells_220 (Nat.le_of_ble_eq_true rfl) ?_
    refine Cp.cVV [] X [.int x5, .int 3, .int (iMax 0 (iMin 9 (v_203 + (-1))))] cvX6_sets (kX6_sets X.ok x5 3 (iMax 0 (iMin 9 (v_203 + (-1)))) s_189) sr_0 rfl rfl wmX6_92 rfl rfl dX6_tells_223 rfl (Nat.le_of_ble_eq_true rfl) (fun s_223 => ?_)
    refine Cp.iinc (v := x5 + 1) X dX6_tells_226 rfl rfl (Nat.le_of_ble_eq_true rfl) rfl ?_
    refine Cp.goto X 141 dX6_tells_229 (by decide) ?_
    refine Cp.mask [true, false, false, false, true, true, false, false] ?_
    exact hk141 (x5 + 1) s_223
  · refine Cp.iconst (v := 1) X dX6_tells_211 rfl ?_
    refine Cp.goto X 216 dX6_tells_212 (by decide) ?_
    refine Cp.iadd X dX6_tells_216 ?_
    refine Cp.mmin X wqX6_68 (by decide) dX6_tells_217 (Nat.le_of_ble_eq_true rfl) ?_
    refine Cp.mmax X wqX6_83 (by decide) dX6_tells_220 (Nat.le_of_ble_eq_true rfl) ?_
    refine Cp.cVV [] X [.int x5, .int 3, .int (iMax 0 (iMin 9 (v_203 + 1)))] cvX6_sets (kX6_sets X.ok x5 3 (iMax 0 (iMin 9 (v_203 + 1))) s_189) sr_0 rfl rfl wmX6_92 rfl rfl dX6_tells_223 rfl (Nat.le_of_ble_eq_true rfl) (fun s_223 => ?_)
    refine Cp.iinc (v := x5 + 1) X dX6_tells_226 rfl rfl (Nat.le_of_ble_eq_true rfl) rfl ?_
    refine Cp.goto X 141 dX6_tells_229 (by decide) ?_
    refine Cp.mask [true, false, false, false, true, true, false, false] ?_
    exact hk141 (x5 + 1) s_223
set_option maxRecDepth 20000 in
theorem pX6_tells_141 {M : MC} {w : WE} (X : Cx M w shR cX6_tells 8 RX6 (some .int) 4)   (x4 : Int32)    : ∀ (n : Nat) (x5 : Int32) (σ : Mem), Cp M w shR 8 iIM 141 [some (.ref (wad w 0)), none, none, none, some (.int x4), some (.int x5), none, none] [] σ (lw2 (fX6_tells_141 x4) n x5 σ) :=
  lw2_i (P := fun x5 σ b => Cp M w shR 8 iIM 141 [some (.ref (wad w 0)), none, none, none, some (.int x4), some (.int x5), none, none] [] σ b) (fun _ _ => Cp.non) (fun k141 hk141 x5 σ => by
  unfold fX6_tells_141
  refine Cp.iload X dX6_tells_141 rfl ?_
  refine Cp.aload_n (i := 0) X dX6_tells_143 rfl rfl ?_
  refine gfX6_9 X 1 sr_0 rfl dX6_tells_144 ?_
  refine Cp.iconst (v := 5) X dX6_tells_147 rfl ?_
  refine Cp.ialdc (j := 5) X sr_1 (by decide) (by decide) dX6_tells_148 ?_
  refine Cp.icmp_ge X 232 dX6_tells_149 (by decide) (fun c_149 => ?_) (fun c_149 => ?_)
  · refine Cp.aload_n (i := 0) X dX6_tells_232 rfl rfl ?_
    refine gfX6_9 X 1 sr_0 rfl dX6_tells_233 ?_
    refine Cp.iconst (v := 3) X dX6_tells_236 rfl ?_
    refine Cp.dup2 X dX6_tells_237 rfl rfl ?_
    refine Cp.ialdc (j := 3) X sr_1 (by decide) (by decide) dX6_tells_238 ?_
    refine Cp.iconst (v := 1) X dX6_tells_239 rfl ?_
    refine Cp.iadd X dX6_tells_240 ?_
    refine Cp.iastc (j := 3) X sr_1 (by decide) (by decide) dX6_tells_241 ?_
    refine Cp.nameM (fun s_241 => ?_)
    refine Cp.iload X dX6_tells_242 rfl ?_
    exact Cp.iret X dX6_tells_244 rfl
  · refine Cp.iload X dX6_tells_152 rfl ?_
    refine Cp.iload X dX6_tells_154 rfl ?_
    refine Cp.ishr X dX6_tells_156 ?_
    refine Cp.iconst (v := 1) X dX6_tells_157 rfl ?_
    refine Cp.iand X dX6_tells_158 ?_
    refine Cp.iconst (v := 1) X dX6_tells_159 rfl ?_
    refine Cp.icmp_ne X 167 dX6_tells_160 (by decide) (fun c_160 => ?_) (fun c_160 => ?_)
    · refine Cp.iconst (v := 0) X dX6_tells_167 rfl ?_
      exact pX6_tells_168 X x4 x5 0 σ k141 hk141
    · refine Cp.iconst (v := 1) X dX6_tells_163 rfl ?_
      refine Cp.goto X 168 dX6_tells_164 (by decide) ?_
      exact pX6_tells_168 X x4 x5 1 σ k141 hk141)
set_option maxRecDepth 20000 in
theorem pX6_tells_83 {M : MC} {w : WE} (X : Cx M w shR cX6_tells 8 RX6 (some .int) 4)   (x2 : Int32) (x3 : Int32) (x4 : Int32) (x5 : Int32) (t0 : Int32)  (σ : Mem) (k37 : Int32 → Mem → Option (Int32 × Mem)) (hk37 : ∀ (x5 : Int32) (σ : Mem), Cp M w shR 8 iIM 37 [some (.ref (wad w 0)), none, some (.int x2), some (.int x3), some (.int x4), some (.int x5), none, none] [] σ (k37 x5 σ)) : Cp M w shR 8 iIM 83 [some (.ref (wad w 0)), none, some (.int x2), some (.int x3), some (.int x4), some (.int x5), none, none] [.int t0] σ (fX6_tells_83 k37 x2 x3 x4 x5 t0 σ) := by
  unfold fX6_tells_83
  refine Cp.istore X dX6_tells_83 (Nat.le_of_ble_eq_true rfl) rfl ?_
  refine Cp.aload_n (i := 0) X dX6_tells_85 rfl rfl ?_
  refine gfX6_25 X 6 sr_0 rfl dX6_tells_86 ?_
  refine Cp.iload X dX6_tells_89 rfl ?_
  refine Cp.iload X dX6_tells_91 rfl ?_
  refine Cp.aload_n (i := 0) X dX6_tells_93 rfl rfl ?_
  refine Cp.iload X dX6_tells_94 rfl ?_
  refine Cp.iconst (v := 4) X dX6_tells_96 rfl ?_
  refine Cp.cVI [.int t0, .int x5, .ref (wad w 6)] X [.int x5, .int 4] cvX6_its (kX6_its X.ok x5 4 σ) sr_0 rfl rfl wmX6_64 rfl rfl dX6_tells_97 rfl (Nat.le_of_ble_eq_true rfl) (fun v_97 => ?_)
  refine Cp.ldc (v := 999999) X wcX6_165 dX6_tells_100 ?_
  refine Cp.aload_n (i := 0) X dX6_tells_102 rfl rfl ?_
  refine gfX6_9 X 1 sr_0 rfl dX6_tells_103 ?_
  refine Cp.iconst (v := 2) X dX6_tells_106 rfl ?_
  refine Cp.ialdc (j := 2) X sr_1 (by decide) (by decide) dX6_tells_107 ?_
  refine Cp.isub X dX6_tells_108 ?_
  refine Cp.mmin X wqX6_68 (by decide) dX6_tells_109 (Nat.le_of_ble_eq_true rfl) ?_
  refine Cp.mmin X wqX6_68 (by decide) dX6_tells_112 (Nat.le_of_ble_eq_true rfl) ?_
  refine Cp.iast X sr_6 dX6_tells_115 ?_
  refine Cp.nameM (fun s_115 => ?_)
  refine Cp.aload_n (i := 0) X dX6_tells_116 rfl rfl ?_
  refine gfX6_9 X 1 sr_0 rfl dX6_tells_117 ?_
  refine Cp.iconst (v := 2) X dX6_tells_120 rfl ?_
  refine Cp.dup2 X dX6_tells_121 rfl rfl ?_
  refine Cp.ialdc (j := 2) X sr_1 (by decide) (by decide) dX6_tells_122 ?_
  refine Cp.aload_n (i := 0) X dX6_tells_123 rfl rfl ?_
  refine gfX6_25 X 6 sr_0 rfl dX6_tells_124 ?_
  refine Cp.iload X dX6_tells_127 rfl ?_
  refine Cp.iald X sr_6 dX6_tells_129 ?_
  refine Cp.iadd X dX6_tells_130 ?_
  refine Cp.iastc (j := 2) X sr_1 (by decide) (by decide) dX6_tells_131 ?_
  refine Cp.nameM (fun s_131 => ?_)
  refine Cp.iinc (v := x5 + 1) X dX6_tells_132 rfl rfl (Nat.le_of_ble_eq_true rfl) rfl ?_
  refine Cp.goto X 37 dX6_tells_135 (by decide) ?_
  refine Cp.mask [true, false, true, true, true, true, false, false] ?_
  exact hk37 (x5 + 1) s_131
set_option maxRecDepth 20000 in
theorem pX6_tells_64 {M : MC} {w : WE} (X : Cx M w shR cX6_tells 8 RX6 (some .int) 4)   (x2 : Int32) (x3 : Int32) (x4 : Int32) (x5 : Int32) (t0 : Int32)  (σ : Mem) (k37 : Int32 → Mem → Option (Int32 × Mem)) (hk37 : ∀ (x5 : Int32) (σ : Mem), Cp M w shR 8 iIM 37 [some (.ref (wad w 0)), none, some (.int x2), some (.int x3), some (.int x4), some (.int x5), none, none] [] σ (k37 x5 σ)) : Cp M w shR 8 iIM 64 [some (.ref (wad w 0)), none, some (.int x2), some (.int x3), some (.int x4), some (.int x5), none, none] [.int t0] σ (fX6_tells_64 k37 x2 x3 x4 x5 t0 σ) := by
  unfold fX6_tells_64
  refine Cp.istore X dX6_tells_64 (Nat.le_of_ble_eq_true rfl) rfl ?_
  refine Cp.iload X dX6_tells_66 rfl ?_
  refine Cp.if_eq X 82 dX6_tells_68 (by decide) (fun c_68 => ?_) (fun c_68 => ?_)
  · refine Cp.iconst (v := 0) X dX6_tells_82 rfl ?_
    refine Cp.mask [true, false, true, true, true, true, false, false] ?_
    exact pX6_tells_83 X x2 x3 x4 x5 0 σ k37 hk37
  · refine Cp.aload_n (i := 0) X dX6_tells_71 rfl rfl ?_
    refine Cp.iload_n (i := 2) X dX6_tells_72 rfl rfl ?_
    refine Cp.iload_n (i := 3) X dX6_tells_73 rfl rfl ?_
    refine Cp.iload X dX6_tells_74 rfl ?_
    refine Cp.cVI [] X [.int x2, .int x3, .int x5] cvX6_due (kX6_due X.ok x2 x3 x5 σ) sr_0 rfl rfl wmX6_145 rfl rfl dX6_tells_76 rfl (Nat.le_of_ble_eq_true rfl) (fun v_76 => ?_)
    refine Cp.goto X 83 dX6_tells_79 (by decide) ?_
    refine Cp.mask [true, false, true, true, true, true, false, false] ?_
    exact pX6_tells_83 X x2 x3 x4 x5 v_76 σ k37 hk37
set_option maxRecDepth 20000 in
theorem pX6_tells_37 {M : MC} {w : WE} (X : Cx M w shR cX6_tells 8 RX6 (some .int) 4)   (x2 : Int32) (x3 : Int32) (x4 : Int32)    : ∀ (n : Nat) (x5 : Int32) (σ : Mem), Cp M w shR 8 iIM 37 [some (.ref (wad w 0)), none, some (.int x2), some (.int x3), some (.int x4), some (.int x5), none, none] [] σ (lw2 (fX6_tells_37 x2 x3 x4) n x5 σ) :=
  lw2_i (P := fun x5 σ b => Cp M w shR 8 iIM 37 [some (.ref (wad w 0)), none, some (.int x2), some (.int x3), some (.int x4), some (.int x5), none, none] [] σ b) (fun _ _ => Cp.non) (fun k37 hk37 x5 σ => by
  unfold fX6_tells_37
  refine Cp.iload X dX6_tells_37 rfl ?_
  refine Cp.aload_n (i := 0) X dX6_tells_39 rfl rfl ?_
  refine gfX6_9 X 1 sr_0 rfl dX6_tells_40 ?_
  refine Cp.iconst (v := 5) X dX6_tells_43 rfl ?_
  refine Cp.ialdc (j := 5) X sr_1 (by decide) (by decide) dX6_tells_44 ?_
  refine Cp.icmp_ge X 138 dX6_tells_45 (by decide) (fun c_45 => ?_) (fun c_45 => ?_)
  · refine Cp.iconst (v := 0) X dX6_tells_138 rfl ?_
    refine Cp.istore X dX6_tells_139 (Nat.le_of_ble_eq_true rfl) rfl ?_
    refine Cp.mask [true, false, false, false, true, true, false, false] ?_
    exact pX6_tells_141 X x4 FU 0 σ
  · refine Cp.iload X dX6_tells_48 rfl ?_
    refine Cp.iload X dX6_tells_50 rfl ?_
    refine Cp.ishr X dX6_tells_52 ?_
    refine Cp.iconst (v := 1) X dX6_tells_53 rfl ?_
    refine Cp.iand X dX6_tells_54 ?_
    refine Cp.iconst (v := 1) X dX6_tells_55 rfl ?_
    refine Cp.icmp_ne X 63 dX6_tells_56 (by decide) (fun c_56 => ?_) (fun c_56 => ?_)
    · refine Cp.iconst (v := 0) X dX6_tells_63 rfl ?_
      exact pX6_tells_64 X x2 x3 x4 x5 0 σ k37 hk37
    · refine Cp.iconst (v := 1) X dX6_tells_59 rfl ?_
      refine Cp.goto X 64 dX6_tells_60 (by decide) ?_
      exact pX6_tells_64 X x2 x3 x4 x5 1 σ k37 hk37)
set_option maxRecDepth 20000 in
theorem pX6_tells {M : MC} {w : WE} (X : Cx M w shR cX6_tells 8 RX6 (some .int) 4)   (x1 : Int32) (σ : Mem) : Cp M w shR 8 iIM 0 [some (.ref (wad w 0)), some (.int x1), none, none, none, none, none, none] [] σ (fX6_tells x1 σ) := by
  unfold fX6_tells
  refine Cp.aload_n (i := 0) X dX6_tells_0 rfl rfl ?_
  refine gfX6_9 X 1 sr_0 rfl dX6_tells_1 ?_
  refine Cp.bipush (v := 7) X dX6_tells_4 rfl ?_
  refine Cp.iconst (v := 2) X dX6_tells_6 rfl ?_
  refine Cp.iload_n (i := 1) X dX6_tells_7 rfl rfl ?_
  refine Cp.imul X dX6_tells_8 ?_
  refine Cp.iadd X dX6_tells_9 ?_
  refine Cp.iald X sr_1 dX6_tells_10 ?_
  refine Cp.nameI (fun x2_11 => ?_)
  refine Cp.istore_n (i := 2) X dX6_tells_11 rfl (Nat.le_of_ble_eq_true rfl) rfl ?_
  refine Cp.aload_n (i := 0) X dX6_tells_12 rfl rfl ?_
  refine gfX6_9 X 1 sr_0 rfl dX6_tells_13 ?_
  refine Cp.bipush (v := 7) X dX6_tells_16 rfl ?_
  refine Cp.iconst (v := 2) X dX6_tells_18 rfl ?_
  refine Cp.iload_n (i := 1) X dX6_tells_19 rfl rfl ?_
  refine Cp.imul X dX6_tells_20 ?_
  refine Cp.iadd X dX6_tells_21 ?_
  refine Cp.iconst (v := 1) X dX6_tells_22 rfl ?_
  refine Cp.iadd X dX6_tells_23 ?_
  refine Cp.iald X sr_1 dX6_tells_24 ?_
  refine Cp.nameI (fun x3_25 => ?_)
  refine Cp.istore_n (i := 3) X dX6_tells_25 rfl (Nat.le_of_ble_eq_true rfl) rfl ?_
  refine Cp.aload_n (i := 0) X dX6_tells_26 rfl rfl ?_
  refine Cp.iload_n (i := 2) X dX6_tells_27 rfl rfl ?_
  refine Cp.iload_n (i := 3) X dX6_tells_28 rfl rfl ?_
  refine Cp.cVIM [] X [.int x2_11, .int x3_25] cvX6_laughAt (kX6_laughAt X.ok x2_11 x3_25 σ) sr_0 rfl rfl wmX6_162 rfl rfl dX6_tells_29 rfl (Nat.le_of_ble_eq_true rfl) (fun v_29 s_29 => ?_)
  refine Cp.istore X dX6_tells_32 (Nat.le_of_ble_eq_true rfl) rfl ?_
  refine Cp.iconst (v := 0) X dX6_tells_34 rfl ?_
  refine Cp.istore X dX6_tells_35 (Nat.le_of_ble_eq_true rfl) rfl ?_
  refine Cp.mask [true, false, true, true, true, true, false, false] ?_
  exact pX6_tells_37 X x2_11 x3_25 v_29 FU 0 s_29
theorem kX6_tells {l : Launch} {w : WE} (hok : OkW w shR)   (x1 : Int32) (σ : Mem) : ∀ v, fX6_tells x1 σ = some v → Ctr l w shR yX6_tells cX6_tells 8 (some .int) 4 [.ref (wad w 0), .int x1] σ (iIM v) := fun v hv => Ctr.of [some (.ref (wad w 0)), some (.int x1), none, none, none, none, none, none] (by decide) hok rfl (Nat.le_of_ble_eq_true rfl) (fun M _ X => pX6_tells X   x1 σ v hv)
def fX6_tell (x1 : Int32) (σ : Mem) : Option (Int32 × Mem) :=
  (if fX6_isJoke x1 σ = true then (if (σ 1 3) = 99999 then (bnd2 (fX6_finds 4 σ) fun v_27 s_27 => (some (v_27, s_27))) else (bnd2 (fX6_tells x1 σ) fun v_35 s_35 => (some (v_35, s_35)))) else (bnd2 (fX6_finds 0 σ) fun v_10 s_10 => (some (v_10, s_10))))
set_option maxRecDepth 20000 in
theorem pX6_tell {M : MC} {w : WE} (X : Cx M w shR cX6_tell 2 RX6 (some .int) 5)   (x1 : Int32) (σ : Mem) : Cp M w shR 2 iIM 0 [some (.ref (wad w 0)), some (.int x1)] [] σ (fX6_tell x1 σ) := by
  unfold fX6_tell
  refine Cp.aload_n (i := 0) X dX6_tell_0 rfl rfl ?_
  refine Cp.iload_n (i := 1) X dX6_tell_1 rfl rfl ?_
  refine Cp.cVBT [] X [.int x1] cvX6_isJoke (kX6_isJoke X.ok x1 σ) sr_0 rfl rfl wmX6_138 rfl rfl dX6_tell_2 rfl (Nat.le_of_ble_eq_true rfl) ?_
  refine Cp.if_neB X 14 dX6_tell_5 (by decide) (fun c_5 => ?_) (fun c_5 => ?_)
  · refine Cp.aload_n (i := 0) X dX6_tell_14 rfl rfl ?_
    refine gfX6_9 X 1 sr_0 rfl dX6_tell_15 ?_
    refine Cp.iconst (v := 3) X dX6_tell_18 rfl ?_
    refine Cp.ialdc (j := 3) X sr_1 (by decide) (by decide) dX6_tell_19 ?_
    refine Cp.ldc (v := 99999) X wcX6_166 dX6_tell_20 ?_
    refine Cp.icmp_ne X 33 dX6_tell_22 (by decide) (fun c_22 => ?_) (fun c_22 => ?_)
    · refine Cp.aload_n (i := 0) X dX6_tell_33 rfl rfl ?_
      refine Cp.iload_n (i := 1) X dX6_tell_34 rfl rfl ?_
      refine Cp.cVIM [] X [.int x1] cvX6_tells (kX6_tells X.ok x1 σ) sr_0 rfl rfl wmX6_167 rfl rfl dX6_tell_35 rfl (Nat.le_of_ble_eq_true rfl) (fun v_35 s_35 => ?_)
      exact Cp.iret X dX6_tell_38 rfl
    · refine Cp.aload_n (i := 0) X dX6_tell_25 rfl rfl ?_
      refine Cp.iconst (v := 4) X dX6_tell_26 rfl ?_
      refine Cp.cVIM [] X [.int 4] cvX6_finds (kX6_finds X.ok 4 σ) sr_0 rfl rfl wmX6_103 rfl rfl dX6_tell_27 rfl (Nat.le_of_ble_eq_true rfl) (fun v_27 s_27 => ?_)
      refine Cp.goto X 38 dX6_tell_30 (by decide) ?_
      exact Cp.iret X dX6_tell_38 rfl
  · refine Cp.aload_n (i := 0) X dX6_tell_8 rfl rfl ?_
    refine Cp.iconst (v := 0) X dX6_tell_9 rfl ?_
    refine Cp.cVIM [] X [.int 0] cvX6_finds (kX6_finds X.ok 0 σ) sr_0 rfl rfl wmX6_103 rfl rfl dX6_tell_10 rfl (Nat.le_of_ble_eq_true rfl) (fun v_10 s_10 => ?_)
    exact Cp.iret X dX6_tell_13 rfl
theorem kX6_tell {l : Launch} {w : WE} (hok : OkW w shR)   (x1 : Int32) (σ : Mem) : ∀ v, fX6_tell x1 σ = some v → Ctr l w shR yX6_tell cX6_tell 2 (some .int) 5 [.ref (wad w 0), .int x1] σ (iIM v) := fun v hv => Ctr.of [some (.ref (wad w 0)), some (.int x1)] (by decide) hok rfl (Nat.le_of_ble_eq_true rfl) (fun M _ X => pX6_tell X   x1 σ v hv)
def fX6_evening_47 (x1 : Int32) (x2 : Int32) (k47 : Int32 → Mem → Option (Int32 × Mem)) (x3 : Int32) (σ : Mem) : Option (Int32 × Mem) :=
  (if x2 ≤ x3 then (some (σ 1 2, σ)) else (bnd2 (fX6_tells x1 σ) fun v_54 s_54 => (k47 (x3 + 1) s_54)))
def fX6_evening (x1 : Int32) (x2 : Int32) (σ : Mem) : Option (Int32 × Mem) :=
  (if fX6_isJoke x1 σ = true then (if fX6_in ((x2 : Int32).toInt64) 1 60 = true then (if ((σ 1 3) + x2) ≤ 99999 then (lw2 (fX6_evening_47 x1 x2) FU 0 σ) else (bnd2 (fX6_finds 4 σ) fun v_41 s_41 => (some (v_41, s_41)))) else (bnd2 (fX6_finds 0 σ) fun v_22 s_22 => (some (v_22, s_22)))) else (bnd2 (fX6_finds 0 σ) fun v_22 s_22 => (some (v_22, s_22))))
set_option maxRecDepth 20000 in
theorem pX6_evening_47 {M : MC} {w : WE} (X : Cx M w shR cX6_evening 5 RX6 (some .int) 5)   (x1 : Int32) (x2 : Int32)    : ∀ (n : Nat) (x3 : Int32) (σ : Mem), Cp M w shR 5 iIM 47 [some (.ref (wad w 0)), some (.int x1), some (.int x2), some (.int x3), none] [] σ (lw2 (fX6_evening_47 x1 x2) n x3 σ) :=
  lw2_i (P := fun x3 σ b => Cp M w shR 5 iIM 47 [some (.ref (wad w 0)), some (.int x1), some (.int x2), some (.int x3), none] [] σ b) (fun _ _ => Cp.non) (fun k47 hk47 x3 σ => by
  unfold fX6_evening_47
  refine Cp.iload_n (i := 3) X dX6_evening_47 rfl rfl ?_
  refine Cp.iload_n (i := 2) X dX6_evening_48 rfl rfl ?_
  refine Cp.icmp_ge X 65 dX6_evening_49 (by decide) (fun c_49 => ?_) (fun c_49 => ?_)
  · refine Cp.aload_n (i := 0) X dX6_evening_65 rfl rfl ?_
    refine gfX6_9 X 1 sr_0 rfl dX6_evening_66 ?_
    refine Cp.iconst (v := 2) X dX6_evening_69 rfl ?_
    refine Cp.ialdc (j := 2) X sr_1 (by decide) (by decide) dX6_evening_70 ?_
    exact Cp.iret X dX6_evening_71 rfl
  · refine Cp.aload_n (i := 0) X dX6_evening_52 rfl rfl ?_
    refine Cp.iload_n (i := 1) X dX6_evening_53 rfl rfl ?_
    refine Cp.cVIM [] X [.int x1] cvX6_tells (kX6_tells X.ok x1 σ) sr_0 rfl rfl wmX6_167 rfl rfl dX6_evening_54 rfl (Nat.le_of_ble_eq_true rfl) (fun v_54 s_54 => ?_)
    refine Cp.istore X dX6_evening_57 (Nat.le_of_ble_eq_true rfl) rfl ?_
    refine Cp.iinc (v := x3 + 1) X dX6_evening_59 rfl rfl (Nat.le_of_ble_eq_true rfl) rfl ?_
    refine Cp.goto X 47 dX6_evening_62 (by decide) ?_
    refine Cp.mask [true, true, true, true, false] ?_
    exact hk47 (x3 + 1) s_54)
set_option maxRecDepth 20000 in
theorem pX6_evening {M : MC} {w : WE} (X : Cx M w shR cX6_evening 5 RX6 (some .int) 5)   (x1 : Int32) (x2 : Int32) (σ : Mem) : Cp M w shR 5 iIM 0 [some (.ref (wad w 0)), some (.int x1), some (.int x2), none, none] [] σ (fX6_evening x1 x2 σ) := by
  unfold fX6_evening
  refine Cp.aload_n (i := 0) X dX6_evening_0 rfl rfl ?_
  refine Cp.iload_n (i := 1) X dX6_evening_1 rfl rfl ?_
  refine Cp.cVBT [] X [.int x1] cvX6_isJoke (kX6_isJoke X.ok x1 σ) sr_0 rfl rfl wmX6_138 rfl rfl dX6_evening_2 rfl (Nat.le_of_ble_eq_true rfl) ?_
  refine Cp.if_eqB X 20 dX6_evening_5 (by decide) (fun c_5 => ?_) (fun c_5 => ?_)
  · refine Cp.aload_n (i := 0) X dX6_evening_20 rfl rfl ?_
    refine Cp.iconst (v := 0) X dX6_evening_21 rfl ?_
    refine Cp.cVIM [] X [.int 0] cvX6_finds (kX6_finds X.ok 0 σ) sr_0 rfl rfl wmX6_103 rfl rfl dX6_evening_22 rfl (Nat.le_of_ble_eq_true rfl) (fun v_22 s_22 => ?_)
    exact Cp.iret X dX6_evening_25 rfl
  · refine Cp.iload_n (i := 2) X dX6_evening_8 rfl rfl ?_
    refine Cp.i2l X dX6_evening_9 ?_
    refine Cp.lconst (v := 1) X dX6_evening_10 rfl ?_
    refine Cp.ldc2 (v := 60) X wcX6_170 dX6_evening_11 ?_
    refine Cp.cSBT [] X [.long ((x2 : Int32).toInt64), .long 1, .long 60] csX6_in (kX6_in X.ok ((x2 : Int32).toInt64) 1 60 σ) wmX6_48 rfl rfl dX6_evening_14 rfl (Nat.le_of_ble_eq_true rfl) ?_
    refine Cp.if_neB X 26 dX6_evening_17 (by decide) (fun c_17 => ?_) (fun c_17 => ?_)
    · refine Cp.aload_n (i := 0) X dX6_evening_26 rfl rfl ?_
      refine gfX6_9 X 1 sr_0 rfl dX6_evening_27 ?_
      refine Cp.iconst (v := 3) X dX6_evening_30 rfl ?_
      refine Cp.ialdc (j := 3) X sr_1 (by decide) (by decide) dX6_evening_31 ?_
      refine Cp.iload_n (i := 2) X dX6_evening_32 rfl rfl ?_
      refine Cp.iadd X dX6_evening_33 ?_
      refine Cp.ldc (v := 99999) X wcX6_166 dX6_evening_34 ?_
      refine Cp.icmp_le X 45 dX6_evening_36 (by decide) (fun c_36 => ?_) (fun c_36 => ?_)
      · refine Cp.iconst (v := 0) X dX6_evening_45 rfl ?_
        refine Cp.istore_n (i := 3) X dX6_evening_46 rfl (Nat.le_of_ble_eq_true rfl) rfl ?_
        exact pX6_evening_47 X x1 x2 FU 0 σ
      · refine Cp.aload_n (i := 0) X dX6_evening_39 rfl rfl ?_
        refine Cp.iconst (v := 4) X dX6_evening_40 rfl ?_
        refine Cp.cVIM [] X [.int 4] cvX6_finds (kX6_finds X.ok 4 σ) sr_0 rfl rfl wmX6_103 rfl rfl dX6_evening_41 rfl (Nat.le_of_ble_eq_true rfl) (fun v_41 s_41 => ?_)
        exact Cp.iret X dX6_evening_44 rfl
    · refine Cp.aload_n (i := 0) X dX6_evening_20 rfl rfl ?_
      refine Cp.iconst (v := 0) X dX6_evening_21 rfl ?_
      refine Cp.cVIM [] X [.int 0] cvX6_finds (kX6_finds X.ok 0 σ) sr_0 rfl rfl wmX6_103 rfl rfl dX6_evening_22 rfl (Nat.le_of_ble_eq_true rfl) (fun v_22 s_22 => ?_)
      exact Cp.iret X dX6_evening_25 rfl
theorem kX6_evening {l : Launch} {w : WE} (hok : OkW w shR)   (x1 : Int32) (x2 : Int32) (σ : Mem) : ∀ v, fX6_evening x1 x2 σ = some v → Ctr l w shR yX6_evening cX6_evening 5 (some .int) 5 [.ref (wad w 0), .int x1, .int x2] σ (iIM v) := fun v hv => Ctr.of [some (.ref (wad w 0)), some (.int x1), some (.int x2), none, none] (by decide) hok rfl (Nat.le_of_ble_eq_true rfl) (fun M _ X => pX6_evening X   x1 x2 σ v hv)
def fX6_sumOf_4 (x1 : Int32) (σ : Mem) (k4 : Int32 → Int32 → Option Int32) (x2 : Int32) (x3 : Int32) : Option Int32 :=
  (if (σ 1 5) ≤ x3 then (some x2) else ((fX6_its x3 x1 σ).bind fun v_18 => (pb (x2 + v_18 : Int32) fun x2_22 => (k4 x2_22 (x3 + 1)))))
def fX6_sumOf (x1 : Int32) (σ : Mem) : Option Int32 :=
  (lw2 (fX6_sumOf_4 x1 σ) FU 0 0)
set_option maxRecDepth 20000 in
theorem pX6_sumOf_4 {M : MC} {w : WE} (X : Cx M w shR cX6_sumOf 4 RX6 (some .int) 1)   (x1 : Int32)  (σ : Mem)  : ∀ (n : Nat) (x2 : Int32) (x3 : Int32), Cp M w shR 4 (iI σ) 4 [some (.ref (wad w 0)), some (.int x1), some (.int x2), some (.int x3)] [] σ (lw2 (fX6_sumOf_4 x1 σ) n x2 x3) :=
  lw2_i (P := fun x2 x3 b => Cp M w shR 4 (iI σ) 4 [some (.ref (wad w 0)), some (.int x1), some (.int x2), some (.int x3)] [] σ b) (fun _ _ => Cp.non) (fun k4 hk4 x2 x3 => by
  unfold fX6_sumOf_4
  refine Cp.iload_n (i := 3) X dX6_sumOf_4 rfl rfl ?_
  refine Cp.aload_n (i := 0) X dX6_sumOf_5 rfl rfl ?_
  refine gfX6_9 X 1 sr_0 rfl dX6_sumOf_6 ?_
  refine Cp.iconst (v := 5) X dX6_sumOf_9 rfl ?_
  refine Cp.ialdc (j := 5) X sr_1 (by decide) (by decide) dX6_sumOf_10 ?_
  refine Cp.icmp_ge X 29 dX6_sumOf_11 (by decide) (fun c_11 => ?_) (fun c_11 => ?_)
  · refine Cp.iload_n (i := 2) X dX6_sumOf_29 rfl rfl ?_
    exact Cp.iret X dX6_sumOf_30 rfl
  · refine Cp.iload_n (i := 2) X dX6_sumOf_14 rfl rfl ?_
    refine Cp.aload_n (i := 0) X dX6_sumOf_15 rfl rfl ?_
    refine Cp.iload_n (i := 3) X dX6_sumOf_16 rfl rfl ?_
    refine Cp.iload_n (i := 1) X dX6_sumOf_17 rfl rfl ?_
    refine Cp.cVI [.int x2] X [.int x3, .int x1] cvX6_its (kX6_its X.ok x3 x1 σ) sr_0 rfl rfl wmX6_64 rfl rfl dX6_sumOf_18 rfl (Nat.le_of_ble_eq_true rfl) (fun v_18 => ?_)
    refine Cp.iadd X dX6_sumOf_21 ?_
    refine Cp.nameI (fun x2_22 => ?_)
    refine Cp.istore_n (i := 2) X dX6_sumOf_22 rfl (Nat.le_of_ble_eq_true rfl) rfl ?_
    refine Cp.iinc (v := x3 + 1) X dX6_sumOf_23 rfl rfl (Nat.le_of_ble_eq_true rfl) rfl ?_
    refine Cp.goto X 4 dX6_sumOf_26 (by decide) ?_
    exact hk4 x2_22 (x3 + 1))
set_option maxRecDepth 20000 in
theorem pX6_sumOf {M : MC} {w : WE} (X : Cx M w shR cX6_sumOf 4 RX6 (some .int) 1)   (x1 : Int32) (σ : Mem) : Cp M w shR 4 (iI σ) 0 [some (.ref (wad w 0)), some (.int x1), none, none] [] σ (fX6_sumOf x1 σ) := by
  unfold fX6_sumOf
  refine Cp.iconst (v := 0) X dX6_sumOf_0 rfl ?_
  refine Cp.istore_n (i := 2) X dX6_sumOf_1 rfl (Nat.le_of_ble_eq_true rfl) rfl ?_
  refine Cp.iconst (v := 0) X dX6_sumOf_2 rfl ?_
  refine Cp.istore_n (i := 3) X dX6_sumOf_3 rfl (Nat.le_of_ble_eq_true rfl) rfl ?_
  exact pX6_sumOf_4 X x1 σ FU 0 0
theorem kX6_sumOf {l : Launch} {w : WE} (hok : OkW w shR)   (x1 : Int32) (σ : Mem) : ∀ v, fX6_sumOf x1 σ = some v → Ctr l w shR yX6_sumOf cX6_sumOf 4 (some .int) 1 [.ref (wad w 0), .int x1] σ ((iI σ) v) := fun v hv => Ctr.of [some (.ref (wad w 0)), some (.int x1), none, none] (by decide) hok rfl (Nat.le_of_ble_eq_true rfl) (fun M _ X => pX6_sumOf X   x1 σ v hv)
def fX6_now (x1 : Int32) (σ : Mem) : Option (Int32 × Mem) :=
  (if x1 = 0 then (some (σ 1 3, σ)) else (if x1 = 1 then (some (σ 1 2, σ)) else (if x1 = 2 then ((fX6_sumOf 4 σ).bind fun v_56 => (some (v_56, σ))) else (if x1 = 3 then ((fX6_sumOf 3 σ).bind fun v_62 => (some (v_62, σ))) else (if x1 = 4 then (some (σ 1 0, σ)) else (if x1 = 5 then (some (σ 1 1, σ)) else (bnd2 (fX6_finds 0 σ) fun v_82 s_82 => (some (v_82, s_82)))))))))
set_option maxRecDepth 20000 in
theorem pX6_now {M : MC} {w : WE} (X : Cx M w shR cX6_now 2 RX6 (some .int) 2)   (x1 : Int32) (σ : Mem) : Cp M w shR 2 iIM 0 [some (.ref (wad w 0)), some (.int x1)] [] σ (fX6_now x1 σ) := by
  unfold fX6_now
  refine Cp.iload_n (i := 1) X dX6_now_0 rfl rfl ?_
  refine Cp.ite (fun c_1 => ?_) (fun n_1_0 => ?_)
  · refine Cp.tswI X 0 40 c_1 dX6_now_1 (by decide) (by decide) rfl (by decide) ?_
    refine Cp.aload_n (i := 0) X dX6_now_40 rfl rfl ?_
    refine gfX6_9 X 1 sr_0 rfl dX6_now_41 ?_
    refine Cp.iconst (v := 3) X dX6_now_44 rfl ?_
    refine Cp.ialdc (j := 3) X sr_1 (by decide) (by decide) dX6_now_45 ?_
    exact Cp.iret X dX6_now_46 rfl
  refine Cp.ite (fun c_1 => ?_) (fun n_1_1 => ?_)
  · refine Cp.tswI X 1 47 c_1 dX6_now_1 (by decide) (by decide) rfl (by decide) ?_
    refine Cp.aload_n (i := 0) X dX6_now_47 rfl rfl ?_
    refine gfX6_9 X 1 sr_0 rfl dX6_now_48 ?_
    refine Cp.iconst (v := 2) X dX6_now_51 rfl ?_
    refine Cp.ialdc (j := 2) X sr_1 (by decide) (by decide) dX6_now_52 ?_
    exact Cp.iret X dX6_now_53 rfl
  refine Cp.ite (fun c_1 => ?_) (fun n_1_2 => ?_)
  · refine Cp.tswI X 2 54 c_1 dX6_now_1 (by decide) (by decide) rfl (by decide) ?_
    refine Cp.aload_n (i := 0) X dX6_now_54 rfl rfl ?_
    refine Cp.iconst (v := 4) X dX6_now_55 rfl ?_
    refine Cp.cVI [] X [.int 4] cvX6_sumOf (kX6_sumOf X.ok 4 σ) sr_0 rfl rfl wmX6_172 rfl rfl dX6_now_56 rfl (Nat.le_of_ble_eq_true rfl) (fun v_56 => ?_)
    exact Cp.iret X dX6_now_59 rfl
  refine Cp.ite (fun c_1 => ?_) (fun n_1_3 => ?_)
  · refine Cp.tswI X 3 60 c_1 dX6_now_1 (by decide) (by decide) rfl (by decide) ?_
    refine Cp.aload_n (i := 0) X dX6_now_60 rfl rfl ?_
    refine Cp.iconst (v := 3) X dX6_now_61 rfl ?_
    refine Cp.cVI [] X [.int 3] cvX6_sumOf (kX6_sumOf X.ok 3 σ) sr_0 rfl rfl wmX6_172 rfl rfl dX6_now_62 rfl (Nat.le_of_ble_eq_true rfl) (fun v_62 => ?_)
    exact Cp.iret X dX6_now_65 rfl
  refine Cp.ite (fun c_1 => ?_) (fun n_1_4 => ?_)
  · refine Cp.tswI X 4 66 c_1 dX6_now_1 (by decide) (by decide) rfl (by decide) ?_
    refine Cp.aload_n (i := 0) X dX6_now_66 rfl rfl ?_
    refine gfX6_9 X 1 sr_0 rfl dX6_now_67 ?_
    refine Cp.iconst (v := 0) X dX6_now_70 rfl ?_
    refine Cp.ialdc (j := 0) X sr_1 (by decide) (by decide) dX6_now_71 ?_
    exact Cp.iret X dX6_now_72 rfl
  refine Cp.ite (fun c_1 => ?_) (fun n_1_5 => ?_)
  · refine Cp.tswI X 5 73 c_1 dX6_now_1 (by decide) (by decide) rfl (by decide) ?_
    refine Cp.aload_n (i := 0) X dX6_now_73 rfl rfl ?_
    refine gfX6_9 X 1 sr_0 rfl dX6_now_74 ?_
    refine Cp.iconst (v := 1) X dX6_now_77 rfl ?_
    refine Cp.ialdc (j := 1) X sr_1 (by decide) (by decide) dX6_now_78 ?_
    exact Cp.iret X dX6_now_79 rfl
  have m_1_0 := lv_neT (a := 0) n_1_0 (by decide)
  have m_1_1 := lv_neT (a := 1) n_1_1 (by decide)
  have m_1_2 := lv_neT (a := 2) n_1_2 (by decide)
  have m_1_3 := lv_neT (a := 3) n_1_3 (by decide)
  have m_1_4 := lv_neT (a := 4) n_1_4 (by decide)
  have m_1_5 := lv_neT (a := 5) n_1_5 (by decide)
  refine Cp.tswD X 80 (by omega) dX6_now_1 (by decide) ?_
  refine Cp.aload_n (i := 0) X dX6_now_80 rfl rfl ?_
  refine Cp.iconst (v := 0) X dX6_now_81 rfl ?_
  refine Cp.cVIM [] X [.int 0] cvX6_finds (kX6_finds X.ok 0 σ) sr_0 rfl rfl wmX6_103 rfl rfl dX6_now_82 rfl (Nat.le_of_ble_eq_true rfl) (fun v_82 s_82 => ?_)
  exact Cp.iret X dX6_now_85 rfl
theorem kX6_now {l : Launch} {w : WE} (hok : OkW w shR)   (x1 : Int32) (σ : Mem) : ∀ v, fX6_now x1 σ = some v → Ctr l w shR yX6_now cX6_now 2 (some .int) 2 [.ref (wad w 0), .int x1] σ (iIM v) := fun v hv => Ctr.of [some (.ref (wad w 0)), some (.int x1)] (by decide) hok rfl (Nat.le_of_ble_eq_true rfl) (fun M _ X => pX6_now X   x1 σ v hv)
def fX6_poorest_4 (σ : Mem) (k4 : Int32 → Int32 → Option Int32) (x1 : Int32) (x2 : Int32) : Option Int32 :=
  (if (σ 1 5) ≤ x2 then (some x1) else ((fX6_its x2 4 σ).bind fun v_17 => ((fX6_its x1 4 σ).bind fun v_23 => (if v_23 ≤ v_17 then (k4 x1 (x2 + 1)) else (k4 x2 (x2 + 1))))))
def fX6_poorest  (σ : Mem) : Option Int32 :=
  (lw2 (fX6_poorest_4 σ) FU 0 1)
set_option maxRecDepth 20000 in
theorem pX6_poorest_4 {M : MC} {w : WE} (X : Cx M w shR cX6_poorest 3 RX6 (some .int) 1)     (σ : Mem)  : ∀ (n : Nat) (x1 : Int32) (x2 : Int32), Cp M w shR 3 (iI σ) 4 [some (.ref (wad w 0)), some (.int x1), some (.int x2)] [] σ (lw2 (fX6_poorest_4 σ) n x1 x2) :=
  lw2_i (P := fun x1 x2 b => Cp M w shR 3 (iI σ) 4 [some (.ref (wad w 0)), some (.int x1), some (.int x2)] [] σ b) (fun _ _ => Cp.non) (fun k4 hk4 x1 x2 => by
  unfold fX6_poorest_4
  refine Cp.iload_n (i := 2) X dX6_poorest_4 rfl rfl ?_
  refine Cp.aload_n (i := 0) X dX6_poorest_5 rfl rfl ?_
  refine gfX6_9 X 1 sr_0 rfl dX6_poorest_6 ?_
  refine Cp.iconst (v := 5) X dX6_poorest_9 rfl ?_
  refine Cp.ialdc (j := 5) X sr_1 (by decide) (by decide) dX6_poorest_10 ?_
  refine Cp.icmp_ge X 41 dX6_poorest_11 (by decide) (fun c_11 => ?_) (fun c_11 => ?_)
  · refine Cp.iload_n (i := 1) X dX6_poorest_41 rfl rfl ?_
    exact Cp.iret X dX6_poorest_42 rfl
  · refine Cp.aload_n (i := 0) X dX6_poorest_14 rfl rfl ?_
    refine Cp.iload_n (i := 2) X dX6_poorest_15 rfl rfl ?_
    refine Cp.iconst (v := 4) X dX6_poorest_16 rfl ?_
    refine Cp.cVI [] X [.int x2, .int 4] cvX6_its (kX6_its X.ok x2 4 σ) sr_0 rfl rfl wmX6_64 rfl rfl dX6_poorest_17 rfl (Nat.le_of_ble_eq_true rfl) (fun v_17 => ?_)
    refine Cp.aload_n (i := 0) X dX6_poorest_20 rfl rfl ?_
    refine Cp.iload_n (i := 1) X dX6_poorest_21 rfl rfl ?_
    refine Cp.iconst (v := 4) X dX6_poorest_22 rfl ?_
    refine Cp.cVI [.int v_17] X [.int x1, .int 4] cvX6_its (kX6_its X.ok x1 4 σ) sr_0 rfl rfl wmX6_64 rfl rfl dX6_poorest_23 rfl (Nat.le_of_ble_eq_true rfl) (fun v_23 => ?_)
    refine Cp.icmp_ge X 33 dX6_poorest_26 (by decide) (fun c_26 => ?_) (fun c_26 => ?_)
    · refine Cp.iload_n (i := 1) X dX6_poorest_33 rfl rfl ?_
      refine Cp.istore_n (i := 1) X dX6_poorest_34 rfl (Nat.le_of_ble_eq_true rfl) rfl ?_
      refine Cp.iinc (v := x2 + 1) X dX6_poorest_35 rfl rfl (Nat.le_of_ble_eq_true rfl) rfl ?_
      refine Cp.goto X 4 dX6_poorest_38 (by decide) ?_
      exact hk4 x1 (x2 + 1)
    · refine Cp.iload_n (i := 2) X dX6_poorest_29 rfl rfl ?_
      refine Cp.goto X 34 dX6_poorest_30 (by decide) ?_
      refine Cp.istore_n (i := 1) X dX6_poorest_34 rfl (Nat.le_of_ble_eq_true rfl) rfl ?_
      refine Cp.iinc (v := x2 + 1) X dX6_poorest_35 rfl rfl (Nat.le_of_ble_eq_true rfl) rfl ?_
      refine Cp.goto X 4 dX6_poorest_38 (by decide) ?_
      exact hk4 x2 (x2 + 1))
set_option maxRecDepth 20000 in
theorem pX6_poorest {M : MC} {w : WE} (X : Cx M w shR cX6_poorest 3 RX6 (some .int) 1)    (σ : Mem) : Cp M w shR 3 (iI σ) 0 [some (.ref (wad w 0)), none, none] [] σ (fX6_poorest σ) := by
  unfold fX6_poorest
  refine Cp.iconst (v := 0) X dX6_poorest_0 rfl ?_
  refine Cp.istore_n (i := 1) X dX6_poorest_1 rfl (Nat.le_of_ble_eq_true rfl) rfl ?_
  refine Cp.iconst (v := 1) X dX6_poorest_2 rfl ?_
  refine Cp.istore_n (i := 2) X dX6_poorest_3 rfl (Nat.le_of_ble_eq_true rfl) rfl ?_
  exact pX6_poorest_4 X σ FU 0 1
theorem kX6_poorest {l : Launch} {w : WE} (hok : OkW w shR)    (σ : Mem) : ∀ v, fX6_poorest σ = some v → Ctr l w shR yX6_poorest cX6_poorest 3 (some .int) 1 [.ref (wad w 0)] σ ((iI σ) v) := fun v hv => Ctr.of [some (.ref (wad w 0)), none, none] (by decide) hok rfl (Nat.le_of_ble_eq_true rfl) (fun M _ X => pX6_poorest X    σ v hv)
def fX6_relief_35 (x1 : Int32) (k35 : Int32 → Mem → Option (Int32 × Mem)) (x2 : Int32) (σ : Mem) : Option (Int32 × Mem) :=
  (if x1 ≤ x2 then (some (x2, σ)) else (if (σ 1 2) ≤ 0 then (some (x2, σ)) else ((fX6_poorest σ).bind fun v_51 => ((fX6_its v_51 4 σ).bind fun v_55 => (if 9999 ≤ v_55 then (some (x2, σ)) else ((fX6_poorest σ).bind fun v_65 => ((fX6_its v_65 4 σ).bind fun v_75 => ((fX6_sets v_65 4 (v_75 + 1) σ).bind fun s_80 => (pb (up2 s_80 1 2 ((s_80 1 2) - 1) : Mem) fun s_92 => (k35 (x2 + 1) s_92))))))))))
def fX6_relief (x1 : Int32) (σ : Mem) : Option (Int32 × Mem) :=
  (if fX6_in ((x1 : Int32).toInt64) 0 9999 = true then (if (σ 1 5) = 0 then (bnd2 (fX6_finds 3 σ) fun v_29 s_29 => (some (v_29, s_29))) else (lw2 (fX6_relief_35 x1) FU 0 σ)) else (bnd2 (fX6_finds 0 σ) fun v_14 s_14 => (some (v_14, s_14))))
set_option maxRecDepth 20000 in
theorem pX6_relief_35 {M : MC} {w : WE} (X : Cx M w shR cX6_relief 4 RX6 (some .int) 2)   (x1 : Int32)    : ∀ (n : Nat) (x2 : Int32) (σ : Mem), Cp M w shR 4 iIM 35 [some (.ref (wad w 0)), some (.int x1), some (.int x2), none] [] σ (lw2 (fX6_relief_35 x1) n x2 σ) :=
  lw2_i (P := fun x2 σ b => Cp M w shR 4 iIM 35 [some (.ref (wad w 0)), some (.int x1), some (.int x2), none] [] σ b) (fun _ _ => Cp.non) (fun k35 hk35 x2 σ => by
  unfold fX6_relief_35
  refine Cp.iload_n (i := 2) X dX6_relief_35 rfl rfl ?_
  refine Cp.iload_n (i := 1) X dX6_relief_36 rfl rfl ?_
  refine Cp.icmp_ge X 99 dX6_relief_37 (by decide) (fun c_37 => ?_) (fun c_37 => ?_)
  · refine Cp.iload_n (i := 2) X dX6_relief_99 rfl rfl ?_
    exact Cp.iret X dX6_relief_100 rfl
  · refine Cp.aload_n (i := 0) X dX6_relief_40 rfl rfl ?_
    refine gfX6_9 X 1 sr_0 rfl dX6_relief_41 ?_
    refine Cp.iconst (v := 2) X dX6_relief_44 rfl ?_
    refine Cp.ialdc (j := 2) X sr_1 (by decide) (by decide) dX6_relief_45 ?_
    refine Cp.if_le X 99 dX6_relief_46 (by decide) (fun c_46 => ?_) (fun c_46 => ?_)
    · refine Cp.iload_n (i := 2) X dX6_relief_99 rfl rfl ?_
      exact Cp.iret X dX6_relief_100 rfl
    · refine Cp.aload_n (i := 0) X dX6_relief_49 rfl rfl ?_
      refine Cp.aload_n (i := 0) X dX6_relief_50 rfl rfl ?_
      refine Cp.cVI [.ref (wad w 0)] X [] cvX6_poorest (kX6_poorest X.ok σ) sr_0 rfl rfl wmX6_175 rfl rfl dX6_relief_51 rfl (Nat.le_of_ble_eq_true rfl) (fun v_51 => ?_)
      refine Cp.iconst (v := 4) X dX6_relief_54 rfl ?_
      refine Cp.cVI [] X [.int v_51, .int 4] cvX6_its (kX6_its X.ok v_51 4 σ) sr_0 rfl rfl wmX6_64 rfl rfl dX6_relief_55 rfl (Nat.le_of_ble_eq_true rfl) (fun v_55 => ?_)
      refine Cp.sipush (v := 9999) X dX6_relief_58 rfl ?_
      refine Cp.icmp_ge X 99 dX6_relief_61 (by decide) (fun c_61 => ?_) (fun c_61 => ?_)
      · refine Cp.iload_n (i := 2) X dX6_relief_99 rfl rfl ?_
        exact Cp.iret X dX6_relief_100 rfl
      · refine Cp.aload_n (i := 0) X dX6_relief_64 rfl rfl ?_
        refine Cp.cVI [] X [] cvX6_poorest (kX6_poorest X.ok σ) sr_0 rfl rfl wmX6_175 rfl rfl dX6_relief_65 rfl (Nat.le_of_ble_eq_true rfl) (fun v_65 => ?_)
        refine Cp.istore_n (i := 3) X dX6_relief_68 rfl (Nat.le_of_ble_eq_true rfl) rfl ?_
        refine Cp.aload_n (i := 0) X dX6_relief_69 rfl rfl ?_
        refine Cp.iload_n (i := 3) X dX6_relief_70 rfl rfl ?_
        refine Cp.iconst (v := 4) X dX6_relief_71 rfl ?_
        refine Cp.aload_n (i := 0) X dX6_relief_72 rfl rfl ?_
        refine Cp.iload_n (i := 3) X dX6_relief_73 rfl rfl ?_
        refine Cp.iconst (v := 4) X dX6_relief_74 rfl ?_
        refine Cp.cVI [.int 4, .int v_65, .ref (wad w 0)] X [.int v_65, .int 4] cvX6_its (kX6_its X.ok v_65 4 σ) sr_0 rfl rfl wmX6_64 rfl rfl dX6_relief_75 rfl (Nat.le_of_ble_eq_true rfl) (fun v_75 => ?_)
        refine Cp.iconst (v := 1) X dX6_relief_78 rfl ?_
        refine Cp.iadd X dX6_relief_79 ?_
        refine Cp.cVV [] X [.int v_65, .int 4, .int (v_75 + 1)] cvX6_sets (kX6_sets X.ok v_65 4 (v_75 + 1) σ) sr_0 rfl rfl wmX6_92 rfl rfl dX6_relief_80 rfl (Nat.le_of_ble_eq_true rfl) (fun s_80 => ?_)
        refine Cp.aload_n (i := 0) X dX6_relief_83 rfl rfl ?_
        refine gfX6_9 X 1 sr_0 rfl dX6_relief_84 ?_
        refine Cp.iconst (v := 2) X dX6_relief_87 rfl ?_
        refine Cp.dup2 X dX6_relief_88 rfl rfl ?_
        refine Cp.ialdc (j := 2) X sr_1 (by decide) (by decide) dX6_relief_89 ?_
        refine Cp.iconst (v := 1) X dX6_relief_90 rfl ?_
        refine Cp.isub X dX6_relief_91 ?_
        refine Cp.iastc (j := 2) X sr_1 (by decide) (by decide) dX6_relief_92 ?_
        refine Cp.nameM (fun s_92 => ?_)
        refine Cp.iinc (v := x2 + 1) X dX6_relief_93 rfl rfl (Nat.le_of_ble_eq_true rfl) rfl ?_
        refine Cp.goto X 35 dX6_relief_96 (by decide) ?_
        refine Cp.mask [true, true, true, false] ?_
        exact hk35 (x2 + 1) s_92)
set_option maxRecDepth 20000 in
theorem pX6_relief {M : MC} {w : WE} (X : Cx M w shR cX6_relief 4 RX6 (some .int) 2)   (x1 : Int32) (σ : Mem) : Cp M w shR 4 iIM 0 [some (.ref (wad w 0)), some (.int x1), none, none] [] σ (fX6_relief x1 σ) := by
  unfold fX6_relief
  refine Cp.iload_n (i := 1) X dX6_relief_0 rfl rfl ?_
  refine Cp.i2l X dX6_relief_1 ?_
  refine Cp.lconst (v := 0) X dX6_relief_2 rfl ?_
  refine Cp.ldc2 (v := 9999) X wcX6_120 dX6_relief_3 ?_
  refine Cp.cSBT [] X [.long ((x1 : Int32).toInt64), .long 0, .long 9999] csX6_in (kX6_in X.ok ((x1 : Int32).toInt64) 0 9999 σ) wmX6_48 rfl rfl dX6_relief_6 rfl (Nat.le_of_ble_eq_true rfl) ?_
  refine Cp.if_neB X 18 dX6_relief_9 (by decide) (fun c_9 => ?_) (fun c_9 => ?_)
  · refine Cp.aload_n (i := 0) X dX6_relief_18 rfl rfl ?_
    refine gfX6_9 X 1 sr_0 rfl dX6_relief_19 ?_
    refine Cp.iconst (v := 5) X dX6_relief_22 rfl ?_
    refine Cp.ialdc (j := 5) X sr_1 (by decide) (by decide) dX6_relief_23 ?_
    refine Cp.if_ne X 33 dX6_relief_24 (by decide) (fun c_24 => ?_) (fun c_24 => ?_)
    · refine Cp.iconst (v := 0) X dX6_relief_33 rfl ?_
      refine Cp.istore_n (i := 2) X dX6_relief_34 rfl (Nat.le_of_ble_eq_true rfl) rfl ?_
      exact pX6_relief_35 X x1 FU 0 σ
    · refine Cp.aload_n (i := 0) X dX6_relief_27 rfl rfl ?_
      refine Cp.iconst (v := 3) X dX6_relief_28 rfl ?_
      refine Cp.cVIM [] X [.int 3] cvX6_finds (kX6_finds X.ok 3 σ) sr_0 rfl rfl wmX6_103 rfl rfl dX6_relief_29 rfl (Nat.le_of_ble_eq_true rfl) (fun v_29 s_29 => ?_)
      exact Cp.iret X dX6_relief_32 rfl
  · refine Cp.aload_n (i := 0) X dX6_relief_12 rfl rfl ?_
    refine Cp.iconst (v := 0) X dX6_relief_13 rfl ?_
    refine Cp.cVIM [] X [.int 0] cvX6_finds (kX6_finds X.ok 0 σ) sr_0 rfl rfl wmX6_103 rfl rfl dX6_relief_14 rfl (Nat.le_of_ble_eq_true rfl) (fun v_14 s_14 => ?_)
    exact Cp.iret X dX6_relief_17 rfl
theorem kX6_relief {l : Launch} {w : WE} (hok : OkW w shR)   (x1 : Int32) (σ : Mem) : ∀ v, fX6_relief x1 σ = some v → Ctr l w shR yX6_relief cX6_relief 4 (some .int) 2 [.ref (wad w 0), .int x1] σ (iIM v) := fun v hv => Ctr.of [some (.ref (wad w 0)), some (.int x1), none, none] (by decide) hok rfl (Nat.le_of_ble_eq_true rfl) (fun M _ X => pX6_relief X   x1 σ v hv)
def fX6_laughAt_ (x1 : Int32) (σ : Mem) : Option (Int32 × Mem) :=
  (gd (inB (7 + (2 * x1)) 73 = true) (gd (inB ((7 + (2 * x1)) + 1) 73 = true) (bnd2 (fX6_laughAt (σ 1 (7 + (2 * x1)).toNatClampNeg) (σ 1 ((7 + (2 * x1)) + 1).toNatClampNeg) σ) fun v_25 s_25 => (some (v_25, s_25)))))
set_option maxRecDepth 20000 in
theorem pX6_laughAt_ {M : MC} {w : WE} (X : Cx M w shR cX6_laughAt_ 2 RX6 (some .int) 4)   (x1 : Int32) (σ : Mem) : Cp M w shR 2 iIM 0 [some (.ref (wad w 0)), some (.int x1)] [] σ (fX6_laughAt_ x1 σ) := by
  unfold fX6_laughAt_
  refine Cp.aload_n (i := 0) X dX6_laughAt__0 rfl rfl ?_
  refine Cp.aload_n (i := 0) X dX6_laughAt__1 rfl rfl ?_
  refine gfX6_9 X 1 sr_0 rfl dX6_laughAt__2 ?_
  refine Cp.bipush (v := 7) X dX6_laughAt__5 rfl ?_
  refine Cp.iconst (v := 2) X dX6_laughAt__7 rfl ?_
  refine Cp.iload_n (i := 1) X dX6_laughAt__8 rfl rfl ?_
  refine Cp.imul X dX6_laughAt__9 ?_
  refine Cp.iadd X dX6_laughAt__10 ?_
  refine Cp.iald X sr_1 dX6_laughAt__11 ?_
  refine Cp.aload_n (i := 0) X dX6_laughAt__12 rfl rfl ?_
  refine gfX6_9 X 1 sr_0 rfl dX6_laughAt__13 ?_
  refine Cp.bipush (v := 7) X dX6_laughAt__16 rfl ?_
  refine Cp.iconst (v := 2) X dX6_laughAt__18 rfl ?_
  refine Cp.iload_n (i := 1) X dX6_laughAt__19 rfl rfl ?_
  refine Cp.imul X dX6_laughAt__20 ?_
  refine Cp.iadd X dX6_laughAt__21 ?_
  refine Cp.iconst (v := 1) X dX6_laughAt__22 rfl ?_
  refine Cp.iadd X dX6_laughAt__23 ?_
  refine Cp.iald X sr_1 dX6_laughAt__24 ?_
  refine Cp.cVIM [] X [.int (σ 1 (7 + (2 * x1)).toNatClampNeg), .int (σ 1 ((7 + (2 * x1)) + 1).toNatClampNeg)] cvX6_laughAt (kX6_laughAt X.ok (σ 1 (7 + (2 * x1)).toNatClampNeg) (σ 1 ((7 + (2 * x1)) + 1).toNatClampNeg) σ) sr_0 rfl rfl wmX6_162 rfl rfl dX6_laughAt__25 rfl (Nat.le_of_ble_eq_true rfl) (fun v_25 s_25 => ?_)
  exact Cp.iret X dX6_laughAt__28 rfl
theorem kX6_laughAt_ {l : Launch} {w : WE} (hok : OkW w shR)   (x1 : Int32) (σ : Mem) : ∀ v, fX6_laughAt_ x1 σ = some v → Ctr l w shR yX6_laughAt_ cX6_laughAt_ 2 (some .int) 4 [.ref (wad w 0), .int x1] σ (iIM v) := fun v hv => Ctr.of [some (.ref (wad w 0)), some (.int x1)] (by decide) hok rfl (Nat.le_of_ble_eq_true rfl) (fun M _ X => pX6_laughAt_ X   x1 σ v hv)
def fX6_laugh (x1 : Int32) (x2 : Int32) (σ : Mem) : Option (Int32 × Mem) :=
  (if fX6_isJoke x1 σ = true then (if fX6_in ((x2 : Int32).toInt64) 0 1 = true then (if x2 = 0 then (gd (inB (7 + (2 * x1)) 73 = true) (gd (inB ((7 + (2 * x1)) + 1) 73 = true) ((fX6_byThemselves (σ 1 (7 + (2 * x1)).toNatClampNeg) (σ 1 ((7 + (2 * x1)) + 1).toNatClampNeg) σ).bind fun v_53 => (some (v_53, σ))))) else (bnd2 (fX6_laughAt_ x1 σ) fun v_61 s_61 => (some (v_61, s_61)))) else (bnd2 (fX6_finds 0 σ) fun v_20 s_20 => (some (v_20, s_20)))) else (bnd2 (fX6_finds 0 σ) fun v_20 s_20 => (some (v_20, s_20))))
set_option maxRecDepth 20000 in
theorem pX6_laugh {M : MC} {w : WE} (X : Cx M w shR cX6_laugh 3 RX6 (some .int) 5)   (x1 : Int32) (x2 : Int32) (σ : Mem) : Cp M w shR 3 iIM 0 [some (.ref (wad w 0)), some (.int x1), some (.int x2)] [] σ (fX6_laugh x1 x2 σ) := by
  unfold fX6_laugh
  refine Cp.aload_n (i := 0) X dX6_laugh_0 rfl rfl ?_
  refine Cp.iload_n (i := 1) X dX6_laugh_1 rfl rfl ?_
  refine Cp.cVBT [] X [.int x1] cvX6_isJoke (kX6_isJoke X.ok x1 σ) sr_0 rfl rfl wmX6_138 rfl rfl dX6_laugh_2 rfl (Nat.le_of_ble_eq_true rfl) ?_
  refine Cp.if_eqB X 18 dX6_laugh_5 (by decide) (fun c_5 => ?_) (fun c_5 => ?_)
  · refine Cp.aload_n (i := 0) X dX6_laugh_18 rfl rfl ?_
    refine Cp.iconst (v := 0) X dX6_laugh_19 rfl ?_
    refine Cp.cVIM [] X [.int 0] cvX6_finds (kX6_finds X.ok 0 σ) sr_0 rfl rfl wmX6_103 rfl rfl dX6_laugh_20 rfl (Nat.le_of_ble_eq_true rfl) (fun v_20 s_20 => ?_)
    exact Cp.iret X dX6_laugh_23 rfl
  · refine Cp.iload_n (i := 2) X dX6_laugh_8 rfl rfl ?_
    refine Cp.i2l X dX6_laugh_9 ?_
    refine Cp.lconst (v := 0) X dX6_laugh_10 rfl ?_
    refine Cp.lconst (v := 1) X dX6_laugh_11 rfl ?_
    refine Cp.cSBT [] X [.long ((x2 : Int32).toInt64), .long 0, .long 1] csX6_in (kX6_in X.ok ((x2 : Int32).toInt64) 0 1 σ) wmX6_48 rfl rfl dX6_laugh_12 rfl (Nat.le_of_ble_eq_true rfl) ?_
    refine Cp.if_neB X 24 dX6_laugh_15 (by decide) (fun c_15 => ?_) (fun c_15 => ?_)
    · refine Cp.iload_n (i := 2) X dX6_laugh_24 rfl rfl ?_
      refine Cp.if_ne X 59 dX6_laugh_25 (by decide) (fun c_25 => ?_) (fun c_25 => ?_)
      · refine Cp.aload_n (i := 0) X dX6_laugh_59 rfl rfl ?_
        refine Cp.iload_n (i := 1) X dX6_laugh_60 rfl rfl ?_
        refine Cp.cVIM [] X [.int x1] cvX6_laughAt_ (kX6_laughAt_ X.ok x1 σ) sr_0 rfl rfl wmX6_178 rfl rfl dX6_laugh_61 rfl (Nat.le_of_ble_eq_true rfl) (fun v_61 s_61 => ?_)
        exact Cp.iret X dX6_laugh_64 rfl
      · refine Cp.aload_n (i := 0) X dX6_laugh_28 rfl rfl ?_
        refine Cp.aload_n (i := 0) X dX6_laugh_29 rfl rfl ?_
        refine gfX6_9 X 1 sr_0 rfl dX6_laugh_30 ?_
        refine Cp.bipush (v := 7) X dX6_laugh_33 rfl ?_
        refine Cp.iconst (v := 2) X dX6_laugh_35 rfl ?_
        refine Cp.iload_n (i := 1) X dX6_laugh_36 rfl rfl ?_
        refine Cp.imul X dX6_laugh_37 ?_
        refine Cp.iadd X dX6_laugh_38 ?_
        refine Cp.iald X sr_1 dX6_laugh_39 ?_
        refine Cp.aload_n (i := 0) X dX6_laugh_40 rfl rfl ?_
        refine gfX6_9 X 1 sr_0 rfl dX6_laugh_41 ?_
        refine Cp.bipush (v := 7) X dX6_laugh_44 rfl ?_
        refine Cp.iconst (v := 2) X dX6_laugh_46 rfl ?_
        refine Cp.iload_n (i := 1) X dX6_laugh_47 rfl rfl ?_
        refine Cp.imul X dX6_laugh_48 ?_
        refine Cp.iadd X dX6_laugh_49 ?_
        refine Cp.iconst (v := 1) X dX6_laugh_50 rfl ?_
        refine Cp.iadd X dX6_laugh_51 ?_
        refine Cp.iald X sr_1 dX6_laugh_52 ?_
        refine Cp.cVI [] X [.int (σ 1 (7 + (2 * x1)).toNatClampNeg), .int (σ 1 ((7 + (2 * x1)) + 1).toNatClampNeg)] cvX6_byThemselves (kX6_byThemselves X.ok (σ 1 (7 + (2 * x1)).toNatClampNeg) (σ 1 ((7 + (2 * x1)) + 1).toNatClampNeg) σ) sr_0 rfl rfl wmX6_152 rfl rfl dX6_laugh_53 rfl (Nat.le_of_ble_eq_true rfl) (fun v_53 => ?_)
        refine Cp.goto X 64 dX6_laugh_56 (by decide) ?_
        exact Cp.iret X dX6_laugh_64 rfl
    · refine Cp.aload_n (i := 0) X dX6_laugh_18 rfl rfl ?_
      refine Cp.iconst (v := 0) X dX6_laugh_19 rfl ?_
      refine Cp.cVIM [] X [.int 0] cvX6_finds (kX6_finds X.ok 0 σ) sr_0 rfl rfl wmX6_103 rfl rfl dX6_laugh_20 rfl (Nat.le_of_ble_eq_true rfl) (fun v_20 s_20 => ?_)
      exact Cp.iret X dX6_laugh_23 rfl
theorem kX6_laugh {l : Launch} {w : WE} (hok : OkW w shR)   (x1 : Int32) (x2 : Int32) (σ : Mem) : ∀ v, fX6_laugh x1 x2 σ = some v → Ctr l w shR yX6_laugh cX6_laugh 3 (some .int) 5 [.ref (wad w 0), .int x1, .int x2] σ (iIM v) := fun v hv => Ctr.of [some (.ref (wad w 0)), some (.int x1), some (.int x2)] (by decide) hok rfl (Nat.le_of_ble_eq_true rfl) (fun M _ X => pX6_laugh X   x1 x2 σ v hv)
def fX6_rounds (x1 : Int32) (σ : Mem) : Option (Int32 × Mem) :=
  (if fX6_isJoke x1 σ = true then (bnd2 (fX6_laughAt_ x1 σ) fun v_16 s_16 => (some (s_16 0 6, s_16))) else (bnd2 (fX6_finds 0 σ) fun v_10 s_10 => (some (v_10, s_10))))
set_option maxRecDepth 20000 in
theorem pX6_rounds {M : MC} {w : WE} (X : Cx M w shR cX6_rounds 3 RX6 (some .int) 5)   (x1 : Int32) (σ : Mem) : Cp M w shR 3 iIM 0 [some (.ref (wad w 0)), some (.int x1), none] [] σ (fX6_rounds x1 σ) := by
  unfold fX6_rounds
  refine Cp.aload_n (i := 0) X dX6_rounds_0 rfl rfl ?_
  refine Cp.iload_n (i := 1) X dX6_rounds_1 rfl rfl ?_
  refine Cp.cVBT [] X [.int x1] cvX6_isJoke (kX6_isJoke X.ok x1 σ) sr_0 rfl rfl wmX6_138 rfl rfl dX6_rounds_2 rfl (Nat.le_of_ble_eq_true rfl) ?_
  refine Cp.if_neB X 14 dX6_rounds_5 (by decide) (fun c_5 => ?_) (fun c_5 => ?_)
  · refine Cp.aload_n (i := 0) X dX6_rounds_14 rfl rfl ?_
    refine Cp.iload_n (i := 1) X dX6_rounds_15 rfl rfl ?_
    refine Cp.cVIM [] X [.int x1] cvX6_laughAt_ (kX6_laughAt_ X.ok x1 σ) sr_0 rfl rfl wmX6_178 rfl rfl dX6_rounds_16 rfl (Nat.le_of_ble_eq_true rfl) (fun v_16 s_16 => ?_)
    refine Cp.istore_n (i := 2) X dX6_rounds_19 rfl (Nat.le_of_ble_eq_true rfl) rfl ?_
    refine Cp.aload_n (i := 0) X dX6_rounds_20 rfl rfl ?_
    refine gfX6_148 X sr_0 rfl dX6_rounds_21 ?_
    exact Cp.iret X dX6_rounds_24 rfl
  · refine Cp.aload_n (i := 0) X dX6_rounds_8 rfl rfl ?_
    refine Cp.iconst (v := 0) X dX6_rounds_9 rfl ?_
    refine Cp.cVIM [] X [.int 0] cvX6_finds (kX6_finds X.ok 0 σ) sr_0 rfl rfl wmX6_103 rfl rfl dX6_rounds_10 rfl (Nat.le_of_ble_eq_true rfl) (fun v_10 s_10 => ?_)
    exact Cp.iret X dX6_rounds_13 rfl
theorem kX6_rounds {l : Launch} {w : WE} (hok : OkW w shR)   (x1 : Int32) (σ : Mem) : ∀ v, fX6_rounds x1 σ = some v → Ctr l w shR yX6_rounds cX6_rounds 3 (some .int) 5 [.ref (wad w 0), .int x1] σ (iIM v) := fun v hv => Ctr.of [some (.ref (wad w 0)), some (.int x1), none] (by decide) hok rfl (Nat.le_of_ble_eq_true rfl) (fun M _ X => pX6_rounds X   x1 σ v hv)
def fX6_become_2 (k0 : Nat) (k1 : Nat) (k2 : Int32 → Mem → Option Mem) (x2 : Int32) (σ : Mem) : Option Mem :=
  (if 73 ≤ x2 then (some σ) else (gd (inB x2 73 = true) (gd (inB x2 73 = true) (pb (up2 σ k1 x2.toNatClampNeg (σ k0 x2.toNatClampNeg) : Mem) fun s_13 => (k2 (x2 + 1) s_13)))))
def fX6_become (k0 : Nat) (k1 : Nat) (σ : Mem) : Option Mem :=
  (lw2 (fX6_become_2 k0 k1) FU 0 σ)
set_option maxRecDepth 20000 in
theorem pX6_become_2 {M : MC} {w : WE} (X : Cx M w shR cX6_become 3 RX6 none 0) (k0 : Nat) (k1 : Nat) (h0 : shR[k0]? = some (.inl (0, 73, 0))) (h1 : shR[k1]? = some (.inl (0, 73, 0)))     : ∀ (n : Nat) (x2 : Int32) (σ : Mem), Cp M w shR 3 iVM 2 [some (.ref (wad w k0)), some (.ref (wad w k1)), some (.int x2)] [] σ (lw2 (fX6_become_2 k0 k1) n x2 σ) :=
  lw2_i (P := fun x2 σ b => Cp M w shR 3 iVM 2 [some (.ref (wad w k0)), some (.ref (wad w k1)), some (.int x2)] [] σ b) (fun _ _ => Cp.non) (fun k2 hk2 x2 σ => by
  unfold fX6_become_2
  refine Cp.iload_n (i := 2) X dX6_become_2 rfl rfl ?_
  refine Cp.bipush (v := 73) X dX6_become_3 rfl ?_
  refine Cp.icmp_ge X 20 dX6_become_5 (by decide) (fun c_5 => ?_) (fun c_5 => ?_)
  · exact Cp.vret X dX6_become_20 rfl
  · refine Cp.aload_n (i := 1) X dX6_become_8 rfl rfl ?_
    refine Cp.iload_n (i := 2) X dX6_become_9 rfl rfl ?_
    refine Cp.aload_n (i := 0) X dX6_become_10 rfl rfl ?_
    refine Cp.iload_n (i := 2) X dX6_become_11 rfl rfl ?_
    refine Cp.iald X h0 dX6_become_12 ?_
    refine Cp.iast X h1 dX6_become_13 ?_
    refine Cp.nameM (fun s_13 => ?_)
    refine Cp.iinc (v := x2 + 1) X dX6_become_14 rfl rfl (Nat.le_of_ble_eq_true rfl) rfl ?_
    refine Cp.goto X 2 dX6_become_17 (by decide) ?_
    exact hk2 (x2 + 1) s_13)
set_option maxRecDepth 20000 in
theorem pX6_become {M : MC} {w : WE} (X : Cx M w shR cX6_become 3 RX6 none 0) (k0 : Nat) (k1 : Nat) (h0 : shR[k0]? = some (.inl (0, 73, 0))) (h1 : shR[k1]? = some (.inl (0, 73, 0)))  (σ : Mem) : Cp M w shR 3 iVM 0 [some (.ref (wad w k0)), some (.ref (wad w k1)), none] [] σ (fX6_become k0 k1 σ) := by
  unfold fX6_become
  refine Cp.iconst (v := 0) X dX6_become_0 rfl ?_
  refine Cp.istore_n (i := 2) X dX6_become_1 rfl (Nat.le_of_ble_eq_true rfl) rfl ?_
  exact pX6_become_2 X k0 k1 h0 h1 FU 0 σ
theorem kX6_become {l : Launch} {w : WE} (hok : OkW w shR) (k0 : Nat) (k1 : Nat) (h0 : shR[k0]? = some (.inl (0, 73, 0))) (h1 : shR[k1]? = some (.inl (0, 73, 0)))  (σ : Mem) : ∀ v, fX6_become k0 k1 σ = some v → Ctr l w shR yX6_become cX6_become 3 none 0 [.ref (wad w k0), .ref (wad w k1)] σ (iVM v) := fun v hv => Ctr.of [some (.ref (wad w k0)), some (.ref (wad w k1)), none] (by decide) hok rfl (Nat.le_of_ble_eq_true rfl) (fun M _ X => pX6_become X k0 k1 h0 h1  σ v hv)
def fX6_lends  (σ : Mem) : Option Mem :=
  ((fX6_become 1 3 σ).bind fun s_8 => (some s_8))
set_option maxRecDepth 20000 in
theorem pX6_lends {M : MC} {w : WE} (X : Cx M w shR cX6_lends 1 RX6 none 1)    (σ : Mem) : Cp M w shR 1 iVM 0 [some (.ref (wad w 0))] [] σ (fX6_lends σ) := by
  unfold fX6_lends
  refine Cp.aload_n (i := 0) X dX6_lends_0 rfl rfl ?_
  refine gfX6_9 X 1 sr_0 rfl dX6_lends_1 ?_
  refine Cp.aload_n (i := 0) X dX6_lends_4 rfl rfl ?_
  refine gfX6_16 X 3 sr_0 rfl dX6_lends_5 ?_
  refine Cp.cSV [] X [.ref (wad w 1), .ref (wad w 3)] csX6_become (kX6_become X.ok 1 3 sr_1 sr_3 σ) wmX6_44 rfl rfl dX6_lends_8 rfl (Nat.le_of_ble_eq_true rfl) (fun s_8 => ?_)
  exact Cp.vret X dX6_lends_11 rfl
theorem kX6_lends {l : Launch} {w : WE} (hok : OkW w shR)    (σ : Mem) : ∀ v, fX6_lends σ = some v → Ctr l w shR yX6_lends cX6_lends 1 none 1 [.ref (wad w 0)] σ (iVM v) := fun v hv => Ctr.of [some (.ref (wad w 0))] (by decide) hok rfl (Nat.le_of_ble_eq_true rfl) (fun M _ X => pX6_lends X    σ v hv)
def fX6_laysBack  (σ : Mem) : Option Mem :=
  ((fX6_become 3 1 σ).bind fun s_8 => (some s_8))
set_option maxRecDepth 20000 in
theorem pX6_laysBack {M : MC} {w : WE} (X : Cx M w shR cX6_laysBack 1 RX6 none 1)    (σ : Mem) : Cp M w shR 1 iVM 0 [some (.ref (wad w 0))] [] σ (fX6_laysBack σ) := by
  unfold fX6_laysBack
  refine Cp.aload_n (i := 0) X dX6_laysBack_0 rfl rfl ?_
  refine gfX6_16 X 3 sr_0 rfl dX6_laysBack_1 ?_
  refine Cp.aload_n (i := 0) X dX6_laysBack_4 rfl rfl ?_
  refine gfX6_9 X 1 sr_0 rfl dX6_laysBack_5 ?_
  refine Cp.cSV [] X [.ref (wad w 3), .ref (wad w 1)] csX6_become (kX6_become X.ok 3 1 sr_3 sr_1 σ) wmX6_44 rfl rfl dX6_laysBack_8 rfl (Nat.le_of_ble_eq_true rfl) (fun s_8 => ?_)
  exact Cp.vret X dX6_laysBack_11 rfl
theorem kX6_laysBack {l : Launch} {w : WE} (hok : OkW w shR)    (σ : Mem) : ∀ v, fX6_laysBack σ = some v → Ctr l w shR yX6_laysBack cX6_laysBack 1 none 1 [.ref (wad w 0)] σ (iVM v) := fun v hv => Ctr.of [some (.ref (wad w 0))] (by decide) hok rfl (Nat.le_of_ble_eq_true rfl) (fun M _ X => pX6_laysBack X    σ v hv)
def fX6_allPaid_4 (σ : Mem) (k4 : Int32 → Int32 → Option Int32) (x1 : Int32) (x2 : Int32) : Option Int32 :=
  (if (σ 1 5) ≤ x2 then (some x1) else (gd (inB x2 8 = true) (pb (x1 + (σ 6 x2.toNatClampNeg) : Int32) fun x1_22 => (k4 x1_22 (x2 + 1)))))
def fX6_allPaid  (σ : Mem) : Option Int32 :=
  (lw2 (fX6_allPaid_4 σ) FU 0 0)
set_option maxRecDepth 20000 in
theorem pX6_allPaid_4 {M : MC} {w : WE} (X : Cx M w shR cX6_allPaid 3 RX6 (some .int) 0)     (σ : Mem)  : ∀ (n : Nat) (x1 : Int32) (x2 : Int32), Cp M w shR 3 (iI σ) 4 [some (.ref (wad w 0)), some (.int x1), some (.int x2)] [] σ (lw2 (fX6_allPaid_4 σ) n x1 x2) :=
  lw2_i (P := fun x1 x2 b => Cp M w shR 3 (iI σ) 4 [some (.ref (wad w 0)), some (.int x1), some (.int x2)] [] σ b) (fun _ _ => Cp.non) (fun k4 hk4 x1 x2 => by
  unfold fX6_allPaid_4
  refine Cp.iload_n (i := 2) X dX6_allPaid_4 rfl rfl ?_
  refine Cp.aload_n (i := 0) X dX6_allPaid_5 rfl rfl ?_
  refine gfX6_9 X 1 sr_0 rfl dX6_allPaid_6 ?_
  refine Cp.iconst (v := 5) X dX6_allPaid_9 rfl ?_
  refine Cp.ialdc (j := 5) X sr_1 (by decide) (by decide) dX6_allPaid_10 ?_
  refine Cp.icmp_ge X 29 dX6_allPaid_11 (by decide) (fun c_11 => ?_) (fun c_11 => ?_)
  · refine Cp.iload_n (i := 1) X dX6_allPaid_29 rfl rfl ?_
    exact Cp.iret X dX6_allPaid_30 rfl
  · refine Cp.iload_n (i := 1) X dX6_allPaid_14 rfl rfl ?_
    refine Cp.aload_n (i := 0) X dX6_allPaid_15 rfl rfl ?_
    refine gfX6_25 X 6 sr_0 rfl dX6_allPaid_16 ?_
    refine Cp.iload_n (i := 2) X dX6_allPaid_19 rfl rfl ?_
    refine Cp.iald X sr_6 dX6_allPaid_20 ?_
    refine Cp.iadd X dX6_allPaid_21 ?_
    refine Cp.nameI (fun x1_22 => ?_)
    refine Cp.istore_n (i := 1) X dX6_allPaid_22 rfl (Nat.le_of_ble_eq_true rfl) rfl ?_
    refine Cp.iinc (v := x2 + 1) X dX6_allPaid_23 rfl rfl (Nat.le_of_ble_eq_true rfl) rfl ?_
    refine Cp.goto X 4 dX6_allPaid_26 (by decide) ?_
    exact hk4 x1_22 (x2 + 1))
set_option maxRecDepth 20000 in
theorem pX6_allPaid {M : MC} {w : WE} (X : Cx M w shR cX6_allPaid 3 RX6 (some .int) 0)    (σ : Mem) : Cp M w shR 3 (iI σ) 0 [some (.ref (wad w 0)), none, none] [] σ (fX6_allPaid σ) := by
  unfold fX6_allPaid
  refine Cp.iconst (v := 0) X dX6_allPaid_0 rfl ?_
  refine Cp.istore_n (i := 1) X dX6_allPaid_1 rfl (Nat.le_of_ble_eq_true rfl) rfl ?_
  refine Cp.iconst (v := 0) X dX6_allPaid_2 rfl ?_
  refine Cp.istore_n (i := 2) X dX6_allPaid_3 rfl (Nat.le_of_ble_eq_true rfl) rfl ?_
  exact pX6_allPaid_4 X σ FU 0 0
theorem kX6_allPaid {l : Launch} {w : WE} (hok : OkW w shR)    (σ : Mem) : ∀ v, fX6_allPaid σ = some v → Ctr l w shR yX6_allPaid cX6_allPaid 3 (some .int) 0 [.ref (wad w 0)] σ ((iI σ) v) := fun v hv => Ctr.of [some (.ref (wad w 0)), none, none] (by decide) hok rfl (Nat.le_of_ble_eq_true rfl) (fun M _ X => pX6_allPaid X    σ v hv)
def fX6_raised (x1 : Int32) (σ : Mem) : Option (Int32 × Mem) :=
  (if fX6_isJoke x1 σ = true then ((fX6_lends σ).bind fun s_15 => (bnd2 (fX6_tells x1 s_15) fun v_20 s_20 => ((fX6_laysBack s_20).bind fun s_25 => ((fX6_allPaid s_25).bind fun v_29 => (some (v_29, s_25)))))) else (bnd2 (fX6_finds 0 σ) fun v_10 s_10 => (some (v_10, s_10))))
set_option maxRecDepth 20000 in
theorem pX6_raised {M : MC} {w : WE} (X : Cx M w shR cX6_raised 3 RX6 (some .int) 5)   (x1 : Int32) (σ : Mem) : Cp M w shR 3 iIM 0 [some (.ref (wad w 0)), some (.int x1), none] [] σ (fX6_raised x1 σ) := by
  unfold fX6_raised
  refine Cp.aload_n (i := 0) X dX6_raised_0 rfl rfl ?_
  refine Cp.iload_n (i := 1) X dX6_raised_1 rfl rfl ?_
  refine Cp.cVBT [] X [.int x1] cvX6_isJoke (kX6_isJoke X.ok x1 σ) sr_0 rfl rfl wmX6_138 rfl rfl dX6_raised_2 rfl (Nat.le_of_ble_eq_true rfl) ?_
  refine Cp.if_neB X 14 dX6_raised_5 (by decide) (fun c_5 => ?_) (fun c_5 => ?_)
  · refine Cp.aload_n (i := 0) X dX6_raised_14 rfl rfl ?_
    refine Cp.cVV [] X [] cvX6_lends (kX6_lends X.ok σ) sr_0 rfl rfl wmX6_180 rfl rfl dX6_raised_15 rfl (Nat.le_of_ble_eq_true rfl) (fun s_15 => ?_)
    refine Cp.aload_n (i := 0) X dX6_raised_18 rfl rfl ?_
    refine Cp.iload_n (i := 1) X dX6_raised_19 rfl rfl ?_
    refine Cp.cVIM [] X [.int x1] cvX6_tells (kX6_tells X.ok x1 s_15) sr_0 rfl rfl wmX6_167 rfl rfl dX6_raised_20 rfl (Nat.le_of_ble_eq_true rfl) (fun v_20 s_20 => ?_)
    refine Cp.istore_n (i := 2) X dX6_raised_23 rfl (Nat.le_of_ble_eq_true rfl) rfl ?_
    refine Cp.aload_n (i := 0) X dX6_raised_24 rfl rfl ?_
    refine Cp.cVV [] X [] cvX6_laysBack (kX6_laysBack X.ok s_20) sr_0 rfl rfl wmX6_183 rfl rfl dX6_raised_25 rfl (Nat.le_of_ble_eq_true rfl) (fun s_25 => ?_)
    refine Cp.aload_n (i := 0) X dX6_raised_28 rfl rfl ?_
    refine Cp.cVI [] X [] cvX6_allPaid (kX6_allPaid X.ok s_25) sr_0 rfl rfl wmX6_186 rfl rfl dX6_raised_29 rfl (Nat.le_of_ble_eq_true rfl) (fun v_29 => ?_)
    exact Cp.iret X dX6_raised_32 rfl
  · refine Cp.aload_n (i := 0) X dX6_raised_8 rfl rfl ?_
    refine Cp.iconst (v := 0) X dX6_raised_9 rfl ?_
    refine Cp.cVIM [] X [.int 0] cvX6_finds (kX6_finds X.ok 0 σ) sr_0 rfl rfl wmX6_103 rfl rfl dX6_raised_10 rfl (Nat.le_of_ble_eq_true rfl) (fun v_10 s_10 => ?_)
    exact Cp.iret X dX6_raised_13 rfl
theorem kX6_raised {l : Launch} {w : WE} (hok : OkW w shR)   (x1 : Int32) (σ : Mem) : ∀ v, fX6_raised x1 σ = some v → Ctr l w shR yX6_raised cX6_raised 3 (some .int) 5 [.ref (wad w 0), .int x1] σ (iIM v) := fun v hv => Ctr.of [some (.ref (wad w 0)), some (.int x1), none] (by decide) hok rfl (Nat.le_of_ble_eq_true rfl) (fun M _ X => pX6_raised X   x1 σ v hv)
def fX6_ahead_32 (x1 : Int32) (x2 : Int32) (k32 : Int32 → Mem → Option (Int32 × Mem)) (x3 : Int32) (σ : Mem) : Option (Int32 × Mem) :=
  (if x2 ≤ x3 then (pb (σ 1 2 : Int32) fun x3_56 => ((fX6_laysBack σ).bind fun s_58 => (some (x3_56, s_58)))) else (bnd2 (fX6_tells x1 σ) fun v_39 s_39 => (k32 (x3 + 1) s_39)))
def fX6_ahead (x1 : Int32) (x2 : Int32) (σ : Mem) : Option (Int32 × Mem) :=
  (if fX6_isJoke x1 σ = true then (if fX6_in ((x2 : Int32).toInt64) 0 60 = true then ((fX6_lends σ).bind fun s_27 => (lw2 (fX6_ahead_32 x1 x2) FU 0 s_27)) else (bnd2 (fX6_finds 0 σ) fun v_22 s_22 => (some (v_22, s_22)))) else (bnd2 (fX6_finds 0 σ) fun v_22 s_22 => (some (v_22, s_22))))
set_option maxRecDepth 20000 in
theorem pX6_ahead_32 {M : MC} {w : WE} (X : Cx M w shR cX6_ahead 5 RX6 (some .int) 5)   (x1 : Int32) (x2 : Int32)    : ∀ (n : Nat) (x3 : Int32) (σ : Mem), Cp M w shR 5 iIM 32 [some (.ref (wad w 0)), some (.int x1), some (.int x2), some (.int x3), none] [] σ (lw2 (fX6_ahead_32 x1 x2) n x3 σ) :=
  lw2_i (P := fun x3 σ b => Cp M w shR 5 iIM 32 [some (.ref (wad w 0)), some (.int x1), some (.int x2), some (.int x3), none] [] σ b) (fun _ _ => Cp.non) (fun k32 hk32 x3 σ => by
  unfold fX6_ahead_32
  refine Cp.iload_n (i := 3) X dX6_ahead_32 rfl rfl ?_
  refine Cp.iload_n (i := 2) X dX6_ahead_33 rfl rfl ?_
  refine Cp.icmp_ge X 50 dX6_ahead_34 (by decide) (fun c_34 => ?_) (fun c_34 => ?_)
  · refine Cp.aload_n (i := 0) X dX6_ahead_50 rfl rfl ?_
    refine gfX6_9 X 1 sr_0 rfl dX6_ahead_51 ?_
    refine Cp.iconst (v := 2) X dX6_ahead_54 rfl ?_
    refine Cp.ialdc (j := 2) X sr_1 (by decide) (by decide) dX6_ahead_55 ?_
    refine Cp.nameI (fun x3_56 => ?_)
    refine Cp.istore_n (i := 3) X dX6_ahead_56 rfl (Nat.le_of_ble_eq_true rfl) rfl ?_
    refine Cp.aload_n (i := 0) X dX6_ahead_57 rfl rfl ?_
    refine Cp.cVV [] X [] cvX6_laysBack (kX6_laysBack X.ok σ) sr_0 rfl rfl wmX6_183 rfl rfl dX6_ahead_58 rfl (Nat.le_of_ble_eq_true rfl) (fun s_58 => ?_)
    refine Cp.iload_n (i := 3) X dX6_ahead_61 rfl rfl ?_
    exact Cp.iret X dX6_ahead_62 rfl
  · refine Cp.aload_n (i := 0) X dX6_ahead_37 rfl rfl ?_
    refine Cp.iload_n (i := 1) X dX6_ahead_38 rfl rfl ?_
    refine Cp.cVIM [] X [.int x1] cvX6_tells (kX6_tells X.ok x1 σ) sr_0 rfl rfl wmX6_167 rfl rfl dX6_ahead_39 rfl (Nat.le_of_ble_eq_true rfl) (fun v_39 s_39 => ?_)
    refine Cp.istore X dX6_ahead_42 (Nat.le_of_ble_eq_true rfl) rfl ?_
    refine Cp.iinc (v := x3 + 1) X dX6_ahead_44 rfl rfl (Nat.le_of_ble_eq_true rfl) rfl ?_
    refine Cp.goto X 32 dX6_ahead_47 (by decide) ?_
    refine Cp.mask [true, true, true, true, false] ?_
    exact hk32 (x3 + 1) s_39)
set_option maxRecDepth 20000 in
theorem pX6_ahead {M : MC} {w : WE} (X : Cx M w shR cX6_ahead 5 RX6 (some .int) 5)   (x1 : Int32) (x2 : Int32) (σ : Mem) : Cp M w shR 5 iIM 0 [some (.ref (wad w 0)), some (.int x1), some (.int x2), none, none] [] σ (fX6_ahead x1 x2 σ) := by
  unfold fX6_ahead
  refine Cp.aload_n (i := 0) X dX6_ahead_0 rfl rfl ?_
  refine Cp.iload_n (i := 1) X dX6_ahead_1 rfl rfl ?_
  refine Cp.cVBT [] X [.int x1] cvX6_isJoke (kX6_isJoke X.ok x1 σ) sr_0 rfl rfl wmX6_138 rfl rfl dX6_ahead_2 rfl (Nat.le_of_ble_eq_true rfl) ?_
  refine Cp.if_eqB X 20 dX6_ahead_5 (by decide) (fun c_5 => ?_) (fun c_5 => ?_)
  · refine Cp.aload_n (i := 0) X dX6_ahead_20 rfl rfl ?_
    refine Cp.iconst (v := 0) X dX6_ahead_21 rfl ?_
    refine Cp.cVIM [] X [.int 0] cvX6_finds (kX6_finds X.ok 0 σ) sr_0 rfl rfl wmX6_103 rfl rfl dX6_ahead_22 rfl (Nat.le_of_ble_eq_true rfl) (fun v_22 s_22 => ?_)
    exact Cp.iret X dX6_ahead_25 rfl
  · refine Cp.iload_n (i := 2) X dX6_ahead_8 rfl rfl ?_
    refine Cp.i2l X dX6_ahead_9 ?_
    refine Cp.lconst (v := 0) X dX6_ahead_10 rfl ?_
    refine Cp.ldc2 (v := 60) X wcX6_170 dX6_ahead_11 ?_
    refine Cp.cSBT [] X [.long ((x2 : Int32).toInt64), .long 0, .long 60] csX6_in (kX6_in X.ok ((x2 : Int32).toInt64) 0 60 σ) wmX6_48 rfl rfl dX6_ahead_14 rfl (Nat.le_of_ble_eq_true rfl) ?_
    refine Cp.if_neB X 26 dX6_ahead_17 (by decide) (fun c_17 => ?_) (fun c_17 => ?_)
    · refine Cp.aload_n (i := 0) X dX6_ahead_26 rfl rfl ?_
      refine Cp.cVV [] X [] cvX6_lends (kX6_lends X.ok σ) sr_0 rfl rfl wmX6_180 rfl rfl dX6_ahead_27 rfl (Nat.le_of_ble_eq_true rfl) (fun s_27 => ?_)
      refine Cp.iconst (v := 0) X dX6_ahead_30 rfl ?_
      refine Cp.istore_n (i := 3) X dX6_ahead_31 rfl (Nat.le_of_ble_eq_true rfl) rfl ?_
      exact pX6_ahead_32 X x1 x2 FU 0 s_27
    · refine Cp.aload_n (i := 0) X dX6_ahead_20 rfl rfl ?_
      refine Cp.iconst (v := 0) X dX6_ahead_21 rfl ?_
      refine Cp.cVIM [] X [.int 0] cvX6_finds (kX6_finds X.ok 0 σ) sr_0 rfl rfl wmX6_103 rfl rfl dX6_ahead_22 rfl (Nat.le_of_ble_eq_true rfl) (fun v_22 s_22 => ?_)
      exact Cp.iret X dX6_ahead_25 rfl
theorem kX6_ahead {l : Launch} {w : WE} (hok : OkW w shR)   (x1 : Int32) (x2 : Int32) (σ : Mem) : ∀ v, fX6_ahead x1 x2 σ = some v → Ctr l w shR yX6_ahead cX6_ahead 5 (some .int) 5 [.ref (wad w 0), .int x1, .int x2] σ (iIM v) := fun v hv => Ctr.of [some (.ref (wad w 0)), some (.int x1), some (.int x2), none, none] (by decide) hok rfl (Nat.le_of_ble_eq_true rfl) (fun M _ X => pX6_ahead X   x1 x2 σ v hv)
def fX6_orNone (x1 : Int32) (σ : Mem) : Option (Int32 × Mem) :=
  (if 60 < x1 then (bnd2 (fX6_finds 3 σ) fun v_12 s_12 => (some (v_12, s_12))) else (some (x1, σ)))
set_option maxRecDepth 20000 in
theorem pX6_orNone {M : MC} {w : WE} (X : Cx M w shR cX6_orNone 2 RX6 (some .int) 1)   (x1 : Int32) (σ : Mem) : Cp M w shR 2 iIM 0 [some (.ref (wad w 0)), some (.int x1)] [] σ (fX6_orNone x1 σ) := by
  unfold fX6_orNone
  refine Cp.iload_n (i := 1) X dX6_orNone_0 rfl rfl ?_
  refine Cp.bipush (v := 60) X dX6_orNone_1 rfl ?_
  refine Cp.icmp_gt X 10 dX6_orNone_3 (by decide) (fun c_3 => ?_) (fun c_3 => ?_)
  · refine Cp.aload_n (i := 0) X dX6_orNone_10 rfl rfl ?_
    refine Cp.iconst (v := 3) X dX6_orNone_11 rfl ?_
    refine Cp.cVIM [] X [.int 3] cvX6_finds (kX6_finds X.ok 3 σ) sr_0 rfl rfl wmX6_103 rfl rfl dX6_orNone_12 rfl (Nat.le_of_ble_eq_true rfl) (fun v_12 s_12 => ?_)
    exact Cp.iret X dX6_orNone_15 rfl
  · refine Cp.iload_n (i := 1) X dX6_orNone_6 rfl rfl ?_
    refine Cp.goto X 15 dX6_orNone_7 (by decide) ?_
    exact Cp.iret X dX6_orNone_15 rfl
theorem kX6_orNone {l : Launch} {w : WE} (hok : OkW w shR)   (x1 : Int32) (σ : Mem) : ∀ v, fX6_orNone x1 σ = some v → Ctr l w shR yX6_orNone cX6_orNone 2 (some .int) 1 [.ref (wad w 0), .int x1] σ (iIM v) := fun v hv => Ctr.of [some (.ref (wad w 0)), some (.int x1)] (by decide) hok rfl (Nat.le_of_ble_eq_true rfl) (fun M _ X => pX6_orNone X   x1 σ v hv)
