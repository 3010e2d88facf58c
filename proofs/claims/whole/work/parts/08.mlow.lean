def fJ6_bitCount_0f7a4 (x0 : Int32) : Int32 :=
  (pb (x0 - ((((x0 : Int32).toUInt32 >>> ((1 : Int32).toUInt32 &&& Int32.toUInt32 31)).toInt32) &&& 1431655765) : Int32) fun x0_9 => (pb ((x0_9 &&& 858993459) + ((((x0_9 : Int32).toUInt32 >>> ((2 : Int32).toUInt32 &&& Int32.toUInt32 31)).toInt32) &&& 858993459) : Int32) fun x0_23 => (pb ((x0_23 + (((x0_23 : Int32).toUInt32 >>> ((4 : Int32).toUInt32 &&& Int32.toUInt32 31)).toInt32)) &&& 252645135 : Int32) fun x0_33 => (pb (x0_33 + (((x0_33 : Int32).toUInt32 >>> ((8 : Int32).toUInt32 &&& Int32.toUInt32 31)).toInt32) : Int32) fun x0_40 => (pb (x0_40 + (((x0_40 : Int32).toUInt32 >>> ((16 : Int32).toUInt32 &&& Int32.toUInt32 31)).toInt32) : Int32) fun x0_47 => x0_47 &&& 63)))))
set_option maxRecDepth 20000 in
theorem pJ6_bitCount_0f7a4 {M : MC} {w : WE} {sh : List Shp} (X : Cx M w sh cJ6_bitCount_0f7a4 1 RJ6 (some .int) 0)   (x0 : Int32) (σ : Mem) : Cp M w sh 1 (iI σ) 0 [some (.int x0)] [] σ (some (fJ6_bitCount_0f7a4 x0)) := by
  unfold fJ6_bitCount_0f7a4
  refine Cp.iload_n (i := 0) X dJ6_bitCount_0f7a4_0 rfl rfl ?_
  refine Cp.iload_n (i := 0) X dJ6_bitCount_0f7a4_1 rfl rfl ?_
  refine Cp.iconst (v := 1) X dJ6_bitCount_0f7a4_2 rfl ?_
  refine Cp.iushr X dJ6_bitCount_0f7a4_3 ?_
  refine Cp.ldcw (v := 1431655765) X wcJ6_265 dJ6_bitCount_0f7a4_4 ?_
  refine Cp.iand X dJ6_bitCount_0f7a4_7 ?_
  refine Cp.isub X dJ6_bitCount_0f7a4_8 ?_
  refine Cp.nameIT (fun x0_9 => ?_)
  refine Cp.istore_n (i := 0) X dJ6_bitCount_0f7a4_9 rfl (Nat.le_of_ble_eq_true rfl) rfl ?_
  refine Cp.iload_n (i := 0) X dJ6_bitCount_0f7a4_10 rfl rfl ?_
  refine Cp.ldcw (v := 858993459) X wcJ6_266 dJ6_bitCount_0f7a4_11 ?_
  refine Cp.iand X dJ6_bitCount_0f7a4_14 ?_
  refine Cp.iload_n (i := 0) X dJ6_bitCount_0f7a4_15 rfl rfl ?_
  refine Cp.iconst (v := 2) X dJ6_bitCount_0f7a4_16 rfl ?_
  refine Cp.iushr X dJ6_bitCount_0f7a4_17 ?_
  refine Cp.ldcw (v := 858993459) X wcJ6_266 dJ6_bitCount_0f7a4_18 ?_
  refine Cp.iand X dJ6_bitCount_0f7a4_21 ?_
  refine Cp.iadd X dJ6_bitCount_0f7a4_22 ?_
  refine Cp.nameIT (fun x0_23 => ?_)
  refine Cp.istore_n (i := 0) X dJ6_bitCount_0f7a4_23 rfl (Nat.le_of_ble_eq_true rfl) rfl ?_
  refine Cp.iload_n (i := 0) X dJ6_bitCount_0f7a4_24 rfl rfl ?_
  refine Cp.iload_n (i := 0) X dJ6_bitCount_0f7a4_25 rfl rfl ?_
  refine Cp.iconst (v := 4) X dJ6_bitCount_0f7a4_26 rfl ?_
  refine Cp.iushr X dJ6_bitCount_0f7a4_27 ?_
  refine Cp.iadd X dJ6_bitCount_0f7a4_28 ?_
  refine Cp.ldcw (v := 252645135) X wcJ6_267 dJ6_bitCount_0f7a4_29 ?_
  refine Cp.iand X dJ6_bitCount_0f7a4_32 ?_
  refine Cp.nameIT (fun x0_33 => ?_)
  refine Cp.istore_n (i := 0) X dJ6_bitCount_0f7a4_33 rfl (Nat.le_of_ble_eq_true rfl) rfl ?_
  refine Cp.iload_n (i := 0) X dJ6_bitCount_0f7a4_34 rfl rfl ?_
  refine Cp.iload_n (i := 0) X dJ6_bitCount_0f7a4_35 rfl rfl ?_
  refine Cp.bipush (v := 8) X dJ6_bitCount_0f7a4_36 rfl ?_
  refine Cp.iushr X dJ6_bitCount_0f7a4_38 ?_
  refine Cp.iadd X dJ6_bitCount_0f7a4_39 ?_
  refine Cp.nameIT (fun x0_40 => ?_)
  refine Cp.istore_n (i := 0) X dJ6_bitCount_0f7a4_40 rfl (Nat.le_of_ble_eq_true rfl) rfl ?_
  refine Cp.iload_n (i := 0) X dJ6_bitCount_0f7a4_41 rfl rfl ?_
  refine Cp.iload_n (i := 0) X dJ6_bitCount_0f7a4_42 rfl rfl ?_
  refine Cp.bipush (v := 16) X dJ6_bitCount_0f7a4_43 rfl ?_
  refine Cp.iushr X dJ6_bitCount_0f7a4_45 ?_
  refine Cp.iadd X dJ6_bitCount_0f7a4_46 ?_
  refine Cp.nameIT (fun x0_47 => ?_)
  refine Cp.istore_n (i := 0) X dJ6_bitCount_0f7a4_47 rfl (Nat.le_of_ble_eq_true rfl) rfl ?_
  refine Cp.iload_n (i := 0) X dJ6_bitCount_0f7a4_48 rfl rfl ?_
  refine Cp.bipush (v := 63) X dJ6_bitCount_0f7a4_49 rfl ?_
  refine Cp.iand X dJ6_bitCount_0f7a4_51 ?_
  exact Cp.iret X dJ6_bitCount_0f7a4_52 rfl
theorem kJ6_bitCount_0f7a4 {l : Launch} {w : WE} {sh : List Shp} (hok : OkW w sh)   (x0 : Int32) (σ : Mem) : Ctr l w sh yJ6_bitCount_0f7a4 cJ6_bitCount_0f7a4 1 (some .int) 0 [.int x0] σ ((iI σ) (fJ6_bitCount_0f7a4 x0)) := Ctr.of [some (.int x0)] (by decide) hok rfl (Nat.le_of_ble_eq_true rfl) (fun M _ X => pJ6_bitCount_0f7a4 X   x0 σ _ rfl)
def fX5_within (x0 : Int32) (x1 : Int32) (x2 : Int32) : Bool :=
  (if x0 < x1 then false else (if x2 < x0 then false else true))
set_option maxRecDepth 20000 in
theorem pX5_within {M : MC} {w : WE} (X : Cx M w shC cX5_within 3 RX5 (some .boolean) 0)   (x0 : Int32) (x1 : Int32) (x2 : Int32) (σ : Mem) : Cp M w shC 3 (iB σ) 0 [some (.int x0), some (.int x1), some (.int x2)] [] σ (some (fX5_within x0 x1 x2)) := by
  unfold fX5_within
  refine Cp.iload_n (i := 0) X dX5_within_0 rfl rfl ?_
  refine Cp.iload_n (i := 1) X dX5_within_1 rfl rfl ?_
  refine Cp.icmp_ltT X 14 dX5_within_2 (by decide) (fun c_2 => ?_) (fun c_2 => ?_)
  · refine Cp.iconst (v := 0) X dX5_within_14 rfl ?_
    exact Cp.bret (v := false) X dX5_within_15 rfl
  · refine Cp.iload_n (i := 0) X dX5_within_5 rfl rfl ?_
    refine Cp.iload_n (i := 2) X dX5_within_6 rfl rfl ?_
    refine Cp.icmp_gtT X 14 dX5_within_7 (by decide) (fun c_7 => ?_) (fun c_7 => ?_)
    · refine Cp.iconst (v := 0) X dX5_within_14 rfl ?_
      exact Cp.bret (v := false) X dX5_within_15 rfl
    · refine Cp.iconst (v := 1) X dX5_within_10 rfl ?_
      refine Cp.goto X 15 dX5_within_11 (by decide) ?_
      exact Cp.bret (v := true) X dX5_within_15 rfl
theorem kX5_within {l : Launch} {w : WE} (hok : OkW w shC)   (x0 : Int32) (x1 : Int32) (x2 : Int32) (σ : Mem) : Ctr l w shC yX5_within cX5_within 3 (some .boolean) 0 [.int x0, .int x1, .int x2] σ ((iB σ) (fX5_within x0 x1 x2)) := Ctr.of [some (.int x0), some (.int x1), some (.int x2)] (by decide) hok rfl (Nat.le_of_ble_eq_true rfl) (fun M _ X => pX5_within X   x0 x1 x2 σ _ rfl)
def fX1_renewNear_14 (r : Nat) (k2 : Int32 → Mem → Option Mem) (x1 : Int32) (σ : Mem) (k14 : Int32 → Int32 → Option Mem) (x2 : Int32) (x3 : Int32) : Option Mem :=
  (if (σ r 0) ≤ x3 then (gd (inB x1 8 = true) (pb (up2 σ (r + 6) x1.toNatClampNeg x2 : Mem) fun s_68 => (k2 (x1 + 1) s_68))) else (if x3 = x1 then (k14 x2 (x3 + 1)) else (gd (inB x1 8 = true) (gd (inB x3 8 = true) (if (σ r 11) < (iAbs ((σ (r + 2) x1.toNatClampNeg) - (σ (r + 2) x3.toNatClampNeg))) then (k14 x2 (x3 + 1)) else (pb (x2 ||| (1 <<< (x3 &&& 31)) : Int32) fun x2_55 => (k14 x2_55 (x3 + 1))))))))
def fX1_renewNear_2 (r : Nat) (k2 : Int32 → Mem → Option Mem) (x1 : Int32) (σ : Mem) : Option Mem :=
  (if (σ r 0) ≤ x1 then (some σ) else (lw2 (fX1_renewNear_14 r k2 x1 σ) FU 0 0))
def fX1_renewNear (r : Nat) (σ : Mem) : Option Mem :=
  (lw2 (fX1_renewNear_2 r) FU 0 σ)
set_option maxRecDepth 20000 in
theorem pX1_renewNear_14 {M : MC} {w : WE} (X : Cx M w shC cX1_renewNear 4 RX1 none 1) (r : Nat) (hr : isRm r) (x1 : Int32)  (σ : Mem) (k2 : Int32 → Mem → Option Mem) (hk2 : ∀ (x1 : Int32) (σ : Mem), Cp M w shC 4 iVM 2 [some (.ref (wad w r)), some (.int x1), none, none] [] σ (k2 x1 σ)) : ∀ (n : Nat) (x2 : Int32) (x3 : Int32), Cp M w shC 4 iVM 14 [some (.ref (wad w r)), some (.int x1), some (.int x2), some (.int x3)] [] σ (lw2 (fX1_renewNear_14 r k2 x1 σ) n x2 x3) :=
  lw2_i (P := fun x2 x3 b => Cp M w shC 4 iVM 14 [some (.ref (wad w r)), some (.int x1), some (.int x2), some (.int x3)] [] σ b) (fun _ _ => Cp.non) (fun k14 hk14 x2 x3 => by
  unfold fX1_renewNear_14
  refine Cp.iload_n (i := 3) X dX1_renewNear_14 rfl rfl ?_
  refine Cp.aload_n (i := 0) X dX1_renewNear_15 rfl rfl ?_
  refine gfX1_49 X (s_rm hr) rfl dX1_renewNear_16 ?_
  refine Cp.icmp_ge X 62 dX1_renewNear_19 (by decide) (fun c_19 => ?_) (fun c_19 => ?_)
  · refine Cp.aload_n (i := 0) X dX1_renewNear_62 rfl rfl ?_
    refine gfX1_27 X (r + 6) (s_rm hr) rfl dX1_renewNear_63 ?_
    refine Cp.iload_n (i := 1) X dX1_renewNear_66 rfl rfl ?_
    refine Cp.iload_n (i := 2) X dX1_renewNear_67 rfl rfl ?_
    refine Cp.iast X (s_ra6 hr) dX1_renewNear_68 ?_
    refine Cp.nameM (fun s_68 => ?_)
    refine Cp.iinc (v := x1 + 1) X dX1_renewNear_69 rfl rfl (Nat.le_of_ble_eq_true rfl) rfl ?_
    refine Cp.goto X 2 dX1_renewNear_72 (by decide) ?_
    refine Cp.mask [true, true, false, false] ?_
    exact hk2 (x1 + 1) s_68
  · refine Cp.iload_n (i := 3) X dX1_renewNear_22 rfl rfl ?_
    refine Cp.iload_n (i := 1) X dX1_renewNear_23 rfl rfl ?_
    refine Cp.icmp_eq X 56 dX1_renewNear_24 (by decide) (fun c_24 => ?_) (fun c_24 => ?_)
    · refine Cp.iinc (v := x3 + 1) X dX1_renewNear_56 rfl rfl (Nat.le_of_ble_eq_true rfl) rfl ?_
      refine Cp.goto X 14 dX1_renewNear_59 (by decide) ?_
      exact hk14 x2 (x3 + 1)
    · refine Cp.aload_n (i := 0) X dX1_renewNear_27 rfl rfl ?_
      refine gfX1_15 X (r + 2) (s_rm hr) rfl dX1_renewNear_28 ?_
      refine Cp.iload_n (i := 1) X dX1_renewNear_31 rfl rfl ?_
      refine Cp.iald X (s_ra2 hr) dX1_renewNear_32 ?_
      refine Cp.aload_n (i := 0) X dX1_renewNear_33 rfl rfl ?_
      refine gfX1_15 X (r + 2) (s_rm hr) rfl dX1_renewNear_34 ?_
      refine Cp.iload_n (i := 3) X dX1_renewNear_37 rfl rfl ?_
      refine Cp.iald X (s_ra2 hr) dX1_renewNear_38 ?_
      refine Cp.isub X dX1_renewNear_39 ?_
      refine Cp.mabs X wqX1_70 (by decide) dX1_renewNear_40 (Nat.le_of_ble_eq_true rfl) ?_
      refine Cp.aload_n (i := 0) X dX1_renewNear_43 rfl rfl ?_
      refine gfX1_40 X (s_rm hr) rfl dX1_renewNear_44 ?_
      refine Cp.icmp_gt X 56 dX1_renewNear_47 (by decide) (fun c_47 => ?_) (fun c_47 => ?_)
      · refine Cp.iinc (v := x3 + 1) X dX1_renewNear_56 rfl rfl (Nat.le_of_ble_eq_true rfl) rfl ?_
        refine Cp.goto X 14 dX1_renewNear_59 (by decide) ?_
        exact hk14 x2 (x3 + 1)
      · refine Cp.iload_n (i := 2) X dX1_renewNear_50 rfl rfl ?_
        refine Cp.iconst (v := 1) X dX1_renewNear_51 rfl ?_
        refine Cp.iload_n (i := 3) X dX1_renewNear_52 rfl rfl ?_
        refine Cp.ishl X dX1_renewNear_53 ?_
        refine Cp.ior X dX1_renewNear_54 ?_
        refine Cp.nameI (fun x2_55 => ?_)
        refine Cp.istore_n (i := 2) X dX1_renewNear_55 rfl (Nat.le_of_ble_eq_true rfl) rfl ?_
        refine Cp.iinc (v := x3 + 1) X dX1_renewNear_56 rfl rfl (Nat.le_of_ble_eq_true rfl) rfl ?_
        refine Cp.goto X 14 dX1_renewNear_59 (by decide) ?_
        exact hk14 x2_55 (x3 + 1))
set_option maxRecDepth 20000 in
theorem pX1_renewNear_2 {M : MC} {w : WE} (X : Cx M w shC cX1_renewNear 4 RX1 none 1) (r : Nat) (hr : isRm r)     : ∀ (n : Nat) (x1 : Int32) (σ : Mem), Cp M w shC 4 iVM 2 [some (.ref (wad w r)), some (.int x1), none, none] [] σ (lw2 (fX1_renewNear_2 r) n x1 σ) :=
  lw2_i (P := fun x1 σ b => Cp M w shC 4 iVM 2 [some (.ref (wad w r)), some (.int x1), none, none] [] σ b) (fun _ _ => Cp.non) (fun k2 hk2 x1 σ => by
  unfold fX1_renewNear_2
  refine Cp.iload_n (i := 1) X dX1_renewNear_2 rfl rfl ?_
  refine Cp.aload_n (i := 0) X dX1_renewNear_3 rfl rfl ?_
  refine gfX1_49 X (s_rm hr) rfl dX1_renewNear_4 ?_
  refine Cp.icmp_ge X 75 dX1_renewNear_7 (by decide) (fun c_7 => ?_) (fun c_7 => ?_)
  · exact Cp.vret X dX1_renewNear_75 rfl
  · refine Cp.iconst (v := 0) X dX1_renewNear_10 rfl ?_
    refine Cp.istore_n (i := 2) X dX1_renewNear_11 rfl (Nat.le_of_ble_eq_true rfl) rfl ?_
    refine Cp.iconst (v := 0) X dX1_renewNear_12 rfl ?_
    refine Cp.istore_n (i := 3) X dX1_renewNear_13 rfl (Nat.le_of_ble_eq_true rfl) rfl ?_
    exact pX1_renewNear_14 X r hr x1 σ k2 hk2 FU 0 0)
set_option maxRecDepth 20000 in
theorem pX1_renewNear {M : MC} {w : WE} (X : Cx M w shC cX1_renewNear 4 RX1 none 1) (r : Nat) (hr : isRm r)  (σ : Mem) : Cp M w shC 4 iVM 0 [some (.ref (wad w r)), none, none, none] [] σ (fX1_renewNear r σ) := by
  unfold fX1_renewNear
  refine Cp.iconst (v := 0) X dX1_renewNear_0 rfl ?_
  refine Cp.istore_n (i := 1) X dX1_renewNear_1 rfl (Nat.le_of_ble_eq_true rfl) rfl ?_
  exact pX1_renewNear_2 X r hr FU 0 σ
theorem kX1_renewNear {l : Launch} {w : WE} (hok : OkW w shC) (r : Nat) (hr : isRm r)  (σ : Mem) : ∀ v, fX1_renewNear r σ = some v → Ctr l w shC yX1_renewNear cX1_renewNear 4 none 1 [.ref (wad w r)] σ (iVM v) := fun v hv => Ctr.of [some (.ref (wad w r)), none, none, none] (by decide) hok rfl (Nat.le_of_ble_eq_true rfl) (fun M _ X => pX1_renewNear X r hr  σ v hv)
def fX1_addPerson (r : Nat) (x1 : Int32) (x2 : Int32) (σ : Mem) : Option (Int32 × Mem) :=
  (pb (σ r 0 : Int32) fun x3_4 => (pb (up2 σ r 0 ((σ r 0) + 1) : Mem) fun s_12 => (gd (inB x3_4 8 = true) (pb (up2 s_12 (r + 1) x3_4.toNatClampNeg x1 : Mem) fun s_21 => (gd (inB x3_4 8 = true) (pb (up2 s_21 (r + 2) x3_4.toNatClampNeg x2 : Mem) fun s_28 => (gd (inB x3_4 8 = true) (pb (up2 s_28 (r + 3) x3_4.toNatClampNeg 1 : Mem) fun s_35 => (gd (inB x3_4 8 = true) (pb (up2 s_35 (r + 4) x3_4.toNatClampNeg 3 : Mem) fun s_42 => (gd (inB x3_4 8 = true) (pb (up2 s_42 (r + 5) x3_4.toNatClampNeg 100 : Mem) fun s_50 => ((fX1_renewNear r s_50).bind fun s_52 => (some (x3_4, s_52)))))))))))))))
set_option maxRecDepth 20000 in
theorem pX1_addPerson {M : MC} {w : WE} (X : Cx M w shC cX1_addPerson 4 RX1 (some .int) 2) (r : Nat) (hr : isRm r) (x1 : Int32) (x2 : Int32) (σ : Mem) : Cp M w shC 4 iIM 0 [some (.ref (wad w r)), some (.int x1), some (.int x2), none] [] σ (fX1_addPerson r x1 x2 σ) := by
  unfold fX1_addPerson
  refine Cp.aload_n (i := 0) X dX1_addPerson_0 rfl rfl ?_
  refine gfX1_49 X (s_rm hr) rfl dX1_addPerson_1 ?_
  refine Cp.nameI (fun x3_4 => ?_)
  refine Cp.istore_n (i := 3) X dX1_addPerson_4 rfl (Nat.le_of_ble_eq_true rfl) rfl ?_
  refine Cp.aload_n (i := 0) X dX1_addPerson_5 rfl rfl ?_
  refine Cp.dup X dX1_addPerson_6 rfl ?_
  refine gfX1_49 X (s_rm hr) rfl dX1_addPerson_7 ?_
  refine Cp.iconst (v := 1) X dX1_addPerson_10 rfl ?_
  refine Cp.iadd X dX1_addPerson_11 ?_
  refine pfX1_49 X (s_rm hr) rfl dX1_addPerson_12 ?_
  refine Cp.nameM (fun s_12 => ?_)
  refine Cp.aload_n (i := 0) X dX1_addPerson_15 rfl rfl ?_
  refine gfX1_9 X (r + 1) (s_rm hr) rfl dX1_addPerson_16 ?_
  refine Cp.iload_n (i := 3) X dX1_addPerson_19 rfl rfl ?_
  refine Cp.iload_n (i := 1) X dX1_addPerson_20 rfl rfl ?_
  refine Cp.iast X (s_ra1 hr) dX1_addPerson_21 ?_
  refine Cp.nameM (fun s_21 => ?_)
  refine Cp.aload_n (i := 0) X dX1_addPerson_22 rfl rfl ?_
  refine gfX1_15 X (r + 2) (s_rm hr) rfl dX1_addPerson_23 ?_
  refine Cp.iload_n (i := 3) X dX1_addPerson_26 rfl rfl ?_
  refine Cp.iload_n (i := 2) X dX1_addPerson_27 rfl rfl ?_
  refine Cp.iast X (s_ra2 hr) dX1_addPerson_28 ?_
  refine Cp.nameM (fun s_28 => ?_)
  refine Cp.aload_n (i := 0) X dX1_addPerson_29 rfl rfl ?_
  refine gfX1_18 X (r + 3) (s_rm hr) rfl dX1_addPerson_30 ?_
  refine Cp.iload_n (i := 3) X dX1_addPerson_33 rfl rfl ?_
  refine Cp.iconst (v := 1) X dX1_addPerson_34 rfl ?_
  refine Cp.iast X (s_ra3 hr) dX1_addPerson_35 ?_
  refine Cp.nameM (fun s_35 => ?_)
  refine Cp.aload_n (i := 0) X dX1_addPerson_36 rfl rfl ?_
  refine gfX1_21 X (r + 4) (s_rm hr) rfl dX1_addPerson_37 ?_
  refine Cp.iload_n (i := 3) X dX1_addPerson_40 rfl rfl ?_
  refine Cp.iconst (v := 3) X dX1_addPerson_41 rfl ?_
  refine Cp.iast X (s_ra4 hr) dX1_addPerson_42 ?_
  refine Cp.nameM (fun s_42 => ?_)
  refine Cp.aload_n (i := 0) X dX1_addPerson_43 rfl rfl ?_
  refine gfX1_24 X (r + 5) (s_rm hr) rfl dX1_addPerson_44 ?_
  refine Cp.iload_n (i := 3) X dX1_addPerson_47 rfl rfl ?_
  refine Cp.bipush (v := 100) X dX1_addPerson_48 rfl ?_
  refine Cp.iast X (s_ra5 hr) dX1_addPerson_50 ?_
  refine Cp.nameM (fun s_50 => ?_)
  refine Cp.aload_n (i := 0) X dX1_addPerson_51 rfl rfl ?_
  refine Cp.cVV [] X [] cvX1_renewNear (kX1_renewNear X.ok r hr s_50) (s_rm hr) rfl rfl wmX1_67 rfl rfl dX1_addPerson_52 rfl (Nat.le_of_ble_eq_true rfl) (fun s_52 => ?_)
  refine Cp.iload_n (i := 3) X dX1_addPerson_55 rfl rfl ?_
  exact Cp.iret X dX1_addPerson_56 rfl
theorem kX1_addPerson {l : Launch} {w : WE} (hok : OkW w shC) (r : Nat) (hr : isRm r) (x1 : Int32) (x2 : Int32) (σ : Mem) : ∀ v, fX1_addPerson r x1 x2 σ = some v → Ctr l w shC yX1_addPerson cX1_addPerson 4 (some .int) 2 [.ref (wad w r), .int x1, .int x2] σ (iIM v) := fun v hv => Ctr.of [some (.ref (wad w r)), some (.int x1), some (.int x2), none] (by decide) hok rfl (Nat.le_of_ble_eq_true rfl) (fun M _ X => pX1_addPerson X r hr x1 x2 σ v hv)
def fX0_bound (x0 : Int32) (x1 : Int32) : Int32 :=
  (pb (8 + (iMin 20 (x1 / 10)) : Int32) fun x2_12 => (if x0 = 1 then x2_12 else (if x0 = 2 then 4 else (if x0 = 3 then 3 else (if x0 = 4 then 93 else (if x0 = 5 then 5 else (if x0 = 6 then x2_12 + 4 else 8)))))))
set_option maxRecDepth 20000 in
theorem pX0_bound {M : MC} {w : WE} (X : Cx M w shC cX0_bound 3 RX0 (some .int) 1)   (x0 : Int32) (x1 : Int32) (σ : Mem) : Cp M w shC 3 (iI σ) 0 [some (.int x0), some (.int x1), none] [] σ (some (fX0_bound x0 x1)) := by
  unfold fX0_bound
  refine Cp.bipush (v := 8) X dX0_bound_0 rfl ?_
  refine Cp.bipush (v := 20) X dX0_bound_2 rfl ?_
  refine Cp.iload_n (i := 1) X dX0_bound_4 rfl rfl ?_
  refine Cp.bipush (v := 10) X dX0_bound_5 rfl ?_
  refine Cp.idiv X dX0_bound_7 (by decide) ?_
  refine Cp.mmin X wqX0_15 (by decide) dX0_bound_8 (Nat.le_of_ble_eq_true rfl) ?_
  refine Cp.iadd X dX0_bound_11 ?_
  refine Cp.nameIT (fun x2_12 => ?_)
  refine Cp.istore_n (i := 2) X dX0_bound_12 rfl (Nat.le_of_ble_eq_true rfl) rfl ?_
  refine Cp.iload_n (i := 0) X dX0_bound_13 rfl rfl ?_
  refine Cp.iteT (fun c_14 => ?_) (fun n_14_0 => ?_)
  · refine Cp.tswI X 1 52 c_14 dX0_bound_14 (by decide) (by decide) rfl (by decide) ?_
    refine Cp.iload_n (i := 2) X dX0_bound_52 rfl rfl ?_
    exact Cp.iret X dX0_bound_53 rfl
  refine Cp.iteT (fun c_14 => ?_) (fun n_14_1 => ?_)
  · refine Cp.tswI X 2 58 c_14 dX0_bound_14 (by decide) (by decide) rfl (by decide) ?_
    refine Cp.iconst (v := 4) X dX0_bound_58 rfl ?_
    exact Cp.iret X dX0_bound_59 rfl
  refine Cp.iteT (fun c_14 => ?_) (fun n_14_2 => ?_)
  · refine Cp.tswI X 3 60 c_14 dX0_bound_14 (by decide) (by decide) rfl (by decide) ?_
    refine Cp.iconst (v := 3) X dX0_bound_60 rfl ?_
    exact Cp.iret X dX0_bound_61 rfl
  refine Cp.iteT (fun c_14 => ?_) (fun n_14_3 => ?_)
  · refine Cp.tswI X 4 62 c_14 dX0_bound_14 (by decide) (by decide) rfl (by decide) ?_
    refine Cp.bipush (v := 93) X dX0_bound_62 rfl ?_
    exact Cp.iret X dX0_bound_64 rfl
  refine Cp.iteT (fun c_14 => ?_) (fun n_14_4 => ?_)
  · refine Cp.tswI X 5 65 c_14 dX0_bound_14 (by decide) (by decide) rfl (by decide) ?_
    refine Cp.iconst (v := 5) X dX0_bound_65 rfl ?_
    exact Cp.iret X dX0_bound_66 rfl
  refine Cp.iteT (fun c_14 => ?_) (fun n_14_5 => ?_)
  · refine Cp.tswI X 6 54 c_14 dX0_bound_14 (by decide) (by decide) rfl (by decide) ?_
    refine Cp.iload_n (i := 2) X dX0_bound_54 rfl rfl ?_
    refine Cp.iconst (v := 4) X dX0_bound_55 rfl ?_
    refine Cp.iadd X dX0_bound_56 ?_
    exact Cp.iret X dX0_bound_57 rfl
  have m_14_0 := lv_neT (a := 1) n_14_0 (by decide)
  have m_14_1 := lv_neT (a := 2) n_14_1 (by decide)
  have m_14_2 := lv_neT (a := 3) n_14_2 (by decide)
  have m_14_3 := lv_neT (a := 4) n_14_3 (by decide)
  have m_14_4 := lv_neT (a := 5) n_14_4 (by decide)
  have m_14_5 := lv_neT (a := 6) n_14_5 (by decide)
  refine Cp.tswD X 67 (by omega) dX0_bound_14 (by decide) ?_
  refine Cp.bipush (v := 8) X dX0_bound_67 rfl ?_
  exact Cp.iret X dX0_bound_69 rfl
theorem kX0_bound {l : Launch} {w : WE} (hok : OkW w shC)   (x0 : Int32) (x1 : Int32) (σ : Mem) : Ctr l w shC yX0_bound cX0_bound 3 (some .int) 1 [.int x0, .int x1] σ ((iI σ) (fX0_bound x0 x1)) := Ctr.of [some (.int x0), some (.int x1), none] (by decide) hok rfl (Nat.le_of_ble_eq_true rfl) (fun M _ X => pX0_bound X   x0 x1 σ _ rfl)
def fX0_number (x0 : Int32) (x1 : Int32) : Int32 :=
  (if x0 = 1 then 3 else (if x0 = 2 then 1 else (if x0 = 3 then 1 else (if x0 = 4 then 9 else (if x0 = 5 then (if x1 < 5 then 2 else 1) else (if x0 = 6 then 6 else 2))))))
set_option maxRecDepth 20000 in
theorem pX0_number {M : MC} {w : WE} (X : Cx M w shC cX0_number 2 RX0 (some .int) 0)   (x0 : Int32) (x1 : Int32) (σ : Mem) : Cp M w shC 2 (iI σ) 0 [some (.int x0), some (.int x1)] [] σ (some (fX0_number x0 x1)) := by
  unfold fX0_number
  refine Cp.iload_n (i := 0) X dX0_number_0 rfl rfl ?_
  refine Cp.iteT (fun c_1 => ?_) (fun n_1_0 => ?_)
  · refine Cp.tswI X 1 40 c_1 dX0_number_1 (by decide) (by decide) rfl (by decide) ?_
    refine Cp.iconst (v := 3) X dX0_number_40 rfl ?_
    exact Cp.iret X dX0_number_41 rfl
  refine Cp.iteT (fun c_1 => ?_) (fun n_1_1 => ?_)
  · refine Cp.tswI X 2 45 c_1 dX0_number_1 (by decide) (by decide) rfl (by decide) ?_
    refine Cp.iconst (v := 1) X dX0_number_45 rfl ?_
    exact Cp.iret X dX0_number_46 rfl
  refine Cp.iteT (fun c_1 => ?_) (fun n_1_2 => ?_)
  · refine Cp.tswI X 3 47 c_1 dX0_number_1 (by decide) (by decide) rfl (by decide) ?_
    refine Cp.iconst (v := 1) X dX0_number_47 rfl ?_
    exact Cp.iret X dX0_number_48 rfl
  refine Cp.iteT (fun c_1 => ?_) (fun n_1_3 => ?_)
  · refine Cp.tswI X 4 49 c_1 dX0_number_1 (by decide) (by decide) rfl (by decide) ?_
    refine Cp.bipush (v := 9) X dX0_number_49 rfl ?_
    exact Cp.iret X dX0_number_51 rfl
  refine Cp.iteT (fun c_1 => ?_) (fun n_1_4 => ?_)
  · refine Cp.tswI X 5 52 c_1 dX0_number_1 (by decide) (by decide) rfl (by decide) ?_
    refine Cp.iload_n (i := 1) X dX0_number_52 rfl rfl ?_
    refine Cp.iconst (v := 5) X dX0_number_53 rfl ?_
    refine Cp.icmp_ltT X 61 dX0_number_54 (by decide) (fun c_54 => ?_) (fun c_54 => ?_)
    · refine Cp.iconst (v := 2) X dX0_number_61 rfl ?_
      exact Cp.iret X dX0_number_62 rfl
    · refine Cp.iconst (v := 1) X dX0_number_57 rfl ?_
      refine Cp.goto X 62 dX0_number_58 (by decide) ?_
      exact Cp.iret X dX0_number_62 rfl
  refine Cp.iteT (fun c_1 => ?_) (fun n_1_5 => ?_)
  · refine Cp.tswI X 6 42 c_1 dX0_number_1 (by decide) (by decide) rfl (by decide) ?_
    refine Cp.bipush (v := 6) X dX0_number_42 rfl ?_
    exact Cp.iret X dX0_number_44 rfl
  have m_1_0 := lv_neT (a := 1) n_1_0 (by decide)
  have m_1_1 := lv_neT (a := 2) n_1_1 (by decide)
  have m_1_2 := lv_neT (a := 3) n_1_2 (by decide)
  have m_1_3 := lv_neT (a := 4) n_1_3 (by decide)
  have m_1_4 := lv_neT (a := 5) n_1_4 (by decide)
  have m_1_5 := lv_neT (a := 6) n_1_5 (by decide)
  refine Cp.tswD X 63 (by omega) dX0_number_1 (by decide) ?_
  refine Cp.iconst (v := 2) X dX0_number_63 rfl ?_
  exact Cp.iret X dX0_number_64 rfl
theorem kX0_number {l : Launch} {w : WE} (hok : OkW w shC)   (x0 : Int32) (x1 : Int32) (σ : Mem) : Ctr l w shC yX0_number cX0_number 2 (some .int) 0 [.int x0, .int x1] σ ((iI σ) (fX0_number x0 x1)) := Ctr.of [some (.int x0), some (.int x1)] (by decide) hok rfl (Nat.le_of_ble_eq_true rfl) (fun M _ X => pX0_number X   x0 x1 σ _ rfl)
def fX1_setSeat (r : Nat) (x1 : Int32) (x2 : Int32) (σ : Mem) : Option Mem :=
  (gd (inB x1 8 = true) (pb (up2 σ (r + 2) x1.toNatClampNeg x2 : Mem) fun s_6 => ((fX1_renewNear r s_6).bind fun s_8 => (some s_8))))
set_option maxRecDepth 20000 in
theorem pX1_setSeat {M : MC} {w : WE} (X : Cx M w shC cX1_setSeat 3 RX1 none 2) (r : Nat) (hr : isRm r) (x1 : Int32) (x2 : Int32) (σ : Mem) : Cp M w shC 3 iVM 0 [some (.ref (wad w r)), some (.int x1), some (.int x2)] [] σ (fX1_setSeat r x1 x2 σ) := by
  unfold fX1_setSeat
  refine Cp.aload_n (i := 0) X dX1_setSeat_0 rfl rfl ?_
  refine gfX1_15 X (r + 2) (s_rm hr) rfl dX1_setSeat_1 ?_
  refine Cp.iload_n (i := 1) X dX1_setSeat_4 rfl rfl ?_
  refine Cp.iload_n (i := 2) X dX1_setSeat_5 rfl rfl ?_
  refine Cp.iast X (s_ra2 hr) dX1_setSeat_6 ?_
  refine Cp.nameM (fun s_6 => ?_)
  refine Cp.aload_n (i := 0) X dX1_setSeat_7 rfl rfl ?_
  refine Cp.cVV [] X [] cvX1_renewNear (kX1_renewNear X.ok r hr s_6) (s_rm hr) rfl rfl wmX1_67 rfl rfl dX1_setSeat_8 rfl (Nat.le_of_ble_eq_true rfl) (fun s_8 => ?_)
  exact Cp.vret X dX1_setSeat_11 rfl
theorem kX1_setSeat {l : Launch} {w : WE} (hok : OkW w shC) (r : Nat) (hr : isRm r) (x1 : Int32) (x2 : Int32) (σ : Mem) : ∀ v, fX1_setSeat r x1 x2 σ = some v → Ctr l w shC yX1_setSeat cX1_setSeat 3 none 2 [.ref (wad w r), .int x1, .int x2] σ (iVM v) := fun v hv => Ctr.of [some (.ref (wad w r)), some (.int x1), some (.int x2)] (by decide) hok rfl (Nat.le_of_ble_eq_true rfl) (fun M _ X => pX1_setSeat X r hr x1 x2 σ v hv)
def fX1_addJoke (r : Nat) (x1 : Int32) (x2 : Int32) (σ : Mem) : Option (Int32 × Mem) :=
  (pb (σ r 7 : Int32) fun x3_4 => (pb (up2 σ r 7 ((σ r 7) + 1) : Mem) fun s_12 => (gd (inB x3_4 8 = true) (pb (up2 s_12 (r + 7) x3_4.toNatClampNeg x1 : Mem) fun s_21 => (gd (inB x3_4 8 = true) (pb (up2 s_21 (r + 8) x3_4.toNatClampNeg x2 : Mem) fun s_28 => (some (x3_4, s_28))))))))
set_option maxRecDepth 20000 in
theorem pX1_addJoke {M : MC} {w : WE} (X : Cx M w shC cX1_addJoke 4 RX1 (some .int) 0) (r : Nat) (hr : isRm r) (x1 : Int32) (x2 : Int32) (σ : Mem) : Cp M w shC 4 iIM 0 [some (.ref (wad w r)), some (.int x1), some (.int x2), none] [] σ (fX1_addJoke r x1 x2 σ) := by
  unfold fX1_addJoke
  refine Cp.aload_n (i := 0) X dX1_addJoke_0 rfl rfl ?_
  refine gfX1_58 X (s_rm hr) rfl dX1_addJoke_1 ?_
  refine Cp.nameI (fun x3_4 => ?_)
  refine Cp.istore_n (i := 3) X dX1_addJoke_4 rfl (Nat.le_of_ble_eq_true rfl) rfl ?_
  refine Cp.aload_n (i := 0) X dX1_addJoke_5 rfl rfl ?_
  refine Cp.dup X dX1_addJoke_6 rfl ?_
  refine gfX1_58 X (s_rm hr) rfl dX1_addJoke_7 ?_
  refine Cp.iconst (v := 1) X dX1_addJoke_10 rfl ?_
  refine Cp.iadd X dX1_addJoke_11 ?_
  refine pfX1_58 X (s_rm hr) rfl dX1_addJoke_12 ?_
  refine Cp.nameM (fun s_12 => ?_)
  refine Cp.aload_n (i := 0) X dX1_addJoke_15 rfl rfl ?_
  refine gfX1_30 X (r + 7) (s_rm hr) rfl dX1_addJoke_16 ?_
  refine Cp.iload_n (i := 3) X dX1_addJoke_19 rfl rfl ?_
  refine Cp.iload_n (i := 1) X dX1_addJoke_20 rfl rfl ?_
  refine Cp.iast X (s_ra7 hr) dX1_addJoke_21 ?_
  refine Cp.nameM (fun s_21 => ?_)
  refine Cp.aload_n (i := 0) X dX1_addJoke_22 rfl rfl ?_
  refine gfX1_33 X (r + 8) (s_rm hr) rfl dX1_addJoke_23 ?_
  refine Cp.iload_n (i := 3) X dX1_addJoke_26 rfl rfl ?_
  refine Cp.iload_n (i := 2) X dX1_addJoke_27 rfl rfl ?_
  refine Cp.iast X (s_ra8 hr) dX1_addJoke_28 ?_
  refine Cp.nameM (fun s_28 => ?_)
  refine Cp.iload_n (i := 3) X dX1_addJoke_29 rfl rfl ?_
  exact Cp.iret X dX1_addJoke_30 rfl
theorem kX1_addJoke {l : Launch} {w : WE} (hok : OkW w shC) (r : Nat) (hr : isRm r) (x1 : Int32) (x2 : Int32) (σ : Mem) : ∀ v, fX1_addJoke r x1 x2 σ = some v → Ctr l w shC yX1_addJoke cX1_addJoke 4 (some .int) 0 [.ref (wad w r), .int x1, .int x2] σ (iIM v) := fun v hv => Ctr.of [some (.ref (wad w r)), some (.int x1), some (.int x2), none] (by decide) hok rfl (Nat.le_of_ble_eq_true rfl) (fun M _ X => pX1_addJoke X r hr x1 x2 σ v hv)
def fX1_setReach (r : Nat) (x1 : Int32) (σ : Mem) : Option Mem :=
  (pb (up2 σ r 11 x1 : Mem) fun s_2 => ((fX1_renewNear r s_2).bind fun s_6 => (some s_6)))
set_option maxRecDepth 20000 in
theorem pX1_setReach {M : MC} {w : WE} (X : Cx M w shC cX1_setReach 2 RX1 none 2) (r : Nat) (hr : isRm r) (x1 : Int32) (σ : Mem) : Cp M w shC 2 iVM 0 [some (.ref (wad w r)), some (.int x1)] [] σ (fX1_setReach r x1 σ) := by
  unfold fX1_setReach
  refine Cp.aload_n (i := 0) X dX1_setReach_0 rfl rfl ?_
  refine Cp.iload_n (i := 1) X dX1_setReach_1 rfl rfl ?_
  refine pfX1_40 X (s_rm hr) rfl dX1_setReach_2 ?_
  refine Cp.nameM (fun s_2 => ?_)
  refine Cp.aload_n (i := 0) X dX1_setReach_5 rfl rfl ?_
  refine Cp.cVV [] X [] cvX1_renewNear (kX1_renewNear X.ok r hr s_2) (s_rm hr) rfl rfl wmX1_67 rfl rfl dX1_setReach_6 rfl (Nat.le_of_ble_eq_true rfl) (fun s_6 => ?_)
  exact Cp.vret X dX1_setReach_9 rfl
theorem kX1_setReach {l : Launch} {w : WE} (hok : OkW w shC) (r : Nat) (hr : isRm r) (x1 : Int32) (σ : Mem) : ∀ v, fX1_setReach r x1 σ = some v → Ctr l w shC yX1_setReach cX1_setReach 2 none 2 [.ref (wad w r), .int x1] σ (iVM v) := fun v hv => Ctr.of [some (.ref (wad w r)), some (.int x1)] (by decide) hok rfl (Nat.le_of_ble_eq_true rfl) (fun M _ X => pX1_setReach X r hr x1 σ v hv)
def fX1_strengthFor (r : Nat) (x1 : Int32) (x2 : Int32) (x3 : Int32) (σ : Mem) : Option Int32 :=
  (gd (inB x1 8 = true) (gd (inB x1 8 = true) (some ((x3 * (fJ6_bitCount_0f7a4 (x2 &&& (σ (r + 3) x1.toNatClampNeg)))) + (σ (r + 4) x1.toNatClampNeg)))))
set_option maxRecDepth 20000 in
theorem pX1_strengthFor {M : MC} {w : WE} (X : Cx M w shC cX1_strengthFor 4 RX1 (some .int) 1) (r : Nat) (hr : isRm r) (x1 : Int32) (x2 : Int32) (x3 : Int32) (σ : Mem) : Cp M w shC 4 (iI σ) 0 [some (.ref (wad w r)), some (.int x1), some (.int x2), some (.int x3)] [] σ (fX1_strengthFor r x1 x2 x3 σ) := by
  unfold fX1_strengthFor
  refine Cp.iload_n (i := 3) X dX1_strengthFor_0 rfl rfl ?_
  refine Cp.iload_n (i := 2) X dX1_strengthFor_1 rfl rfl ?_
  refine Cp.aload_n (i := 0) X dX1_strengthFor_2 rfl rfl ?_
  refine gfX1_18 X (r + 3) (s_rm hr) rfl dX1_strengthFor_3 ?_
  refine Cp.iload_n (i := 1) X dX1_strengthFor_6 rfl rfl ?_
  refine Cp.iald X (s_ra3 hr) dX1_strengthFor_7 ?_
  refine Cp.iand X dX1_strengthFor_8 ?_
  refine Cp.cSIT [.int x3] X [.int (x2 &&& (σ (r + 3) x1.toNatClampNeg))] csJ6_bitCount_0f7a4 (kJ6_bitCount_0f7a4 X.ok (x2 &&& (σ (r + 3) x1.toNatClampNeg)) σ) wmX1_76 rfl rfl dX1_strengthFor_9 rfl (Nat.le_of_ble_eq_true rfl) ?_
  refine Cp.imul X dX1_strengthFor_12 ?_
  refine Cp.aload_n (i := 0) X dX1_strengthFor_13 rfl rfl ?_
  refine gfX1_21 X (r + 4) (s_rm hr) rfl dX1_strengthFor_14 ?_
  refine Cp.iload_n (i := 1) X dX1_strengthFor_17 rfl rfl ?_
  refine Cp.iald X (s_ra4 hr) dX1_strengthFor_18 ?_
  refine Cp.iadd X dX1_strengthFor_19 ?_
  exact Cp.iret X dX1_strengthFor_20 rfl
theorem kX1_strengthFor {l : Launch} {w : WE} (hok : OkW w shC) (r : Nat) (hr : isRm r) (x1 : Int32) (x2 : Int32) (x3 : Int32) (σ : Mem) : ∀ v, fX1_strengthFor r x1 x2 x3 σ = some v → Ctr l w shC yX1_strengthFor cX1_strengthFor 4 (some .int) 1 [.ref (wad w r), .int x1, .int x2, .int x3] σ ((iI σ) v) := fun v hv => Ctr.of [some (.ref (wad w r)), some (.int x1), some (.int x2), some (.int x3)] (by decide) hok rfl (Nat.le_of_ble_eq_true rfl) (fun M _ X => pX1_strengthFor X r hr x1 x2 x3 σ v hv)
def fX0_seconds (x0 : Int32) (x1 : Int32) : Int32 :=
  (pb (iMin 30 (iMax 1 x1) : Int32) fun x2_10 => (if x0 = 1 then (x2_10 / 2) + 1 else (if x0 = 2 then x2_10 * 2 else (if x0 = 3 then (x2_10 * 2) + 5 else (if x0 = 4 then 0 else (if x0 = 5 then x2_10 else (if x0 = 6 then 1 else x2_10)))))))
set_option maxRecDepth 20000 in
theorem pX0_seconds {M : MC} {w : WE} (X : Cx M w shC cX0_seconds 3 RX0 (some .int) 1)   (x0 : Int32) (x1 : Int32) (σ : Mem) : Cp M w shC 3 (iI σ) 0 [some (.int x0), some (.int x1), none] [] σ (some (fX0_seconds x0 x1)) := by
  unfold fX0_seconds
  refine Cp.bipush (v := 30) X dX0_seconds_0 rfl ?_
  refine Cp.iconst (v := 1) X dX0_seconds_2 rfl ?_
  refine Cp.iload_n (i := 1) X dX0_seconds_3 rfl rfl ?_
  refine Cp.mmax X wqX0_21 (by decide) dX0_seconds_4 (Nat.le_of_ble_eq_true rfl) ?_
  refine Cp.mmin X wqX0_15 (by decide) dX0_seconds_7 (Nat.le_of_ble_eq_true rfl) ?_
  refine Cp.nameIT (fun x2_10 => ?_)
  refine Cp.istore_n (i := 2) X dX0_seconds_10 rfl (Nat.le_of_ble_eq_true rfl) rfl ?_
  refine Cp.iload_n (i := 0) X dX0_seconds_11 rfl rfl ?_
  refine Cp.iteT (fun c_12 => ?_) (fun n_12_0 => ?_)
  · refine Cp.tswI X 1 52 c_12 dX0_seconds_12 (by decide) (by decide) rfl (by decide) ?_
    refine Cp.iload_n (i := 2) X dX0_seconds_52 rfl rfl ?_
    refine Cp.iconst (v := 2) X dX0_seconds_53 rfl ?_
    refine Cp.idiv X dX0_seconds_54 (by decide) ?_
    refine Cp.iconst (v := 1) X dX0_seconds_55 rfl ?_
    refine Cp.iadd X dX0_seconds_56 ?_
    exact Cp.iret X dX0_seconds_57 rfl
  refine Cp.iteT (fun c_12 => ?_) (fun n_12_1 => ?_)
  · refine Cp.tswI X 2 60 c_12 dX0_seconds_12 (by decide) (by decide) rfl (by decide) ?_
    refine Cp.iload_n (i := 2) X dX0_seconds_60 rfl rfl ?_
    refine Cp.iconst (v := 2) X dX0_seconds_61 rfl ?_
    refine Cp.imul X dX0_seconds_62 ?_
    exact Cp.iret X dX0_seconds_63 rfl
  refine Cp.iteT (fun c_12 => ?_) (fun n_12_2 => ?_)
  · refine Cp.tswI X 3 64 c_12 dX0_seconds_12 (by decide) (by decide) rfl (by decide) ?_
    refine Cp.iload_n (i := 2) X dX0_seconds_64 rfl rfl ?_
    refine Cp.iconst (v := 2) X dX0_seconds_65 rfl ?_
    refine Cp.imul X dX0_seconds_66 ?_
    refine Cp.iconst (v := 5) X dX0_seconds_67 rfl ?_
    refine Cp.iadd X dX0_seconds_68 ?_
    exact Cp.iret X dX0_seconds_69 rfl
  refine Cp.iteT (fun c_12 => ?_) (fun n_12_3 => ?_)
  · refine Cp.tswI X 4 70 c_12 dX0_seconds_12 (by decide) (by decide) rfl (by decide) ?_
    refine Cp.iconst (v := 0) X dX0_seconds_70 rfl ?_
    exact Cp.iret X dX0_seconds_71 rfl
  refine Cp.iteT (fun c_12 => ?_) (fun n_12_4 => ?_)
  · refine Cp.tswI X 5 72 c_12 dX0_seconds_12 (by decide) (by decide) rfl (by decide) ?_
    refine Cp.iload_n (i := 2) X dX0_seconds_72 rfl rfl ?_
    exact Cp.iret X dX0_seconds_73 rfl
  refine Cp.iteT (fun c_12 => ?_) (fun n_12_5 => ?_)
  · refine Cp.tswI X 6 58 c_12 dX0_seconds_12 (by decide) (by decide) rfl (by decide) ?_
    refine Cp.iconst (v := 1) X dX0_seconds_58 rfl ?_
    exact Cp.iret X dX0_seconds_59 rfl
  have m_12_0 := lv_neT (a := 1) n_12_0 (by decide)
  have m_12_1 := lv_neT (a := 2) n_12_1 (by decide)
  have m_12_2 := lv_neT (a := 3) n_12_2 (by decide)
  have m_12_3 := lv_neT (a := 4) n_12_3 (by decide)
  have m_12_4 := lv_neT (a := 5) n_12_4 (by decide)
  have m_12_5 := lv_neT (a := 6) n_12_5 (by decide)
  refine Cp.tswD X 72 (by omega) dX0_seconds_12 (by decide) ?_
  refine Cp.iload_n (i := 2) X dX0_seconds_72 rfl rfl ?_
  exact Cp.iret X dX0_seconds_73 rfl
theorem kX0_seconds {l : Launch} {w : WE} (hok : OkW w shC)   (x0 : Int32) (x1 : Int32) (σ : Mem) : Ctr l w shC yX0_seconds cX0_seconds 3 (some .int) 1 [.int x0, .int x1] σ ((iI σ) (fX0_seconds x0 x1)) := Ctr.of [some (.int x0), some (.int x1), none] (by decide) hok rfl (Nat.le_of_ble_eq_true rfl) (fun M _ X => pX0_seconds X   x0 x1 σ _ rfl)
def fX1_dueFrom (r : Nat) (x1 : Int32) (x2 : Int32) (σ : Mem) : Option Int32 :=
  (gd (inB x1 8 = true) (gd (inB x1 8 = true) (some ((((fX0_seconds (σ (r + 1) x1.toNatClampNeg) x2) * (σ r 10)) * (fJ6_bitCount_0f7a4 (σ (r + 6) x1.toNatClampNeg))) / 10))))
set_option maxRecDepth 20000 in
theorem pX1_dueFrom {M : MC} {w : WE} (X : Cx M w shC cX1_dueFrom 3 RX1 (some .int) 2) (r : Nat) (hr : isRm r) (x1 : Int32) (x2 : Int32) (σ : Mem) : Cp M w shC 3 (iI σ) 0 [some (.ref (wad w r)), some (.int x1), some (.int x2)] [] σ (fX1_dueFrom r x1 x2 σ) := by
  unfold fX1_dueFrom
  refine Cp.aload_n (i := 0) X dX1_dueFrom_0 rfl rfl ?_
  refine gfX1_9 X (r + 1) (s_rm hr) rfl dX1_dueFrom_1 ?_
  refine Cp.iload_n (i := 1) X dX1_dueFrom_4 rfl rfl ?_
  refine Cp.iald X (s_ra1 hr) dX1_dueFrom_5 ?_
  refine Cp.iload_n (i := 2) X dX1_dueFrom_6 rfl rfl ?_
  refine Cp.cSIT [] X [.int (σ (r + 1) x1.toNatClampNeg), .int x2] csX0_seconds (kX0_seconds X.ok (σ (r + 1) x1.toNatClampNeg) x2 σ) wmX1_81 rfl rfl dX1_dueFrom_7 rfl (Nat.le_of_ble_eq_true rfl) ?_
  refine Cp.aload_n (i := 0) X dX1_dueFrom_10 rfl rfl ?_
  refine gfX1_36 X (s_rm hr) rfl dX1_dueFrom_11 ?_
  refine Cp.imul X dX1_dueFrom_14 ?_
  refine Cp.aload_n (i := 0) X dX1_dueFrom_15 rfl rfl ?_
  refine gfX1_27 X (r + 6) (s_rm hr) rfl dX1_dueFrom_16 ?_
  refine Cp.iload_n (i := 1) X dX1_dueFrom_19 rfl rfl ?_
  refine Cp.iald X (s_ra6 hr) dX1_dueFrom_20 ?_
  refine Cp.cSIT [.int ((fX0_seconds (σ (r + 1) x1.toNatClampNeg) x2) * (σ r 10))] X [.int (σ (r + 6) x1.toNatClampNeg)] csJ6_bitCount_0f7a4 (kJ6_bitCount_0f7a4 X.ok (σ (r + 6) x1.toNatClampNeg) σ) wmX1_76 rfl rfl dX1_dueFrom_21 rfl (Nat.le_of_ble_eq_true rfl) ?_
  refine Cp.imul X dX1_dueFrom_24 ?_
  refine Cp.bipush (v := 10) X dX1_dueFrom_25 rfl ?_
  refine Cp.idiv X dX1_dueFrom_27 (by decide) ?_
  exact Cp.iret X dX1_dueFrom_28 rfl
theorem kX1_dueFrom {l : Launch} {w : WE} (hok : OkW w shC) (r : Nat) (hr : isRm r) (x1 : Int32) (x2 : Int32) (σ : Mem) : ∀ v, fX1_dueFrom r x1 x2 σ = some v → Ctr l w shC yX1_dueFrom cX1_dueFrom 3 (some .int) 2 [.ref (wad w r), .int x1, .int x2] σ ((iI σ) v) := fun v hv => Ctr.of [some (.ref (wad w r)), some (.int x1), some (.int x2)] (by decide) hok rfl (Nat.le_of_ble_eq_true rfl) (fun M _ X => pX1_dueFrom X r hr x1 x2 σ v hv)
def fX4_startersOf_6 (r1 : Nat) (x2 : Int32) (x3 : Int32) (σ : Mem) (k6 : Int32 → Int32 → Option Int32) (x4 : Int32) (x5 : Int32) : Option Int32 :=
  (if (σ r1 0) ≤ x5 then (some x4) else ((fX1_strengthFor r1 x5 x2 x3 σ).bind fun v_20 => (gd (inB x5 8 = true) (gd (inB x5 8 = true) (if v_20 < (fX0_bound (σ (r1 + 1) x5.toNatClampNeg) (σ (r1 + 5) x5.toNatClampNeg)) then (k6 x4 (x5 + 1)) else (pb (x4 ||| (1 <<< (x5 &&& 31)) : Int32) fun x4_50 => (k6 x4_50 (x5 + 1))))))))
def fX4_startersOf (r1 : Nat) (x2 : Int32) (x3 : Int32) (σ : Mem) : Option Int32 :=
  (lw2 (fX4_startersOf_6 r1 x2 x3 σ) FU 0 0)
set_option maxRecDepth 20000 in
theorem pX4_startersOf_6 {M : MC} {w : WE} (X : Cx M w shC cX4_startersOf 6 RX4 (some .int) 2) (r1 : Nat) (h1 : isRm r1) (x2 : Int32) (x3 : Int32)  (σ : Mem)  : ∀ (n : Nat) (x4 : Int32) (x5 : Int32), Cp M w shC 6 (iI σ) 6 [none, some (.ref (wad w r1)), some (.int x2), some (.int x3), some (.int x4), some (.int x5)] [] σ (lw2 (fX4_startersOf_6 r1 x2 x3 σ) n x4 x5) :=
  lw2_i (P := fun x4 x5 b => Cp M w shC 6 (iI σ) 6 [none, some (.ref (wad w r1)), some (.int x2), some (.int x3), some (.int x4), some (.int x5)] [] σ b) (fun _ _ => Cp.non) (fun k6 hk6 x4 x5 => by
  unfold fX4_startersOf_6
  refine Cp.iload X dX4_startersOf_6 rfl ?_
  refine Cp.aload_n (i := 1) X dX4_startersOf_8 rfl rfl ?_
  refine gfX4_18 X (s_rm h1) rfl dX4_startersOf_9 ?_
  refine Cp.icmp_ge X 58 dX4_startersOf_12 (by decide) (fun c_12 => ?_) (fun c_12 => ?_)
  · refine Cp.iload X dX4_startersOf_58 rfl ?_
    exact Cp.iret X dX4_startersOf_60 rfl
  · refine Cp.aload_n (i := 1) X dX4_startersOf_15 rfl rfl ?_
    refine Cp.iload X dX4_startersOf_16 rfl ?_
    refine Cp.iload_n (i := 2) X dX4_startersOf_18 rfl rfl ?_
    refine Cp.iload_n (i := 3) X dX4_startersOf_19 rfl rfl ?_
    refine Cp.cVI [] X [.int x5, .int x2, .int x3] cvX1_strengthFor (kX1_strengthFor X.ok r1 h1 x5 x2 x3 σ) (s_rm h1) rfl rfl wmX4_24 rfl rfl dX4_startersOf_20 rfl (Nat.le_of_ble_eq_true rfl) (fun v_20 => ?_)
    refine Cp.aload_n (i := 1) X dX4_startersOf_23 rfl rfl ?_
    refine gfX4_28 X (r1 + 1) (s_rm h1) rfl dX4_startersOf_24 ?_
    refine Cp.iload X dX4_startersOf_27 rfl ?_
    refine Cp.iald X (s_ra1 h1) dX4_startersOf_29 ?_
    refine Cp.aload_n (i := 1) X dX4_startersOf_30 rfl rfl ?_
    refine gfX4_31 X (r1 + 5) (s_rm h1) rfl dX4_startersOf_31 ?_
    refine Cp.iload X dX4_startersOf_34 rfl ?_
    refine Cp.iald X (s_ra5 h1) dX4_startersOf_36 ?_
    refine Cp.cSIT [.int v_20] X [.int (σ (r1 + 1) x5.toNatClampNeg), .int (σ (r1 + 5) x5.toNatClampNeg)] csX0_bound (kX0_bound X.ok (σ (r1 + 1) x5.toNatClampNeg) (σ (r1 + 5) x5.toNatClampNeg) σ) wmX4_34 rfl rfl dX4_startersOf_37 rfl (Nat.le_of_ble_eq_true rfl) ?_
    refine Cp.icmp_lt X 52 dX4_startersOf_40 (by decide) (fun c_40 => ?_) (fun c_40 => ?_)
    · refine Cp.iinc (v := x5 + 1) X dX4_startersOf_52 rfl rfl (Nat.le_of_ble_eq_true rfl) rfl ?_
      refine Cp.goto X 6 dX4_startersOf_55 (by decide) ?_
      exact hk6 x4 (x5 + 1)
    · refine Cp.iload X dX4_startersOf_43 rfl ?_
      refine Cp.iconst (v := 1) X dX4_startersOf_45 rfl ?_
      refine Cp.iload X dX4_startersOf_46 rfl ?_
      refine Cp.ishl X dX4_startersOf_48 ?_
      refine Cp.ior X dX4_startersOf_49 ?_
      refine Cp.nameI (fun x4_50 => ?_)
      refine Cp.istore X dX4_startersOf_50 (Nat.le_of_ble_eq_true rfl) rfl ?_
      refine Cp.iinc (v := x5 + 1) X dX4_startersOf_52 rfl rfl (Nat.le_of_ble_eq_true rfl) rfl ?_
      refine Cp.goto X 6 dX4_startersOf_55 (by decide) ?_
      exact hk6 x4_50 (x5 + 1))
set_option maxRecDepth 20000 in
theorem pX4_startersOf {M : MC} {w : WE} (X : Cx M w shC cX4_startersOf 6 RX4 (some .int) 2) (r1 : Nat) (h1 : isRm r1) (x2 : Int32) (x3 : Int32) (σ : Mem) : Cp M w shC 6 (iI σ) 0 [some (.ref (wad w 31)), some (.ref (wad w r1)), some (.int x2), some (.int x3), none, none] [] σ (fX4_startersOf r1 x2 x3 σ) := by
  unfold fX4_startersOf
  refine Cp.iconst (v := 0) X dX4_startersOf_0 rfl ?_
  refine Cp.istore X dX4_startersOf_1 (Nat.le_of_ble_eq_true rfl) rfl ?_
  refine Cp.iconst (v := 0) X dX4_startersOf_3 rfl ?_
  refine Cp.istore X dX4_startersOf_4 (Nat.le_of_ble_eq_true rfl) rfl ?_
  refine Cp.mask [false, true, true, true, true, true] ?_
  exact pX4_startersOf_6 X r1 h1 x2 x3 σ FU 0 0
theorem kX4_startersOf {l : Launch} {w : WE} (hok : OkW w shC) (r1 : Nat) (h1 : isRm r1) (x2 : Int32) (x3 : Int32) (σ : Mem) : ∀ v, fX4_startersOf r1 x2 x3 σ = some v → Ctr l w shC yX4_startersOf cX4_startersOf 6 (some .int) 2 [.ref (wad w 31), .ref (wad w r1), .int x2, .int x3] σ ((iI σ) v) := fun v hv => Ctr.of [some (.ref (wad w 31)), some (.ref (wad w r1)), some (.int x2), some (.int x3), none, none] (by decide) hok rfl (Nat.le_of_ble_eq_true rfl) (fun M _ X => pX4_startersOf X r1 h1 x2 x3 σ v hv)
def fX1_everybody (r : Nat) (σ : Mem) : Int32 :=
  (1 <<< ((σ r 0) &&& 31)) - 1
set_option maxRecDepth 20000 in
theorem pX1_everybody {M : MC} {w : WE} (X : Cx M w shC cX1_everybody 1 RX1 (some .int) 0) (r : Nat) (hr : isRm r)  (σ : Mem) : Cp M w shC 1 (iI σ) 0 [some (.ref (wad w r))] [] σ (some (fX1_everybody r σ)) := by
  unfold fX1_everybody
  refine Cp.iconst (v := 1) X dX1_everybody_0 rfl ?_
  refine Cp.aload_n (i := 0) X dX1_everybody_1 rfl rfl ?_
  refine gfX1_49 X (s_rm hr) rfl dX1_everybody_2 ?_
  refine Cp.ishl X dX1_everybody_5 ?_
  refine Cp.iconst (v := 1) X dX1_everybody_6 rfl ?_
  refine Cp.isub X dX1_everybody_7 ?_
  exact Cp.iret X dX1_everybody_8 rfl
theorem kX1_everybody {l : Launch} {w : WE} (hok : OkW w shC) (r : Nat) (hr : isRm r)  (σ : Mem) : Ctr l w shC yX1_everybody cX1_everybody 1 (some .int) 0 [.ref (wad w r)] σ ((iI σ) (fX1_everybody r σ)) := Ctr.of [some (.ref (wad w r))] (by decide) hok rfl (Nat.le_of_ble_eq_true rfl) (fun M _ X => pX1_everybody X r hr  σ _ rfl)
def fX5_isIn (x0 : Int32) (x1 : Int32) : Bool :=
  (if ((x0 >>> (x1 &&& 31)) &&& 1) = 1 then true else false)
set_option maxRecDepth 20000 in
theorem pX5_isIn {M : MC} {w : WE} (X : Cx M w shC cX5_isIn 2 RX5 (some .boolean) 0)   (x0 : Int32) (x1 : Int32) (σ : Mem) : Cp M w shC 2 (iB σ) 0 [some (.int x0), some (.int x1)] [] σ (some (fX5_isIn x0 x1)) := by
  unfold fX5_isIn
  refine Cp.iload_n (i := 0) X dX5_isIn_0 rfl rfl ?_
  refine Cp.iload_n (i := 1) X dX5_isIn_1 rfl rfl ?_
  refine Cp.ishr X dX5_isIn_2 ?_
  refine Cp.iconst (v := 1) X dX5_isIn_3 rfl ?_
  refine Cp.iand X dX5_isIn_4 ?_
  refine Cp.iconst (v := 1) X dX5_isIn_5 rfl ?_
  refine Cp.icmp_neT X 13 dX5_isIn_6 (by decide) (fun c_6 => ?_) (fun c_6 => ?_)
  · refine Cp.iconst (v := 0) X dX5_isIn_13 rfl ?_
    exact Cp.bret (v := false) X dX5_isIn_14 rfl
  · refine Cp.iconst (v := 1) X dX5_isIn_9 rfl ?_
    refine Cp.goto X 14 dX5_isIn_10 (by decide) ?_
    exact Cp.bret (v := true) X dX5_isIn_14 rfl
theorem kX5_isIn {l : Launch} {w : WE} (hok : OkW w shC)   (x0 : Int32) (x1 : Int32) (σ : Mem) : Ctr l w shC yX5_isIn cX5_isIn 2 (some .boolean) 0 [.int x0, .int x1] σ ((iB σ) (fX5_isIn x0 x1)) := Ctr.of [some (.int x0), some (.int x1)] (by decide) hok rfl (Nat.le_of_ble_eq_true rfl) (fun M _ X => pX5_isIn X   x0 x1 σ _ rfl)
def fX4_noteRound_2 (x1 : Int32) (x2 : Int32) (k2 : Int32 → Mem → Option Mem) (x3 : Int32) (σ : Mem) : Option Mem :=
  (if 8 ≤ x3 then (some σ) else (if fX5_isIn x1 x3 = true then (gd (inB x3 8 = true) (pb (up2 σ 32 x3.toNatClampNeg x2 : Mem) fun s_22 => (k2 (x3 + 1) s_22))) else (k2 (x3 + 1) σ)))
def fX4_noteRound (x1 : Int32) (x2 : Int32) (σ : Mem) : Option Mem :=
  (lw2 (fX4_noteRound_2 x1 x2) FU 0 σ)
set_option maxRecDepth 20000 in
theorem pX4_noteRound_2 {M : MC} {w : WE} (X : Cx M w shC cX4_noteRound 4 RX4 none 1)   (x1 : Int32) (x2 : Int32)    : ∀ (n : Nat) (x3 : Int32) (σ : Mem), Cp M w shC 4 iVM 2 [some (.ref (wad w 31)), some (.int x1), some (.int x2), some (.int x3)] [] σ (lw2 (fX4_noteRound_2 x1 x2) n x3 σ) :=
  lw2_i (P := fun x3 σ b => Cp M w shC 4 iVM 2 [some (.ref (wad w 31)), some (.int x1), some (.int x2), some (.int x3)] [] σ b) (fun _ _ => Cp.non) (fun k2 hk2 x3 σ => by
  unfold fX4_noteRound_2
  refine Cp.iload_n (i := 3) X dX4_noteRound_2 rfl rfl ?_
  refine Cp.bipush (v := 8) X dX4_noteRound_3 rfl ?_
  refine Cp.icmp_ge X 29 dX4_noteRound_5 (by decide) (fun c_5 => ?_) (fun c_5 => ?_)
  · exact Cp.vret X dX4_noteRound_29 rfl
  · refine Cp.iload_n (i := 1) X dX4_noteRound_8 rfl rfl ?_
    refine Cp.iload_n (i := 3) X dX4_noteRound_9 rfl rfl ?_
    refine Cp.cNBT [] X [.int x1, .int x3] csX5_isIn (kX5_isIn X.ok x1 x3 σ) wmX4_76 rfl rfl dX4_noteRound_10 rfl (Nat.le_of_ble_eq_true rfl) ?_
    refine Cp.if_eqB X 23 dX4_noteRound_13 (by decide) (fun c_13 => ?_) (fun c_13 => ?_)
    · refine Cp.iinc (v := x3 + 1) X dX4_noteRound_23 rfl rfl (Nat.le_of_ble_eq_true rfl) rfl ?_
      refine Cp.goto X 2 dX4_noteRound_26 (by decide) ?_
      exact hk2 (x3 + 1) σ
    · refine Cp.aload_n (i := 0) X dX4_noteRound_16 rfl rfl ?_
      refine gfX4_9 X 32 sc_31 rfl dX4_noteRound_17 ?_
      refine Cp.iload_n (i := 3) X dX4_noteRound_20 rfl rfl ?_
      refine Cp.iload_n (i := 2) X dX4_noteRound_21 rfl rfl ?_
      refine Cp.iast X sc_32 dX4_noteRound_22 ?_
      refine Cp.nameM (fun s_22 => ?_)
      refine Cp.iinc (v := x3 + 1) X dX4_noteRound_23 rfl rfl (Nat.le_of_ble_eq_true rfl) rfl ?_
      refine Cp.goto X 2 dX4_noteRound_26 (by decide) ?_
      exact hk2 (x3 + 1) s_22)
set_option maxRecDepth 20000 in
theorem pX4_noteRound {M : MC} {w : WE} (X : Cx M w shC cX4_noteRound 4 RX4 none 1)   (x1 : Int32) (x2 : Int32) (σ : Mem) : Cp M w shC 4 iVM 0 [some (.ref (wad w 31)), some (.int x1), some (.int x2), none] [] σ (fX4_noteRound x1 x2 σ) := by
  unfold fX4_noteRound
  refine Cp.iconst (v := 0) X dX4_noteRound_0 rfl ?_
  refine Cp.istore_n (i := 3) X dX4_noteRound_1 rfl (Nat.le_of_ble_eq_true rfl) rfl ?_
  exact pX4_noteRound_2 X x1 x2 FU 0 σ
theorem kX4_noteRound {l : Launch} {w : WE} (hok : OkW w shC)   (x1 : Int32) (x2 : Int32) (σ : Mem) : ∀ v, fX4_noteRound x1 x2 σ = some v → Ctr l w shC yX4_noteRound cX4_noteRound 4 none 1 [.ref (wad w 31), .int x1, .int x2] σ (iVM v) := fun v hv => Ctr.of [some (.ref (wad w 31)), some (.int x1), some (.int x2), none] (by decide) hok rfl (Nat.le_of_ble_eq_true rfl) (fun M _ X => pX4_noteRound X   x1 x2 σ v hv)
def fX4_catchersFrom_6 (r1 : Nat) (x2 : Int32) (x3 : Int32) (σ : Mem) (k6 : Int32 → Int32 → Option Int32) (x4 : Int32) (x5 : Int32) : Option Int32 :=
  (if (σ r1 0) ≤ x5 then (some x4) else (gd (inB x5 8 = true) (pb (fJ6_bitCount_0f7a4 ((σ (r1 + 6) x5.toNatClampNeg) &&& x2) : Int32) fun x6_27 => (if fX5_isIn x3 x5 = true then (gd (inB x5 8 = true) (gd (inB x5 8 = true) (if x6_27 < (fX0_number (σ (r1 + 1) x5.toNatClampNeg) (σ (r1 + 4) x5.toNatClampNeg)) then (k6 x4 (x5 + 1)) else (pb (x4 ||| (1 <<< (x5 &&& 31)) : Int32) fun x4_67 => (k6 x4_67 (x5 + 1)))))) else (k6 x4 (x5 + 1))))))
def fX4_catchersFrom (r1 : Nat) (x2 : Int32) (x3 : Int32) (σ : Mem) : Option Int32 :=
  (lw2 (fX4_catchersFrom_6 r1 x2 x3 σ) FU 0 0)
set_option maxRecDepth 20000 in
theorem pX4_catchersFrom_6 {M : MC} {w : WE} (X : Cx M w shC cX4_catchersFrom 7 RX4 (some .int) 1) (r1 : Nat) (h1 : isRm r1) (x2 : Int32) (x3 : Int32)  (σ : Mem)  : ∀ (n : Nat) (x4 : Int32) (x5 : Int32), Cp M w shC 7 (iI σ) 6 [none, some (.ref (wad w r1)), some (.int x2), some (.int x3), some (.int x4), some (.int x5), none] [] σ (lw2 (fX4_catchersFrom_6 r1 x2 x3 σ) n x4 x5) :=
  lw2_i (P := fun x4 x5 b => Cp M w shC 7 (iI σ) 6 [none, some (.ref (wad w r1)), some (.int x2), some (.int x3), some (.int x4), some (.int x5), none] [] σ b) (fun _ _ => Cp.non) (fun k6 hk6 x4 x5 => by
  unfold fX4_catchersFrom_6
  refine Cp.iload X dX4_catchersFrom_6 rfl ?_
  refine Cp.aload_n (i := 1) X dX4_catchersFrom_8 rfl rfl ?_
  refine gfX4_18 X (s_rm h1) rfl dX4_catchersFrom_9 ?_
  refine Cp.icmp_ge X 75 dX4_catchersFrom_12 (by decide) (fun c_12 => ?_) (fun c_12 => ?_)
  · refine Cp.iload X dX4_catchersFrom_75 rfl ?_
    exact Cp.iret X dX4_catchersFrom_77 rfl
  · refine Cp.aload_n (i := 1) X dX4_catchersFrom_15 rfl rfl ?_
    refine gfX4_67 X (r1 + 6) (s_rm h1) rfl dX4_catchersFrom_16 ?_
    refine Cp.iload X dX4_catchersFrom_19 rfl ?_
    refine Cp.iald X (s_ra6 h1) dX4_catchersFrom_21 ?_
    refine Cp.iload_n (i := 2) X dX4_catchersFrom_22 rfl rfl ?_
    refine Cp.iand X dX4_catchersFrom_23 ?_
    refine Cp.cSIT [] X [.int ((σ (r1 + 6) x5.toNatClampNeg) &&& x2)] csJ6_bitCount_0f7a4 (kJ6_bitCount_0f7a4 X.ok ((σ (r1 + 6) x5.toNatClampNeg) &&& x2) σ) wmX4_70 rfl rfl dX4_catchersFrom_24 rfl (Nat.le_of_ble_eq_true rfl) ?_
    refine Cp.nameI (fun x6_27 => ?_)
    refine Cp.istore X dX4_catchersFrom_27 (Nat.le_of_ble_eq_true rfl) rfl ?_
    refine Cp.iload_n (i := 3) X dX4_catchersFrom_29 rfl rfl ?_
    refine Cp.iload X dX4_catchersFrom_30 rfl ?_
    refine Cp.cNBT [] X [.int x3, .int x5] csX5_isIn (kX5_isIn X.ok x3 x5 σ) wmX4_76 rfl rfl dX4_catchersFrom_32 rfl (Nat.le_of_ble_eq_true rfl) ?_
    refine Cp.if_eqB X 69 dX4_catchersFrom_35 (by decide) (fun c_35 => ?_) (fun c_35 => ?_)
    · refine Cp.iinc (v := x5 + 1) X dX4_catchersFrom_69 rfl rfl (Nat.le_of_ble_eq_true rfl) rfl ?_
      refine Cp.goto X 6 dX4_catchersFrom_72 (by decide) ?_
      refine Cp.mask [false, true, true, true, true, true, false] ?_
      exact hk6 x4 (x5 + 1)
    · refine Cp.iload X dX4_catchersFrom_38 rfl ?_
      refine Cp.aload_n (i := 1) X dX4_catchersFrom_40 rfl rfl ?_
      refine gfX4_28 X (r1 + 1) (s_rm h1) rfl dX4_catchersFrom_41 ?_
      refine Cp.iload X dX4_catchersFrom_44 rfl ?_
      refine Cp.iald X (s_ra1 h1) dX4_catchersFrom_46 ?_
      refine Cp.aload_n (i := 1) X dX4_catchersFrom_47 rfl rfl ?_
      refine gfX4_80 X (r1 + 4) (s_rm h1) rfl dX4_catchersFrom_48 ?_
      refine Cp.iload X dX4_catchersFrom_51 rfl ?_
      refine Cp.iald X (s_ra4 h1) dX4_catchersFrom_53 ?_
      refine Cp.cSIT [.int x6_27] X [.int (σ (r1 + 1) x5.toNatClampNeg), .int (σ (r1 + 4) x5.toNatClampNeg)] csX0_number (kX0_number X.ok (σ (r1 + 1) x5.toNatClampNeg) (σ (r1 + 4) x5.toNatClampNeg) σ) wmX4_83 rfl rfl dX4_catchersFrom_54 rfl (Nat.le_of_ble_eq_true rfl) ?_
      refine Cp.icmp_lt X 69 dX4_catchersFrom_57 (by decide) (fun c_57 => ?_) (fun c_57 => ?_)
      · refine Cp.iinc (v := x5 + 1) X dX4_catchersFrom_69 rfl rfl (Nat.le_of_ble_eq_true rfl) rfl ?_
        refine Cp.goto X 6 dX4_catchersFrom_72 (by decide) ?_
        refine Cp.mask [false, true, true, true, true, true, false] ?_
        exact hk6 x4 (x5 + 1)
      · refine Cp.iload X dX4_catchersFrom_60 rfl ?_
        refine Cp.iconst (v := 1) X dX4_catchersFrom_62 rfl ?_
        refine Cp.iload X dX4_catchersFrom_63 rfl ?_
        refine Cp.ishl X dX4_catchersFrom_65 ?_
        refine Cp.ior X dX4_catchersFrom_66 ?_
        refine Cp.nameI (fun x4_67 => ?_)
        refine Cp.istore X dX4_catchersFrom_67 (Nat.le_of_ble_eq_true rfl) rfl ?_
        refine Cp.iinc (v := x5 + 1) X dX4_catchersFrom_69 rfl rfl (Nat.le_of_ble_eq_true rfl) rfl ?_
        refine Cp.goto X 6 dX4_catchersFrom_72 (by decide) ?_
        refine Cp.mask [false, true, true, true, true, true, false] ?_
        exact hk6 x4_67 (x5 + 1))
set_option maxRecDepth 20000 in
theorem pX4_catchersFrom {M : MC} {w : WE} (X : Cx M w shC cX4_catchersFrom 7 RX4 (some .int) 1) (r1 : Nat) (h1 : isRm r1) (x2 : Int32) (x3 : Int32) (σ : Mem) : Cp M w shC 7 (iI σ) 0 [some (.ref (wad w 31)), some (.ref (wad w r1)), some (.int x2), some (.int x3), none, none, none] [] σ (fX4_catchersFrom r1 x2 x3 σ) := by
  unfold fX4_catchersFrom
  refine Cp.iconst (v := 0) X dX4_catchersFrom_0 rfl ?_
  refine Cp.istore X dX4_catchersFrom_1 (Nat.le_of_ble_eq_true rfl) rfl ?_
  refine Cp.iconst (v := 0) X dX4_catchersFrom_3 rfl ?_
  refine Cp.istore X dX4_catchersFrom_4 (Nat.le_of_ble_eq_true rfl) rfl ?_
  refine Cp.mask [false, true, true, true, true, true, false] ?_
  exact pX4_catchersFrom_6 X r1 h1 x2 x3 σ FU 0 0
theorem kX4_catchersFrom {l : Launch} {w : WE} (hok : OkW w shC) (r1 : Nat) (h1 : isRm r1) (x2 : Int32) (x3 : Int32) (σ : Mem) : ∀ v, fX4_catchersFrom r1 x2 x3 σ = some v → Ctr l w shC yX4_catchersFrom cX4_catchersFrom 7 (some .int) 1 [.ref (wad w 31), .ref (wad w r1), .int x2, .int x3] σ ((iI σ) v) := fun v hv => Ctr.of [some (.ref (wad w 31)), some (.ref (wad w r1)), some (.int x2), some (.int x3), none, none, none] (by decide) hok rfl (Nat.le_of_ble_eq_true rfl) (fun M _ X => pX4_catchersFrom X r1 h1 x2 x3 σ v hv)
def fX4_spread_17 (r1 : Nat) (x3 : Int32) (k17 : Int32 → Int32 → Mem → Option (Int32 × Mem)) (x4 : Int32) (x5 : Int32) (σ : Mem) : Option (Int32 × Mem) :=
  (if 8 < x5 then (some (x4, σ)) else ((fX4_catchersFrom r1 x4 (x3 &&& (x4 ^^^ (-1))) σ).bind fun v_34 => (if v_34 = 0 then (some (x4, σ)) else (pb (up2 σ 31 2 x5 : Mem) fun s_50 => ((fX4_noteRound v_34 x5 s_50).bind fun s_58 => (pb (x4 ||| v_34 : Int32) fun x4_66 => (k17 x4_66 (x5 + 1) s_58)))))))
def fX4_spread (r1 : Nat) (x2 : Int32) (x3 : Int32) (σ : Mem) : Option (Int32 × Mem) :=
  (pb (up2 σ 31 2 0 : Mem) fun s_5 => ((fX4_noteRound x2 0 s_5).bind fun s_11 => (lw3 (fX4_spread_17 r1 x3) FU x2 1 s_11)))
set_option maxRecDepth 20000 in
theorem pX4_spread_17 {M : MC} {w : WE} (X : Cx M w shC cX4_spread 7 RX4 (some .int) 2) (r1 : Nat) (h1 : isRm r1) (x3 : Int32)    : ∀ (n : Nat) (x4 : Int32) (x5 : Int32) (σ : Mem), Cp M w shC 7 iIM 17 [some (.ref (wad w 31)), some (.ref (wad w r1)), none, some (.int x3), some (.int x4), some (.int x5), none] [] σ (lw3 (fX4_spread_17 r1 x3) n x4 x5 σ) :=
  lw3_i (P := fun x4 x5 σ b => Cp M w shC 7 iIM 17 [some (.ref (wad w 31)), some (.ref (wad w r1)), none, some (.int x3), some (.int x4), some (.int x5), none] [] σ b) (fun _ _ _ => Cp.non) (fun k17 hk17 x4 x5 σ => by
  unfold fX4_spread_17
  refine Cp.iload X dX4_spread_17 rfl ?_
  refine Cp.bipush (v := 8) X dX4_spread_19 rfl ?_
  refine Cp.icmp_gt X 74 dX4_spread_21 (by decide) (fun c_21 => ?_) (fun c_21 => ?_)
  · refine Cp.iload X dX4_spread_74 rfl ?_
    exact Cp.iret X dX4_spread_76 rfl
  · refine Cp.aload_n (i := 0) X dX4_spread_24 rfl rfl ?_
    refine Cp.aload_n (i := 1) X dX4_spread_25 rfl rfl ?_
    refine Cp.iload X dX4_spread_26 rfl ?_
    refine Cp.iload_n (i := 3) X dX4_spread_28 rfl rfl ?_
    refine Cp.iload X dX4_spread_29 rfl ?_
    refine Cp.iconst (v := (-1)) X dX4_spread_31 rfl ?_
    refine Cp.ixor X dX4_spread_32 ?_
    refine Cp.iand X dX4_spread_33 ?_
    refine Cp.cVI [] X [.ref (wad w r1), .int x4, .int (x3 &&& (x4 ^^^ (-1)))] cvX4_catchersFrom (kX4_catchersFrom X.ok r1 h1 x4 (x3 &&& (x4 ^^^ (-1))) σ) sc_31 rfl rfl wmX4_64 rfl rfl dX4_spread_34 rfl (Nat.le_of_ble_eq_true rfl) (fun v_34 => ?_)
    refine Cp.istore X dX4_spread_37 (Nat.le_of_ble_eq_true rfl) rfl ?_
    refine Cp.iload X dX4_spread_39 rfl ?_
    refine Cp.if_ne X 47 dX4_spread_41 (by decide) (fun c_41 => ?_) (fun c_41 => ?_)
    · refine Cp.aload_n (i := 0) X dX4_spread_47 rfl rfl ?_
      refine Cp.iload X dX4_spread_48 rfl ?_
      refine pfX4_57 X sc_31 rfl dX4_spread_50 ?_
      refine Cp.nameM (fun s_50 => ?_)
      refine Cp.aload_n (i := 0) X dX4_spread_53 rfl rfl ?_
      refine Cp.iload X dX4_spread_54 rfl ?_
      refine Cp.iload X dX4_spread_56 rfl ?_
      refine Cp.cVV [] X [.int v_34, .int x5] cvX4_noteRound (kX4_noteRound X.ok v_34 x5 s_50) sc_31 rfl rfl wmX4_60 rfl rfl dX4_spread_58 rfl (Nat.le_of_ble_eq_true rfl) (fun s_58 => ?_)
      refine Cp.iload X dX4_spread_61 rfl ?_
      refine Cp.iload X dX4_spread_63 rfl ?_
      refine Cp.ior X dX4_spread_65 ?_
      refine Cp.nameI (fun x4_66 => ?_)
      refine Cp.istore X dX4_spread_66 (Nat.le_of_ble_eq_true rfl) rfl ?_
      refine Cp.iinc (v := x5 + 1) X dX4_spread_68 rfl rfl (Nat.le_of_ble_eq_true rfl) rfl ?_
      refine Cp.goto X 17 dX4_spread_71 (by decide) ?_
      refine Cp.mask [true, true, false, true, true, true, false] ?_
      exact hk17 x4_66 (x5 + 1) s_58
    · refine Cp.goto X 74 dX4_spread_44 (by decide) ?_
      refine Cp.iload X dX4_spread_74 rfl ?_
      exact Cp.iret X dX4_spread_76 rfl)
set_option maxRecDepth 20000 in
theorem pX4_spread {M : MC} {w : WE} (X : Cx M w shC cX4_spread 7 RX4 (some .int) 2) (r1 : Nat) (h1 : isRm r1) (x2 : Int32) (x3 : Int32) (σ : Mem) : Cp M w shC 7 iIM 0 [some (.ref (wad w 31)), some (.ref (wad w r1)), some (.int x2), some (.int x3), none, none, none] [] σ (fX4_spread r1 x2 x3 σ) := by
  unfold fX4_spread
  refine Cp.iload_n (i := 2) X dX4_spread_0 rfl rfl ?_
  refine Cp.istore X dX4_spread_1 (Nat.le_of_ble_eq_true rfl) rfl ?_
  refine Cp.aload_n (i := 0) X dX4_spread_3 rfl rfl ?_
  refine Cp.iconst (v := 0) X dX4_spread_4 rfl ?_
  refine pfX4_57 X sc_31 rfl dX4_spread_5 ?_
  refine Cp.nameM (fun s_5 => ?_)
  refine Cp.aload_n (i := 0) X dX4_spread_8 rfl rfl ?_
  refine Cp.iload_n (i := 2) X dX4_spread_9 rfl rfl ?_
  refine Cp.iconst (v := 0) X dX4_spread_10 rfl ?_
  refine Cp.cVV [] X [.int x2, .int 0] cvX4_noteRound (kX4_noteRound X.ok x2 0 s_5) sc_31 rfl rfl wmX4_60 rfl rfl dX4_spread_11 rfl (Nat.le_of_ble_eq_true rfl) (fun s_11 => ?_)
  refine Cp.iconst (v := 1) X dX4_spread_14 rfl ?_
  refine Cp.istore X dX4_spread_15 (Nat.le_of_ble_eq_true rfl) rfl ?_
  refine Cp.mask [true, true, false, true, true, true, false] ?_
  exact pX4_spread_17 X r1 h1 x3 FU x2 1 s_11
theorem kX4_spread {l : Launch} {w : WE} (hok : OkW w shC) (r1 : Nat) (h1 : isRm r1) (x2 : Int32) (x3 : Int32) (σ : Mem) : ∀ v, fX4_spread r1 x2 x3 σ = some v → Ctr l w shC yX4_spread cX4_spread 7 (some .int) 2 [.ref (wad w 31), .ref (wad w r1), .int x2, .int x3] σ (iIM v) := fun v hv => Ctr.of [some (.ref (wad w 31)), some (.ref (wad w r1)), some (.int x2), some (.int x3), none, none, none] (by decide) hok rfl (Nat.le_of_ble_eq_true rfl) (fun M _ X => pX4_spread X r1 h1 x2 x3 σ v hv)
def fX4_laughersOf (r1 : Nat) (x2 : Int32) (σ : Mem) : Option (Int32 × Mem) :=
  (gd (inB x2 8 = true) (gd (inB x2 8 = true) ((fX4_startersOf r1 (σ (r1 + 7) x2.toNatClampNeg) (σ (r1 + 8) x2.toNatClampNeg) σ).bind fun v_14 => (bnd2 (fX4_spread r1 v_14 (fX1_everybody r1 σ) σ) fun v_25 s_25 => (some (v_25, s_25))))))
set_option maxRecDepth 20000 in
theorem pX4_laughersOf {M : MC} {w : WE} (X : Cx M w shC cX4_laughersOf 4 RX4 (some .int) 3) (r1 : Nat) (h1 : isRm r1) (x2 : Int32) (σ : Mem) : Cp M w shC 4 iIM 0 [some (.ref (wad w 31)), some (.ref (wad w r1)), some (.int x2), none] [] σ (fX4_laughersOf r1 x2 σ) := by
  unfold fX4_laughersOf
  refine Cp.aload_n (i := 0) X dX4_laughersOf_0 rfl rfl ?_
  refine Cp.aload_n (i := 1) X dX4_laughersOf_1 rfl rfl ?_
  refine Cp.aload_n (i := 1) X dX4_laughersOf_2 rfl rfl ?_
  refine gfX4_40 X (r1 + 7) (s_rm h1) rfl dX4_laughersOf_3 ?_
  refine Cp.iload_n (i := 2) X dX4_laughersOf_6 rfl rfl ?_
  refine Cp.iald X (s_ra7 h1) dX4_laughersOf_7 ?_
  refine Cp.aload_n (i := 1) X dX4_laughersOf_8 rfl rfl ?_
  refine gfX4_43 X (r1 + 8) (s_rm h1) rfl dX4_laughersOf_9 ?_
  refine Cp.iload_n (i := 2) X dX4_laughersOf_12 rfl rfl ?_
  refine Cp.iald X (s_ra8 h1) dX4_laughersOf_13 ?_
  refine Cp.cVI [] X [.ref (wad w r1), .int (σ (r1 + 7) x2.toNatClampNeg), .int (σ (r1 + 8) x2.toNatClampNeg)] cvX4_startersOf (kX4_startersOf X.ok r1 h1 (σ (r1 + 7) x2.toNatClampNeg) (σ (r1 + 8) x2.toNatClampNeg) σ) sc_31 rfl rfl wmX4_46 rfl rfl dX4_laughersOf_14 rfl (Nat.le_of_ble_eq_true rfl) (fun v_14 => ?_)
  refine Cp.istore_n (i := 3) X dX4_laughersOf_17 rfl (Nat.le_of_ble_eq_true rfl) rfl ?_
  refine Cp.aload_n (i := 0) X dX4_laughersOf_18 rfl rfl ?_
  refine Cp.aload_n (i := 1) X dX4_laughersOf_19 rfl rfl ?_
  refine Cp.iload_n (i := 3) X dX4_laughersOf_20 rfl rfl ?_
  refine Cp.aload_n (i := 1) X dX4_laughersOf_21 rfl rfl ?_
  refine Cp.cVIT [.int v_14, .ref (wad w r1), .ref (wad w 31)] X [] cvX1_everybody (kX1_everybody X.ok r1 h1 σ) (s_rm h1) rfl rfl wmX4_50 rfl rfl dX4_laughersOf_22 rfl (Nat.le_of_ble_eq_true rfl) ?_
  refine Cp.cVIM [] X [.ref (wad w r1), .int v_14, .int (fX1_everybody r1 σ)] cvX4_spread (kX4_spread X.ok r1 h1 v_14 (fX1_everybody r1 σ) σ) sc_31 rfl rfl wmX4_54 rfl rfl dX4_laughersOf_25 rfl (Nat.le_of_ble_eq_true rfl) (fun v_25 s_25 => ?_)
  exact Cp.iret X dX4_laughersOf_28 rfl
theorem kX4_laughersOf {l : Launch} {w : WE} (hok : OkW w shC) (r1 : Nat) (h1 : isRm r1) (x2 : Int32) (σ : Mem) : ∀ v, fX4_laughersOf r1 x2 σ = some v → Ctr l w shC yX4_laughersOf cX4_laughersOf 4 (some .int) 3 [.ref (wad w 31), .ref (wad w r1), .int x2] σ (iIM v) := fun v hv => Ctr.of [some (.ref (wad w 31)), some (.ref (wad w r1)), some (.int x2), none] (by decide) hok rfl (Nat.le_of_ble_eq_true rfl) (fun M _ X => pX4_laughersOf X r1 h1 x2 σ v hv)
def fX4_collect (r1 : Nat) (x2 : Int32) (x3 : Int32) (σ : Mem) : Option (Int32 × Mem) :=
  (gd (inB x2 8 = true) (pb (iMin x3 (iMin (σ (r1 + 5) x2.toNatClampNeg) (999999 - (σ r1 12))) : Int32) fun x4_20 => (gd (inB x2 8 = true) (gd (inB x2 8 = true) (pb (up2 σ (r1 + 5) x2.toNatClampNeg ((σ (r1 + 5) x2.toNatClampNeg) - x4_20) : Mem) fun s_32 => (pb (up2 s_32 r1 12 ((s_32 r1 12) + x4_20) : Mem) fun s_41 => (some (x4_20, s_41))))))))
set_option maxRecDepth 20000 in
theorem pX4_collect {M : MC} {w : WE} (X : Cx M w shC cX4_collect 5 RX4 (some .int) 1) (r1 : Nat) (h1 : isRm r1) (x2 : Int32) (x3 : Int32) (σ : Mem) : Cp M w shC 5 iIM 0 [some (.ref (wad w 31)), some (.ref (wad w r1)), some (.int x2), some (.int x3), none] [] σ (fX4_collect r1 x2 x3 σ) := by
  unfold fX4_collect
  refine Cp.iload_n (i := 3) X dX4_collect_0 rfl rfl ?_
  refine Cp.aload_n (i := 1) X dX4_collect_1 rfl rfl ?_
  refine gfX4_31 X (r1 + 5) (s_rm h1) rfl dX4_collect_2 ?_
  refine Cp.iload_n (i := 2) X dX4_collect_5 rfl rfl ?_
  refine Cp.iald X (s_ra5 h1) dX4_collect_6 ?_
  refine Cp.ldc (v := 999999) X wcX4_108 dX4_collect_7 ?_
  refine Cp.aload_n (i := 1) X dX4_collect_9 rfl rfl ?_
  refine gfX4_109 X (s_rm h1) rfl dX4_collect_10 ?_
  refine Cp.isub X dX4_collect_13 ?_
  refine Cp.mmin X wqX4_96 (by decide) dX4_collect_14 (Nat.le_of_ble_eq_true rfl) ?_
  refine Cp.mmin X wqX4_96 (by decide) dX4_collect_17 (Nat.le_of_ble_eq_true rfl) ?_
  refine Cp.nameI (fun x4_20 => ?_)
  refine Cp.istore X dX4_collect_20 (Nat.le_of_ble_eq_true rfl) rfl ?_
  refine Cp.aload_n (i := 1) X dX4_collect_22 rfl rfl ?_
  refine gfX4_31 X (r1 + 5) (s_rm h1) rfl dX4_collect_23 ?_
  refine Cp.iload_n (i := 2) X dX4_collect_26 rfl rfl ?_
  refine Cp.dup2 X dX4_collect_27 rfl rfl ?_
  refine Cp.iald X (s_ra5 h1) dX4_collect_28 ?_
  refine Cp.iload X dX4_collect_29 rfl ?_
  refine Cp.isub X dX4_collect_31 ?_
  refine Cp.iast X (s_ra5 h1) dX4_collect_32 ?_
  refine Cp.nameM (fun s_32 => ?_)
  refine Cp.aload_n (i := 1) X dX4_collect_33 rfl rfl ?_
  refine Cp.dup X dX4_collect_34 rfl ?_
  refine gfX4_109 X (s_rm h1) rfl dX4_collect_35 ?_
  refine Cp.iload X dX4_collect_38 rfl ?_
  refine Cp.iadd X dX4_collect_40 ?_
  refine pfX4_109 X (s_rm h1) rfl dX4_collect_41 ?_
  refine Cp.nameM (fun s_41 => ?_)
  refine Cp.iload X dX4_collect_44 rfl ?_
  exact Cp.iret X dX4_collect_46 rfl
theorem kX4_collect {l : Launch} {w : WE} (hok : OkW w shC) (r1 : Nat) (h1 : isRm r1) (x2 : Int32) (x3 : Int32) (σ : Mem) : ∀ v, fX4_collect r1 x2 x3 σ = some v → Ctr l w shC yX4_collect cX4_collect 5 (some .int) 1 [.ref (wad w 31), .ref (wad w r1), .int x2, .int x3] σ (iIM v) := fun v hv => Ctr.of [some (.ref (wad w 31)), some (.ref (wad w r1)), some (.int x2), some (.int x3), none] (by decide) hok rfl (Nat.le_of_ble_eq_true rfl) (fun M _ X => pX4_collect X r1 h1 x2 x3 σ v hv)
def fX4_perform_106 (r1 : Nat) (k83 : Int32 → Mem → Option (Int32 × Mem)) (x3 : Int32) (x4 : Int32) (t0 : Int32) (σ : Mem) : Option (Int32 × Mem) :=
  (gd (inB x4 8 = true) (gd (inB x4 8 = true) (pb (up2 σ (r1 + 4) x4.toNatClampNeg (iMax 0 (iMin 9 ((σ (r1 + 4) x4.toNatClampNeg) + t0))) : Mem) fun s_133 => (k83 (x4 + 1) s_133))))
def fX4_perform_83 (r1 : Nat) (x3 : Int32) (k83 : Int32 → Mem → Option (Int32 × Mem)) (x4 : Int32) (σ : Mem) : Option (Int32 × Mem) :=
  (if (σ r1 0) ≤ x4 then (pb (up2 σ r1 13 (iMin 99999 ((σ r1 13) + 1)) : Mem) fun s_152 => (some (x3, s_152))) else (if fX5_isIn x3 x4 = true then (fX4_perform_106 r1 k83 x3 x4 1 σ) else (fX4_perform_106 r1 k83 x3 x4 (-1) σ)))
def fX4_perform_10 (r1 : Nat) (x2 : Int32) (x3 : Int32) (k10 : Int32 → Mem → Option (Int32 × Mem)) (x4 : Int32) (σ : Mem) : Option (Int32 × Mem) :=
  (if (σ r1 0) ≤ x4 then (lw2 (fX4_perform_83 r1 x3) FU 0 σ) else (gd (inB x2 8 = true) (gd (inB x2 8 = true) ((fX1_strengthFor r1 x4 (σ (r1 + 7) x2.toNatClampNeg) (σ (r1 + 8) x2.toNatClampNeg) σ).bind fun v_34 => (if fX5_isIn x3 x4 = true then ((fX1_dueFrom r1 x4 v_34 σ).bind fun v_63 => (bnd2 (fX4_collect r1 x4 v_63 σ) fun v_66 s_66 => (gd (inB x4 8 = true) (pb (up2 s_66 33 x4.toNatClampNeg v_66 : Mem) fun s_73 => (k10 (x4 + 1) s_73))))) else (gd (inB x4 8 = true) (pb (up2 σ 33 x4.toNatClampNeg 0 : Mem) fun s_73 => (k10 (x4 + 1) s_73))))))))
def fX4_perform (r1 : Nat) (x2 : Int32) (σ : Mem) : Option (Int32 × Mem) :=
  (bnd2 (fX4_laughersOf r1 x2 σ) fun v_3 s_3 => (lw2 (fX4_perform_10 r1 x2 v_3) FU 0 s_3))
set_option maxRecDepth 20000 in
theorem pX4_perform_106 {M : MC} {w : WE} (X : Cx M w shC cX4_perform 6 RX4 (some .int) 4) (r1 : Nat) (h1 : isRm r1) (x3 : Int32) (x4 : Int32) (t0 : Int32)  (σ : Mem) (k83 : Int32 → Mem → Option (Int32 × Mem)) (hk83 : ∀ (x4 : Int32) (σ : Mem), Cp M w shC 6 iIM 83 [none, some (.ref (wad w r1)), none, some (.int x3), some (.int x4), none] [] σ (k83 x4 σ)) : Cp M w shC 6 iIM 106 [none, some (.ref (wad w r1)), none, some (.int x3), some (.int x4), none] [.int t0] σ (fX4_perform_106 r1 k83 x3 x4 t0 σ) := by
  unfold fX4_perform_106
  refine Cp.istore X dX4_perform_106 (Nat.le_of_ble_eq_true rfl) rfl ?_
  refine Cp.aload_n (i := 1) X dX4_perform_108 rfl rfl ?_
  refine gfX4_80 X (r1 + 4) (s_rm h1) rfl dX4_perform_109 ?_
  refine Cp.iload X dX4_perform_112 rfl ?_
  refine Cp.iconst (v := 0) X dX4_perform_114 rfl ?_
  refine Cp.bipush (v := 9) X dX4_perform_115 rfl ?_
  refine Cp.aload_n (i := 1) X dX4_perform_117 rfl rfl ?_
  refine gfX4_80 X (r1 + 4) (s_rm h1) rfl dX4_perform_118 ?_
  refine Cp.iload X dX4_perform_121 rfl ?_
  refine Cp.iald X (s_ra4 h1) dX4_perform_123 ?_
  refine Cp.iload X dX4_perform_124 rfl ?_
  refine Cp.iadd X dX4_perform_126 ?_
  refine Cp.mmin X wqX4_96 (by decide) dX4_perform_127 (Nat.le_of_ble_eq_true rfl) ?_
  refine Cp.mmax X wqX4_101 (by decide) dX4_perform_130 (Nat.le_of_ble_eq_true rfl) ?_
  refine Cp.iast X (s_ra4 h1) dX4_perform_133 ?_
  refine Cp.nameM (fun s_133 => ?_)
  refine Cp.iinc (v := x4 + 1) X dX4_perform_134 rfl rfl (Nat.le_of_ble_eq_true rfl) rfl ?_
  refine Cp.goto X 83 dX4_perform_137 (by decide) ?_
  refine Cp.mask [false, true, false, true, true, false] ?_
  exact hk83 (x4 + 1) s_133
set_option maxRecDepth 20000 in
theorem pX4_perform_83 {M : MC} {w : WE} (X : Cx M w shC cX4_perform 6 RX4 (some .int) 4) (r1 : Nat) (h1 : isRm r1) (x3 : Int32)    : ∀ (n : Nat) (x4 : Int32) (σ : Mem), Cp M w shC 6 iIM 83 [none, some (.ref (wad w r1)), none, some (.int x3), some (.int x4), none] [] σ (lw2 (fX4_perform_83 r1 x3) n x4 σ) :=
  lw2_i (P := fun x4 σ b => Cp M w shC 6 iIM 83 [none, some (.ref (wad w r1)), none, some (.int x3), some (.int x4), none] [] σ b) (fun _ _ => Cp.non) (fun k83 hk83 x4 σ => by
  unfold fX4_perform_83
  refine Cp.iload X dX4_perform_83 rfl ?_
  refine Cp.aload_n (i := 1) X dX4_perform_85 rfl rfl ?_
  refine gfX4_18 X (s_rm h1) rfl dX4_perform_86 ?_
  refine Cp.icmp_ge X 140 dX4_perform_89 (by decide) (fun c_89 => ?_) (fun c_89 => ?_)
  · refine Cp.aload_n (i := 1) X dX4_perform_140 rfl rfl ?_
    refine Cp.ldc (v := 99999) X wcX4_104 dX4_perform_141 ?_
    refine Cp.aload_n (i := 1) X dX4_perform_143 rfl rfl ?_
    refine gfX4_105 X (s_rm h1) rfl dX4_perform_144 ?_
    refine Cp.iconst (v := 1) X dX4_perform_147 rfl ?_
    refine Cp.iadd X dX4_perform_148 ?_
    refine Cp.mmin X wqX4_96 (by decide) dX4_perform_149 (Nat.le_of_ble_eq_true rfl) ?_
    refine pfX4_105 X (s_rm h1) rfl dX4_perform_152 ?_
    refine Cp.nameM (fun s_152 => ?_)
    refine Cp.iload_n (i := 3) X dX4_perform_155 rfl rfl ?_
    exact Cp.iret X dX4_perform_156 rfl
  · refine Cp.iload_n (i := 3) X dX4_perform_92 rfl rfl ?_
    refine Cp.iload X dX4_perform_93 rfl ?_
    refine Cp.cNBT [] X [.int x3, .int x4] csX5_isIn (kX5_isIn X.ok x3 x4 σ) wmX4_76 rfl rfl dX4_perform_95 rfl (Nat.le_of_ble_eq_true rfl) ?_
    refine Cp.if_eqB X 105 dX4_perform_98 (by decide) (fun c_98 => ?_) (fun c_98 => ?_)
    · refine Cp.iconst (v := (-1)) X dX4_perform_105 rfl ?_
      exact pX4_perform_106 X r1 h1 x3 x4 (-1) σ k83 hk83
    · refine Cp.iconst (v := 1) X dX4_perform_101 rfl ?_
      refine Cp.goto X 106 dX4_perform_102 (by decide) ?_
      exact pX4_perform_106 X r1 h1 x3 x4 1 σ k83 hk83)
set_option maxRecDepth 20000 in
theorem pX4_perform_10 {M : MC} {w : WE} (X : Cx M w shC cX4_perform 6 RX4 (some .int) 4) (r1 : Nat) (h1 : isRm r1) (x2 : Int32) (x3 : Int32)    : ∀ (n : Nat) (x4 : Int32) (σ : Mem), Cp M w shC 6 iIM 10 [some (.ref (wad w 31)), some (.ref (wad w r1)), some (.int x2), some (.int x3), some (.int x4), none] [] σ (lw2 (fX4_perform_10 r1 x2 x3) n x4 σ) :=
  lw2_i (P := fun x4 σ b => Cp M w shC 6 iIM 10 [some (.ref (wad w 31)), some (.ref (wad w r1)), some (.int x2), some (.int x3), some (.int x4), none] [] σ b) (fun _ _ => Cp.non) (fun k10 hk10 x4 σ => by
  unfold fX4_perform_10
  refine Cp.iload X dX4_perform_10 rfl ?_
  refine Cp.aload_n (i := 1) X dX4_perform_12 rfl rfl ?_
  refine gfX4_18 X (s_rm h1) rfl dX4_perform_13 ?_
  refine Cp.icmp_ge X 80 dX4_perform_16 (by decide) (fun c_16 => ?_) (fun c_16 => ?_)
  · refine Cp.iconst (v := 0) X dX4_perform_80 rfl ?_
    refine Cp.istore X dX4_perform_81 (Nat.le_of_ble_eq_true rfl) rfl ?_
    refine Cp.mask [false, true, false, true, true, false] ?_
    exact pX4_perform_83 X r1 h1 x3 FU 0 σ
  · refine Cp.aload_n (i := 1) X dX4_perform_19 rfl rfl ?_
    refine Cp.iload X dX4_perform_20 rfl ?_
    refine Cp.aload_n (i := 1) X dX4_perform_22 rfl rfl ?_
    refine gfX4_40 X (r1 + 7) (s_rm h1) rfl dX4_perform_23 ?_
    refine Cp.iload_n (i := 2) X dX4_perform_26 rfl rfl ?_
    refine Cp.iald X (s_ra7 h1) dX4_perform_27 ?_
    refine Cp.aload_n (i := 1) X dX4_perform_28 rfl rfl ?_
    refine gfX4_43 X (r1 + 8) (s_rm h1) rfl dX4_perform_29 ?_
    refine Cp.iload_n (i := 2) X dX4_perform_32 rfl rfl ?_
    refine Cp.iald X (s_ra8 h1) dX4_perform_33 ?_
    refine Cp.cVI [] X [.int x4, .int (σ (r1 + 7) x2.toNatClampNeg), .int (σ (r1 + 8) x2.toNatClampNeg)] cvX1_strengthFor (kX1_strengthFor X.ok r1 h1 x4 (σ (r1 + 7) x2.toNatClampNeg) (σ (r1 + 8) x2.toNatClampNeg) σ) (s_rm h1) rfl rfl wmX4_24 rfl rfl dX4_perform_34 rfl (Nat.le_of_ble_eq_true rfl) (fun v_34 => ?_)
    refine Cp.istore X dX4_perform_37 (Nat.le_of_ble_eq_true rfl) rfl ?_
    refine Cp.aload_n (i := 0) X dX4_perform_39 rfl rfl ?_
    refine gfX4_15 X 33 sc_31 rfl dX4_perform_40 ?_
    refine Cp.iload X dX4_perform_43 rfl ?_
    refine Cp.iload_n (i := 3) X dX4_perform_45 rfl rfl ?_
    refine Cp.iload X dX4_perform_46 rfl ?_
    refine Cp.cNBT [.int x4, .ref (wad w 33)] X [.int x3, .int x4] csX5_isIn (kX5_isIn X.ok x3 x4 σ) wmX4_76 rfl rfl dX4_perform_48 rfl (Nat.le_of_ble_eq_true rfl) ?_
    refine Cp.if_eqB X 72 dX4_perform_51 (by decide) (fun c_51 => ?_) (fun c_51 => ?_)
    · refine Cp.iconst (v := 0) X dX4_perform_72 rfl ?_
      refine Cp.iast X sc_33 dX4_perform_73 ?_
      refine Cp.nameM (fun s_73 => ?_)
      refine Cp.iinc (v := x4 + 1) X dX4_perform_74 rfl rfl (Nat.le_of_ble_eq_true rfl) rfl ?_
      refine Cp.goto X 10 dX4_perform_77 (by decide) ?_
      refine Cp.mask [true, true, true, true, true, false] ?_
      exact hk10 (x4 + 1) s_73
    · refine Cp.aload_n (i := 0) X dX4_perform_54 rfl rfl ?_
      refine Cp.aload_n (i := 1) X dX4_perform_55 rfl rfl ?_
      refine Cp.iload X dX4_perform_56 rfl ?_
      refine Cp.aload_n (i := 1) X dX4_perform_58 rfl rfl ?_
      refine Cp.iload X dX4_perform_59 rfl ?_
      refine Cp.iload X dX4_perform_61 rfl ?_
      refine Cp.cVI [.int x4, .ref (wad w r1), .ref (wad w 31), .int x4, .ref (wad w 33)] X [.int x4, .int v_34] cvX1_dueFrom (kX1_dueFrom X.ok r1 h1 x4 v_34 σ) (s_rm h1) rfl rfl wmX4_90 rfl rfl dX4_perform_63 rfl (Nat.le_of_ble_eq_true rfl) (fun v_63 => ?_)
      refine Cp.cVIM [.int x4, .ref (wad w 33)] X [.ref (wad w r1), .int x4, .int v_63] cvX4_collect (kX4_collect X.ok r1 h1 x4 v_63 σ) sc_31 rfl rfl wmX4_93 rfl rfl dX4_perform_66 rfl (Nat.le_of_ble_eq_true rfl) (fun v_66 s_66 => ?_)
      refine Cp.goto X 73 dX4_perform_69 (by decide) ?_
      refine Cp.iast X sc_33 dX4_perform_73 ?_
      refine Cp.nameM (fun s_73 => ?_)
      refine Cp.iinc (v := x4 + 1) X dX4_perform_74 rfl rfl (Nat.le_of_ble_eq_true rfl) rfl ?_
      refine Cp.goto X 10 dX4_perform_77 (by decide) ?_
      refine Cp.mask [true, true, true, true, true, false] ?_
      exact hk10 (x4 + 1) s_73)
set_option maxRecDepth 20000 in
theorem pX4_perform {M : MC} {w : WE} (X : Cx M w shC cX4_perform 6 RX4 (some .int) 4) (r1 : Nat) (h1 : isRm r1) (x2 : Int32) (σ : Mem) : Cp M w shC 6 iIM 0 [some (.ref (wad w 31)), some (.ref (wad w r1)), some (.int x2), none, none, none] [] σ (fX4_perform r1 x2 σ) := by
  unfold fX4_perform
  refine Cp.aload_n (i := 0) X dX4_perform_0 rfl rfl ?_
  refine Cp.aload_n (i := 1) X dX4_perform_1 rfl rfl ?_
  refine Cp.iload_n (i := 2) X dX4_perform_2 rfl rfl ?_
  refine Cp.cVIM [] X [.ref (wad w r1), .int x2] cvX4_laughersOf (kX4_laughersOf X.ok r1 h1 x2 σ) sc_31 rfl rfl wmX4_86 rfl rfl dX4_perform_3 rfl (Nat.le_of_ble_eq_true rfl) (fun v_3 s_3 => ?_)
  refine Cp.istore_n (i := 3) X dX4_perform_6 rfl (Nat.le_of_ble_eq_true rfl) rfl ?_
  refine Cp.iconst (v := 0) X dX4_perform_7 rfl ?_
  refine Cp.istore X dX4_perform_8 (Nat.le_of_ble_eq_true rfl) rfl ?_
  exact pX4_perform_10 X r1 h1 x2 v_3 FU 0 s_3
theorem kX4_perform {l : Launch} {w : WE} (hok : OkW w shC) (r1 : Nat) (h1 : isRm r1) (x2 : Int32) (σ : Mem) : ∀ v, fX4_perform r1 x2 σ = some v → Ctr l w shC yX4_perform cX4_perform 6 (some .int) 4 [.ref (wad w 31), .ref (wad w r1), .int x2] σ (iIM v) := fun v hv => Ctr.of [some (.ref (wad w 31)), some (.ref (wad w r1)), some (.int x2), none, none, none] (by decide) hok rfl (Nat.le_of_ble_eq_true rfl) (fun M _ X => pX4_perform X r1 h1 x2 σ v hv)
def fX4_performOften_3 (r1 : Nat) (x2 : Int32) (x3 : Int32) (k3 : Int32 → Mem → Option (Int32 × Mem)) (x4 : Int32) (σ : Mem) : Option (Int32 × Mem) :=
  (if x3 ≤ x4 then (some (σ r1 12, σ)) else (bnd2 (fX4_perform r1 x2 σ) fun v_12 s_12 => (k3 (x4 + 1) s_12)))
def fX4_performOften (r1 : Nat) (x2 : Int32) (x3 : Int32) (σ : Mem) : Option (Int32 × Mem) :=
  (lw2 (fX4_performOften_3 r1 x2 x3) FU 0 σ)
set_option maxRecDepth 20000 in
theorem pX4_performOften_3 {M : MC} {w : WE} (X : Cx M w shC cX4_performOften 5 RX4 (some .int) 5) (r1 : Nat) (h1 : isRm r1) (x2 : Int32) (x3 : Int32)    : ∀ (n : Nat) (x4 : Int32) (σ : Mem), Cp M w shC 5 iIM 3 [some (.ref (wad w 31)), some (.ref (wad w r1)), some (.int x2), some (.int x3), some (.int x4)] [] σ (lw2 (fX4_performOften_3 r1 x2 x3) n x4 σ) :=
  lw2_i (P := fun x4 σ b => Cp M w shC 5 iIM 3 [some (.ref (wad w 31)), some (.ref (wad w r1)), some (.int x2), some (.int x3), some (.int x4)] [] σ b) (fun _ _ => Cp.non) (fun k3 hk3 x4 σ => by
  unfold fX4_performOften_3
  refine Cp.iload X dX4_performOften_3 rfl ?_
  refine Cp.iload_n (i := 3) X dX4_performOften_5 rfl rfl ?_
  refine Cp.icmp_ge X 22 dX4_performOften_6 (by decide) (fun c_6 => ?_) (fun c_6 => ?_)
  · refine Cp.aload_n (i := 1) X dX4_performOften_22 rfl rfl ?_
    refine gfX4_109 X (s_rm h1) rfl dX4_performOften_23 ?_
    exact Cp.iret X dX4_performOften_26 rfl
  · refine Cp.aload_n (i := 0) X dX4_performOften_9 rfl rfl ?_
    refine Cp.aload_n (i := 1) X dX4_performOften_10 rfl rfl ?_
    refine Cp.iload_n (i := 2) X dX4_performOften_11 rfl rfl ?_
    refine Cp.cVIM [] X [.ref (wad w r1), .int x2] cvX4_perform (kX4_perform X.ok r1 h1 x2 σ) sc_31 rfl rfl wmX4_112 rfl rfl dX4_performOften_12 rfl (Nat.le_of_ble_eq_true rfl) (fun v_12 s_12 => ?_)
    refine Cp.pop X dX4_performOften_15 rfl ?_
    refine Cp.iinc (v := x4 + 1) X dX4_performOften_16 rfl rfl (Nat.le_of_ble_eq_true rfl) rfl ?_
    refine Cp.goto X 3 dX4_performOften_19 (by decide) ?_
    exact hk3 (x4 + 1) s_12)
set_option maxRecDepth 20000 in
theorem pX4_performOften {M : MC} {w : WE} (X : Cx M w shC cX4_performOften 5 RX4 (some .int) 5) (r1 : Nat) (h1 : isRm r1) (x2 : Int32) (x3 : Int32) (σ : Mem) : Cp M w shC 5 iIM 0 [some (.ref (wad w 31)), some (.ref (wad w r1)), some (.int x2), some (.int x3), none] [] σ (fX4_performOften r1 x2 x3 σ) := by
  unfold fX4_performOften
  refine Cp.iconst (v := 0) X dX4_performOften_0 rfl ?_
  refine Cp.istore X dX4_performOften_1 (Nat.le_of_ble_eq_true rfl) rfl ?_
  exact pX4_performOften_3 X r1 h1 x2 x3 FU 0 σ
theorem kX4_performOften {l : Launch} {w : WE} (hok : OkW w shC) (r1 : Nat) (h1 : isRm r1) (x2 : Int32) (x3 : Int32) (σ : Mem) : ∀ v, fX4_performOften r1 x2 x3 σ = some v → Ctr l w shC yX4_performOften cX4_performOften 5 (some .int) 5 [.ref (wad w 31), .ref (wad w r1), .int x2, .int x3] σ (iIM v) := fun v hv => Ctr.of [some (.ref (wad w 31)), some (.ref (wad w r1)), some (.int x2), some (.int x3), none] (by decide) hok rfl (Nat.le_of_ble_eq_true rfl) (fun M _ X => pX4_performOften X r1 h1 x2 x3 σ v hv)
def fX1_together_4 (r : Nat) (k1 : Nat) (σ : Mem) (k4 : Int32 → Int32 → Option Int32) (x2 : Int32) (x3 : Int32) : Option Int32 :=
  (if (σ r 0) ≤ x3 then (some x2) else (gd (inB x3 8 = true) (pb (x2 + (σ k1 x3.toNatClampNeg) : Int32) fun x2_17 => (k4 x2_17 (x3 + 1)))))
def fX1_together (r : Nat) (k1 : Nat) (σ : Mem) : Option Int32 :=
  (lw2 (fX1_together_4 r k1 σ) FU 0 0)
set_option maxRecDepth 20000 in
theorem pX1_together_4 {M : MC} {w : WE} (X : Cx M w shC cX1_together 4 RX1 (some .int) 0) (r : Nat) (k1 : Nat) (hr : isRm r) (h1 : shC[k1]? = some (.inl (0, 8, 0)))   (σ : Mem)  : ∀ (n : Nat) (x2 : Int32) (x3 : Int32), Cp M w shC 4 (iI σ) 4 [some (.ref (wad w r)), some (.ref (wad w k1)), some (.int x2), some (.int x3)] [] σ (lw2 (fX1_together_4 r k1 σ) n x2 x3) :=
  lw2_i (P := fun x2 x3 b => Cp M w shC 4 (iI σ) 4 [some (.ref (wad w r)), some (.ref (wad w k1)), some (.int x2), some (.int x3)] [] σ b) (fun _ _ => Cp.non) (fun k4 hk4 x2 x3 => by
  unfold fX1_together_4
  refine Cp.iload_n (i := 3) X dX1_together_4 rfl rfl ?_
  refine Cp.aload_n (i := 0) X dX1_together_5 rfl rfl ?_
  refine gfX1_49 X (s_rm hr) rfl dX1_together_6 ?_
  refine Cp.icmp_ge X 24 dX1_together_9 (by decide) (fun c_9 => ?_) (fun c_9 => ?_)
  · refine Cp.iload_n (i := 2) X dX1_together_24 rfl rfl ?_
    exact Cp.iret X dX1_together_25 rfl
  · refine Cp.iload_n (i := 2) X dX1_together_12 rfl rfl ?_
    refine Cp.aload_n (i := 1) X dX1_together_13 rfl rfl ?_
    refine Cp.iload_n (i := 3) X dX1_together_14 rfl rfl ?_
    refine Cp.iald X h1 dX1_together_15 ?_
    refine Cp.iadd X dX1_together_16 ?_
    refine Cp.nameI (fun x2_17 => ?_)
    refine Cp.istore_n (i := 2) X dX1_together_17 rfl (Nat.le_of_ble_eq_true rfl) rfl ?_
    refine Cp.iinc (v := x3 + 1) X dX1_together_18 rfl rfl (Nat.le_of_ble_eq_true rfl) rfl ?_
    refine Cp.goto X 4 dX1_together_21 (by decide) ?_
    exact hk4 x2_17 (x3 + 1))
set_option maxRecDepth 20000 in
theorem pX1_together {M : MC} {w : WE} (X : Cx M w shC cX1_together 4 RX1 (some .int) 0) (r : Nat) (k1 : Nat) (hr : isRm r) (h1 : shC[k1]? = some (.inl (0, 8, 0)))  (σ : Mem) : Cp M w shC 4 (iI σ) 0 [some (.ref (wad w r)), some (.ref (wad w k1)), none, none] [] σ (fX1_together r k1 σ) := by
  unfold fX1_together
  refine Cp.iconst (v := 0) X dX1_together_0 rfl ?_
  refine Cp.istore_n (i := 2) X dX1_together_1 rfl (Nat.le_of_ble_eq_true rfl) rfl ?_
  refine Cp.iconst (v := 0) X dX1_together_2 rfl ?_
  refine Cp.istore_n (i := 3) X dX1_together_3 rfl (Nat.le_of_ble_eq_true rfl) rfl ?_
  exact pX1_together_4 X r k1 hr h1 σ FU 0 0
theorem kX1_together {l : Launch} {w : WE} (hok : OkW w shC) (r : Nat) (k1 : Nat) (hr : isRm r) (h1 : shC[k1]? = some (.inl (0, 8, 0)))  (σ : Mem) : ∀ v, fX1_together r k1 σ = some v → Ctr l w shC yX1_together cX1_together 4 (some .int) 0 [.ref (wad w r), .ref (wad w k1)] σ ((iI σ) v) := fun v hv => Ctr.of [some (.ref (wad w r)), some (.ref (wad w k1)), none, none] (by decide) hok rfl (Nat.le_of_ble_eq_true rfl) (fun M _ X => pX1_together X r k1 hr h1  σ v hv)
def fX1_poorest_4 (r : Nat) (σ : Mem) (k4 : Int32 → Int32 → Option Int32) (x1 : Int32) (x2 : Int32) : Option Int32 :=
  (if (σ r 0) ≤ x2 then (some x1) else (gd (inB x2 8 = true) (gd (inB x1 8 = true) (if (σ (r + 5) x1.toNatClampNeg) ≤ (σ (r + 5) x2.toNatClampNeg) then (k4 x1 (x2 + 1)) else (k4 x2 (x2 + 1))))))
def fX1_poorest (r : Nat) (σ : Mem) : Option Int32 :=
  (lw2 (fX1_poorest_4 r σ) FU 0 1)
set_option maxRecDepth 20000 in
theorem pX1_poorest_4 {M : MC} {w : WE} (X : Cx M w shC cX1_poorest 3 RX1 (some .int) 0) (r : Nat) (hr : isRm r)   (σ : Mem)  : ∀ (n : Nat) (x1 : Int32) (x2 : Int32), Cp M w shC 3 (iI σ) 4 [some (.ref (wad w r)), some (.int x1), some (.int x2)] [] σ (lw2 (fX1_poorest_4 r σ) n x1 x2) :=
  lw2_i (P := fun x1 x2 b => Cp M w shC 3 (iI σ) 4 [some (.ref (wad w r)), some (.int x1), some (.int x2)] [] σ b) (fun _ _ => Cp.non) (fun k4 hk4 x1 x2 => by
  unfold fX1_poorest_4
  refine Cp.iload_n (i := 2) X dX1_poorest_4 rfl rfl ?_
  refine Cp.aload_n (i := 0) X dX1_poorest_5 rfl rfl ?_
  refine gfX1_49 X (s_rm hr) rfl dX1_poorest_6 ?_
  refine Cp.icmp_ge X 35 dX1_poorest_9 (by decide) (fun c_9 => ?_) (fun c_9 => ?_)
  · refine Cp.iload_n (i := 1) X dX1_poorest_35 rfl rfl ?_
    exact Cp.iret X dX1_poorest_36 rfl
  · refine Cp.aload_n (i := 0) X dX1_poorest_12 rfl rfl ?_
    refine gfX1_24 X (r + 5) (s_rm hr) rfl dX1_poorest_13 ?_
    refine Cp.iload_n (i := 2) X dX1_poorest_16 rfl rfl ?_
    refine Cp.iald X (s_ra5 hr) dX1_poorest_17 ?_
    refine Cp.aload_n (i := 0) X dX1_poorest_18 rfl rfl ?_
    refine gfX1_24 X (r + 5) (s_rm hr) rfl dX1_poorest_19 ?_
    refine Cp.iload_n (i := 1) X dX1_poorest_22 rfl rfl ?_
    refine Cp.iald X (s_ra5 hr) dX1_poorest_23 ?_
    refine Cp.icmp_ge X 29 dX1_poorest_24 (by decide) (fun c_24 => ?_) (fun c_24 => ?_)
    · refine Cp.iinc (v := x2 + 1) X dX1_poorest_29 rfl rfl (Nat.le_of_ble_eq_true rfl) rfl ?_
      refine Cp.goto X 4 dX1_poorest_32 (by decide) ?_
      exact hk4 x1 (x2 + 1)
    · refine Cp.iload_n (i := 2) X dX1_poorest_27 rfl rfl ?_
      refine Cp.istore_n (i := 1) X dX1_poorest_28 rfl (Nat.le_of_ble_eq_true rfl) rfl ?_
      refine Cp.iinc (v := x2 + 1) X dX1_poorest_29 rfl rfl (Nat.le_of_ble_eq_true rfl) rfl ?_
      refine Cp.goto X 4 dX1_poorest_32 (by decide) ?_
      exact hk4 x2 (x2 + 1))
set_option maxRecDepth 20000 in
theorem pX1_poorest {M : MC} {w : WE} (X : Cx M w shC cX1_poorest 3 RX1 (some .int) 0) (r : Nat) (hr : isRm r)  (σ : Mem) : Cp M w shC 3 (iI σ) 0 [some (.ref (wad w r)), none, none] [] σ (fX1_poorest r σ) := by
  unfold fX1_poorest
  refine Cp.iconst (v := 0) X dX1_poorest_0 rfl ?_
  refine Cp.istore_n (i := 1) X dX1_poorest_1 rfl (Nat.le_of_ble_eq_true rfl) rfl ?_
  refine Cp.iconst (v := 1) X dX1_poorest_2 rfl ?_
  refine Cp.istore_n (i := 2) X dX1_poorest_3 rfl (Nat.le_of_ble_eq_true rfl) rfl ?_
  exact pX1_poorest_4 X r hr σ FU 0 1
theorem kX1_poorest {l : Launch} {w : WE} (hok : OkW w shC) (r : Nat) (hr : isRm r)  (σ : Mem) : ∀ v, fX1_poorest r σ = some v → Ctr l w shC yX1_poorest cX1_poorest 3 (some .int) 0 [.ref (wad w r)] σ ((iI σ) v) := fun v hv => Ctr.of [some (.ref (wad w r)), none, none] (by decide) hok rfl (Nat.le_of_ble_eq_true rfl) (fun M _ X => pX1_poorest X r hr  σ v hv)
def fX1_takeOver (r : Nat) (r1 : Nat) (σ : Mem) : Option Mem :=
  (pb (up2 σ r 0 (σ r1 0) : Mem) fun s_5 => (pb (upR s_5 (r + 1) (va_cpy (s_5 (r1 + 1)) (s_5 (r + 1)) 0 0 8) : Mem) fun s_20 => (pb (upR s_20 (r + 2) (va_cpy (s_20 (r1 + 2)) (s_20 (r + 2)) 0 0 8) : Mem) fun s_35 => (pb (upR s_35 (r + 3) (va_cpy (s_35 (r1 + 3)) (s_35 (r + 3)) 0 0 8) : Mem) fun s_50 => (pb (upR s_50 (r + 4) (va_cpy (s_50 (r1 + 4)) (s_50 (r + 4)) 0 0 8) : Mem) fun s_65 => (pb (upR s_65 (r + 5) (va_cpy (s_65 (r1 + 5)) (s_65 (r + 5)) 0 0 8) : Mem) fun s_80 => (pb (upR s_80 (r + 6) (va_cpy (s_80 (r1 + 6)) (s_80 (r + 6)) 0 0 8) : Mem) fun s_95 => (pb (up2 s_95 r 7 (s_95 r1 7) : Mem) fun s_103 => (pb (upR s_103 (r + 7) (va_cpy (s_103 (r1 + 7)) (s_103 (r + 7)) 0 0 8) : Mem) fun s_118 => (pb (upR s_118 (r + 8) (va_cpy (s_118 (r1 + 8)) (s_118 (r + 8)) 0 0 8) : Mem) fun s_133 => (pb (up2 s_133 r 10 (s_133 r1 10) : Mem) fun s_141 => (pb (up2 s_141 r 11 (s_141 r1 11) : Mem) fun s_149 => (pb (up2 s_149 r 12 (s_149 r1 12) : Mem) fun s_157 => (pb (up2 s_157 r 13 (s_157 r1 13) : Mem) fun s_165 => (pb (up2 s_165 r 14 (s_165 r1 14) : Mem) fun s_173 => (pb (upR s_173 (r + 9) (va_cpy (s_173 (r1 + 9)) (s_173 (r + 9)) 0 0 10) : Mem) fun s_188 => (some s_188)))))))))))))))))
set_option maxRecDepth 20000 in
theorem pX1_takeOver {M : MC} {w : WE} (X : Cx M w shC cX1_takeOver 2 RX1 none 1) (r : Nat) (r1 : Nat) (hr : isRm r) (h1 : isRm r1)  (σ : Mem) : Cp M w shC 2 iVM 0 [some (.ref (wad w r)), some (.ref (wad w r1))] [] σ (fX1_takeOver r r1 σ) := by
  unfold fX1_takeOver
  refine Cp.aload_n (i := 0) X dX1_takeOver_0 rfl rfl ?_
  refine Cp.aload_n (i := 1) X dX1_takeOver_1 rfl rfl ?_
  refine gfX1_49 X (s_rm h1) rfl dX1_takeOver_2 ?_
  refine pfX1_49 X (s_rm hr) rfl dX1_takeOver_5 ?_
  refine Cp.nameM (fun s_5 => ?_)
  refine Cp.aload_n (i := 1) X dX1_takeOver_8 rfl rfl ?_
  refine gfX1_9 X (r1 + 1) (s_rm h1) rfl dX1_takeOver_9 ?_
  refine Cp.iconst (v := 0) X dX1_takeOver_12 rfl ?_
  refine Cp.aload_n (i := 0) X dX1_takeOver_13 rfl rfl ?_
  refine gfX1_9 X (r + 1) (s_rm hr) rfl dX1_takeOver_14 ?_
  refine Cp.iconst (v := 0) X dX1_takeOver_17 rfl ?_
  refine Cp.bipush (v := 8) X dX1_takeOver_18 rfl ?_
  refine Cp.acpc 0 0 8 X wmX1_52 (s_ra1 h1) (s_ra1 hr) (by decide) (by decide) (by decide) (by decide) (by decide) dX1_takeOver_20 rfl ?_
  refine Cp.nameM (fun s_20 => ?_)
  refine Cp.aload_n (i := 1) X dX1_takeOver_23 rfl rfl ?_
  refine gfX1_15 X (r1 + 2) (s_rm h1) rfl dX1_takeOver_24 ?_
  refine Cp.iconst (v := 0) X dX1_takeOver_27 rfl ?_
  refine Cp.aload_n (i := 0) X dX1_takeOver_28 rfl rfl ?_
  refine gfX1_15 X (r + 2) (s_rm hr) rfl dX1_takeOver_29 ?_
  refine Cp.iconst (v := 0) X dX1_takeOver_32 rfl ?_
  refine Cp.bipush (v := 8) X dX1_takeOver_33 rfl ?_
  refine Cp.acpc 0 0 8 X wmX1_52 (s_ra2 h1) (s_ra2 hr) (by decide) (by decide) (by decide) (by decide) (by decide) dX1_takeOver_35 rfl ?_
  refine Cp.nameM (fun s_35 => ?_)
  refine Cp.aload_n (i := 1) X dX1_takeOver_38 rfl rfl ?_
  refine gfX1_18 X (r1 + 3) (s_rm h1) rfl dX1_takeOver_39 ?_
  refine Cp.iconst (v := 0) X dX1_takeOver_42 rfl ?_
  refine Cp.aload_n (i := 0) X dX1_takeOver_43 rfl rfl ?_
  refine gfX1_18 X (r + 3) (s_rm hr) rfl dX1_takeOver_44 ?_
  refine Cp.iconst (v := 0) X dX1_takeOver_47 rfl ?_
  refine Cp.bipush (v := 8) X dX1_takeOver_48 rfl ?_
  refine Cp.acpc 0 0 8 X wmX1_52 (s_ra3 h1) (s_ra3 hr) (by decide) (by decide) (by decide) (by decide) (by decide) dX1_takeOver_50 rfl ?_
  refine Cp.nameM (fun s_50 => ?_)
  refine Cp.aload_n (i := 1) X dX1_takeOver_53 rfl rfl ?_
  refine gfX1_21 X (r1 + 4) (s_rm h1) rfl dX1_takeOver_54 ?_
  refine Cp.iconst (v := 0) X dX1_takeOver_57 rfl ?_
  refine Cp.aload_n (i := 0) X dX1_takeOver_58 rfl rfl ?_
  refine gfX1_21 X (r + 4) (s_rm hr) rfl dX1_takeOver_59 ?_
  refine Cp.iconst (v := 0) X dX1_takeOver_62 rfl ?_
  refine Cp.bipush (v := 8) X dX1_takeOver_63 rfl ?_
  refine Cp.acpc 0 0 8 X wmX1_52 (s_ra4 h1) (s_ra4 hr) (by decide) (by decide) (by decide) (by decide) (by decide) dX1_takeOver_65 rfl ?_
  refine Cp.nameM (fun s_65 => ?_)
  refine Cp.aload_n (i := 1) X dX1_takeOver_68 rfl rfl ?_
  refine gfX1_24 X (r1 + 5) (s_rm h1) rfl dX1_takeOver_69 ?_
  refine Cp.iconst (v := 0) X dX1_takeOver_72 rfl ?_
  refine Cp.aload_n (i := 0) X dX1_takeOver_73 rfl rfl ?_
  refine gfX1_24 X (r + 5) (s_rm hr) rfl dX1_takeOver_74 ?_
  refine Cp.iconst (v := 0) X dX1_takeOver_77 rfl ?_
  refine Cp.bipush (v := 8) X dX1_takeOver_78 rfl ?_
  refine Cp.acpc 0 0 8 X wmX1_52 (s_ra5 h1) (s_ra5 hr) (by decide) (by decide) (by decide) (by decide) (by decide) dX1_takeOver_80 rfl ?_
  refine Cp.nameM (fun s_80 => ?_)
  refine Cp.aload_n (i := 1) X dX1_takeOver_83 rfl rfl ?_
  refine gfX1_27 X (r1 + 6) (s_rm h1) rfl dX1_takeOver_84 ?_
  refine Cp.iconst (v := 0) X dX1_takeOver_87 rfl ?_
  refine Cp.aload_n (i := 0) X dX1_takeOver_88 rfl rfl ?_
  refine gfX1_27 X (r + 6) (s_rm hr) rfl dX1_takeOver_89 ?_
  refine Cp.iconst (v := 0) X dX1_takeOver_92 rfl ?_
  refine Cp.bipush (v := 8) X dX1_takeOver_93 rfl ?_
  refine Cp.acpc 0 0 8 X wmX1_52 (s_ra6 h1) (s_ra6 hr) (by decide) (by decide) (by decide) (by decide) (by decide) dX1_takeOver_95 rfl ?_
  refine Cp.nameM (fun s_95 => ?_)
  refine Cp.aload_n (i := 0) X dX1_takeOver_98 rfl rfl ?_
  refine Cp.aload_n (i := 1) X dX1_takeOver_99 rfl rfl ?_
  refine gfX1_58 X (s_rm h1) rfl dX1_takeOver_100 ?_
  refine pfX1_58 X (s_rm hr) rfl dX1_takeOver_103 ?_
  refine Cp.nameM (fun s_103 => ?_)
  refine Cp.aload_n (i := 1) X dX1_takeOver_106 rfl rfl ?_
  refine gfX1_30 X (r1 + 7) (s_rm h1) rfl dX1_takeOver_107 ?_
  refine Cp.iconst (v := 0) X dX1_takeOver_110 rfl ?_
  refine Cp.aload_n (i := 0) X dX1_takeOver_111 rfl rfl ?_
  refine gfX1_30 X (r + 7) (s_rm hr) rfl dX1_takeOver_112 ?_
  refine Cp.iconst (v := 0) X dX1_takeOver_115 rfl ?_
  refine Cp.bipush (v := 8) X dX1_takeOver_116 rfl ?_
  refine Cp.acpc 0 0 8 X wmX1_52 (s_ra7 h1) (s_ra7 hr) (by decide) (by decide) (by decide) (by decide) (by decide) dX1_takeOver_118 rfl ?_
  refine Cp.nameM (fun s_118 => ?_)
  refine Cp.aload_n (i := 1) X dX1_takeOver_121 rfl rfl ?_
  refine gfX1_33 X (r1 + 8) (s_rm h1) rfl dX1_takeOver_122 ?_
  refine Cp.iconst (v := 0) X dX1_takeOver_125 rfl ?_
  refine Cp.aload_n (i := 0) X dX1_takeOver_126 rfl rfl ?_
  refine gfX1_33 X (r + 8) (s_rm hr) rfl dX1_takeOver_127 ?_
  refine Cp.iconst (v := 0) X dX1_takeOver_130 rfl ?_
  refine Cp.bipush (v := 8) X dX1_takeOver_131 rfl ?_
  refine Cp.acpc 0 0 8 X wmX1_52 (s_ra8 h1) (s_ra8 hr) (by decide) (by decide) (by decide) (by decide) (by decide) dX1_takeOver_133 rfl ?_
  refine Cp.nameM (fun s_133 => ?_)
  refine Cp.aload_n (i := 0) X dX1_takeOver_136 rfl rfl ?_
  refine Cp.aload_n (i := 1) X dX1_takeOver_137 rfl rfl ?_
  refine gfX1_36 X (s_rm h1) rfl dX1_takeOver_138 ?_
  refine pfX1_36 X (s_rm hr) rfl dX1_takeOver_141 ?_
  refine Cp.nameM (fun s_141 => ?_)
  refine Cp.aload_n (i := 0) X dX1_takeOver_144 rfl rfl ?_
  refine Cp.aload_n (i := 1) X dX1_takeOver_145 rfl rfl ?_
  refine gfX1_40 X (s_rm h1) rfl dX1_takeOver_146 ?_
  refine pfX1_40 X (s_rm hr) rfl dX1_takeOver_149 ?_
  refine Cp.nameM (fun s_149 => ?_)
  refine Cp.aload_n (i := 0) X dX1_takeOver_152 rfl rfl ?_
  refine Cp.aload_n (i := 1) X dX1_takeOver_153 rfl rfl ?_
  refine gfX1_61 X (s_rm h1) rfl dX1_takeOver_154 ?_
  refine pfX1_61 X (s_rm hr) rfl dX1_takeOver_157 ?_
  refine Cp.nameM (fun s_157 => ?_)
  refine Cp.aload_n (i := 0) X dX1_takeOver_160 rfl rfl ?_
  refine Cp.aload_n (i := 1) X dX1_takeOver_161 rfl rfl ?_
  refine gfX1_64 X (s_rm h1) rfl dX1_takeOver_162 ?_
  refine pfX1_64 X (s_rm hr) rfl dX1_takeOver_165 ?_
  refine Cp.nameM (fun s_165 => ?_)
  refine Cp.aload_n (i := 0) X dX1_takeOver_168 rfl rfl ?_
  refine Cp.aload_n (i := 1) X dX1_takeOver_169 rfl rfl ?_
  refine gfX1_43 X (s_rm h1) rfl dX1_takeOver_170 ?_
  refine pfX1_43 X (s_rm hr) rfl dX1_takeOver_173 ?_
  refine Cp.nameM (fun s_173 => ?_)
  refine Cp.aload_n (i := 1) X dX1_takeOver_176 rfl rfl ?_
  refine gfX1_46 X (r1 + 9) (s_rm h1) rfl dX1_takeOver_177 ?_
  refine Cp.iconst (v := 0) X dX1_takeOver_180 rfl ?_
  refine Cp.aload_n (i := 0) X dX1_takeOver_181 rfl rfl ?_
  refine gfX1_46 X (r + 9) (s_rm hr) rfl dX1_takeOver_182 ?_
  refine Cp.iconst (v := 0) X dX1_takeOver_185 rfl ?_
  refine Cp.bipush (v := 10) X dX1_takeOver_186 rfl ?_
  refine Cp.acpc 0 0 10 X wmX1_52 (s_ra9 h1) (s_ra9 hr) (by decide) (by decide) (by decide) (by decide) (by decide) dX1_takeOver_188 rfl ?_
  refine Cp.nameM (fun s_188 => ?_)
  exact Cp.vret X dX1_takeOver_191 rfl
theorem kX1_takeOver {l : Launch} {w : WE} (hok : OkW w shC) (r : Nat) (r1 : Nat) (hr : isRm r) (h1 : isRm r1)  (σ : Mem) : ∀ v, fX1_takeOver r r1 σ = some v → Ctr l w shC yX1_takeOver cX1_takeOver 2 none 1 [.ref (wad w r), .ref (wad w r1)] σ (iVM v) := fun v hv => Ctr.of [some (.ref (wad w r)), some (.ref (wad w r1))] (by decide) hok rfl (Nat.le_of_ble_eq_true rfl) (fun M _ X => pX1_takeOver X r r1 hr h1  σ v hv)
def fX2_isMissing (ks : Nat) (σ : Mem) : Bool :=
  (if (σ ks 1) = 0 then true else false)
set_option maxRecDepth 20000 in
theorem pX2_isMissing {M : MC} {w : WE} (X : Cx M w shC cX2_isMissing 1 RX2 (some .boolean) 0) (ks : Nat) (hks : isSe ks)  (σ : Mem) : Cp M w shC 1 (iB σ) 0 [some (.ref (wad w ks))] [] σ (some (fX2_isMissing ks σ)) := by
  unfold fX2_isMissing
  refine Cp.aload_n (i := 0) X dX2_isMissing_0 rfl rfl ?_
  refine gfX2_15 X (s_se hks) rfl dX2_isMissing_1 ?_
  refine Cp.if_neT X 11 dX2_isMissing_4 (by decide) (fun c_4 => ?_) (fun c_4 => ?_)
  · refine Cp.iconst (v := 0) X dX2_isMissing_11 rfl ?_
    exact Cp.bret (v := false) X dX2_isMissing_12 rfl
  · refine Cp.iconst (v := 1) X dX2_isMissing_7 rfl ?_
    refine Cp.goto X 12 dX2_isMissing_8 (by decide) ?_
    exact Cp.bret (v := true) X dX2_isMissing_12 rfl
theorem kX2_isMissing {l : Launch} {w : WE} (hok : OkW w shC) (ks : Nat) (hks : isSe ks)  (σ : Mem) : Ctr l w shC yX2_isMissing cX2_isMissing 1 (some .boolean) 0 [.ref (wad w ks)] σ ((iB σ) (fX2_isMissing ks σ)) := Ctr.of [some (.ref (wad w ks))] (by decide) hok rfl (Nat.le_of_ble_eq_true rfl) (fun M _ X => pX2_isMissing X ks hks  σ _ rfl)
def fX2_tells (ks : Nat) (x1 : Int32) (x2 : Int32) (σ : Mem) : Option Bool :=
  (gd (inB x1 40 = true) (if (σ (ks + 1) x1.toNatClampNeg) = (-1) then (some true) else (gd (inB x1 40 = true) (if (σ (ks + 1) x1.toNatClampNeg) = x2 then (some true) else (some false)))))
set_option maxRecDepth 20000 in
theorem pX2_tells {M : MC} {w : WE} (X : Cx M w shC cX2_tells 3 RX2 (some .boolean) 0) (ks : Nat) (hks : isSe ks) (x1 : Int32) (x2 : Int32) (σ : Mem) : Cp M w shC 3 (iB σ) 0 [some (.ref (wad w ks)), some (.int x1), some (.int x2)] [] σ (fX2_tells ks x1 x2 σ) := by
  unfold fX2_tells
  refine Cp.aload_n (i := 0) X dX2_tells_0 rfl rfl ?_
  refine gfX2_9 X (ks + 1) (s_se hks) rfl dX2_tells_1 ?_
  refine Cp.iload_n (i := 1) X dX2_tells_4 rfl rfl ?_
  refine Cp.iald X (s_sn hks) dX2_tells_5 ?_
  refine Cp.iconst (v := (-1)) X dX2_tells_6 rfl ?_
  refine Cp.icmp_eq X 20 dX2_tells_7 (by decide) (fun c_7 => ?_) (fun c_7 => ?_)
  · refine Cp.iconst (v := 1) X dX2_tells_20 rfl ?_
    refine Cp.goto X 25 dX2_tells_21 (by decide) ?_
    exact Cp.bret (v := true) X dX2_tells_25 rfl
  · refine Cp.aload_n (i := 0) X dX2_tells_10 rfl rfl ?_
    refine gfX2_9 X (ks + 1) (s_se hks) rfl dX2_tells_11 ?_
    refine Cp.iload_n (i := 1) X dX2_tells_14 rfl rfl ?_
    refine Cp.iald X (s_sn hks) dX2_tells_15 ?_
    refine Cp.iload_n (i := 2) X dX2_tells_16 rfl rfl ?_
    refine Cp.icmp_ne X 24 dX2_tells_17 (by decide) (fun c_17 => ?_) (fun c_17 => ?_)
    · refine Cp.iconst (v := 0) X dX2_tells_24 rfl ?_
      exact Cp.bret (v := false) X dX2_tells_25 rfl
    · refine Cp.iconst (v := 1) X dX2_tells_20 rfl ?_
      refine Cp.goto X 25 dX2_tells_21 (by decide) ?_
      exact Cp.bret (v := true) X dX2_tells_25 rfl
theorem kX2_tells {l : Launch} {w : WE} (hok : OkW w shC) (ks : Nat) (hks : isSe ks) (x1 : Int32) (x2 : Int32) (σ : Mem) : ∀ v, fX2_tells ks x1 x2 σ = some v → Ctr l w shC yX2_tells cX2_tells 3 (some .boolean) 0 [.ref (wad w ks), .int x1, .int x2] σ ((iB σ) v) := fun v hv => Ctr.of [some (.ref (wad w ks)), some (.int x1), some (.int x2)] (by decide) hok rfl (Nat.le_of_ble_eq_true rfl) (fun M _ X => pX2_tells X ks hks x1 x2 σ v hv)
def fX2_tellsFirst_12 (ks : Nat) (k1 : Nat) (x3 : Int32) (σ : Mem) (k12 : Int32 → Option Bool) (x4 : Int32) : Option Bool :=
  (if x3 ≤ x4 then (some true) else (gd (inB x4 8 = true) ((fX2_tells ks x4 (σ k1 x4.toNatClampNeg) σ).bind fun v_25 => (if v_25 = true then (k12 (x4 + 1)) else (some false)))))
def fX2_tellsFirst (ks : Nat) (k1 : Nat) (x2 : Int32) (σ : Mem) : Option Bool :=
  (pb (iMin x2 (σ ks 2) : Int32) fun x3_8 => (lw1 (fX2_tellsFirst_12 ks k1 x3_8 σ) FU 0))
set_option maxRecDepth 20000 in
theorem pX2_tellsFirst_12 {M : MC} {w : WE} (X : Cx M w shC cX2_tellsFirst 5 RX2 (some .boolean) 1) (ks : Nat) (k1 : Nat) (hks : isSe ks) (h1 : shC[k1]? = some (.inl (0, 8, 0))) (x3 : Int32)  (σ : Mem)  : ∀ (n : Nat) (x4 : Int32), Cp M w shC 5 (iB σ) 12 [some (.ref (wad w ks)), some (.ref (wad w k1)), none, some (.int x3), some (.int x4)] [] σ (lw1 (fX2_tellsFirst_12 ks k1 x3 σ) n x4) :=
  lw1_i (P := fun x4 b => Cp M w shC 5 (iB σ) 12 [some (.ref (wad w ks)), some (.ref (wad w k1)), none, some (.int x3), some (.int x4)] [] σ b) (fun _ => Cp.non) (fun k12 hk12 x4 => by
  unfold fX2_tellsFirst_12
  refine Cp.iload X dX2_tellsFirst_12 rfl ?_
  refine Cp.iload_n (i := 3) X dX2_tellsFirst_14 rfl rfl ?_
  refine Cp.icmp_ge X 39 dX2_tellsFirst_15 (by decide) (fun c_15 => ?_) (fun c_15 => ?_)
  · refine Cp.iconst (v := 1) X dX2_tellsFirst_39 rfl ?_
    exact Cp.bret (v := true) X dX2_tellsFirst_40 rfl
  · refine Cp.aload_n (i := 0) X dX2_tellsFirst_18 rfl rfl ?_
    refine Cp.iload X dX2_tellsFirst_19 rfl ?_
    refine Cp.aload_n (i := 1) X dX2_tellsFirst_21 rfl rfl ?_
    refine Cp.iload X dX2_tellsFirst_22 rfl ?_
    refine Cp.iald X h1 dX2_tellsFirst_24 ?_
    refine Cp.cVB [] X [.int x4, .int (σ k1 x4.toNatClampNeg)] cvX2_tells (kX2_tells X.ok ks hks x4 (σ k1 x4.toNatClampNeg) σ) (s_se hks) rfl rfl wmX2_28 rfl rfl dX2_tellsFirst_25 rfl (Nat.le_of_ble_eq_true rfl) (fun v_25 => ?_)
    refine Cp.if_neB X 33 dX2_tellsFirst_28 (by decide) (fun c_28 => ?_) (fun c_28 => ?_)
    · refine Cp.iinc (v := x4 + 1) X dX2_tellsFirst_33 rfl rfl (Nat.le_of_ble_eq_true rfl) rfl ?_
      refine Cp.goto X 12 dX2_tellsFirst_36 (by decide) ?_
      exact hk12 (x4 + 1)
    · refine Cp.iconst (v := 0) X dX2_tellsFirst_31 rfl ?_
      exact Cp.bret (v := false) X dX2_tellsFirst_32 rfl)
set_option maxRecDepth 20000 in
theorem pX2_tellsFirst {M : MC} {w : WE} (X : Cx M w shC cX2_tellsFirst 5 RX2 (some .boolean) 1) (ks : Nat) (k1 : Nat) (hks : isSe ks) (h1 : shC[k1]? = some (.inl (0, 8, 0))) (x2 : Int32) (σ : Mem) : Cp M w shC 5 (iB σ) 0 [some (.ref (wad w ks)), some (.ref (wad w k1)), some (.int x2), none, none] [] σ (fX2_tellsFirst ks k1 x2 σ) := by
  unfold fX2_tellsFirst
  refine Cp.iload_n (i := 2) X dX2_tellsFirst_0 rfl rfl ?_
  refine Cp.aload_n (i := 0) X dX2_tellsFirst_1 rfl rfl ?_
  refine gfX2_19 X (s_se hks) rfl dX2_tellsFirst_2 ?_
  refine Cp.mmin X wqX2_22 (by decide) dX2_tellsFirst_5 (Nat.le_of_ble_eq_true rfl) ?_
  refine Cp.nameI (fun x3_8 => ?_)
  refine Cp.istore_n (i := 3) X dX2_tellsFirst_8 rfl (Nat.le_of_ble_eq_true rfl) rfl ?_
  refine Cp.iconst (v := 0) X dX2_tellsFirst_9 rfl ?_
  refine Cp.istore X dX2_tellsFirst_10 (Nat.le_of_ble_eq_true rfl) rfl ?_
  refine Cp.mask [true, true, false, true, true] ?_
  exact pX2_tellsFirst_12 X ks k1 hks h1 x3_8 σ FU 0
theorem kX2_tellsFirst {l : Launch} {w : WE} (hok : OkW w shC) (ks : Nat) (k1 : Nat) (hks : isSe ks) (h1 : shC[k1]? = some (.inl (0, 8, 0))) (x2 : Int32) (σ : Mem) : ∀ v, fX2_tellsFirst ks k1 x2 σ = some v → Ctr l w shC yX2_tellsFirst cX2_tellsFirst 5 (some .boolean) 1 [.ref (wad w ks), .ref (wad w k1), .int x2] σ ((iB σ) v) := fun v hv => Ctr.of [some (.ref (wad w ks)), some (.ref (wad w k1)), some (.int x2), none, none] (by decide) hok rfl (Nat.le_of_ble_eq_true rfl) (fun M _ X => pX2_tellsFirst X ks k1 hks h1 x2 σ v hv)
def fX1_drawBelow (r : Nat) (x1 : Int32) (σ : Mem) : Option (Int32 × Mem) :=
  (pb (up2 σ r 14 (((σ r 14) * 1103515245) + 12345) : Mem) fun s_12 => (if x1 ≤ 0 then (some (0, s_12)) else (gd (¬ x1 = 0) (some ((((s_12 r 14 : Int32).toUInt32 >>> ((8 : Int32).toUInt32 &&& Int32.toUInt32 31)).toInt32) - (((s_12 r 14 : Int32).toUInt32 >>> ((8 : Int32).toUInt32 &&& Int32.toUInt32 31)).toInt32) / x1 * x1, s_12)))))
set_option maxRecDepth 20000 in
theorem pX1_drawBelow {M : MC} {w : WE} (X : Cx M w shC cX1_drawBelow 2 RX1 (some .int) 0) (r : Nat) (hr : isRm r) (x1 : Int32) (σ : Mem) : Cp M w shC 2 iIM 0 [some (.ref (wad w r)), some (.int x1)] [] σ (fX1_drawBelow r x1 σ) := by
  unfold fX1_drawBelow
  refine Cp.aload_n (i := 0) X dX1_drawBelow_0 rfl rfl ?_
  refine Cp.aload_n (i := 0) X dX1_drawBelow_1 rfl rfl ?_
  refine gfX1_43 X (s_rm hr) rfl dX1_drawBelow_2 ?_
  refine Cp.ldc (v := 1103515245) X wcX1_87 dX1_drawBelow_5 ?_
  refine Cp.imul X dX1_drawBelow_7 ?_
  refine Cp.sipush (v := 12345) X dX1_drawBelow_8 rfl ?_
  refine Cp.iadd X dX1_drawBelow_11 ?_
  refine pfX1_43 X (s_rm hr) rfl dX1_drawBelow_12 ?_
  refine Cp.nameM (fun s_12 => ?_)
  refine Cp.iload_n (i := 1) X dX1_drawBelow_15 rfl rfl ?_
  refine Cp.if_le X 31 dX1_drawBelow_16 (by decide) (fun c_16 => ?_) (fun c_16 => ?_)
  · refine Cp.iconst (v := 0) X dX1_drawBelow_31 rfl ?_
    exact Cp.iret X dX1_drawBelow_32 rfl
  · refine Cp.aload_n (i := 0) X dX1_drawBelow_19 rfl rfl ?_
    refine gfX1_43 X (s_rm hr) rfl dX1_drawBelow_20 ?_
    refine Cp.bipush (v := 8) X dX1_drawBelow_23 rfl ?_
    refine Cp.iushr X dX1_drawBelow_25 ?_
    refine Cp.iload_n (i := 1) X dX1_drawBelow_26 rfl rfl ?_
    refine Cp.iremg X dX1_drawBelow_27 ?_
    refine Cp.goto X 32 dX1_drawBelow_28 (by decide) ?_
    exact Cp.iret X dX1_drawBelow_32 rfl
theorem kX1_drawBelow {l : Launch} {w : WE} (hok : OkW w shC) (r : Nat) (hr : isRm r) (x1 : Int32) (σ : Mem) : ∀ v, fX1_drawBelow r x1 σ = some v → Ctr l w shC yX1_drawBelow cX1_drawBelow 2 (some .int) 0 [.ref (wad w r), .int x1] σ (iIM v) := fun v hv => Ctr.of [some (.ref (wad w r)), some (.int x1)] (by decide) hok rfl (Nat.le_of_ble_eq_true rfl) (fun M _ X => pX1_drawBelow X r hr x1 σ v hv)
def fX3_put (x1 : Int32) (σ : Mem) : Option Mem :=
  (gd (inB (σ 34 1) 120 = true) (pb (up2 σ 35 (σ 34 1).toNatClampNeg (vp_nar .byte x1) : Mem) fun s_9 => (pb (up2 s_9 34 1 ((s_9 34 1) + 1) : Mem) fun s_17 => (some s_17))))
set_option maxRecDepth 20000 in
theorem pX3_put {M : MC} {w : WE} (X : Cx M w shC cX3_put 2 RX3 none 0)   (x1 : Int32) (σ : Mem) : Cp M w shC 2 iVM 0 [some (.ref (wad w 34)), some (.int x1)] [] σ (fX3_put x1 σ) := by
  unfold fX3_put
  refine Cp.aload_n (i := 0) X dX3_put_0 rfl rfl ?_
  refine gfX3_9 X 35 sc_34 rfl dX3_put_1 ?_
  refine Cp.aload_n (i := 0) X dX3_put_4 rfl rfl ?_
  refine gfX3_15 X sc_34 rfl dX3_put_5 ?_
  refine Cp.iload_n (i := 1) X dX3_put_8 rfl rfl ?_
  refine Cp.bast X sc_35 dX3_put_9 ?_
  refine Cp.nameM (fun s_9 => ?_)
  refine Cp.aload_n (i := 0) X dX3_put_10 rfl rfl ?_
  refine Cp.dup X dX3_put_11 rfl ?_
  refine gfX3_15 X sc_34 rfl dX3_put_12 ?_
  refine Cp.iconst (v := 1) X dX3_put_15 rfl ?_
  refine Cp.iadd X dX3_put_16 ?_
  refine pfX3_15 X sc_34 rfl dX3_put_17 ?_
  refine Cp.nameM (fun s_17 => ?_)
  exact Cp.vret X dX3_put_20 rfl
theorem kX3_put {l : Launch} {w : WE} (hok : OkW w shC)   (x1 : Int32) (σ : Mem) : ∀ v, fX3_put x1 σ = some v → Ctr l w shC yX3_put cX3_put 2 none 0 [.ref (wad w 34), .int x1] σ (iVM v) := fun v hv => Ctr.of [some (.ref (wad w 34)), some (.int x1)] (by decide) hok rfl (Nat.le_of_ble_eq_true rfl) (fun M _ X => pX3_put X   x1 σ v hv)
def fX3_tokenOf_28 (x0 : Int32) : Int32 :=
  (if x0 = 59 then 3 else 4)
def fX3_tokenOf_14 (x0 : Int32) : Int32 :=
  (if x0 < 48 then (fX3_tokenOf_28 x0) else (if 57 < x0 then (fX3_tokenOf_28 x0) else 2))
def fX3_tokenOf (x0 : Int32) : Int32 :=
  (if x0 < 97 then (fX3_tokenOf_14 x0) else (if 122 < x0 then (fX3_tokenOf_14 x0) else 1))
set_option maxRecDepth 20000 in
theorem pX3_tokenOf_28 {M : MC} {w : WE} (X : Cx M w shC cX3_tokenOf 1 RX3 (some .int) 0)   (x0 : Int32)  (σ : Mem)  : Cp M w shC 1 (iI σ) 28 [some (.int x0)] [] σ (some (fX3_tokenOf_28 x0)) := by
  unfold fX3_tokenOf_28
  refine Cp.iload_n (i := 0) X dX3_tokenOf_28 rfl rfl ?_
  refine Cp.bipush (v := 59) X dX3_tokenOf_29 rfl ?_
  refine Cp.icmp_neT X 38 dX3_tokenOf_31 (by decide) (fun c_31 => ?_) (fun c_31 => ?_)
  · refine Cp.iconst (v := 4) X dX3_tokenOf_38 rfl ?_
    exact Cp.iret X dX3_tokenOf_39 rfl
  · refine Cp.iconst (v := 3) X dX3_tokenOf_34 rfl ?_
    refine Cp.goto X 39 dX3_tokenOf_35 (by decide) ?_
    exact Cp.iret X dX3_tokenOf_39 rfl
set_option maxRecDepth 20000 in
theorem pX3_tokenOf_14 {M : MC} {w : WE} (X : Cx M w shC cX3_tokenOf 1 RX3 (some .int) 0)   (x0 : Int32)  (σ : Mem)  : Cp M w shC 1 (iI σ) 14 [some (.int x0)] [] σ (some (fX3_tokenOf_14 x0)) := by
  unfold fX3_tokenOf_14
  refine Cp.iload_n (i := 0) X dX3_tokenOf_14 rfl rfl ?_
  refine Cp.bipush (v := 48) X dX3_tokenOf_15 rfl ?_
  refine Cp.icmp_ltT X 28 dX3_tokenOf_17 (by decide) (fun c_17 => ?_) (fun c_17 => ?_)
  · exact pX3_tokenOf_28 X x0 σ
  · refine Cp.iload_n (i := 0) X dX3_tokenOf_20 rfl rfl ?_
    refine Cp.bipush (v := 57) X dX3_tokenOf_21 rfl ?_
    refine Cp.icmp_gtT X 28 dX3_tokenOf_23 (by decide) (fun c_23 => ?_) (fun c_23 => ?_)
    · exact pX3_tokenOf_28 X x0 σ
    · refine Cp.iconst (v := 2) X dX3_tokenOf_26 rfl ?_
      exact Cp.iret X dX3_tokenOf_27 rfl
set_option maxRecDepth 20000 in
theorem pX3_tokenOf {M : MC} {w : WE} (X : Cx M w shC cX3_tokenOf 1 RX3 (some .int) 0)   (x0 : Int32) (σ : Mem) : Cp M w shC 1 (iI σ) 0 [some (.int x0)] [] σ (some (fX3_tokenOf x0)) := by
  unfold fX3_tokenOf
  refine Cp.iload_n (i := 0) X dX3_tokenOf_0 rfl rfl ?_
  refine Cp.bipush (v := 97) X dX3_tokenOf_1 rfl ?_
  refine Cp.icmp_ltT X 14 dX3_tokenOf_3 (by decide) (fun c_3 => ?_) (fun c_3 => ?_)
  · exact pX3_tokenOf_14 X x0 σ
  · refine Cp.iload_n (i := 0) X dX3_tokenOf_6 rfl rfl ?_
    refine Cp.bipush (v := 122) X dX3_tokenOf_7 rfl ?_
    refine Cp.icmp_gtT X 14 dX3_tokenOf_9 (by decide) (fun c_9 => ?_) (fun c_9 => ?_)
    · exact pX3_tokenOf_14 X x0 σ
    · refine Cp.iconst (v := 1) X dX3_tokenOf_12 rfl ?_
      exact Cp.iret X dX3_tokenOf_13 rfl
theorem kX3_tokenOf {l : Launch} {w : WE} (hok : OkW w shC)   (x0 : Int32) (σ : Mem) : Ctr l w shC yX3_tokenOf cX3_tokenOf 1 (some .int) 0 [.int x0] σ ((iI σ) (fX3_tokenOf x0)) := Ctr.of [some (.int x0)] (by decide) hok rfl (Nat.le_of_ble_eq_true rfl) (fun M _ X => pX3_tokenOf X   x0 σ _ rfl)
def fX3_step_127 (x1 : Int32) (k127 : Mem → Option Mem) (σ : Mem) : Option Mem :=
  (if x1 ≤ (σ 34 4) then (some σ) else (gd (inB (σ 34 4) 120 = true) (if (fX3_tokenOf (σ 35 (σ 34 4).toNatClampNeg)) = (σ 34 2) then (if (σ 34 2) = 2 then (gd (inB (σ 34 4) 120 = true) (pb (up2 σ 34 5 (iMin 10000 (((σ 34 5) * 10) + ((σ 35 (σ 34 4).toNatClampNeg) - 48))) : Mem) fun s_189 => (pb (up2 s_189 34 4 ((s_189 34 4) + 1) : Mem) fun s_199 => (k127 s_199)))) else (pb (up2 σ 34 4 ((σ 34 4) + 1) : Mem) fun s_199 => (k127 s_199))) else (some σ))))
def fX3_step_74 (t0 : Int32) (σ : Mem) : Option Mem :=
  (pb (up2 σ 34 2 t0 : Mem) fun s_74 => (pb (up2 s_74 34 4 (s_74 34 3) : Mem) fun s_82 => (pb (up2 s_82 34 5 0 : Mem) fun s_87 => (if (s_87 34 2) = 1 then (pb (s_87 34 1 : Int32) fun x1_126 => (lw1 (fX3_step_127 x1_126) FU s_87)) else (if (s_87 34 2) = 2 then (pb (s_87 34 1 : Int32) fun x1_126 => (lw1 (fX3_step_127 x1_126) FU s_87)) else (pb (iMin (s_87 34 1) ((s_87 34 3) + 1) : Int32) fun x1_126 => (lw1 (fX3_step_127 x1_126) FU s_87)))))))
def fX3_step_46 (σ : Mem) : Option Mem :=
  (if (σ 34 1) ≤ (σ 34 3) then (fX3_step_74 0 σ) else (gd (inB (σ 34 3) 120 = true) (fX3_step_74 (fX3_tokenOf (σ 35 (σ 34 3).toNatClampNeg)) σ)))
def fX3_step_8 (k8 : Mem → Option Mem) (σ : Mem) : Option Mem :=
  (if (σ 34 1) ≤ (σ 34 3) then (fX3_step_46 σ) else (gd (inB (σ 34 3) 120 = true) (if (σ 35 (σ 34 3).toNatClampNeg) = 32 then (pb (up2 σ 34 3 ((σ 34 3) + 1) : Mem) fun s_40 => (k8 s_40)) else (fX3_step_46 σ))))
def fX3_step  (σ : Mem) : Option Mem :=
  (pb (up2 σ 34 3 (σ 34 4) : Mem) fun s_5 => (lw1 (fX3_step_8) FU s_5))
set_option maxRecDepth 20000 in
theorem pX3_step_127 {M : MC} {w : WE} (X : Cx M w shC cX3_step 2 RX3 none 1)   (x1 : Int32)    : ∀ (n : Nat) (σ : Mem), Cp M w shC 2 iVM 127 [some (.ref (wad w 34)), some (.int x1)] [] σ (lw1 (fX3_step_127 x1) n σ) :=
  lw1_i (P := fun σ b => Cp M w shC 2 iVM 127 [some (.ref (wad w 34)), some (.int x1)] [] σ b) (fun _ => Cp.non) (fun k127 hk127 σ => by
  unfold fX3_step_127
  refine Cp.aload_n (i := 0) X dX3_step_127 rfl rfl ?_
  refine gfX3_19 X sc_34 rfl dX3_step_128 ?_
  refine Cp.iload_n (i := 1) X dX3_step_131 rfl rfl ?_
  refine Cp.icmp_ge X 205 dX3_step_132 (by decide) (fun c_132 => ?_) (fun c_132 => ?_)
  · exact Cp.vret X dX3_step_205 rfl
  · refine Cp.aload_n (i := 0) X dX3_step_135 rfl rfl ?_
    refine gfX3_9 X 35 sc_34 rfl dX3_step_136 ?_
    refine Cp.aload_n (i := 0) X dX3_step_139 rfl rfl ?_
    refine gfX3_19 X sc_34 rfl dX3_step_140 ?_
    refine Cp.bald X sc_35 dX3_step_143 ?_
    refine Cp.cSIT [] X [.int (σ 35 (σ 34 4).toNatClampNeg)] csX3_tokenOf (kX3_tokenOf X.ok (σ 35 (σ 34 4).toNatClampNeg) σ) wmX3_146 rfl rfl dX3_step_144 rfl (Nat.le_of_ble_eq_true rfl) ?_
    refine Cp.aload_n (i := 0) X dX3_step_147 rfl rfl ?_
    refine gfX3_29 X sc_34 rfl dX3_step_148 ?_
    refine Cp.icmp_ne X 205 dX3_step_151 (by decide) (fun c_151 => ?_) (fun c_151 => ?_)
    · exact Cp.vret X dX3_step_205 rfl
    · refine Cp.aload_n (i := 0) X dX3_step_154 rfl rfl ?_
      refine gfX3_29 X sc_34 rfl dX3_step_155 ?_
      refine Cp.iconst (v := 2) X dX3_step_158 rfl ?_
      refine Cp.icmp_ne X 192 dX3_step_159 (by decide) (fun c_159 => ?_) (fun c_159 => ?_)
      · refine Cp.aload_n (i := 0) X dX3_step_192 rfl rfl ?_
        refine Cp.dup X dX3_step_193 rfl ?_
        refine gfX3_19 X sc_34 rfl dX3_step_194 ?_
        refine Cp.iconst (v := 1) X dX3_step_197 rfl ?_
        refine Cp.iadd X dX3_step_198 ?_
        refine pfX3_19 X sc_34 rfl dX3_step_199 ?_
        refine Cp.nameM (fun s_199 => ?_)
        refine Cp.goto X 127 dX3_step_202 (by decide) ?_
        exact hk127 s_199
      · refine Cp.aload_n (i := 0) X dX3_step_162 rfl rfl ?_
        refine Cp.sipush (v := 10000) X dX3_step_163 rfl ?_
        refine Cp.aload_n (i := 0) X dX3_step_166 rfl rfl ?_
        refine gfX3_116 X sc_34 rfl dX3_step_167 ?_
        refine Cp.bipush (v := 10) X dX3_step_170 rfl ?_
        refine Cp.imul X dX3_step_172 ?_
        refine Cp.aload_n (i := 0) X dX3_step_173 rfl rfl ?_
        refine gfX3_9 X 35 sc_34 rfl dX3_step_174 ?_
        refine Cp.aload_n (i := 0) X dX3_step_177 rfl rfl ?_
        refine gfX3_19 X sc_34 rfl dX3_step_178 ?_
        refine Cp.bald X sc_35 dX3_step_181 ?_
        refine Cp.bipush (v := 48) X dX3_step_182 rfl ?_
        refine Cp.isub X dX3_step_184 ?_
        refine Cp.iadd X dX3_step_185 ?_
        refine Cp.mmin X wqX3_150 (by decide) dX3_step_186 (Nat.le_of_ble_eq_true rfl) ?_
        refine pfX3_116 X sc_34 rfl dX3_step_189 ?_
        refine Cp.nameM (fun s_189 => ?_)
        refine Cp.aload_n (i := 0) X dX3_step_192 rfl rfl ?_
        refine Cp.dup X dX3_step_193 rfl ?_
        refine gfX3_19 X sc_34 rfl dX3_step_194 ?_
        refine Cp.iconst (v := 1) X dX3_step_197 rfl ?_
        refine Cp.iadd X dX3_step_198 ?_
        refine pfX3_19 X sc_34 rfl dX3_step_199 ?_
        refine Cp.nameM (fun s_199 => ?_)
        refine Cp.goto X 127 dX3_step_202 (by decide) ?_
        exact hk127 s_199)
set_option maxRecDepth 20000 in
theorem pX3_step_74 {M : MC} {w : WE} (X : Cx M w shC cX3_step 2 RX3 none 1)   (t0 : Int32)  (σ : Mem)  : Cp M w shC 2 iVM 74 [some (.ref (wad w 34)), none] [.int t0, .ref (wad w 34)] σ (fX3_step_74 t0 σ) := by
  unfold fX3_step_74
  refine pfX3_29 X sc_34 rfl dX3_step_74 ?_
  refine Cp.nameM (fun s_74 => ?_)
  refine Cp.aload_n (i := 0) X dX3_step_77 rfl rfl ?_
  refine Cp.aload_n (i := 0) X dX3_step_78 rfl rfl ?_
  refine gfX3_32 X sc_34 rfl dX3_step_79 ?_
  refine pfX3_19 X sc_34 rfl dX3_step_82 ?_
  refine Cp.nameM (fun s_82 => ?_)
  refine Cp.aload_n (i := 0) X dX3_step_85 rfl rfl ?_
  refine Cp.iconst (v := 0) X dX3_step_86 rfl ?_
  refine pfX3_116 X sc_34 rfl dX3_step_87 ?_
  refine Cp.nameM (fun s_87 => ?_)
  refine Cp.aload_n (i := 0) X dX3_step_90 rfl rfl ?_
  refine gfX3_29 X sc_34 rfl dX3_step_91 ?_
  refine Cp.iconst (v := 1) X dX3_step_94 rfl ?_
  refine Cp.icmp_eq X 106 dX3_step_95 (by decide) (fun c_95 => ?_) (fun c_95 => ?_)
  · refine Cp.aload_n (i := 0) X dX3_step_106 rfl rfl ?_
    refine gfX3_15 X sc_34 rfl dX3_step_107 ?_
    refine Cp.goto X 126 dX3_step_110 (by decide) ?_
    refine Cp.nameI (fun x1_126 => ?_)
    refine Cp.istore_n (i := 1) X dX3_step_126 rfl (Nat.le_of_ble_eq_true rfl) rfl ?_
    exact pX3_step_127 X x1_126 FU s_87
  · refine Cp.aload_n (i := 0) X dX3_step_98 rfl rfl ?_
    refine gfX3_29 X sc_34 rfl dX3_step_99 ?_
    refine Cp.iconst (v := 2) X dX3_step_102 rfl ?_
    refine Cp.icmp_ne X 113 dX3_step_103 (by decide) (fun c_103 => ?_) (fun c_103 => ?_)
    · refine Cp.aload_n (i := 0) X dX3_step_113 rfl rfl ?_
      refine gfX3_15 X sc_34 rfl dX3_step_114 ?_
      refine Cp.aload_n (i := 0) X dX3_step_117 rfl rfl ?_
      refine gfX3_32 X sc_34 rfl dX3_step_118 ?_
      refine Cp.iconst (v := 1) X dX3_step_121 rfl ?_
      refine Cp.iadd X dX3_step_122 ?_
      refine Cp.mmin X wqX3_150 (by decide) dX3_step_123 (Nat.le_of_ble_eq_true rfl) ?_
      refine Cp.nameI (fun x1_126 => ?_)
      refine Cp.istore_n (i := 1) X dX3_step_126 rfl (Nat.le_of_ble_eq_true rfl) rfl ?_
      exact pX3_step_127 X x1_126 FU s_87
    · refine Cp.aload_n (i := 0) X dX3_step_106 rfl rfl ?_
      refine gfX3_15 X sc_34 rfl dX3_step_107 ?_
      refine Cp.goto X 126 dX3_step_110 (by decide) ?_
      refine Cp.nameI (fun x1_126 => ?_)
      refine Cp.istore_n (i := 1) X dX3_step_126 rfl (Nat.le_of_ble_eq_true rfl) rfl ?_
      exact pX3_step_127 X x1_126 FU s_87
set_option maxRecDepth 20000 in
theorem pX3_step_46 {M : MC} {w : WE} (X : Cx M w shC cX3_step 2 RX3 none 1)     (σ : Mem)  : Cp M w shC 2 iVM 46 [some (.ref (wad w 34)), none] [] σ (fX3_step_46 σ) := by
  unfold fX3_step_46
  refine Cp.aload_n (i := 0) X dX3_step_46 rfl rfl ?_
  refine Cp.aload_n (i := 0) X dX3_step_47 rfl rfl ?_
  refine gfX3_32 X sc_34 rfl dX3_step_48 ?_
  refine Cp.aload_n (i := 0) X dX3_step_51 rfl rfl ?_
  refine gfX3_15 X sc_34 rfl dX3_step_52 ?_
  refine Cp.icmp_ge X 73 dX3_step_55 (by decide) (fun c_55 => ?_) (fun c_55 => ?_)
  · refine Cp.iconst (v := 0) X dX3_step_73 rfl ?_
    exact pX3_step_74 X 0 σ
  · refine Cp.aload_n (i := 0) X dX3_step_58 rfl rfl ?_
    refine gfX3_9 X 35 sc_34 rfl dX3_step_59 ?_
    refine Cp.aload_n (i := 0) X dX3_step_62 rfl rfl ?_
    refine gfX3_32 X sc_34 rfl dX3_step_63 ?_
    refine Cp.bald X sc_35 dX3_step_66 ?_
    refine Cp.cSIT [.ref (wad w 34)] X [.int (σ 35 (σ 34 3).toNatClampNeg)] csX3_tokenOf (kX3_tokenOf X.ok (σ 35 (σ 34 3).toNatClampNeg) σ) wmX3_146 rfl rfl dX3_step_67 rfl (Nat.le_of_ble_eq_true rfl) ?_
    refine Cp.goto X 74 dX3_step_70 (by decide) ?_
    exact pX3_step_74 X (fX3_tokenOf (σ 35 (σ 34 3).toNatClampNeg)) σ
set_option maxRecDepth 20000 in
theorem pX3_step_8 {M : MC} {w : WE} (X : Cx M w shC cX3_step 2 RX3 none 1)       : ∀ (n : Nat) (σ : Mem), Cp M w shC 2 iVM 8 [some (.ref (wad w 34)), none] [] σ (lw1 (fX3_step_8) n σ) :=
  lw1_i (P := fun σ b => Cp M w shC 2 iVM 8 [some (.ref (wad w 34)), none] [] σ b) (fun _ => Cp.non) (fun k8 hk8 σ => by
  unfold fX3_step_8
  refine Cp.aload_n (i := 0) X dX3_step_8 rfl rfl ?_
  refine gfX3_32 X sc_34 rfl dX3_step_9 ?_
  refine Cp.aload_n (i := 0) X dX3_step_12 rfl rfl ?_
  refine gfX3_15 X sc_34 rfl dX3_step_13 ?_
  refine Cp.icmp_ge X 46 dX3_step_16 (by decide) (fun c_16 => ?_) (fun c_16 => ?_)
  · exact pX3_step_46 X σ
  · refine Cp.aload_n (i := 0) X dX3_step_19 rfl rfl ?_
    refine gfX3_9 X 35 sc_34 rfl dX3_step_20 ?_
    refine Cp.aload_n (i := 0) X dX3_step_23 rfl rfl ?_
    refine gfX3_32 X sc_34 rfl dX3_step_24 ?_
    refine Cp.bald X sc_35 dX3_step_27 ?_
    refine Cp.bipush (v := 32) X dX3_step_28 rfl ?_
    refine Cp.icmp_ne X 46 dX3_step_30 (by decide) (fun c_30 => ?_) (fun c_30 => ?_)
    · exact pX3_step_46 X σ
    · refine Cp.aload_n (i := 0) X dX3_step_33 rfl rfl ?_
      refine Cp.dup X dX3_step_34 rfl ?_
      refine gfX3_32 X sc_34 rfl dX3_step_35 ?_
      refine Cp.iconst (v := 1) X dX3_step_38 rfl ?_
      refine Cp.iadd X dX3_step_39 ?_
      refine pfX3_32 X sc_34 rfl dX3_step_40 ?_
      refine Cp.nameM (fun s_40 => ?_)
      refine Cp.goto X 8 dX3_step_43 (by decide) ?_
      exact hk8 s_40)
set_option maxRecDepth 20000 in
theorem pX3_step {M : MC} {w : WE} (X : Cx M w shC cX3_step 2 RX3 none 1)    (σ : Mem) : Cp M w shC 2 iVM 0 [some (.ref (wad w 34)), none] [] σ (fX3_step σ) := by
  unfold fX3_step
  refine Cp.aload_n (i := 0) X dX3_step_0 rfl rfl ?_
  refine Cp.aload_n (i := 0) X dX3_step_1 rfl rfl ?_
  refine gfX3_19 X sc_34 rfl dX3_step_2 ?_
  refine pfX3_32 X sc_34 rfl dX3_step_5 ?_
  refine Cp.nameM (fun s_5 => ?_)
  exact pX3_step_8 X FU s_5
theorem kX3_step {l : Launch} {w : WE} (hok : OkW w shC)    (σ : Mem) : ∀ v, fX3_step σ = some v → Ctr l w shC yX3_step cX3_step 2 none 1 [.ref (wad w 34)] σ (iVM v) := fun v hv => Ctr.of [some (.ref (wad w 34)), none] (by decide) hok rfl (Nat.le_of_ble_eq_true rfl) (fun M _ X => pX3_step X    σ v hv)
def fX3_readNumber (x1 : Int32) (x2 : Int32) (σ : Mem) : Option (Bool × Mem) :=
  (if (σ 34 2) = 2 then (if fX5_within (σ 34 5) x1 x2 = true then (pb (up2 σ 34 6 (σ 34 5) : Mem) fun s_27 => ((fX3_step s_27).bind fun s_31 => (some (true, s_31)))) else (some (false, σ))) else (some (false, σ)))
set_option maxRecDepth 20000 in
theorem pX3_readNumber {M : MC} {w : WE} (X : Cx M w shC cX3_readNumber 3 RX3 (some .boolean) 2)   (x1 : Int32) (x2 : Int32) (σ : Mem) : Cp M w shC 3 iBM 0 [some (.ref (wad w 34)), some (.int x1), some (.int x2)] [] σ (fX3_readNumber x1 x2 σ) := by
  unfold fX3_readNumber
  refine Cp.aload_n (i := 0) X dX3_readNumber_0 rfl rfl ?_
  refine gfX3_29 X sc_34 rfl dX3_readNumber_1 ?_
  refine Cp.iconst (v := 2) X dX3_readNumber_4 rfl ?_
  refine Cp.icmp_ne X 20 dX3_readNumber_5 (by decide) (fun c_5 => ?_) (fun c_5 => ?_)
  · refine Cp.iconst (v := 0) X dX3_readNumber_20 rfl ?_
    exact Cp.bret (v := false) X dX3_readNumber_21 rfl
  · refine Cp.aload_n (i := 0) X dX3_readNumber_8 rfl rfl ?_
    refine gfX3_116 X sc_34 rfl dX3_readNumber_9 ?_
    refine Cp.iload_n (i := 1) X dX3_readNumber_12 rfl rfl ?_
    refine Cp.iload_n (i := 2) X dX3_readNumber_13 rfl rfl ?_
    refine Cp.cNBT [] X [.int (σ 34 5), .int x1, .int x2] csX5_within (kX5_within X.ok (σ 34 5) x1 x2 σ) wmX3_119 rfl rfl dX3_readNumber_14 rfl (Nat.le_of_ble_eq_true rfl) ?_
    refine Cp.if_neB X 22 dX3_readNumber_17 (by decide) (fun c_17 => ?_) (fun c_17 => ?_)
    · refine Cp.aload_n (i := 0) X dX3_readNumber_22 rfl rfl ?_
      refine Cp.aload_n (i := 0) X dX3_readNumber_23 rfl rfl ?_
      refine gfX3_116 X sc_34 rfl dX3_readNumber_24 ?_
      refine pfX3_81 X sc_34 rfl dX3_readNumber_27 ?_
      refine Cp.nameM (fun s_27 => ?_)
      refine Cp.aload_n (i := 0) X dX3_readNumber_30 rfl rfl ?_
      refine Cp.cVV [] X [] cvX3_step (kX3_step X.ok s_27) sc_34 rfl rfl wmX3_22 rfl rfl dX3_readNumber_31 rfl (Nat.le_of_ble_eq_true rfl) (fun s_31 => ?_)
      refine Cp.iconst (v := 1) X dX3_readNumber_34 rfl ?_
      exact Cp.bret (v := true) X dX3_readNumber_35 rfl
    · refine Cp.iconst (v := 0) X dX3_readNumber_20 rfl ?_
      exact Cp.bret (v := false) X dX3_readNumber_21 rfl
theorem kX3_readNumber {l : Launch} {w : WE} (hok : OkW w shC)   (x1 : Int32) (x2 : Int32) (σ : Mem) : ∀ v, fX3_readNumber x1 x2 σ = some v → Ctr l w shC yX3_readNumber cX3_readNumber 3 (some .boolean) 2 [.ref (wad w 34), .int x1, .int x2] σ (iBM v) := fun v hv => Ctr.of [some (.ref (wad w 34)), some (.int x1), some (.int x2)] (by decide) hok rfl (Nat.le_of_ble_eq_true rfl) (fun M _ X => pX3_readNumber X   x1 x2 σ v hv)
def fX3_readJoke (r1 : Nat) (σ : Mem) : Option (Bool × Mem) :=
  (if (σ r1 7) < 8 then ((fX3_step σ).bind fun s_12 => (bnd2 (fX3_readNumber 1 63 s_12) fun v_19 s_19 => (if v_19 = true then (pb (s_19 34 6 : Int32) fun x2_31 => (bnd2 (fX3_readNumber 0 9 s_19) fun v_36 s_36 => (if v_36 = true then (bnd2 (fX1_addJoke r1 x2_31 (s_36 34 6) s_36) fun v_50 s_50 => (some (true, s_50))) else (some (false, s_36))))) else (some (false, s_19))))) else (some (false, σ)))
set_option maxRecDepth 20000 in
theorem pX3_readJoke {M : MC} {w : WE} (X : Cx M w shC cX3_readJoke 3 RX3 (some .boolean) 3) (r1 : Nat) (h1 : isRm r1)  (σ : Mem) : Cp M w shC 3 iBM 0 [some (.ref (wad w 34)), some (.ref (wad w r1)), none] [] σ (fX3_readJoke r1 σ) := by
  unfold fX3_readJoke
  refine Cp.aload_n (i := 1) X dX3_readJoke_0 rfl rfl ?_
  refine gfX3_100 X (s_rm h1) rfl dX3_readJoke_1 ?_
  refine Cp.bipush (v := 8) X dX3_readJoke_4 rfl ?_
  refine Cp.icmp_lt X 11 dX3_readJoke_6 (by decide) (fun c_6 => ?_) (fun c_6 => ?_)
  · refine Cp.aload_n (i := 0) X dX3_readJoke_11 rfl rfl ?_
    refine Cp.cVV [] X [] cvX3_step (kX3_step X.ok σ) sc_34 rfl rfl wmX3_22 rfl rfl dX3_readJoke_12 rfl (Nat.le_of_ble_eq_true rfl) (fun s_12 => ?_)
    refine Cp.aload_n (i := 0) X dX3_readJoke_15 rfl rfl ?_
    refine Cp.iconst (v := 1) X dX3_readJoke_16 rfl ?_
    refine Cp.bipush (v := 63) X dX3_readJoke_17 rfl ?_
    refine Cp.cVBM [] X [.int 1, .int 63] cvX3_readNumber (kX3_readNumber X.ok 1 63 s_12) sc_34 rfl rfl wmX3_103 rfl rfl dX3_readJoke_19 rfl (Nat.le_of_ble_eq_true rfl) (fun v_19 s_19 => ?_)
    refine Cp.if_neB X 27 dX3_readJoke_22 (by decide) (fun c_22 => ?_) (fun c_22 => ?_)
    · refine Cp.aload_n (i := 0) X dX3_readJoke_27 rfl rfl ?_
      refine gfX3_81 X sc_34 rfl dX3_readJoke_28 ?_
      refine Cp.nameI (fun x2_31 => ?_)
      refine Cp.istore_n (i := 2) X dX3_readJoke_31 rfl (Nat.le_of_ble_eq_true rfl) rfl ?_
      refine Cp.aload_n (i := 0) X dX3_readJoke_32 rfl rfl ?_
      refine Cp.iconst (v := 0) X dX3_readJoke_33 rfl ?_
      refine Cp.bipush (v := 9) X dX3_readJoke_34 rfl ?_
      refine Cp.cVBM [] X [.int 0, .int 9] cvX3_readNumber (kX3_readNumber X.ok 0 9 s_19) sc_34 rfl rfl wmX3_103 rfl rfl dX3_readJoke_36 rfl (Nat.le_of_ble_eq_true rfl) (fun v_36 s_36 => ?_)
      refine Cp.if_neB X 44 dX3_readJoke_39 (by decide) (fun c_39 => ?_) (fun c_39 => ?_)
      · refine Cp.aload_n (i := 1) X dX3_readJoke_44 rfl rfl ?_
        refine Cp.iload_n (i := 2) X dX3_readJoke_45 rfl rfl ?_
        refine Cp.aload_n (i := 0) X dX3_readJoke_46 rfl rfl ?_
        refine gfX3_81 X sc_34 rfl dX3_readJoke_47 ?_
        refine Cp.cVIM [] X [.int x2_31, .int (s_36 34 6)] cvX1_addJoke (kX1_addJoke X.ok r1 h1 x2_31 (s_36 34 6) s_36) (s_rm h1) rfl rfl wmX3_107 rfl rfl dX3_readJoke_50 rfl (Nat.le_of_ble_eq_true rfl) (fun v_50 s_50 => ?_)
        refine Cp.pop X dX3_readJoke_53 rfl ?_
        refine Cp.iconst (v := 1) X dX3_readJoke_54 rfl ?_
        exact Cp.bret (v := true) X dX3_readJoke_55 rfl
      · refine Cp.iconst (v := 0) X dX3_readJoke_42 rfl ?_
        exact Cp.bret (v := false) X dX3_readJoke_43 rfl
    · refine Cp.iconst (v := 0) X dX3_readJoke_25 rfl ?_
      exact Cp.bret (v := false) X dX3_readJoke_26 rfl
  · refine Cp.iconst (v := 0) X dX3_readJoke_9 rfl ?_
    exact Cp.bret (v := false) X dX3_readJoke_10 rfl
theorem kX3_readJoke {l : Launch} {w : WE} (hok : OkW w shC) (r1 : Nat) (h1 : isRm r1)  (σ : Mem) : ∀ v, fX3_readJoke r1 σ = some v → Ctr l w shC yX3_readJoke cX3_readJoke 3 (some .boolean) 3 [.ref (wad w 34), .ref (wad w r1)] σ (iBM v) := fun v hv => Ctr.of [some (.ref (wad w 34)), some (.ref (wad w r1)), none] (by decide) hok rfl (Nat.le_of_ble_eq_true rfl) (fun M _ X => pX3_readJoke X r1 h1  σ v hv)
def fX3_readRate (r1 : Nat) (σ : Mem) : Option (Bool × Mem) :=
  ((fX3_step σ).bind fun s_1 => (bnd2 (fX3_readNumber 0 20 s_1) fun v_8 s_8 => (if v_8 = true then (pb (up2 s_8 r1 10 (s_8 34 6) : Mem) fun s_21 => (some (true, s_21))) else (some (false, s_8)))))
set_option maxRecDepth 20000 in
theorem pX3_readRate {M : MC} {w : WE} (X : Cx M w shC cX3_readRate 2 RX3 (some .boolean) 3) (r1 : Nat) (h1 : isRm r1)  (σ : Mem) : Cp M w shC 2 iBM 0 [some (.ref (wad w 34)), some (.ref (wad w r1))] [] σ (fX3_readRate r1 σ) := by
  unfold fX3_readRate
  refine Cp.aload_n (i := 0) X dX3_readRate_0 rfl rfl ?_
  refine Cp.cVV [] X [] cvX3_step (kX3_step X.ok σ) sc_34 rfl rfl wmX3_22 rfl rfl dX3_readRate_1 rfl (Nat.le_of_ble_eq_true rfl) (fun s_1 => ?_)
  refine Cp.aload_n (i := 0) X dX3_readRate_4 rfl rfl ?_
  refine Cp.iconst (v := 0) X dX3_readRate_5 rfl ?_
  refine Cp.bipush (v := 20) X dX3_readRate_6 rfl ?_
  refine Cp.cVBM [] X [.int 0, .int 20] cvX3_readNumber (kX3_readNumber X.ok 0 20 s_1) sc_34 rfl rfl wmX3_103 rfl rfl dX3_readRate_8 rfl (Nat.le_of_ble_eq_true rfl) (fun v_8 s_8 => ?_)
  refine Cp.if_neB X 16 dX3_readRate_11 (by decide) (fun c_11 => ?_) (fun c_11 => ?_)
  · refine Cp.aload_n (i := 1) X dX3_readRate_16 rfl rfl ?_
    refine Cp.aload_n (i := 0) X dX3_readRate_17 rfl rfl ?_
    refine gfX3_81 X sc_34 rfl dX3_readRate_18 ?_
    refine pfX3_110 X (s_rm h1) rfl dX3_readRate_21 ?_
    refine Cp.nameM (fun s_21 => ?_)
    refine Cp.iconst (v := 1) X dX3_readRate_24 rfl ?_
    exact Cp.bret (v := true) X dX3_readRate_25 rfl
  · refine Cp.iconst (v := 0) X dX3_readRate_14 rfl ?_
    exact Cp.bret (v := false) X dX3_readRate_15 rfl
theorem kX3_readRate {l : Launch} {w : WE} (hok : OkW w shC) (r1 : Nat) (h1 : isRm r1)  (σ : Mem) : ∀ v, fX3_readRate r1 σ = some v → Ctr l w shC yX3_readRate cX3_readRate 2 (some .boolean) 3 [.ref (wad w 34), .ref (wad w r1)] σ (iBM v) := fun v hv => Ctr.of [some (.ref (wad w 34)), some (.ref (wad w r1))] (by decide) hok rfl (Nat.le_of_ble_eq_true rfl) (fun M _ X => pX3_readRate X r1 h1  σ v hv)
def fX3_readReach (r1 : Nat) (σ : Mem) : Option (Bool × Mem) :=
  ((fX3_step σ).bind fun s_1 => (bnd2 (fX3_readNumber 0 15 s_1) fun v_8 s_8 => (if v_8 = true then ((fX1_setReach r1 (s_8 34 6) s_8).bind fun s_21 => (some (true, s_21))) else (some (false, s_8)))))
set_option maxRecDepth 20000 in
theorem pX3_readReach {M : MC} {w : WE} (X : Cx M w shC cX3_readReach 2 RX3 (some .boolean) 3) (r1 : Nat) (h1 : isRm r1)  (σ : Mem) : Cp M w shC 2 iBM 0 [some (.ref (wad w 34)), some (.ref (wad w r1))] [] σ (fX3_readReach r1 σ) := by
  unfold fX3_readReach
  refine Cp.aload_n (i := 0) X dX3_readReach_0 rfl rfl ?_
  refine Cp.cVV [] X [] cvX3_step (kX3_step X.ok σ) sc_34 rfl rfl wmX3_22 rfl rfl dX3_readReach_1 rfl (Nat.le_of_ble_eq_true rfl) (fun s_1 => ?_)
  refine Cp.aload_n (i := 0) X dX3_readReach_4 rfl rfl ?_
  refine Cp.iconst (v := 0) X dX3_readReach_5 rfl ?_
  refine Cp.bipush (v := 15) X dX3_readReach_6 rfl ?_
  refine Cp.cVBM [] X [.int 0, .int 15] cvX3_readNumber (kX3_readNumber X.ok 0 15 s_1) sc_34 rfl rfl wmX3_103 rfl rfl dX3_readReach_8 rfl (Nat.le_of_ble_eq_true rfl) (fun v_8 s_8 => ?_)
  refine Cp.if_neB X 16 dX3_readReach_11 (by decide) (fun c_11 => ?_) (fun c_11 => ?_)
  · refine Cp.aload_n (i := 1) X dX3_readReach_16 rfl rfl ?_
    refine Cp.aload_n (i := 0) X dX3_readReach_17 rfl rfl ?_
    refine gfX3_81 X sc_34 rfl dX3_readReach_18 ?_
    refine Cp.cVV [] X [.int (s_8 34 6)] cvX1_setReach (kX1_setReach X.ok r1 h1 (s_8 34 6) s_8) (s_rm h1) rfl rfl wmX3_112 rfl rfl dX3_readReach_21 rfl (Nat.le_of_ble_eq_true rfl) (fun s_21 => ?_)
    refine Cp.iconst (v := 1) X dX3_readReach_24 rfl ?_
    exact Cp.bret (v := true) X dX3_readReach_25 rfl
  · refine Cp.iconst (v := 0) X dX3_readReach_14 rfl ?_
    exact Cp.bret (v := false) X dX3_readReach_15 rfl
theorem kX3_readReach {l : Launch} {w : WE} (hok : OkW w shC) (r1 : Nat) (h1 : isRm r1)  (σ : Mem) : ∀ v, fX3_readReach r1 σ = some v → Ctr l w shC yX3_readReach cX3_readReach 2 (some .boolean) 3 [.ref (wad w 34), .ref (wad w r1)] σ (iBM v) := fun v hv => Ctr.of [some (.ref (wad w 34)), some (.ref (wad w r1))] (by decide) hok rfl (Nat.le_of_ble_eq_true rfl) (fun M _ X => pX3_readReach X r1 h1  σ v hv)
def fX0_isA_4 (x1 : Int32) (σ : Mem) (k4 : Int32 → Int32 → Option Bool) (x2 : Int32) (x3 : Int32) : Option Bool :=
  (if 7 ≤ x3 then (some false) else (if x2 = (-1) then (some false) else (if x2 = x1 then (some true) else (gd (inB x2 7 = true) (pb (abv x2.toNatClampNeg : Int32) fun x2_27 => (k4 x2_27 (x3 + 1)))))))
def fX0_isA (x0 : Int32) (x1 : Int32) (σ : Mem) : Option Bool :=
  (lw2 (fX0_isA_4 x1 σ) FU x0 0)
set_option maxRecDepth 20000 in
theorem pX0_isA_4 {M : MC} {w : WE} (X : Cx M w shC cX0_isA 4 RX0 (some .boolean) 0)   (x1 : Int32)  (σ : Mem)  : ∀ (n : Nat) (x2 : Int32) (x3 : Int32), Cp M w shC 4 (iB σ) 4 [none, some (.int x1), some (.int x2), some (.int x3)] [] σ (lw2 (fX0_isA_4 x1 σ) n x2 x3) :=
  lw2_i (P := fun x2 x3 b => Cp M w shC 4 (iB σ) 4 [none, some (.int x1), some (.int x2), some (.int x3)] [] σ b) (fun _ _ => Cp.non) (fun k4 hk4 x2 x3 => by
  unfold fX0_isA_4
  refine Cp.iload_n (i := 3) X dX0_isA_4 rfl rfl ?_
  refine Cp.bipush (v := 7) X dX0_isA_5 rfl ?_
  refine Cp.icmp_ge X 34 dX0_isA_7 (by decide) (fun c_7 => ?_) (fun c_7 => ?_)
  · refine Cp.iconst (v := 0) X dX0_isA_34 rfl ?_
    exact Cp.bret (v := false) X dX0_isA_35 rfl
  · refine Cp.iload_n (i := 2) X dX0_isA_10 rfl rfl ?_
    refine Cp.iconst (v := (-1)) X dX0_isA_11 rfl ?_
    refine Cp.icmp_eq X 34 dX0_isA_12 (by decide) (fun c_12 => ?_) (fun c_12 => ?_)
    · refine Cp.iconst (v := 0) X dX0_isA_34 rfl ?_
      exact Cp.bret (v := false) X dX0_isA_35 rfl
    · refine Cp.iload_n (i := 2) X dX0_isA_15 rfl rfl ?_
      refine Cp.iload_n (i := 1) X dX0_isA_16 rfl rfl ?_
      refine Cp.icmp_ne X 22 dX0_isA_17 (by decide) (fun c_17 => ?_) (fun c_17 => ?_)
      · refine Cp.getAbv X dX0_isA_22 ?_
        refine Cp.iload_n (i := 2) X dX0_isA_25 rfl rfl ?_
        refine Cp.ldAbv X dX0_isA_26 ?_
        refine Cp.nameI (fun x2_27 => ?_)
        refine Cp.istore_n (i := 2) X dX0_isA_27 rfl (Nat.le_of_ble_eq_true rfl) rfl ?_
        refine Cp.iinc (v := x3 + 1) X dX0_isA_28 rfl rfl (Nat.le_of_ble_eq_true rfl) rfl ?_
        refine Cp.goto X 4 dX0_isA_31 (by decide) ?_
        exact hk4 x2_27 (x3 + 1)
      · refine Cp.iconst (v := 1) X dX0_isA_20 rfl ?_
        exact Cp.bret (v := true) X dX0_isA_21 rfl)
set_option maxRecDepth 20000 in
theorem pX0_isA {M : MC} {w : WE} (X : Cx M w shC cX0_isA 4 RX0 (some .boolean) 0)   (x0 : Int32) (x1 : Int32) (σ : Mem) : Cp M w shC 4 (iB σ) 0 [some (.int x0), some (.int x1), none, none] [] σ (fX0_isA x0 x1 σ) := by
  unfold fX0_isA
  refine Cp.iload_n (i := 0) X dX0_isA_0 rfl rfl ?_
  refine Cp.istore_n (i := 2) X dX0_isA_1 rfl (Nat.le_of_ble_eq_true rfl) rfl ?_
  refine Cp.iconst (v := 0) X dX0_isA_2 rfl ?_
  refine Cp.istore_n (i := 3) X dX0_isA_3 rfl (Nat.le_of_ble_eq_true rfl) rfl ?_
  refine Cp.mask [false, true, true, true] ?_
  exact pX0_isA_4 X x1 σ FU x0 0
theorem kX0_isA {l : Launch} {w : WE} (hok : OkW w shC)   (x0 : Int32) (x1 : Int32) (σ : Mem) : ∀ v, fX0_isA x0 x1 σ = some v → Ctr l w shC yX0_isA cX0_isA 4 (some .boolean) 0 [.int x0, .int x1] σ ((iB σ) v) := fun v hv => Ctr.of [some (.int x0), some (.int x1), none, none] (by decide) hok rfl (Nat.le_of_ble_eq_true rfl) (fun M _ X => pX0_isA X   x0 x1 σ v hv)
def fX2_begin_12 (ks : Nat) (k12 : Int32 → Mem → Option Mem) (x3 : Int32) (σ : Mem) : Option Mem :=
  (if 40 ≤ x3 then (some σ) else (gd (inB x3 40 = true) (pb (up2 σ (ks + 1) x3.toNatClampNeg 0 : Mem) fun s_24 => (k12 (x3 + 1) s_24))))
def fX2_begin (ks : Nat) (x1 : Int32) (x2 : Int32) (σ : Mem) : Option Mem :=
  (pb (up2 σ ks 1 x1 : Mem) fun s_2 => (pb (up2 s_2 ks 2 x2 : Mem) fun s_7 => (lw2 (fX2_begin_12 ks) FU 0 s_7)))
set_option maxRecDepth 20000 in
theorem pX2_begin_12 {M : MC} {w : WE} (X : Cx M w shC cX2_begin 4 RX2 none 0) (ks : Nat) (hks : isSe ks)     : ∀ (n : Nat) (x3 : Int32) (σ : Mem), Cp M w shC 4 iVM 12 [some (.ref (wad w ks)), none, none, some (.int x3)] [] σ (lw2 (fX2_begin_12 ks) n x3 σ) :=
  lw2_i (P := fun x3 σ b => Cp M w shC 4 iVM 12 [some (.ref (wad w ks)), none, none, some (.int x3)] [] σ b) (fun _ _ => Cp.non) (fun k12 hk12 x3 σ => by
  unfold fX2_begin_12
  refine Cp.iload_n (i := 3) X dX2_begin_12 rfl rfl ?_
  refine Cp.bipush (v := 40) X dX2_begin_13 rfl ?_
  refine Cp.icmp_ge X 31 dX2_begin_15 (by decide) (fun c_15 => ?_) (fun c_15 => ?_)
  · exact Cp.vret X dX2_begin_31 rfl
  · refine Cp.aload_n (i := 0) X dX2_begin_18 rfl rfl ?_
    refine gfX2_9 X (ks + 1) (s_se hks) rfl dX2_begin_19 ?_
    refine Cp.iload_n (i := 3) X dX2_begin_22 rfl rfl ?_
    refine Cp.iconst (v := 0) X dX2_begin_23 rfl ?_
    refine Cp.iast X (s_sn hks) dX2_begin_24 ?_
    refine Cp.nameM (fun s_24 => ?_)
    refine Cp.iinc (v := x3 + 1) X dX2_begin_25 rfl rfl (Nat.le_of_ble_eq_true rfl) rfl ?_
    refine Cp.goto X 12 dX2_begin_28 (by decide) ?_
    exact hk12 (x3 + 1) s_24)
set_option maxRecDepth 20000 in
theorem pX2_begin {M : MC} {w : WE} (X : Cx M w shC cX2_begin 4 RX2 none 0) (ks : Nat) (hks : isSe ks) (x1 : Int32) (x2 : Int32) (σ : Mem) : Cp M w shC 4 iVM 0 [some (.ref (wad w ks)), some (.int x1), some (.int x2), none] [] σ (fX2_begin ks x1 x2 σ) := by
  unfold fX2_begin
  refine Cp.aload_n (i := 0) X dX2_begin_0 rfl rfl ?_
  refine Cp.iload_n (i := 1) X dX2_begin_1 rfl rfl ?_
  refine pfX2_15 X (s_se hks) rfl dX2_begin_2 ?_
  refine Cp.nameM (fun s_2 => ?_)
  refine Cp.aload_n (i := 0) X dX2_begin_5 rfl rfl ?_
  refine Cp.iload_n (i := 2) X dX2_begin_6 rfl rfl ?_
  refine pfX2_19 X (s_se hks) rfl dX2_begin_7 ?_
  refine Cp.nameM (fun s_7 => ?_)
  refine Cp.iconst (v := 0) X dX2_begin_10 rfl ?_
  refine Cp.istore_n (i := 3) X dX2_begin_11 rfl (Nat.le_of_ble_eq_true rfl) rfl ?_
  refine Cp.mask [true, false, false, true] ?_
  exact pX2_begin_12 X ks hks FU 0 s_7
theorem kX2_begin {l : Launch} {w : WE} (hok : OkW w shC) (ks : Nat) (hks : isSe ks) (x1 : Int32) (x2 : Int32) (σ : Mem) : ∀ v, fX2_begin ks x1 x2 σ = some v → Ctr l w shC yX2_begin cX2_begin 4 none 0 [.ref (wad w ks), .int x1, .int x2] σ (iVM v) := fun v hv => Ctr.of [some (.ref (wad w ks)), some (.int x1), some (.int x2), none] (by decide) hok rfl (Nat.le_of_ble_eq_true rfl) (fun M _ X => pX2_begin X ks hks x1 x2 σ v hv)
def fX2_put (ks : Nat) (x1 : Int32) (x2 : Int32) (σ : Mem) : Option Mem :=
  (if (σ ks 1) = 8 then (gd (inB x1 40 = true) (pb (up2 σ (ks + 1) x1.toNatClampNeg ((x2 : Int32).toInt8.toInt32) : Mem) fun s_16 => (some s_16))) else (if (σ ks 1) = 16 then (gd (inB x1 40 = true) (pb (up2 σ (ks + 1) x1.toNatClampNeg ((x2 : Int32).toInt16.toInt32) : Mem) fun s_36 => (some s_36))) else (gd (inB x1 40 = true) (pb (up2 σ (ks + 1) x1.toNatClampNeg x2 : Mem) fun s_46 => (some s_46)))))
set_option maxRecDepth 20000 in
theorem pX2_put {M : MC} {w : WE} (X : Cx M w shC cX2_put 3 RX2 none 0) (ks : Nat) (hks : isSe ks) (x1 : Int32) (x2 : Int32) (σ : Mem) : Cp M w shC 3 iVM 0 [some (.ref (wad w ks)), some (.int x1), some (.int x2)] [] σ (fX2_put ks x1 x2 σ) := by
  unfold fX2_put
  refine Cp.aload_n (i := 0) X dX2_put_0 rfl rfl ?_
  refine gfX2_15 X (s_se hks) rfl dX2_put_1 ?_
  refine Cp.bipush (v := 8) X dX2_put_4 rfl ?_
  refine Cp.icmp_ne X 20 dX2_put_6 (by decide) (fun c_6 => ?_) (fun c_6 => ?_)
  · refine Cp.aload_n (i := 0) X dX2_put_20 rfl rfl ?_
    refine gfX2_15 X (s_se hks) rfl dX2_put_21 ?_
    refine Cp.bipush (v := 16) X dX2_put_24 rfl ?_
    refine Cp.icmp_ne X 40 dX2_put_26 (by decide) (fun c_26 => ?_) (fun c_26 => ?_)
    · refine Cp.aload_n (i := 0) X dX2_put_40 rfl rfl ?_
      refine gfX2_9 X (ks + 1) (s_se hks) rfl dX2_put_41 ?_
      refine Cp.iload_n (i := 1) X dX2_put_44 rfl rfl ?_
      refine Cp.iload_n (i := 2) X dX2_put_45 rfl rfl ?_
      refine Cp.iast X (s_sn hks) dX2_put_46 ?_
      refine Cp.nameM (fun s_46 => ?_)
      exact Cp.vret X dX2_put_47 rfl
    · refine Cp.aload_n (i := 0) X dX2_put_29 rfl rfl ?_
      refine gfX2_9 X (ks + 1) (s_se hks) rfl dX2_put_30 ?_
      refine Cp.iload_n (i := 1) X dX2_put_33 rfl rfl ?_
      refine Cp.iload_n (i := 2) X dX2_put_34 rfl rfl ?_
      refine Cp.i2s X dX2_put_35 ?_
      refine Cp.iast X (s_sn hks) dX2_put_36 ?_
      refine Cp.nameM (fun s_36 => ?_)
      refine Cp.goto X 47 dX2_put_37 (by decide) ?_
      exact Cp.vret X dX2_put_47 rfl
  · refine Cp.aload_n (i := 0) X dX2_put_9 rfl rfl ?_
    refine gfX2_9 X (ks + 1) (s_se hks) rfl dX2_put_10 ?_
    refine Cp.iload_n (i := 1) X dX2_put_13 rfl rfl ?_
    refine Cp.iload_n (i := 2) X dX2_put_14 rfl rfl ?_
    refine Cp.i2b X dX2_put_15 ?_
    refine Cp.iast X (s_sn hks) dX2_put_16 ?_
    refine Cp.nameM (fun s_16 => ?_)
    refine Cp.goto X 47 dX2_put_17 (by decide) ?_
    exact Cp.vret X dX2_put_47 rfl
theorem kX2_put {l : Launch} {w : WE} (hok : OkW w shC) (ks : Nat) (hks : isSe ks) (x1 : Int32) (x2 : Int32) (σ : Mem) : ∀ v, fX2_put ks x1 x2 σ = some v → Ctr l w shC yX2_put cX2_put 3 none 0 [.ref (wad w ks), .int x1, .int x2] σ (iVM v) := fun v hv => Ctr.of [some (.ref (wad w ks)), some (.int x1), some (.int x2)] (by decide) hok rfl (Nat.le_of_ble_eq_true rfl) (fun M _ X => pX2_put X ks hks x1 x2 σ v hv)
def fX2_has (ks : Nat) (x1 : Int32) (x2 : Int32) (σ : Mem) : Bool :=
  (if x1 < 0 then false else (if x2 < 0 then false else (if (σ ks 2) < x2 then false else (if ((σ ks 2) - x2) < x1 then false else true))))
set_option maxRecDepth 20000 in
theorem pX2_has {M : MC} {w : WE} (X : Cx M w shC cX2_has 3 RX2 (some .boolean) 0) (ks : Nat) (hks : isSe ks) (x1 : Int32) (x2 : Int32) (σ : Mem) : Cp M w shC 3 (iB σ) 0 [some (.ref (wad w ks)), some (.int x1), some (.int x2)] [] σ (some (fX2_has ks x1 x2 σ)) := by
  unfold fX2_has
  refine Cp.iload_n (i := 1) X dX2_has_0 rfl rfl ?_
  refine Cp.if_ltT X 30 dX2_has_1 (by decide) (fun c_1 => ?_) (fun c_1 => ?_)
  · refine Cp.iconst (v := 0) X dX2_has_30 rfl ?_
    exact Cp.bret (v := false) X dX2_has_31 rfl
  · refine Cp.iload_n (i := 2) X dX2_has_4 rfl rfl ?_
    refine Cp.if_ltT X 30 dX2_has_5 (by decide) (fun c_5 => ?_) (fun c_5 => ?_)
    · refine Cp.iconst (v := 0) X dX2_has_30 rfl ?_
      exact Cp.bret (v := false) X dX2_has_31 rfl
    · refine Cp.iload_n (i := 2) X dX2_has_8 rfl rfl ?_
      refine Cp.aload_n (i := 0) X dX2_has_9 rfl rfl ?_
      refine gfX2_19 X (s_se hks) rfl dX2_has_10 ?_
      refine Cp.icmp_gtT X 30 dX2_has_13 (by decide) (fun c_13 => ?_) (fun c_13 => ?_)
      · refine Cp.iconst (v := 0) X dX2_has_30 rfl ?_
        exact Cp.bret (v := false) X dX2_has_31 rfl
      · refine Cp.iload_n (i := 1) X dX2_has_16 rfl rfl ?_
        refine Cp.aload_n (i := 0) X dX2_has_17 rfl rfl ?_
        refine gfX2_19 X (s_se hks) rfl dX2_has_18 ?_
        refine Cp.iload_n (i := 2) X dX2_has_21 rfl rfl ?_
        refine Cp.isub X dX2_has_22 ?_
        refine Cp.icmp_gtT X 30 dX2_has_23 (by decide) (fun c_23 => ?_) (fun c_23 => ?_)
        · refine Cp.iconst (v := 0) X dX2_has_30 rfl ?_
          exact Cp.bret (v := false) X dX2_has_31 rfl
        · refine Cp.iconst (v := 1) X dX2_has_26 rfl ?_
          refine Cp.goto X 31 dX2_has_27 (by decide) ?_
          exact Cp.bret (v := true) X dX2_has_31 rfl
theorem kX2_has {l : Launch} {w : WE} (hok : OkW w shC) (ks : Nat) (hks : isSe ks) (x1 : Int32) (x2 : Int32) (σ : Mem) : Ctr l w shC yX2_has cX2_has 3 (some .boolean) 0 [.ref (wad w ks), .int x1, .int x2] σ ((iB σ) (fX2_has ks x1 x2 σ)) := Ctr.of [some (.ref (wad w ks)), some (.int x1), some (.int x2)] (by decide) hok rfl (Nat.le_of_ble_eq_true rfl) (fun M _ X => pX2_has X ks hks x1 x2 σ _ rfl)
def fX1_spotsHolding_4 (r : Nat) (σ : Mem) (k4 : Int32 → Int32 → Option Int32) (x1 : Int32) (x2 : Int32) : Option Int32 :=
  (if 10 ≤ x2 then (some x1) else (gd (inB x2 10 = true) (if (σ (r + 9) x2.toNatClampNeg) = (-1) then (k4 x1 (x2 + 1)) else (k4 (x1 + 1) (x2 + 1)))))
def fX1_spotsHolding (r : Nat) (σ : Mem) : Option Int32 :=
  (lw2 (fX1_spotsHolding_4 r σ) FU 0 0)
set_option maxRecDepth 20000 in
theorem pX1_spotsHolding_4 {M : MC} {w : WE} (X : Cx M w shC cX1_spotsHolding 3 RX1 (some .int) 0) (r : Nat) (hr : isRm r)   (σ : Mem)  : ∀ (n : Nat) (x1 : Int32) (x2 : Int32), Cp M w shC 3 (iI σ) 4 [some (.ref (wad w r)), some (.int x1), some (.int x2)] [] σ (lw2 (fX1_spotsHolding_4 r σ) n x1 x2) :=
  lw2_i (P := fun x1 x2 b => Cp M w shC 3 (iI σ) 4 [some (.ref (wad w r)), some (.int x1), some (.int x2)] [] σ b) (fun _ _ => Cp.non) (fun k4 hk4 x1 x2 => by
  unfold fX1_spotsHolding_4
  refine Cp.iload_n (i := 2) X dX1_spotsHolding_4 rfl rfl ?_
  refine Cp.bipush (v := 10) X dX1_spotsHolding_5 rfl ?_
  refine Cp.icmp_ge X 29 dX1_spotsHolding_7 (by decide) (fun c_7 => ?_) (fun c_7 => ?_)
  · refine Cp.iload_n (i := 1) X dX1_spotsHolding_29 rfl rfl ?_
    exact Cp.iret X dX1_spotsHolding_30 rfl
  · refine Cp.aload_n (i := 0) X dX1_spotsHolding_10 rfl rfl ?_
    refine gfX1_46 X (r + 9) (s_rm hr) rfl dX1_spotsHolding_11 ?_
    refine Cp.iload_n (i := 2) X dX1_spotsHolding_14 rfl rfl ?_
    refine Cp.iald X (s_ra9 hr) dX1_spotsHolding_15 ?_
    refine Cp.iconst (v := (-1)) X dX1_spotsHolding_16 rfl ?_
    refine Cp.icmp_eq X 23 dX1_spotsHolding_17 (by decide) (fun c_17 => ?_) (fun c_17 => ?_)
    · refine Cp.iinc (v := x2 + 1) X dX1_spotsHolding_23 rfl rfl (Nat.le_of_ble_eq_true rfl) rfl ?_
      refine Cp.goto X 4 dX1_spotsHolding_26 (by decide) ?_
      exact hk4 x1 (x2 + 1)
    · refine Cp.iinc (v := x1 + 1) X dX1_spotsHolding_20 rfl rfl (Nat.le_of_ble_eq_true rfl) rfl ?_
      refine Cp.iinc (v := x2 + 1) X dX1_spotsHolding_23 rfl rfl (Nat.le_of_ble_eq_true rfl) rfl ?_
      refine Cp.goto X 4 dX1_spotsHolding_26 (by decide) ?_
      exact hk4 (x1 + 1) (x2 + 1))
set_option maxRecDepth 20000 in
theorem pX1_spotsHolding {M : MC} {w : WE} (X : Cx M w shC cX1_spotsHolding 3 RX1 (some .int) 0) (r : Nat) (hr : isRm r)  (σ : Mem) : Cp M w shC 3 (iI σ) 0 [some (.ref (wad w r)), none, none] [] σ (fX1_spotsHolding r σ) := by
  unfold fX1_spotsHolding
  refine Cp.iconst (v := 0) X dX1_spotsHolding_0 rfl ?_
  refine Cp.istore_n (i := 1) X dX1_spotsHolding_1 rfl (Nat.le_of_ble_eq_true rfl) rfl ?_
  refine Cp.iconst (v := 0) X dX1_spotsHolding_2 rfl ?_
  refine Cp.istore_n (i := 2) X dX1_spotsHolding_3 rfl (Nat.le_of_ble_eq_true rfl) rfl ?_
  exact pX1_spotsHolding_4 X r hr σ FU 0 0
theorem kX1_spotsHolding {l : Launch} {w : WE} (hok : OkW w shC) (r : Nat) (hr : isRm r)  (σ : Mem) : ∀ v, fX1_spotsHolding r σ = some v → Ctr l w shC yX1_spotsHolding cX1_spotsHolding 3 (some .int) 0 [.ref (wad w r)] σ ((iI σ) v) := fun v hv => Ctr.of [some (.ref (wad w r)), none, none] (by decide) hok rfl (Nat.le_of_ble_eq_true rfl) (fun M _ X => pX1_spotsHolding X r hr  σ v hv)
