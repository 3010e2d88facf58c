def fX6_stale_20 (x1 : Int32) (k20 : Int32 → Mem → Option (Int32 × Mem)) (x2 : Int32) (σ : Mem) : Option (Int32 × Mem) :=
  (if 60 < x2 then ((fX6_laysBack σ).bind fun s_47 => (bnd2 (fX6_orNone x2 s_47) fun v_52 s_52 => (some (v_52, s_52)))) else (bnd2 (fX6_laughAt_ x1 σ) fun v_28 s_28 => (if v_28 = 0 then ((fX6_laysBack s_28).bind fun s_47 => (bnd2 (fX6_orNone x2 s_47) fun v_52 s_52 => (some (v_52, s_52)))) else (bnd2 (fX6_tells x1 s_28) fun v_36 s_36 => (k20 (x2 + 1) s_36)))))
def fX6_stale (x1 : Int32) (σ : Mem) : Option (Int32 × Mem) :=
  (if fX6_isJoke x1 σ = true then ((fX6_lends σ).bind fun s_15 => (lw2 (fX6_stale_20 x1) FU 0 s_15)) else (bnd2 (fX6_finds 0 σ) fun v_10 s_10 => (some (v_10, s_10))))
set_option maxRecDepth 20000 in
theorem pX6_stale_20 {M : MC} {w : WE} (X : Cx M w shR cX6_stale 4 RX6 (some .int) 5)   (x1 : Int32)    : ∀ (n : Nat) (x2 : Int32) (σ : Mem), Cp M w shR 4 iIM 20 [some (.ref (wad w 0)), some (.int x1), some (.int x2), none] [] σ (lw2 (fX6_stale_20 x1) n x2 σ) :=
  lw2_i (P := fun x2 σ b => Cp M w shR 4 iIM 20 [some (.ref (wad w 0)), some (.int x1), some (.int x2), none] [] σ b) (fun _ _ => Cp.non) (fun k20 hk20 x2 σ => by
  unfold fX6_stale_20
  refine Cp.iload_n (i := 2) X dX6_stale_20 rfl rfl ?_
  refine Cp.bipush (v := 60) X dX6_stale_21 rfl ?_
  refine Cp.icmp_gt X 46 dX6_stale_23 (by decide) (fun c_23 => ?_) (fun c_23 => ?_)
  · refine Cp.aload_n (i := 0) X dX6_stale_46 rfl rfl ?_
    refine Cp.cVV [] X [] cvX6_laysBack (kX6_laysBack X.ok σ) sr_0 rfl rfl wmX6_183 rfl rfl dX6_stale_47 rfl (Nat.le_of_ble_eq_true rfl) (fun s_47 => ?_)
    refine Cp.aload_n (i := 0) X dX6_stale_50 rfl rfl ?_
    refine Cp.iload_n (i := 2) X dX6_stale_51 rfl rfl ?_
    refine Cp.cVIM [] X [.int x2] cvX6_orNone (kX6_orNone X.ok x2 s_47) sr_0 rfl rfl wmX6_189 rfl rfl dX6_stale_52 rfl (Nat.le_of_ble_eq_true rfl) (fun v_52 s_52 => ?_)
    exact Cp.iret X dX6_stale_55 rfl
  · refine Cp.aload_n (i := 0) X dX6_stale_26 rfl rfl ?_
    refine Cp.iload_n (i := 1) X dX6_stale_27 rfl rfl ?_
    refine Cp.cVIM [] X [.int x1] cvX6_laughAt_ (kX6_laughAt_ X.ok x1 σ) sr_0 rfl rfl wmX6_178 rfl rfl dX6_stale_28 rfl (Nat.le_of_ble_eq_true rfl) (fun v_28 s_28 => ?_)
    refine Cp.if_eq X 46 dX6_stale_31 (by decide) (fun c_31 => ?_) (fun c_31 => ?_)
    · refine Cp.aload_n (i := 0) X dX6_stale_46 rfl rfl ?_
      refine Cp.cVV [] X [] cvX6_laysBack (kX6_laysBack X.ok s_28) sr_0 rfl rfl wmX6_183 rfl rfl dX6_stale_47 rfl (Nat.le_of_ble_eq_true rfl) (fun s_47 => ?_)
      refine Cp.aload_n (i := 0) X dX6_stale_50 rfl rfl ?_
      refine Cp.iload_n (i := 2) X dX6_stale_51 rfl rfl ?_
      refine Cp.cVIM [] X [.int x2] cvX6_orNone (kX6_orNone X.ok x2 s_47) sr_0 rfl rfl wmX6_189 rfl rfl dX6_stale_52 rfl (Nat.le_of_ble_eq_true rfl) (fun v_52 s_52 => ?_)
      exact Cp.iret X dX6_stale_55 rfl
    · refine Cp.aload_n (i := 0) X dX6_stale_34 rfl rfl ?_
      refine Cp.iload_n (i := 1) X dX6_stale_35 rfl rfl ?_
      refine Cp.cVIM [] X [.int x1] cvX6_tells (kX6_tells X.ok x1 s_28) sr_0 rfl rfl wmX6_167 rfl rfl dX6_stale_36 rfl (Nat.le_of_ble_eq_true rfl) (fun v_36 s_36 => ?_)
      refine Cp.istore_n (i := 3) X dX6_stale_39 rfl (Nat.le_of_ble_eq_true rfl) rfl ?_
      refine Cp.iinc (v := x2 + 1) X dX6_stale_40 rfl rfl (Nat.le_of_ble_eq_true rfl) rfl ?_
      refine Cp.goto X 20 dX6_stale_43 (by decide) ?_
      refine Cp.mask [true, true, true, false] ?_
      exact hk20 (x2 + 1) s_36)
set_option maxRecDepth 20000 in
theorem pX6_stale {M : MC} {w : WE} (X : Cx M w shR cX6_stale 4 RX6 (some .int) 5)   (x1 : Int32) (σ : Mem) : Cp M w shR 4 iIM 0 [some (.ref (wad w 0)), some (.int x1), none, none] [] σ (fX6_stale x1 σ) := by
  unfold fX6_stale
  refine Cp.aload_n (i := 0) X dX6_stale_0 rfl rfl ?_
  refine Cp.iload_n (i := 1) X dX6_stale_1 rfl rfl ?_
  refine Cp.cVBT [] X [.int x1] cvX6_isJoke (kX6_isJoke X.ok x1 σ) sr_0 rfl rfl wmX6_138 rfl rfl dX6_stale_2 rfl (Nat.le_of_ble_eq_true rfl) ?_
  refine Cp.if_neB X 14 dX6_stale_5 (by decide) (fun c_5 => ?_) (fun c_5 => ?_)
  · refine Cp.aload_n (i := 0) X dX6_stale_14 rfl rfl ?_
    refine Cp.cVV [] X [] cvX6_lends (kX6_lends X.ok σ) sr_0 rfl rfl wmX6_180 rfl rfl dX6_stale_15 rfl (Nat.le_of_ble_eq_true rfl) (fun s_15 => ?_)
    refine Cp.iconst (v := 0) X dX6_stale_18 rfl ?_
    refine Cp.istore_n (i := 2) X dX6_stale_19 rfl (Nat.le_of_ble_eq_true rfl) rfl ?_
    exact pX6_stale_20 X x1 FU 0 s_15
  · refine Cp.aload_n (i := 0) X dX6_stale_8 rfl rfl ?_
    refine Cp.iconst (v := 0) X dX6_stale_9 rfl ?_
    refine Cp.cVIM [] X [.int 0] cvX6_finds (kX6_finds X.ok 0 σ) sr_0 rfl rfl wmX6_103 rfl rfl dX6_stale_10 rfl (Nat.le_of_ble_eq_true rfl) (fun v_10 s_10 => ?_)
    exact Cp.iret X dX6_stale_13 rfl
theorem kX6_stale {l : Launch} {w : WE} (hok : OkW w shR)   (x1 : Int32) (σ : Mem) : ∀ v, fX6_stale x1 σ = some v → Ctr l w shR yX6_stale cX6_stale 4 (some .int) 5 [.ref (wad w 0), .int x1] σ (iIM v) := fun v hv => Ctr.of [some (.ref (wad w 0)), some (.int x1), none, none] (by decide) hok rfl (Nat.le_of_ble_eq_true rfl) (fun M _ X => pX6_stale X   x1 σ v hv)
def fX6_broke_28 (x1 : Int32) (x2 : Int32) (k28 : Int32 → Mem → Option (Int32 × Mem)) (x3 : Int32) (σ : Mem) : Option (Int32 × Mem) :=
  (if 60 < x3 then ((fX6_laysBack σ).bind fun s_57 => (bnd2 (fX6_orNone x3 s_57) fun v_62 s_62 => (some (v_62, s_62)))) else ((fX6_its x2 4 σ).bind fun v_37 => (if v_37 ≤ 0 then ((fX6_laysBack σ).bind fun s_57 => (bnd2 (fX6_orNone x3 s_57) fun v_62 s_62 => (some (v_62, s_62)))) else (bnd2 (fX6_tells x1 σ) fun v_45 s_45 => (k28 (x3 + 1) s_45)))))
def fX6_broke (x1 : Int32) (x2 : Int32) (σ : Mem) : Option (Int32 × Mem) :=
  (if fX6_isJoke x1 σ = true then (if fX6_isPerson x2 σ = true then ((fX6_lends σ).bind fun s_23 => (lw2 (fX6_broke_28 x1 x2) FU 0 s_23)) else (bnd2 (fX6_finds 0 σ) fun v_18 s_18 => (some (v_18, s_18)))) else (bnd2 (fX6_finds 0 σ) fun v_18 s_18 => (some (v_18, s_18))))
set_option maxRecDepth 20000 in
theorem pX6_broke_28 {M : MC} {w : WE} (X : Cx M w shR cX6_broke 5 RX6 (some .int) 5)   (x1 : Int32) (x2 : Int32)    : ∀ (n : Nat) (x3 : Int32) (σ : Mem), Cp M w shR 5 iIM 28 [some (.ref (wad w 0)), some (.int x1), some (.int x2), some (.int x3), none] [] σ (lw2 (fX6_broke_28 x1 x2) n x3 σ) :=
  lw2_i (P := fun x3 σ b => Cp M w shR 5 iIM 28 [some (.ref (wad w 0)), some (.int x1), some (.int x2), some (.int x3), none] [] σ b) (fun _ _ => Cp.non) (fun k28 hk28 x3 σ => by
  unfold fX6_broke_28
  refine Cp.iload_n (i := 3) X dX6_broke_28 rfl rfl ?_
  refine Cp.bipush (v := 60) X dX6_broke_29 rfl ?_
  refine Cp.icmp_gt X 56 dX6_broke_31 (by decide) (fun c_31 => ?_) (fun c_31 => ?_)
  · refine Cp.aload_n (i := 0) X dX6_broke_56 rfl rfl ?_
    refine Cp.cVV [] X [] cvX6_laysBack (kX6_laysBack X.ok σ) sr_0 rfl rfl wmX6_183 rfl rfl dX6_broke_57 rfl (Nat.le_of_ble_eq_true rfl) (fun s_57 => ?_)
    refine Cp.aload_n (i := 0) X dX6_broke_60 rfl rfl ?_
    refine Cp.iload_n (i := 3) X dX6_broke_61 rfl rfl ?_
    refine Cp.cVIM [] X [.int x3] cvX6_orNone (kX6_orNone X.ok x3 s_57) sr_0 rfl rfl wmX6_189 rfl rfl dX6_broke_62 rfl (Nat.le_of_ble_eq_true rfl) (fun v_62 s_62 => ?_)
    exact Cp.iret X dX6_broke_65 rfl
  · refine Cp.aload_n (i := 0) X dX6_broke_34 rfl rfl ?_
    refine Cp.iload_n (i := 2) X dX6_broke_35 rfl rfl ?_
    refine Cp.iconst (v := 4) X dX6_broke_36 rfl ?_
    refine Cp.cVI [] X [.int x2, .int 4] cvX6_its (kX6_its X.ok x2 4 σ) sr_0 rfl rfl wmX6_64 rfl rfl dX6_broke_37 rfl (Nat.le_of_ble_eq_true rfl) (fun v_37 => ?_)
    refine Cp.if_le X 56 dX6_broke_40 (by decide) (fun c_40 => ?_) (fun c_40 => ?_)
    · refine Cp.aload_n (i := 0) X dX6_broke_56 rfl rfl ?_
      refine Cp.cVV [] X [] cvX6_laysBack (kX6_laysBack X.ok σ) sr_0 rfl rfl wmX6_183 rfl rfl dX6_broke_57 rfl (Nat.le_of_ble_eq_true rfl) (fun s_57 => ?_)
      refine Cp.aload_n (i := 0) X dX6_broke_60 rfl rfl ?_
      refine Cp.iload_n (i := 3) X dX6_broke_61 rfl rfl ?_
      refine Cp.cVIM [] X [.int x3] cvX6_orNone (kX6_orNone X.ok x3 s_57) sr_0 rfl rfl wmX6_189 rfl rfl dX6_broke_62 rfl (Nat.le_of_ble_eq_true rfl) (fun v_62 s_62 => ?_)
      exact Cp.iret X dX6_broke_65 rfl
    · refine Cp.aload_n (i := 0) X dX6_broke_43 rfl rfl ?_
      refine Cp.iload_n (i := 1) X dX6_broke_44 rfl rfl ?_
      refine Cp.cVIM [] X [.int x1] cvX6_tells (kX6_tells X.ok x1 σ) sr_0 rfl rfl wmX6_167 rfl rfl dX6_broke_45 rfl (Nat.le_of_ble_eq_true rfl) (fun v_45 s_45 => ?_)
      refine Cp.istore X dX6_broke_48 (Nat.le_of_ble_eq_true rfl) rfl ?_
      refine Cp.iinc (v := x3 + 1) X dX6_broke_50 rfl rfl (Nat.le_of_ble_eq_true rfl) rfl ?_
      refine Cp.goto X 28 dX6_broke_53 (by decide) ?_
      refine Cp.mask [true, true, true, true, false] ?_
      exact hk28 (x3 + 1) s_45)
set_option maxRecDepth 20000 in
theorem pX6_broke {M : MC} {w : WE} (X : Cx M w shR cX6_broke 5 RX6 (some .int) 5)   (x1 : Int32) (x2 : Int32) (σ : Mem) : Cp M w shR 5 iIM 0 [some (.ref (wad w 0)), some (.int x1), some (.int x2), none, none] [] σ (fX6_broke x1 x2 σ) := by
  unfold fX6_broke
  refine Cp.aload_n (i := 0) X dX6_broke_0 rfl rfl ?_
  refine Cp.iload_n (i := 1) X dX6_broke_1 rfl rfl ?_
  refine Cp.cVBT [] X [.int x1] cvX6_isJoke (kX6_isJoke X.ok x1 σ) sr_0 rfl rfl wmX6_138 rfl rfl dX6_broke_2 rfl (Nat.le_of_ble_eq_true rfl) ?_
  refine Cp.if_eqB X 16 dX6_broke_5 (by decide) (fun c_5 => ?_) (fun c_5 => ?_)
  · refine Cp.aload_n (i := 0) X dX6_broke_16 rfl rfl ?_
    refine Cp.iconst (v := 0) X dX6_broke_17 rfl ?_
    refine Cp.cVIM [] X [.int 0] cvX6_finds (kX6_finds X.ok 0 σ) sr_0 rfl rfl wmX6_103 rfl rfl dX6_broke_18 rfl (Nat.le_of_ble_eq_true rfl) (fun v_18 s_18 => ?_)
    exact Cp.iret X dX6_broke_21 rfl
  · refine Cp.aload_n (i := 0) X dX6_broke_8 rfl rfl ?_
    refine Cp.iload_n (i := 2) X dX6_broke_9 rfl rfl ?_
    refine Cp.cVBT [] X [.int x2] cvX6_isPerson (kX6_isPerson X.ok x2 σ) sr_0 rfl rfl wmX6_109 rfl rfl dX6_broke_10 rfl (Nat.le_of_ble_eq_true rfl) ?_
    refine Cp.if_neB X 22 dX6_broke_13 (by decide) (fun c_13 => ?_) (fun c_13 => ?_)
    · refine Cp.aload_n (i := 0) X dX6_broke_22 rfl rfl ?_
      refine Cp.cVV [] X [] cvX6_lends (kX6_lends X.ok σ) sr_0 rfl rfl wmX6_180 rfl rfl dX6_broke_23 rfl (Nat.le_of_ble_eq_true rfl) (fun s_23 => ?_)
      refine Cp.iconst (v := 0) X dX6_broke_26 rfl ?_
      refine Cp.istore_n (i := 3) X dX6_broke_27 rfl (Nat.le_of_ble_eq_true rfl) rfl ?_
      exact pX6_broke_28 X x1 x2 FU 0 s_23
    · refine Cp.aload_n (i := 0) X dX6_broke_16 rfl rfl ?_
      refine Cp.iconst (v := 0) X dX6_broke_17 rfl ?_
      refine Cp.cVIM [] X [.int 0] cvX6_finds (kX6_finds X.ok 0 σ) sr_0 rfl rfl wmX6_103 rfl rfl dX6_broke_18 rfl (Nat.le_of_ble_eq_true rfl) (fun v_18 s_18 => ?_)
      exact Cp.iret X dX6_broke_21 rfl
theorem kX6_broke {l : Launch} {w : WE} (hok : OkW w shR)   (x1 : Int32) (x2 : Int32) (σ : Mem) : ∀ v, fX6_broke x1 x2 σ = some v → Ctr l w shR yX6_broke cX6_broke 5 (some .int) 5 [.ref (wad w 0), .int x1, .int x2] σ (iIM v) := fun v hv => Ctr.of [some (.ref (wad w 0)), some (.int x1), some (.int x2), none, none] (by decide) hok rfl (Nat.le_of_ble_eq_true rfl) (fun M _ X => pX6_broke X   x1 x2 σ v hv)
def fX6_caught (x1 : Int32) (σ : Mem) : Option (Int32 × Mem) :=
  (if fX6_in ((x1 : Int32).toInt64) 0 ((fX6_everybody σ : Int32).toInt64) = true then (bnd2 (fX6_caughtFrom x1 (fX6_everybody σ) σ) fun v_20 s_20 => (some (v_20, s_20))) else (bnd2 (fX6_finds 0 σ) fun v_28 s_28 => (some (v_28, s_28))))
set_option maxRecDepth 20000 in
theorem pX6_caught {M : MC} {w : WE} (X : Cx M w shR cX6_caught 2 RX6 (some .int) 3)   (x1 : Int32) (σ : Mem) : Cp M w shR 2 iIM 0 [some (.ref (wad w 0)), some (.int x1)] [] σ (fX6_caught x1 σ) := by
  unfold fX6_caught
  refine Cp.iload_n (i := 1) X dX6_caught_0 rfl rfl ?_
  refine Cp.i2l X dX6_caught_1 ?_
  refine Cp.lconst (v := 0) X dX6_caught_2 rfl ?_
  refine Cp.aload_n (i := 0) X dX6_caught_3 rfl rfl ?_
  refine Cp.cVIT [.long 0, .long ((x1 : Int32).toInt64)] X [] cvX6_everybody (kX6_everybody X.ok σ) sr_0 rfl rfl wmX6_155 rfl rfl dX6_caught_4 rfl (Nat.le_of_ble_eq_true rfl) ?_
  refine Cp.i2l X dX6_caught_7 ?_
  refine Cp.cSBT [] X [.long ((x1 : Int32).toInt64), .long 0, .long ((fX6_everybody σ : Int32).toInt64)] csX6_in (kX6_in X.ok ((x1 : Int32).toInt64) 0 ((fX6_everybody σ : Int32).toInt64) σ) wmX6_48 rfl rfl dX6_caught_8 rfl (Nat.le_of_ble_eq_true rfl) ?_
  refine Cp.if_eqB X 26 dX6_caught_11 (by decide) (fun c_11 => ?_) (fun c_11 => ?_)
  · refine Cp.aload_n (i := 0) X dX6_caught_26 rfl rfl ?_
    refine Cp.iconst (v := 0) X dX6_caught_27 rfl ?_
    refine Cp.cVIM [] X [.int 0] cvX6_finds (kX6_finds X.ok 0 σ) sr_0 rfl rfl wmX6_103 rfl rfl dX6_caught_28 rfl (Nat.le_of_ble_eq_true rfl) (fun v_28 s_28 => ?_)
    exact Cp.iret X dX6_caught_31 rfl
  · refine Cp.aload_n (i := 0) X dX6_caught_14 rfl rfl ?_
    refine Cp.iload_n (i := 1) X dX6_caught_15 rfl rfl ?_
    refine Cp.aload_n (i := 0) X dX6_caught_16 rfl rfl ?_
    refine Cp.cVIT [.int x1, .ref (wad w 0)] X [] cvX6_everybody (kX6_everybody X.ok σ) sr_0 rfl rfl wmX6_155 rfl rfl dX6_caught_17 rfl (Nat.le_of_ble_eq_true rfl) ?_
    refine Cp.cVIM [] X [.int x1, .int (fX6_everybody σ)] cvX6_caughtFrom (kX6_caughtFrom X.ok x1 (fX6_everybody σ) σ) sr_0 rfl rfl wmX6_159 rfl rfl dX6_caught_20 rfl (Nat.le_of_ble_eq_true rfl) (fun v_20 s_20 => ?_)
    refine Cp.goto X 31 dX6_caught_23 (by decide) ?_
    exact Cp.iret X dX6_caught_31 rfl
theorem kX6_caught {l : Launch} {w : WE} (hok : OkW w shR)   (x1 : Int32) (σ : Mem) : ∀ v, fX6_caught x1 σ = some v → Ctr l w shR yX6_caught cX6_caught 2 (some .int) 3 [.ref (wad w 0), .int x1] σ (iIM v) := fun v hv => Ctr.of [some (.ref (wad w 0)), some (.int x1)] (by decide) hok rfl (Nat.le_of_ble_eq_true rfl) (fun M _ X => pX6_caught X   x1 σ v hv)
def fX6_starter_6 (k6 : Int32 → Int32 → Int32 → Mem → Option (Int32 × Mem)) (x1 : Int32) (x2 : Int32) (x3 : Int32) (σ : Mem) : Option (Int32 × Mem) :=
  (if (σ 1 5) ≤ x3 then (if 0 ≤ x1 then (some (x1, σ)) else (bnd2 (fX6_finds 3 σ) fun v_63 s_63 => (some (v_63, s_63)))) else (bnd2 (fX6_caughtFrom (1 <<< (x3 &&& 31)) (fX6_everybody σ) σ) fun v_24 s_24 => ((fX6_ones v_24).bind fun v_27 => (if v_27 ≤ x2 then (pb (iMax x2 v_27 : Int32) fun x2_50 => (k6 x1 x2_50 (x3 + 1) s_24)) else (pb (iMax x2 v_27 : Int32) fun x2_50 => (k6 x3 x2_50 (x3 + 1) s_24))))))
def fX6_starter  (σ : Mem) : Option (Int32 × Mem) :=
  (pb ((-1) : Int32) fun x1_1 => (lw4 (fX6_starter_6) FU x1_1 0 0 σ))
set_option maxRecDepth 20000 in
theorem pX6_starter_6 {M : MC} {w : WE} (X : Cx M w shR cX6_starter 5 RX6 (some .int) 3)       : ∀ (n : Nat) (x1 : Int32) (x2 : Int32) (x3 : Int32) (σ : Mem), Cp M w shR 5 iIM 6 [some (.ref (wad w 0)), some (.int x1), some (.int x2), some (.int x3), none] [] σ (lw4 (fX6_starter_6) n x1 x2 x3 σ) :=
  lw4_i (P := fun x1 x2 x3 σ b => Cp M w shR 5 iIM 6 [some (.ref (wad w 0)), some (.int x1), some (.int x2), some (.int x3), none] [] σ b) (fun _ _ _ _ => Cp.non) (fun k6 hk6 x1 x2 x3 σ => by
  unfold fX6_starter_6
  refine Cp.iload_n (i := 3) X dX6_starter_6 rfl rfl ?_
  refine Cp.aload_n (i := 0) X dX6_starter_7 rfl rfl ?_
  refine gfX6_9 X 1 sr_0 rfl dX6_starter_8 ?_
  refine Cp.iconst (v := 5) X dX6_starter_11 rfl ?_
  refine Cp.ialdc (j := 5) X sr_1 (by decide) (by decide) dX6_starter_12 ?_
  refine Cp.icmp_ge X 57 dX6_starter_13 (by decide) (fun c_13 => ?_) (fun c_13 => ?_)
  · refine Cp.iload_n (i := 1) X dX6_starter_57 rfl rfl ?_
    refine Cp.if_ge X 69 dX6_starter_58 (by decide) (fun c_58 => ?_) (fun c_58 => ?_)
    · refine Cp.iload_n (i := 1) X dX6_starter_69 rfl rfl ?_
      exact Cp.iret X dX6_starter_70 rfl
    · refine Cp.aload_n (i := 0) X dX6_starter_61 rfl rfl ?_
      refine Cp.iconst (v := 3) X dX6_starter_62 rfl ?_
      refine Cp.cVIM [] X [.int 3] cvX6_finds (kX6_finds X.ok 3 σ) sr_0 rfl rfl wmX6_103 rfl rfl dX6_starter_63 rfl (Nat.le_of_ble_eq_true rfl) (fun v_63 s_63 => ?_)
      refine Cp.goto X 70 dX6_starter_66 (by decide) ?_
      exact Cp.iret X dX6_starter_70 rfl
  · refine Cp.aload_n (i := 0) X dX6_starter_16 rfl rfl ?_
    refine Cp.iconst (v := 1) X dX6_starter_17 rfl ?_
    refine Cp.iload_n (i := 3) X dX6_starter_18 rfl rfl ?_
    refine Cp.ishl X dX6_starter_19 ?_
    refine Cp.aload_n (i := 0) X dX6_starter_20 rfl rfl ?_
    refine Cp.cVIT [.int (1 <<< (x3 &&& 31)), .ref (wad w 0)] X [] cvX6_everybody (kX6_everybody X.ok σ) sr_0 rfl rfl wmX6_155 rfl rfl dX6_starter_21 rfl (Nat.le_of_ble_eq_true rfl) ?_
    refine Cp.cVIM [] X [.int (1 <<< (x3 &&& 31)), .int (fX6_everybody σ)] cvX6_caughtFrom (kX6_caughtFrom X.ok (1 <<< (x3 &&& 31)) (fX6_everybody σ) σ) sr_0 rfl rfl wmX6_159 rfl rfl dX6_starter_24 rfl (Nat.le_of_ble_eq_true rfl) (fun v_24 s_24 => ?_)
    refine Cp.cSI [] X [.int v_24] csX6_ones (kX6_ones X.ok v_24 s_24) wmX6_76 rfl rfl dX6_starter_27 rfl (Nat.le_of_ble_eq_true rfl) (fun v_27 => ?_)
    refine Cp.istore X dX6_starter_30 (Nat.le_of_ble_eq_true rfl) rfl ?_
    refine Cp.iload X dX6_starter_32 rfl ?_
    refine Cp.iload_n (i := 2) X dX6_starter_34 rfl rfl ?_
    refine Cp.icmp_le X 42 dX6_starter_35 (by decide) (fun c_35 => ?_) (fun c_35 => ?_)
    · refine Cp.iload_n (i := 1) X dX6_starter_42 rfl rfl ?_
      refine Cp.istore_n (i := 1) X dX6_starter_43 rfl (Nat.le_of_ble_eq_true rfl) rfl ?_
      refine Cp.iload_n (i := 2) X dX6_starter_44 rfl rfl ?_
      refine Cp.iload X dX6_starter_45 rfl ?_
      refine Cp.mmax X wqX6_83 (by decide) dX6_starter_47 (Nat.le_of_ble_eq_true rfl) ?_
      refine Cp.nameI (fun x2_50 => ?_)
      refine Cp.istore_n (i := 2) X dX6_starter_50 rfl (Nat.le_of_ble_eq_true rfl) rfl ?_
      refine Cp.iinc (v := x3 + 1) X dX6_starter_51 rfl rfl (Nat.le_of_ble_eq_true rfl) rfl ?_
      refine Cp.goto X 6 dX6_starter_54 (by decide) ?_
      refine Cp.mask [true, true, true, true, false] ?_
      exact hk6 x1 x2_50 (x3 + 1) s_24
    · refine Cp.iload_n (i := 3) X dX6_starter_38 rfl rfl ?_
      refine Cp.goto X 43 dX6_starter_39 (by decide) ?_
      refine Cp.istore_n (i := 1) X dX6_starter_43 rfl (Nat.le_of_ble_eq_true rfl) rfl ?_
      refine Cp.iload_n (i := 2) X dX6_starter_44 rfl rfl ?_
      refine Cp.iload X dX6_starter_45 rfl ?_
      refine Cp.mmax X wqX6_83 (by decide) dX6_starter_47 (Nat.le_of_ble_eq_true rfl) ?_
      refine Cp.nameI (fun x2_50 => ?_)
      refine Cp.istore_n (i := 2) X dX6_starter_50 rfl (Nat.le_of_ble_eq_true rfl) rfl ?_
      refine Cp.iinc (v := x3 + 1) X dX6_starter_51 rfl rfl (Nat.le_of_ble_eq_true rfl) rfl ?_
      refine Cp.goto X 6 dX6_starter_54 (by decide) ?_
      refine Cp.mask [true, true, true, true, false] ?_
      exact hk6 x3 x2_50 (x3 + 1) s_24)
set_option maxRecDepth 20000 in
theorem pX6_starter {M : MC} {w : WE} (X : Cx M w shR cX6_starter 5 RX6 (some .int) 3)    (σ : Mem) : Cp M w shR 5 iIM 0 [some (.ref (wad w 0)), none, none, none, none] [] σ (fX6_starter σ) := by
  unfold fX6_starter
  refine Cp.iconst (v := (-1)) X dX6_starter_0 rfl ?_
  refine Cp.nameI (fun x1_1 => ?_)
  refine Cp.istore_n (i := 1) X dX6_starter_1 rfl (Nat.le_of_ble_eq_true rfl) rfl ?_
  refine Cp.iconst (v := 0) X dX6_starter_2 rfl ?_
  refine Cp.istore_n (i := 2) X dX6_starter_3 rfl (Nat.le_of_ble_eq_true rfl) rfl ?_
  refine Cp.iconst (v := 0) X dX6_starter_4 rfl ?_
  refine Cp.istore_n (i := 3) X dX6_starter_5 rfl (Nat.le_of_ble_eq_true rfl) rfl ?_
  exact pX6_starter_6 X FU x1_1 0 0 σ
theorem kX6_starter {l : Launch} {w : WE} (hok : OkW w shR)    (σ : Mem) : ∀ v, fX6_starter σ = some v → Ctr l w shR yX6_starter cX6_starter 5 (some .int) 3 [.ref (wad w 0)] σ (iIM v) := fun v hv => Ctr.of [some (.ref (wad w 0)), none, none, none, none] (by decide) hok rfl (Nat.le_of_ble_eq_true rfl) (fun M _ X => pX6_starter X    σ v hv)
def fX6_fewest_35 (k10 : Int32 → Int32 → Mem → Option (Int32 × Mem)) (x1 : Int32) (x2 : Int32) (t0 : Int32) (σ : Mem) : Option (Int32 × Mem) :=
  (if t0 = 0 then (k10 x1 (x2 + (-1)) σ) else ((fX6_ones x2).bind fun v_41 => ((fX6_ones x1).bind fun v_45 => (if v_45 < v_41 then (k10 x1 (x2 + (-1)) σ) else (k10 x2 (x2 + (-1)) σ)))))
def fX6_fewest_10 (k10 : Int32 → Int32 → Mem → Option (Int32 × Mem)) (x1 : Int32) (x2 : Int32) (σ : Mem) : Option (Int32 × Mem) :=
  (if x2 < 0 then (some (x1, σ)) else (bnd2 (fX6_caughtFrom x2 (fX6_everybody σ) σ) fun v_20 s_20 => (if v_20 = (fX6_everybody s_20) then (fX6_fewest_35 k10 x1 x2 1 s_20) else (fX6_fewest_35 k10 x1 x2 0 s_20))))
def fX6_fewest  (σ : Mem) : Option (Int32 × Mem) :=
  (pb (fX6_everybody σ : Int32) fun x1_4 => (pb (fX6_everybody σ : Int32) fun x2_9 => (lw3 (fX6_fewest_10) FU x1_4 x2_9 σ)))
set_option maxRecDepth 20000 in
theorem pX6_fewest_35 {M : MC} {w : WE} (X : Cx M w shR cX6_fewest 4 RX6 (some .int) 3)   (x1 : Int32) (x2 : Int32) (t0 : Int32)  (σ : Mem) (k10 : Int32 → Int32 → Mem → Option (Int32 × Mem)) (hk10 : ∀ (x1 : Int32) (x2 : Int32) (σ : Mem), Cp M w shR 4 iIM 10 [some (.ref (wad w 0)), some (.int x1), some (.int x2), none] [] σ (k10 x1 x2 σ)) : Cp M w shR 4 iIM 35 [some (.ref (wad w 0)), some (.int x1), some (.int x2), none] [.int t0] σ (fX6_fewest_35 k10 x1 x2 t0 σ) := by
  unfold fX6_fewest_35
  refine Cp.istore_n (i := 3) X dX6_fewest_35 rfl (Nat.le_of_ble_eq_true rfl) rfl ?_
  refine Cp.iload_n (i := 3) X dX6_fewest_36 rfl rfl ?_
  refine Cp.if_eq X 55 dX6_fewest_37 (by decide) (fun c_37 => ?_) (fun c_37 => ?_)
  · refine Cp.iload_n (i := 1) X dX6_fewest_55 rfl rfl ?_
    refine Cp.istore_n (i := 1) X dX6_fewest_56 rfl (Nat.le_of_ble_eq_true rfl) rfl ?_
    refine Cp.iinc (v := x2 + (-1)) X dX6_fewest_57 rfl rfl (Nat.le_of_ble_eq_true rfl) rfl ?_
    refine Cp.goto X 10 dX6_fewest_60 (by decide) ?_
    refine Cp.mask [true, true, true, false] ?_
    exact hk10 x1 (x2 + (-1)) σ
  · refine Cp.iload_n (i := 2) X dX6_fewest_40 rfl rfl ?_
    refine Cp.cSI [] X [.int x2] csX6_ones (kX6_ones X.ok x2 σ) wmX6_76 rfl rfl dX6_fewest_41 rfl (Nat.le_of_ble_eq_true rfl) (fun v_41 => ?_)
    refine Cp.iload_n (i := 1) X dX6_fewest_44 rfl rfl ?_
    refine Cp.cSI [.int v_41] X [.int x1] csX6_ones (kX6_ones X.ok x1 σ) wmX6_76 rfl rfl dX6_fewest_45 rfl (Nat.le_of_ble_eq_true rfl) (fun v_45 => ?_)
    refine Cp.icmp_gt X 55 dX6_fewest_48 (by decide) (fun c_48 => ?_) (fun c_48 => ?_)
    · refine Cp.iload_n (i := 1) X dX6_fewest_55 rfl rfl ?_
      refine Cp.istore_n (i := 1) X dX6_fewest_56 rfl (Nat.le_of_ble_eq_true rfl) rfl ?_
      refine Cp.iinc (v := x2 + (-1)) X dX6_fewest_57 rfl rfl (Nat.le_of_ble_eq_true rfl) rfl ?_
      refine Cp.goto X 10 dX6_fewest_60 (by decide) ?_
      refine Cp.mask [true, true, true, false] ?_
      exact hk10 x1 (x2 + (-1)) σ
    · refine Cp.iload_n (i := 2) X dX6_fewest_51 rfl rfl ?_
      refine Cp.goto X 56 dX6_fewest_52 (by decide) ?_
      refine Cp.istore_n (i := 1) X dX6_fewest_56 rfl (Nat.le_of_ble_eq_true rfl) rfl ?_
      refine Cp.iinc (v := x2 + (-1)) X dX6_fewest_57 rfl rfl (Nat.le_of_ble_eq_true rfl) rfl ?_
      refine Cp.goto X 10 dX6_fewest_60 (by decide) ?_
      refine Cp.mask [true, true, true, false] ?_
      exact hk10 x2 (x2 + (-1)) σ
set_option maxRecDepth 20000 in
theorem pX6_fewest_10 {M : MC} {w : WE} (X : Cx M w shR cX6_fewest 4 RX6 (some .int) 3)       : ∀ (n : Nat) (x1 : Int32) (x2 : Int32) (σ : Mem), Cp M w shR 4 iIM 10 [some (.ref (wad w 0)), some (.int x1), some (.int x2), none] [] σ (lw3 (fX6_fewest_10) n x1 x2 σ) :=
  lw3_i (P := fun x1 x2 σ b => Cp M w shR 4 iIM 10 [some (.ref (wad w 0)), some (.int x1), some (.int x2), none] [] σ b) (fun _ _ _ => Cp.non) (fun k10 hk10 x1 x2 σ => by
  unfold fX6_fewest_10
  refine Cp.iload_n (i := 2) X dX6_fewest_10 rfl rfl ?_
  refine Cp.if_lt X 63 dX6_fewest_11 (by decide) (fun c_11 => ?_) (fun c_11 => ?_)
  · refine Cp.iload_n (i := 1) X dX6_fewest_63 rfl rfl ?_
    exact Cp.iret X dX6_fewest_64 rfl
  · refine Cp.aload_n (i := 0) X dX6_fewest_14 rfl rfl ?_
    refine Cp.iload_n (i := 2) X dX6_fewest_15 rfl rfl ?_
    refine Cp.aload_n (i := 0) X dX6_fewest_16 rfl rfl ?_
    refine Cp.cVIT [.int x2, .ref (wad w 0)] X [] cvX6_everybody (kX6_everybody X.ok σ) sr_0 rfl rfl wmX6_155 rfl rfl dX6_fewest_17 rfl (Nat.le_of_ble_eq_true rfl) ?_
    refine Cp.cVIM [] X [.int x2, .int (fX6_everybody σ)] cvX6_caughtFrom (kX6_caughtFrom X.ok x2 (fX6_everybody σ) σ) sr_0 rfl rfl wmX6_159 rfl rfl dX6_fewest_20 rfl (Nat.le_of_ble_eq_true rfl) (fun v_20 s_20 => ?_)
    refine Cp.aload_n (i := 0) X dX6_fewest_23 rfl rfl ?_
    refine Cp.cVIT [.int v_20] X [] cvX6_everybody (kX6_everybody X.ok s_20) sr_0 rfl rfl wmX6_155 rfl rfl dX6_fewest_24 rfl (Nat.le_of_ble_eq_true rfl) ?_
    refine Cp.icmp_ne X 34 dX6_fewest_27 (by decide) (fun c_27 => ?_) (fun c_27 => ?_)
    · refine Cp.iconst (v := 0) X dX6_fewest_34 rfl ?_
      exact pX6_fewest_35 X x1 x2 0 s_20 k10 hk10
    · refine Cp.iconst (v := 1) X dX6_fewest_30 rfl ?_
      refine Cp.goto X 35 dX6_fewest_31 (by decide) ?_
      exact pX6_fewest_35 X x1 x2 1 s_20 k10 hk10)
set_option maxRecDepth 20000 in
theorem pX6_fewest {M : MC} {w : WE} (X : Cx M w shR cX6_fewest 4 RX6 (some .int) 3)    (σ : Mem) : Cp M w shR 4 iIM 0 [some (.ref (wad w 0)), none, none, none] [] σ (fX6_fewest σ) := by
  unfold fX6_fewest
  refine Cp.aload_n (i := 0) X dX6_fewest_0 rfl rfl ?_
  refine Cp.cVIT [] X [] cvX6_everybody (kX6_everybody X.ok σ) sr_0 rfl rfl wmX6_155 rfl rfl dX6_fewest_1 rfl (Nat.le_of_ble_eq_true rfl) ?_
  refine Cp.nameI (fun x1_4 => ?_)
  refine Cp.istore_n (i := 1) X dX6_fewest_4 rfl (Nat.le_of_ble_eq_true rfl) rfl ?_
  refine Cp.aload_n (i := 0) X dX6_fewest_5 rfl rfl ?_
  refine Cp.cVIT [] X [] cvX6_everybody (kX6_everybody X.ok σ) sr_0 rfl rfl wmX6_155 rfl rfl dX6_fewest_6 rfl (Nat.le_of_ble_eq_true rfl) ?_
  refine Cp.nameI (fun x2_9 => ?_)
  refine Cp.istore_n (i := 2) X dX6_fewest_9 rfl (Nat.le_of_ble_eq_true rfl) rfl ?_
  exact pX6_fewest_10 X FU x1_4 x2_9 σ
theorem kX6_fewest {l : Launch} {w : WE} (hok : OkW w shR)    (σ : Mem) : ∀ v, fX6_fewest σ = some v → Ctr l w shR yX6_fewest cX6_fewest 4 (some .int) 3 [.ref (wad w 0)] σ (iIM v) := fun v hv => Ctr.of [some (.ref (wad w 0)), none, none, none] (by decide) hok rfl (Nat.le_of_ble_eq_true rfl) (fun M _ X => pX6_fewest X    σ v hv)
def fX6_leftWithout (x1 : Int32) (x2 : Int32) (σ : Mem) : Option (Int32 × Mem) :=
  (bnd2 (fX6_caughtFrom x2 ((fX6_everybody σ) &&& (x1 ^^^ (-1))) σ) fun v_10 s_10 => (some (v_10, s_10)))
set_option maxRecDepth 20000 in
theorem pX6_leftWithout {M : MC} {w : WE} (X : Cx M w shR cX6_leftWithout 3 RX6 (some .int) 3)   (x1 : Int32) (x2 : Int32) (σ : Mem) : Cp M w shR 3 iIM 0 [some (.ref (wad w 0)), some (.int x1), some (.int x2)] [] σ (fX6_leftWithout x1 x2 σ) := by
  unfold fX6_leftWithout
  refine Cp.aload_n (i := 0) X dX6_leftWithout_0 rfl rfl ?_
  refine Cp.iload_n (i := 2) X dX6_leftWithout_1 rfl rfl ?_
  refine Cp.aload_n (i := 0) X dX6_leftWithout_2 rfl rfl ?_
  refine Cp.cVIT [.int x2, .ref (wad w 0)] X [] cvX6_everybody (kX6_everybody X.ok σ) sr_0 rfl rfl wmX6_155 rfl rfl dX6_leftWithout_3 rfl (Nat.le_of_ble_eq_true rfl) ?_
  refine Cp.iload_n (i := 1) X dX6_leftWithout_6 rfl rfl ?_
  refine Cp.iconst (v := (-1)) X dX6_leftWithout_7 rfl ?_
  refine Cp.ixor X dX6_leftWithout_8 ?_
  refine Cp.iand X dX6_leftWithout_9 ?_
  refine Cp.cVIM [] X [.int x2, .int ((fX6_everybody σ) &&& (x1 ^^^ (-1)))] cvX6_caughtFrom (kX6_caughtFrom X.ok x2 ((fX6_everybody σ) &&& (x1 ^^^ (-1))) σ) sr_0 rfl rfl wmX6_159 rfl rfl dX6_leftWithout_10 rfl (Nat.le_of_ble_eq_true rfl) (fun v_10 s_10 => ?_)
  exact Cp.iret X dX6_leftWithout_13 rfl
theorem kX6_leftWithout {l : Launch} {w : WE} (hok : OkW w shR)   (x1 : Int32) (x2 : Int32) (σ : Mem) : ∀ v, fX6_leftWithout x1 x2 σ = some v → Ctr l w shR yX6_leftWithout cX6_leftWithout 3 (some .int) 3 [.ref (wad w 0), .int x1, .int x2] σ (iIM v) := fun v hv => Ctr.of [some (.ref (wad w 0)), some (.int x1), some (.int x2)] (by decide) hok rfl (Nat.le_of_ble_eq_true rfl) (fun M _ X => pX6_leftWithout X   x1 x2 σ v hv)
def fX6_away_67 (x2 : Int32) (x3 : Int32) (k67 : Int32 → Int32 → Mem → Option (Int32 × Mem)) (x4 : Int32) (x5 : Int32) (σ : Mem) : Option (Int32 × Mem) :=
  (if x5 < 0 then (some (x4, σ)) else (bnd2 (fX6_leftWithout x5 x3 σ) fun v_76 s_76 => ((fX6_ones v_76).bind fun v_79 => (if x2 < v_79 then (k67 x4 (x5 + (-1)) s_76) else ((fX6_ones x5).bind fun v_88 => ((fX6_ones x4).bind fun v_93 => (if v_93 < v_88 then (k67 x4 (x5 + (-1)) s_76) else (k67 x5 (x5 + (-1)) s_76))))))))
def fX6_away (x1 : Int32) (x2 : Int32) (σ : Mem) : Option (Int32 × Mem) :=
  (if fX6_isJoke x1 σ = true then (if fX6_in ((x2 : Int32).toInt64) 0 8 = true then (gd (inB (7 + (2 * x1)) 73 = true) (gd (inB ((7 + (2 * x1)) + 1) 73 = true) ((fX6_byThemselves (σ 1 (7 + (2 * x1)).toNatClampNeg) (σ 1 ((7 + (2 * x1)) + 1).toNatClampNeg) σ).bind fun v_51 => (pb (fX6_everybody σ : Int32) fun x4_59 => (pb (fX6_everybody σ : Int32) fun x5_65 => (lw3 (fX6_away_67 x2 v_51) FU x4_59 x5_65 σ)))))) else (bnd2 (fX6_finds 0 σ) fun v_22 s_22 => (some (v_22, s_22)))) else (bnd2 (fX6_finds 0 σ) fun v_22 s_22 => (some (v_22, s_22))))
set_option maxRecDepth 20000 in
theorem pX6_away_67 {M : MC} {w : WE} (X : Cx M w shR cX6_away 6 RX6 (some .int) 4)   (x2 : Int32) (x3 : Int32)    : ∀ (n : Nat) (x4 : Int32) (x5 : Int32) (σ : Mem), Cp M w shR 6 iIM 67 [some (.ref (wad w 0)), none, some (.int x2), some (.int x3), some (.int x4), some (.int x5)] [] σ (lw3 (fX6_away_67 x2 x3) n x4 x5 σ) :=
  lw3_i (P := fun x4 x5 σ b => Cp M w shR 6 iIM 67 [some (.ref (wad w 0)), none, some (.int x2), some (.int x3), some (.int x4), some (.int x5)] [] σ b) (fun _ _ _ => Cp.non) (fun k67 hk67 x4 x5 σ => by
  unfold fX6_away_67
  refine Cp.iload X dX6_away_67 rfl ?_
  refine Cp.if_lt X 114 dX6_away_69 (by decide) (fun c_69 => ?_) (fun c_69 => ?_)
  · refine Cp.iload X dX6_away_114 rfl ?_
    exact Cp.iret X dX6_away_116 rfl
  · refine Cp.aload_n (i := 0) X dX6_away_72 rfl rfl ?_
    refine Cp.iload X dX6_away_73 rfl ?_
    refine Cp.iload_n (i := 3) X dX6_away_75 rfl rfl ?_
    refine Cp.cVIM [] X [.int x5, .int x3] cvX6_leftWithout (kX6_leftWithout X.ok x5 x3 σ) sr_0 rfl rfl wmX6_194 rfl rfl dX6_away_76 rfl (Nat.le_of_ble_eq_true rfl) (fun v_76 s_76 => ?_)
    refine Cp.cSI [] X [.int v_76] csX6_ones (kX6_ones X.ok v_76 s_76) wmX6_76 rfl rfl dX6_away_79 rfl (Nat.le_of_ble_eq_true rfl) (fun v_79 => ?_)
    refine Cp.iload_n (i := 2) X dX6_away_82 rfl rfl ?_
    refine Cp.icmp_gt X 104 dX6_away_83 (by decide) (fun c_83 => ?_) (fun c_83 => ?_)
    · refine Cp.iload X dX6_away_104 rfl ?_
      refine Cp.istore X dX6_away_106 (Nat.le_of_ble_eq_true rfl) rfl ?_
      refine Cp.iinc (v := x5 + (-1)) X dX6_away_108 rfl rfl (Nat.le_of_ble_eq_true rfl) rfl ?_
      refine Cp.goto X 67 dX6_away_111 (by decide) ?_
      exact hk67 x4 (x5 + (-1)) s_76
    · refine Cp.iload X dX6_away_86 rfl ?_
      refine Cp.cSI [] X [.int x5] csX6_ones (kX6_ones X.ok x5 s_76) wmX6_76 rfl rfl dX6_away_88 rfl (Nat.le_of_ble_eq_true rfl) (fun v_88 => ?_)
      refine Cp.iload X dX6_away_91 rfl ?_
      refine Cp.cSI [.int v_88] X [.int x4] csX6_ones (kX6_ones X.ok x4 s_76) wmX6_76 rfl rfl dX6_away_93 rfl (Nat.le_of_ble_eq_true rfl) (fun v_93 => ?_)
      refine Cp.icmp_gt X 104 dX6_away_96 (by decide) (fun c_96 => ?_) (fun c_96 => ?_)
      · refine Cp.iload X dX6_away_104 rfl ?_
        refine Cp.istore X dX6_away_106 (Nat.le_of_ble_eq_true rfl) rfl ?_
        refine Cp.iinc (v := x5 + (-1)) X dX6_away_108 rfl rfl (Nat.le_of_ble_eq_true rfl) rfl ?_
        refine Cp.goto X 67 dX6_away_111 (by decide) ?_
        exact hk67 x4 (x5 + (-1)) s_76
      · refine Cp.iload X dX6_away_99 rfl ?_
        refine Cp.goto X 106 dX6_away_101 (by decide) ?_
        refine Cp.istore X dX6_away_106 (Nat.le_of_ble_eq_true rfl) rfl ?_
        refine Cp.iinc (v := x5 + (-1)) X dX6_away_108 rfl rfl (Nat.le_of_ble_eq_true rfl) rfl ?_
        refine Cp.goto X 67 dX6_away_111 (by decide) ?_
        exact hk67 x5 (x5 + (-1)) s_76)
set_option maxRecDepth 20000 in
theorem pX6_away {M : MC} {w : WE} (X : Cx M w shR cX6_away 6 RX6 (some .int) 4)   (x1 : Int32) (x2 : Int32) (σ : Mem) : Cp M w shR 6 iIM 0 [some (.ref (wad w 0)), some (.int x1), some (.int x2), none, none, none] [] σ (fX6_away x1 x2 σ) := by
  unfold fX6_away
  refine Cp.aload_n (i := 0) X dX6_away_0 rfl rfl ?_
  refine Cp.iload_n (i := 1) X dX6_away_1 rfl rfl ?_
  refine Cp.cVBT [] X [.int x1] cvX6_isJoke (kX6_isJoke X.ok x1 σ) sr_0 rfl rfl wmX6_138 rfl rfl dX6_away_2 rfl (Nat.le_of_ble_eq_true rfl) ?_
  refine Cp.if_eqB X 20 dX6_away_5 (by decide) (fun c_5 => ?_) (fun c_5 => ?_)
  · refine Cp.aload_n (i := 0) X dX6_away_20 rfl rfl ?_
    refine Cp.iconst (v := 0) X dX6_away_21 rfl ?_
    refine Cp.cVIM [] X [.int 0] cvX6_finds (kX6_finds X.ok 0 σ) sr_0 rfl rfl wmX6_103 rfl rfl dX6_away_22 rfl (Nat.le_of_ble_eq_true rfl) (fun v_22 s_22 => ?_)
    exact Cp.iret X dX6_away_25 rfl
  · refine Cp.iload_n (i := 2) X dX6_away_8 rfl rfl ?_
    refine Cp.i2l X dX6_away_9 ?_
    refine Cp.lconst (v := 0) X dX6_away_10 rfl ?_
    refine Cp.ldc2 (v := 8) X wcX6_192 dX6_away_11 ?_
    refine Cp.cSBT [] X [.long ((x2 : Int32).toInt64), .long 0, .long 8] csX6_in (kX6_in X.ok ((x2 : Int32).toInt64) 0 8 σ) wmX6_48 rfl rfl dX6_away_14 rfl (Nat.le_of_ble_eq_true rfl) ?_
    refine Cp.if_neB X 26 dX6_away_17 (by decide) (fun c_17 => ?_) (fun c_17 => ?_)
    · refine Cp.aload_n (i := 0) X dX6_away_26 rfl rfl ?_
      refine Cp.aload_n (i := 0) X dX6_away_27 rfl rfl ?_
      refine gfX6_9 X 1 sr_0 rfl dX6_away_28 ?_
      refine Cp.bipush (v := 7) X dX6_away_31 rfl ?_
      refine Cp.iconst (v := 2) X dX6_away_33 rfl ?_
      refine Cp.iload_n (i := 1) X dX6_away_34 rfl rfl ?_
      refine Cp.imul X dX6_away_35 ?_
      refine Cp.iadd X dX6_away_36 ?_
      refine Cp.iald X sr_1 dX6_away_37 ?_
      refine Cp.aload_n (i := 0) X dX6_away_38 rfl rfl ?_
      refine gfX6_9 X 1 sr_0 rfl dX6_away_39 ?_
      refine Cp.bipush (v := 7) X dX6_away_42 rfl ?_
      refine Cp.iconst (v := 2) X dX6_away_44 rfl ?_
      refine Cp.iload_n (i := 1) X dX6_away_45 rfl rfl ?_
      refine Cp.imul X dX6_away_46 ?_
      refine Cp.iadd X dX6_away_47 ?_
      refine Cp.iconst (v := 1) X dX6_away_48 rfl ?_
      refine Cp.iadd X dX6_away_49 ?_
      refine Cp.iald X sr_1 dX6_away_50 ?_
      refine Cp.cVI [] X [.int (σ 1 (7 + (2 * x1)).toNatClampNeg), .int (σ 1 ((7 + (2 * x1)) + 1).toNatClampNeg)] cvX6_byThemselves (kX6_byThemselves X.ok (σ 1 (7 + (2 * x1)).toNatClampNeg) (σ 1 ((7 + (2 * x1)) + 1).toNatClampNeg) σ) sr_0 rfl rfl wmX6_152 rfl rfl dX6_away_51 rfl (Nat.le_of_ble_eq_true rfl) (fun v_51 => ?_)
      refine Cp.istore_n (i := 3) X dX6_away_54 rfl (Nat.le_of_ble_eq_true rfl) rfl ?_
      refine Cp.aload_n (i := 0) X dX6_away_55 rfl rfl ?_
      refine Cp.cVIT [] X [] cvX6_everybody (kX6_everybody X.ok σ) sr_0 rfl rfl wmX6_155 rfl rfl dX6_away_56 rfl (Nat.le_of_ble_eq_true rfl) ?_
      refine Cp.nameI (fun x4_59 => ?_)
      refine Cp.istore X dX6_away_59 (Nat.le_of_ble_eq_true rfl) rfl ?_
      refine Cp.aload_n (i := 0) X dX6_away_61 rfl rfl ?_
      refine Cp.cVIT [] X [] cvX6_everybody (kX6_everybody X.ok σ) sr_0 rfl rfl wmX6_155 rfl rfl dX6_away_62 rfl (Nat.le_of_ble_eq_true rfl) ?_
      refine Cp.nameI (fun x5_65 => ?_)
      refine Cp.istore X dX6_away_65 (Nat.le_of_ble_eq_true rfl) rfl ?_
      refine Cp.mask [true, false, true, true, true, true] ?_
      exact pX6_away_67 X x2 v_51 FU x4_59 x5_65 σ
    · refine Cp.aload_n (i := 0) X dX6_away_20 rfl rfl ?_
      refine Cp.iconst (v := 0) X dX6_away_21 rfl ?_
      refine Cp.cVIM [] X [.int 0] cvX6_finds (kX6_finds X.ok 0 σ) sr_0 rfl rfl wmX6_103 rfl rfl dX6_away_22 rfl (Nat.le_of_ble_eq_true rfl) (fun v_22 s_22 => ?_)
      exact Cp.iret X dX6_away_25 rfl
theorem kX6_away {l : Launch} {w : WE} (hok : OkW w shR)   (x1 : Int32) (x2 : Int32) (σ : Mem) : ∀ v, fX6_away x1 x2 σ = some v → Ctr l w shR yX6_away cX6_away 6 (some .int) 4 [.ref (wad w 0), .int x1, .int x2] σ (iIM v) := fun v hv => Ctr.of [some (.ref (wad w 0)), some (.int x1), some (.int x2), none, none, none] (by decide) hok rfl (Nat.le_of_ble_eq_true rfl) (fun M _ X => pX6_away X   x1 x2 σ v hv)
def fX6_seatFor_38 (x1 : Int32) (x2 : Int32) (x3 : Int32) (k38 : Int32 → Int32 → Int32 → Mem → Option (Int32 × Mem)) (x4 : Int32) (x5 : Int32) (x6 : Int32) (σ : Mem) : Option (Int32 × Mem) :=
  (if 16 ≤ x6 then ((fX6_sets x1 1 x3 σ).bind fun s_93 => (some (x4, s_93))) else ((fX6_sets x1 1 x6 σ).bind fun s_50 => (bnd2 (fX6_laughAt_ x2 s_50) fun v_55 s_55 => ((fX6_ones v_55).bind fun v_58 => (if x4 < 0 then (k38 x6 v_58 (x6 + 1) s_55) else (if x5 ≤ v_58 then (k38 x4 x5 (x6 + 1) s_55) else (k38 x6 v_58 (x6 + 1) s_55)))))))
def fX6_seatFor (x1 : Int32) (x2 : Int32) (σ : Mem) : Option (Int32 × Mem) :=
  (if fX6_isPerson x1 σ = true then (if fX6_isJoke x2 σ = true then ((fX6_its x1 1 σ).bind fun v_25 => (pb ((-1) : Int32) fun x4_30 => (lw4 (fX6_seatFor_38 x1 x2 v_25) FU x4_30 0 0 σ))) else (bnd2 (fX6_finds 0 σ) fun v_18 s_18 => (some (v_18, s_18)))) else (bnd2 (fX6_finds 0 σ) fun v_18 s_18 => (some (v_18, s_18))))
set_option maxRecDepth 20000 in
theorem pX6_seatFor_38 {M : MC} {w : WE} (X : Cx M w shR cX6_seatFor 8 RX6 (some .int) 5)   (x1 : Int32) (x2 : Int32) (x3 : Int32)    : ∀ (n : Nat) (x4 : Int32) (x5 : Int32) (x6 : Int32) (σ : Mem), Cp M w shR 8 iIM 38 [some (.ref (wad w 0)), some (.int x1), some (.int x2), some (.int x3), some (.int x4), some (.int x5), some (.int x6), none] [] σ (lw4 (fX6_seatFor_38 x1 x2 x3) n x4 x5 x6 σ) :=
  lw4_i (P := fun x4 x5 x6 σ b => Cp M w shR 8 iIM 38 [some (.ref (wad w 0)), some (.int x1), some (.int x2), some (.int x3), some (.int x4), some (.int x5), some (.int x6), none] [] σ b) (fun _ _ _ _ => Cp.non) (fun k38 hk38 x4 x5 x6 σ => by
  unfold fX6_seatFor_38
  refine Cp.iload X dX6_seatFor_38 rfl ?_
  refine Cp.bipush (v := 16) X dX6_seatFor_40 rfl ?_
  refine Cp.icmp_ge X 89 dX6_seatFor_42 (by decide) (fun c_42 => ?_) (fun c_42 => ?_)
  · refine Cp.aload_n (i := 0) X dX6_seatFor_89 rfl rfl ?_
    refine Cp.iload_n (i := 1) X dX6_seatFor_90 rfl rfl ?_
    refine Cp.iconst (v := 1) X dX6_seatFor_91 rfl ?_
    refine Cp.iload_n (i := 3) X dX6_seatFor_92 rfl rfl ?_
    refine Cp.cVV [] X [.int x1, .int 1, .int x3] cvX6_sets (kX6_sets X.ok x1 1 x3 σ) sr_0 rfl rfl wmX6_92 rfl rfl dX6_seatFor_93 rfl (Nat.le_of_ble_eq_true rfl) (fun s_93 => ?_)
    refine Cp.iload X dX6_seatFor_96 rfl ?_
    exact Cp.iret X dX6_seatFor_98 rfl
  · refine Cp.aload_n (i := 0) X dX6_seatFor_45 rfl rfl ?_
    refine Cp.iload_n (i := 1) X dX6_seatFor_46 rfl rfl ?_
    refine Cp.iconst (v := 1) X dX6_seatFor_47 rfl ?_
    refine Cp.iload X dX6_seatFor_48 rfl ?_
    refine Cp.cVV [] X [.int x1, .int 1, .int x6] cvX6_sets (kX6_sets X.ok x1 1 x6 σ) sr_0 rfl rfl wmX6_92 rfl rfl dX6_seatFor_50 rfl (Nat.le_of_ble_eq_true rfl) (fun s_50 => ?_)
    refine Cp.aload_n (i := 0) X dX6_seatFor_53 rfl rfl ?_
    refine Cp.iload_n (i := 2) X dX6_seatFor_54 rfl rfl ?_
    refine Cp.cVIM [] X [.int x2] cvX6_laughAt_ (kX6_laughAt_ X.ok x2 s_50) sr_0 rfl rfl wmX6_178 rfl rfl dX6_seatFor_55 rfl (Nat.le_of_ble_eq_true rfl) (fun v_55 s_55 => ?_)
    refine Cp.cSI [] X [.int v_55] csX6_ones (kX6_ones X.ok v_55 s_55) wmX6_76 rfl rfl dX6_seatFor_58 rfl (Nat.le_of_ble_eq_true rfl) (fun v_58 => ?_)
    refine Cp.istore X dX6_seatFor_61 (Nat.le_of_ble_eq_true rfl) rfl ?_
    refine Cp.iload X dX6_seatFor_63 rfl ?_
    refine Cp.if_lt X 75 dX6_seatFor_65 (by decide) (fun c_65 => ?_) (fun c_65 => ?_)
    · refine Cp.iload X dX6_seatFor_75 rfl ?_
      refine Cp.istore X dX6_seatFor_77 (Nat.le_of_ble_eq_true rfl) rfl ?_
      refine Cp.iload X dX6_seatFor_79 rfl ?_
      refine Cp.istore X dX6_seatFor_81 (Nat.le_of_ble_eq_true rfl) rfl ?_
      refine Cp.iinc (v := x6 + 1) X dX6_seatFor_83 rfl rfl (Nat.le_of_ble_eq_true rfl) rfl ?_
      refine Cp.goto X 38 dX6_seatFor_86 (by decide) ?_
      refine Cp.mask [true, true, true, true, true, true, true, false] ?_
      exact hk38 x6 v_58 (x6 + 1) s_55
    · refine Cp.iload X dX6_seatFor_68 rfl ?_
      refine Cp.iload X dX6_seatFor_70 rfl ?_
      refine Cp.icmp_ge X 83 dX6_seatFor_72 (by decide) (fun c_72 => ?_) (fun c_72 => ?_)
      · refine Cp.iinc (v := x6 + 1) X dX6_seatFor_83 rfl rfl (Nat.le_of_ble_eq_true rfl) rfl ?_
        refine Cp.goto X 38 dX6_seatFor_86 (by decide) ?_
        refine Cp.mask [true, true, true, true, true, true, true, false] ?_
        exact hk38 x4 x5 (x6 + 1) s_55
      · refine Cp.iload X dX6_seatFor_75 rfl ?_
        refine Cp.istore X dX6_seatFor_77 (Nat.le_of_ble_eq_true rfl) rfl ?_
        refine Cp.iload X dX6_seatFor_79 rfl ?_
        refine Cp.istore X dX6_seatFor_81 (Nat.le_of_ble_eq_true rfl) rfl ?_
        refine Cp.iinc (v := x6 + 1) X dX6_seatFor_83 rfl rfl (Nat.le_of_ble_eq_true rfl) rfl ?_
        refine Cp.goto X 38 dX6_seatFor_86 (by decide) ?_
        refine Cp.mask [true, true, true, true, true, true, true, false] ?_
        exact hk38 x6 v_58 (x6 + 1) s_55)
set_option maxRecDepth 20000 in
theorem pX6_seatFor {M : MC} {w : WE} (X : Cx M w shR cX6_seatFor 8 RX6 (some .int) 5)   (x1 : Int32) (x2 : Int32) (σ : Mem) : Cp M w shR 8 iIM 0 [some (.ref (wad w 0)), some (.int x1), some (.int x2), none, none, none, none, none] [] σ (fX6_seatFor x1 x2 σ) := by
  unfold fX6_seatFor
  refine Cp.aload_n (i := 0) X dX6_seatFor_0 rfl rfl ?_
  refine Cp.iload_n (i := 1) X dX6_seatFor_1 rfl rfl ?_
  refine Cp.cVBT [] X [.int x1] cvX6_isPerson (kX6_isPerson X.ok x1 σ) sr_0 rfl rfl wmX6_109 rfl rfl dX6_seatFor_2 rfl (Nat.le_of_ble_eq_true rfl) ?_
  refine Cp.if_eqB X 16 dX6_seatFor_5 (by decide) (fun c_5 => ?_) (fun c_5 => ?_)
  · refine Cp.aload_n (i := 0) X dX6_seatFor_16 rfl rfl ?_
    refine Cp.iconst (v := 0) X dX6_seatFor_17 rfl ?_
    refine Cp.cVIM [] X [.int 0] cvX6_finds (kX6_finds X.ok 0 σ) sr_0 rfl rfl wmX6_103 rfl rfl dX6_seatFor_18 rfl (Nat.le_of_ble_eq_true rfl) (fun v_18 s_18 => ?_)
    exact Cp.iret X dX6_seatFor_21 rfl
  · refine Cp.aload_n (i := 0) X dX6_seatFor_8 rfl rfl ?_
    refine Cp.iload_n (i := 2) X dX6_seatFor_9 rfl rfl ?_
    refine Cp.cVBT [] X [.int x2] cvX6_isJoke (kX6_isJoke X.ok x2 σ) sr_0 rfl rfl wmX6_138 rfl rfl dX6_seatFor_10 rfl (Nat.le_of_ble_eq_true rfl) ?_
    refine Cp.if_neB X 22 dX6_seatFor_13 (by decide) (fun c_13 => ?_) (fun c_13 => ?_)
    · refine Cp.aload_n (i := 0) X dX6_seatFor_22 rfl rfl ?_
      refine Cp.iload_n (i := 1) X dX6_seatFor_23 rfl rfl ?_
      refine Cp.iconst (v := 1) X dX6_seatFor_24 rfl ?_
      refine Cp.cVI [] X [.int x1, .int 1] cvX6_its (kX6_its X.ok x1 1 σ) sr_0 rfl rfl wmX6_64 rfl rfl dX6_seatFor_25 rfl (Nat.le_of_ble_eq_true rfl) (fun v_25 => ?_)
      refine Cp.istore_n (i := 3) X dX6_seatFor_28 rfl (Nat.le_of_ble_eq_true rfl) rfl ?_
      refine Cp.iconst (v := (-1)) X dX6_seatFor_29 rfl ?_
      refine Cp.nameI (fun x4_30 => ?_)
      refine Cp.istore X dX6_seatFor_30 (Nat.le_of_ble_eq_true rfl) rfl ?_
      refine Cp.iconst (v := 0) X dX6_seatFor_32 rfl ?_
      refine Cp.istore X dX6_seatFor_33 (Nat.le_of_ble_eq_true rfl) rfl ?_
      refine Cp.iconst (v := 0) X dX6_seatFor_35 rfl ?_
      refine Cp.istore X dX6_seatFor_36 (Nat.le_of_ble_eq_true rfl) rfl ?_
      exact pX6_seatFor_38 X x1 x2 v_25 FU x4_30 0 0 σ
    · refine Cp.aload_n (i := 0) X dX6_seatFor_16 rfl rfl ?_
      refine Cp.iconst (v := 0) X dX6_seatFor_17 rfl ?_
      refine Cp.cVIM [] X [.int 0] cvX6_finds (kX6_finds X.ok 0 σ) sr_0 rfl rfl wmX6_103 rfl rfl dX6_seatFor_18 rfl (Nat.le_of_ble_eq_true rfl) (fun v_18 s_18 => ?_)
      exact Cp.iret X dX6_seatFor_21 rfl
theorem kX6_seatFor {l : Launch} {w : WE} (hok : OkW w shR)   (x1 : Int32) (x2 : Int32) (σ : Mem) : ∀ v, fX6_seatFor x1 x2 σ = some v → Ctr l w shR yX6_seatFor cX6_seatFor 8 (some .int) 5 [.ref (wad w 0), .int x1, .int x2] σ (iIM v) := fun v hv => Ctr.of [some (.ref (wad w 0)), some (.int x1), some (.int x2), none, none, none, none, none] (by decide) hok rfl (Nat.le_of_ble_eq_true rfl) (fun M _ X => pX6_seatFor X   x1 x2 σ v hv)
def fX6_kindFor_38 (x1 : Int32) (x2 : Int32) (x3 : Int32) (k38 : Int32 → Int32 → Int32 → Mem → Option (Int32 × Mem)) (x4 : Int32) (x5 : Int32) (x6 : Int32) (σ : Mem) : Option (Int32 × Mem) :=
  (if 6 < x6 then ((fX6_sets x1 0 x3 σ).bind fun s_98 => (some (x4, s_98))) else ((fX6_sets x1 0 x6 σ).bind fun s_50 => (bnd2 (fX6_laughAt_ x2 s_50) fun v_55 s_55 => ((fX6_ones v_55).bind fun v_58 => (if v_58 ≤ x5 then (pb (iMax x5 v_58 : Int32) fun x5_86 => (k38 x4 x5_86 (x6 + 1) s_55)) else (pb (iMax x5 v_58 : Int32) fun x5_86 => (k38 x6 x5_86 (x6 + 1) s_55)))))))
def fX6_kindFor (x1 : Int32) (x2 : Int32) (σ : Mem) : Option (Int32 × Mem) :=
  (if fX6_isPerson x1 σ = true then (if fX6_isJoke x2 σ = true then ((fX6_its x1 0 σ).bind fun v_25 => (pb ((-1) : Int32) fun x4_30 => (pb ((-1) : Int32) fun x5_33 => (lw4 (fX6_kindFor_38 x1 x2 v_25) FU x4_30 x5_33 0 σ)))) else (bnd2 (fX6_finds 0 σ) fun v_18 s_18 => (some (v_18, s_18)))) else (bnd2 (fX6_finds 0 σ) fun v_18 s_18 => (some (v_18, s_18))))
set_option maxRecDepth 20000 in
theorem pX6_kindFor_38 {M : MC} {w : WE} (X : Cx M w shR cX6_kindFor 8 RX6 (some .int) 5)   (x1 : Int32) (x2 : Int32) (x3 : Int32)    : ∀ (n : Nat) (x4 : Int32) (x5 : Int32) (x6 : Int32) (σ : Mem), Cp M w shR 8 iIM 38 [some (.ref (wad w 0)), some (.int x1), some (.int x2), some (.int x3), some (.int x4), some (.int x5), some (.int x6), none] [] σ (lw4 (fX6_kindFor_38 x1 x2 x3) n x4 x5 x6 σ) :=
  lw4_i (P := fun x4 x5 x6 σ b => Cp M w shR 8 iIM 38 [some (.ref (wad w 0)), some (.int x1), some (.int x2), some (.int x3), some (.int x4), some (.int x5), some (.int x6), none] [] σ b) (fun _ _ _ _ => Cp.non) (fun k38 hk38 x4 x5 x6 σ => by
  unfold fX6_kindFor_38
  refine Cp.iload X dX6_kindFor_38 rfl ?_
  refine Cp.bipush (v := 6) X dX6_kindFor_40 rfl ?_
  refine Cp.icmp_gt X 94 dX6_kindFor_42 (by decide) (fun c_42 => ?_) (fun c_42 => ?_)
  · refine Cp.aload_n (i := 0) X dX6_kindFor_94 rfl rfl ?_
    refine Cp.iload_n (i := 1) X dX6_kindFor_95 rfl rfl ?_
    refine Cp.iconst (v := 0) X dX6_kindFor_96 rfl ?_
    refine Cp.iload_n (i := 3) X dX6_kindFor_97 rfl rfl ?_
    refine Cp.cVV [] X [.int x1, .int 0, .int x3] cvX6_sets (kX6_sets X.ok x1 0 x3 σ) sr_0 rfl rfl wmX6_92 rfl rfl dX6_kindFor_98 rfl (Nat.le_of_ble_eq_true rfl) (fun s_98 => ?_)
    refine Cp.iload X dX6_kindFor_101 rfl ?_
    exact Cp.iret X dX6_kindFor_103 rfl
  · refine Cp.aload_n (i := 0) X dX6_kindFor_45 rfl rfl ?_
    refine Cp.iload_n (i := 1) X dX6_kindFor_46 rfl rfl ?_
    refine Cp.iconst (v := 0) X dX6_kindFor_47 rfl ?_
    refine Cp.iload X dX6_kindFor_48 rfl ?_
    refine Cp.cVV [] X [.int x1, .int 0, .int x6] cvX6_sets (kX6_sets X.ok x1 0 x6 σ) sr_0 rfl rfl wmX6_92 rfl rfl dX6_kindFor_50 rfl (Nat.le_of_ble_eq_true rfl) (fun s_50 => ?_)
    refine Cp.aload_n (i := 0) X dX6_kindFor_53 rfl rfl ?_
    refine Cp.iload_n (i := 2) X dX6_kindFor_54 rfl rfl ?_
    refine Cp.cVIM [] X [.int x2] cvX6_laughAt_ (kX6_laughAt_ X.ok x2 s_50) sr_0 rfl rfl wmX6_178 rfl rfl dX6_kindFor_55 rfl (Nat.le_of_ble_eq_true rfl) (fun v_55 s_55 => ?_)
    refine Cp.cSI [] X [.int v_55] csX6_ones (kX6_ones X.ok v_55 s_55) wmX6_76 rfl rfl dX6_kindFor_58 rfl (Nat.le_of_ble_eq_true rfl) (fun v_58 => ?_)
    refine Cp.istore X dX6_kindFor_61 (Nat.le_of_ble_eq_true rfl) rfl ?_
    refine Cp.iload X dX6_kindFor_63 rfl ?_
    refine Cp.iload X dX6_kindFor_65 rfl ?_
    refine Cp.icmp_le X 75 dX6_kindFor_67 (by decide) (fun c_67 => ?_) (fun c_67 => ?_)
    · refine Cp.iload X dX6_kindFor_75 rfl ?_
      refine Cp.istore X dX6_kindFor_77 (Nat.le_of_ble_eq_true rfl) rfl ?_
      refine Cp.iload X dX6_kindFor_79 rfl ?_
      refine Cp.iload X dX6_kindFor_81 rfl ?_
      refine Cp.mmax X wqX6_83 (by decide) dX6_kindFor_83 (Nat.le_of_ble_eq_true rfl) ?_
      refine Cp.nameI (fun x5_86 => ?_)
      refine Cp.istore X dX6_kindFor_86 (Nat.le_of_ble_eq_true rfl) rfl ?_
      refine Cp.iinc (v := x6 + 1) X dX6_kindFor_88 rfl rfl (Nat.le_of_ble_eq_true rfl) rfl ?_
      refine Cp.goto X 38 dX6_kindFor_91 (by decide) ?_
      refine Cp.mask [true, true, true, true, true, true, true, false] ?_
      exact hk38 x4 x5_86 (x6 + 1) s_55
    · refine Cp.iload X dX6_kindFor_70 rfl ?_
      refine Cp.goto X 77 dX6_kindFor_72 (by decide) ?_
      refine Cp.istore X dX6_kindFor_77 (Nat.le_of_ble_eq_true rfl) rfl ?_
      refine Cp.iload X dX6_kindFor_79 rfl ?_
      refine Cp.iload X dX6_kindFor_81 rfl ?_
      refine Cp.mmax X wqX6_83 (by decide) dX6_kindFor_83 (Nat.le_of_ble_eq_true rfl) ?_
      refine Cp.nameI (fun x5_86 => ?_)
      refine Cp.istore X dX6_kindFor_86 (Nat.le_of_ble_eq_true rfl) rfl ?_
      refine Cp.iinc (v := x6 + 1) X dX6_kindFor_88 rfl rfl (Nat.le_of_ble_eq_true rfl) rfl ?_
      refine Cp.goto X 38 dX6_kindFor_91 (by decide) ?_
      refine Cp.mask [true, true, true, true, true, true, true, false] ?_
      exact hk38 x6 x5_86 (x6 + 1) s_55)
set_option maxRecDepth 20000 in
theorem pX6_kindFor {M : MC} {w : WE} (X : Cx M w shR cX6_kindFor 8 RX6 (some .int) 5)   (x1 : Int32) (x2 : Int32) (σ : Mem) : Cp M w shR 8 iIM 0 [some (.ref (wad w 0)), some (.int x1), some (.int x2), none, none, none, none, none] [] σ (fX6_kindFor x1 x2 σ) := by
  unfold fX6_kindFor
  refine Cp.aload_n (i := 0) X dX6_kindFor_0 rfl rfl ?_
  refine Cp.iload_n (i := 1) X dX6_kindFor_1 rfl rfl ?_
  refine Cp.cVBT [] X [.int x1] cvX6_isPerson (kX6_isPerson X.ok x1 σ) sr_0 rfl rfl wmX6_109 rfl rfl dX6_kindFor_2 rfl (Nat.le_of_ble_eq_true rfl) ?_
  refine Cp.if_eqB X 16 dX6_kindFor_5 (by decide) (fun c_5 => ?_) (fun c_5 => ?_)
  · refine Cp.aload_n (i := 0) X dX6_kindFor_16 rfl rfl ?_
    refine Cp.iconst (v := 0) X dX6_kindFor_17 rfl ?_
    refine Cp.cVIM [] X [.int 0] cvX6_finds (kX6_finds X.ok 0 σ) sr_0 rfl rfl wmX6_103 rfl rfl dX6_kindFor_18 rfl (Nat.le_of_ble_eq_true rfl) (fun v_18 s_18 => ?_)
    exact Cp.iret X dX6_kindFor_21 rfl
  · refine Cp.aload_n (i := 0) X dX6_kindFor_8 rfl rfl ?_
    refine Cp.iload_n (i := 2) X dX6_kindFor_9 rfl rfl ?_
    refine Cp.cVBT [] X [.int x2] cvX6_isJoke (kX6_isJoke X.ok x2 σ) sr_0 rfl rfl wmX6_138 rfl rfl dX6_kindFor_10 rfl (Nat.le_of_ble_eq_true rfl) ?_
    refine Cp.if_neB X 22 dX6_kindFor_13 (by decide) (fun c_13 => ?_) (fun c_13 => ?_)
    · refine Cp.aload_n (i := 0) X dX6_kindFor_22 rfl rfl ?_
      refine Cp.iload_n (i := 1) X dX6_kindFor_23 rfl rfl ?_
      refine Cp.iconst (v := 0) X dX6_kindFor_24 rfl ?_
      refine Cp.cVI [] X [.int x1, .int 0] cvX6_its (kX6_its X.ok x1 0 σ) sr_0 rfl rfl wmX6_64 rfl rfl dX6_kindFor_25 rfl (Nat.le_of_ble_eq_true rfl) (fun v_25 => ?_)
      refine Cp.istore_n (i := 3) X dX6_kindFor_28 rfl (Nat.le_of_ble_eq_true rfl) rfl ?_
      refine Cp.iconst (v := (-1)) X dX6_kindFor_29 rfl ?_
      refine Cp.nameI (fun x4_30 => ?_)
      refine Cp.istore X dX6_kindFor_30 (Nat.le_of_ble_eq_true rfl) rfl ?_
      refine Cp.iconst (v := (-1)) X dX6_kindFor_32 rfl ?_
      refine Cp.nameI (fun x5_33 => ?_)
      refine Cp.istore X dX6_kindFor_33 (Nat.le_of_ble_eq_true rfl) rfl ?_
      refine Cp.iconst (v := 0) X dX6_kindFor_35 rfl ?_
      refine Cp.istore X dX6_kindFor_36 (Nat.le_of_ble_eq_true rfl) rfl ?_
      exact pX6_kindFor_38 X x1 x2 v_25 FU x4_30 x5_33 0 σ
    · refine Cp.aload_n (i := 0) X dX6_kindFor_16 rfl rfl ?_
      refine Cp.iconst (v := 0) X dX6_kindFor_17 rfl ?_
      refine Cp.cVIM [] X [.int 0] cvX6_finds (kX6_finds X.ok 0 σ) sr_0 rfl rfl wmX6_103 rfl rfl dX6_kindFor_18 rfl (Nat.le_of_ble_eq_true rfl) (fun v_18 s_18 => ?_)
      exact Cp.iret X dX6_kindFor_21 rfl
theorem kX6_kindFor {l : Launch} {w : WE} (hok : OkW w shR)   (x1 : Int32) (x2 : Int32) (σ : Mem) : ∀ v, fX6_kindFor x1 x2 σ = some v → Ctr l w shR yX6_kindFor cX6_kindFor 8 (some .int) 5 [.ref (wad w 0), .int x1, .int x2] σ (iIM v) := fun v hv => Ctr.of [some (.ref (wad w 0)), some (.int x1), some (.int x2), none, none, none, none, none] (by decide) hok rfl (Nat.le_of_ble_eq_true rfl) (fun M _ X => pX6_kindFor X   x1 x2 σ v hv)
def fX6_reachFor_27 (x1 : Int32) (x2 : Int32) (k27 : Int32 → Int32 → Mem → Option (Int32 × Mem)) (x3 : Int32) (x4 : Int32) (σ : Mem) : Option (Int32 × Mem) :=
  (if x4 < 0 then (pb (up2 σ 1 1 x2 : Mem) fun s_71 => (if 0 ≤ x3 then (some (x3, s_71)) else (bnd2 (fX6_finds 3 s_71) fun v_78 s_78 => (some (v_78, s_78))))) else (pb (up2 σ 1 1 x4 : Mem) fun s_39 => (bnd2 (fX6_laughAt_ x1 s_39) fun v_42 s_42 => (if v_42 = (fX6_everybody s_42) then (k27 x4 (x4 + (-1)) s_42) else (k27 x3 (x4 + (-1)) s_42)))))
def fX6_reachFor (x1 : Int32) (σ : Mem) : Option (Int32 × Mem) :=
  (if fX6_isJoke x1 σ = true then (pb (σ 1 1 : Int32) fun x2_20 => (pb ((-1) : Int32) fun x3_22 => (lw3 (fX6_reachFor_27 x1 x2_20) FU x3_22 15 σ))) else (bnd2 (fX6_finds 0 σ) fun v_10 s_10 => (some (v_10, s_10))))
set_option maxRecDepth 20000 in
theorem pX6_reachFor_27 {M : MC} {w : WE} (X : Cx M w shR cX6_reachFor 5 RX6 (some .int) 5)   (x1 : Int32) (x2 : Int32)    : ∀ (n : Nat) (x3 : Int32) (x4 : Int32) (σ : Mem), Cp M w shR 5 iIM 27 [some (.ref (wad w 0)), some (.int x1), some (.int x2), some (.int x3), some (.int x4)] [] σ (lw3 (fX6_reachFor_27 x1 x2) n x3 x4 σ) :=
  lw3_i (P := fun x3 x4 σ b => Cp M w shR 5 iIM 27 [some (.ref (wad w 0)), some (.int x1), some (.int x2), some (.int x3), some (.int x4)] [] σ b) (fun _ _ _ => Cp.non) (fun k27 hk27 x3 x4 σ => by
  unfold fX6_reachFor_27
  refine Cp.iload X dX6_reachFor_27 rfl ?_
  refine Cp.if_lt X 65 dX6_reachFor_29 (by decide) (fun c_29 => ?_) (fun c_29 => ?_)
  · refine Cp.aload_n (i := 0) X dX6_reachFor_65 rfl rfl ?_
    refine gfX6_9 X 1 sr_0 rfl dX6_reachFor_66 ?_
    refine Cp.iconst (v := 1) X dX6_reachFor_69 rfl ?_
    refine Cp.iload_n (i := 2) X dX6_reachFor_70 rfl rfl ?_
    refine Cp.iastc (j := 1) X sr_1 (by decide) (by decide) dX6_reachFor_71 ?_
    refine Cp.nameM (fun s_71 => ?_)
    refine Cp.iload_n (i := 3) X dX6_reachFor_72 rfl rfl ?_
    refine Cp.if_ge X 84 dX6_reachFor_73 (by decide) (fun c_73 => ?_) (fun c_73 => ?_)
    · refine Cp.iload_n (i := 3) X dX6_reachFor_84 rfl rfl ?_
      exact Cp.iret X dX6_reachFor_85 rfl
    · refine Cp.aload_n (i := 0) X dX6_reachFor_76 rfl rfl ?_
      refine Cp.iconst (v := 3) X dX6_reachFor_77 rfl ?_
      refine Cp.cVIM [] X [.int 3] cvX6_finds (kX6_finds X.ok 3 s_71) sr_0 rfl rfl wmX6_103 rfl rfl dX6_reachFor_78 rfl (Nat.le_of_ble_eq_true rfl) (fun v_78 s_78 => ?_)
      refine Cp.goto X 85 dX6_reachFor_81 (by decide) ?_
      exact Cp.iret X dX6_reachFor_85 rfl
  · refine Cp.aload_n (i := 0) X dX6_reachFor_32 rfl rfl ?_
    refine gfX6_9 X 1 sr_0 rfl dX6_reachFor_33 ?_
    refine Cp.iconst (v := 1) X dX6_reachFor_36 rfl ?_
    refine Cp.iload X dX6_reachFor_37 rfl ?_
    refine Cp.iastc (j := 1) X sr_1 (by decide) (by decide) dX6_reachFor_39 ?_
    refine Cp.nameM (fun s_39 => ?_)
    refine Cp.aload_n (i := 0) X dX6_reachFor_40 rfl rfl ?_
    refine Cp.iload_n (i := 1) X dX6_reachFor_41 rfl rfl ?_
    refine Cp.cVIM [] X [.int x1] cvX6_laughAt_ (kX6_laughAt_ X.ok x1 s_39) sr_0 rfl rfl wmX6_178 rfl rfl dX6_reachFor_42 rfl (Nat.le_of_ble_eq_true rfl) (fun v_42 s_42 => ?_)
    refine Cp.aload_n (i := 0) X dX6_reachFor_45 rfl rfl ?_
    refine Cp.cVIT [.int v_42] X [] cvX6_everybody (kX6_everybody X.ok s_42) sr_0 rfl rfl wmX6_155 rfl rfl dX6_reachFor_46 rfl (Nat.le_of_ble_eq_true rfl) ?_
    refine Cp.icmp_ne X 57 dX6_reachFor_49 (by decide) (fun c_49 => ?_) (fun c_49 => ?_)
    · refine Cp.iload_n (i := 3) X dX6_reachFor_57 rfl rfl ?_
      refine Cp.istore_n (i := 3) X dX6_reachFor_58 rfl (Nat.le_of_ble_eq_true rfl) rfl ?_
      refine Cp.iinc (v := x4 + (-1)) X dX6_reachFor_59 rfl rfl (Nat.le_of_ble_eq_true rfl) rfl ?_
      refine Cp.goto X 27 dX6_reachFor_62 (by decide) ?_
      exact hk27 x3 (x4 + (-1)) s_42
    · refine Cp.iload X dX6_reachFor_52 rfl ?_
      refine Cp.goto X 58 dX6_reachFor_54 (by decide) ?_
      refine Cp.istore_n (i := 3) X dX6_reachFor_58 rfl (Nat.le_of_ble_eq_true rfl) rfl ?_
      refine Cp.iinc (v := x4 + (-1)) X dX6_reachFor_59 rfl rfl (Nat.le_of_ble_eq_true rfl) rfl ?_
      refine Cp.goto X 27 dX6_reachFor_62 (by decide) ?_
      exact hk27 x4 (x4 + (-1)) s_42)
set_option maxRecDepth 20000 in
theorem pX6_reachFor {M : MC} {w : WE} (X : Cx M w shR cX6_reachFor 5 RX6 (some .int) 5)   (x1 : Int32) (σ : Mem) : Cp M w shR 5 iIM 0 [some (.ref (wad w 0)), some (.int x1), none, none, none] [] σ (fX6_reachFor x1 σ) := by
  unfold fX6_reachFor
  refine Cp.aload_n (i := 0) X dX6_reachFor_0 rfl rfl ?_
  refine Cp.iload_n (i := 1) X dX6_reachFor_1 rfl rfl ?_
  refine Cp.cVBT [] X [.int x1] cvX6_isJoke (kX6_isJoke X.ok x1 σ) sr_0 rfl rfl wmX6_138 rfl rfl dX6_reachFor_2 rfl (Nat.le_of_ble_eq_true rfl) ?_
  refine Cp.if_neB X 14 dX6_reachFor_5 (by decide) (fun c_5 => ?_) (fun c_5 => ?_)
  · refine Cp.aload_n (i := 0) X dX6_reachFor_14 rfl rfl ?_
    refine gfX6_9 X 1 sr_0 rfl dX6_reachFor_15 ?_
    refine Cp.iconst (v := 1) X dX6_reachFor_18 rfl ?_
    refine Cp.ialdc (j := 1) X sr_1 (by decide) (by decide) dX6_reachFor_19 ?_
    refine Cp.nameI (fun x2_20 => ?_)
    refine Cp.istore_n (i := 2) X dX6_reachFor_20 rfl (Nat.le_of_ble_eq_true rfl) rfl ?_
    refine Cp.iconst (v := (-1)) X dX6_reachFor_21 rfl ?_
    refine Cp.nameI (fun x3_22 => ?_)
    refine Cp.istore_n (i := 3) X dX6_reachFor_22 rfl (Nat.le_of_ble_eq_true rfl) rfl ?_
    refine Cp.bipush (v := 15) X dX6_reachFor_23 rfl ?_
    refine Cp.istore X dX6_reachFor_25 (Nat.le_of_ble_eq_true rfl) rfl ?_
    exact pX6_reachFor_27 X x1 x2_20 FU x3_22 15 σ
  · refine Cp.aload_n (i := 0) X dX6_reachFor_8 rfl rfl ?_
    refine Cp.iconst (v := 0) X dX6_reachFor_9 rfl ?_
    refine Cp.cVIM [] X [.int 0] cvX6_finds (kX6_finds X.ok 0 σ) sr_0 rfl rfl wmX6_103 rfl rfl dX6_reachFor_10 rfl (Nat.le_of_ble_eq_true rfl) (fun v_10 s_10 => ?_)
    exact Cp.iret X dX6_reachFor_13 rfl
theorem kX6_reachFor {l : Launch} {w : WE} (hok : OkW w shR)   (x1 : Int32) (σ : Mem) : ∀ v, fX6_reachFor x1 σ = some v → Ctr l w shR yX6_reachFor cX6_reachFor 5 (some .int) 5 [.ref (wad w 0), .int x1] σ (iIM v) := fun v hv => Ctr.of [some (.ref (wad w 0)), some (.int x1), none, none, none] (by decide) hok rfl (Nat.le_of_ble_eq_true rfl) (fun M _ X => pX6_reachFor X   x1 σ v hv)
def fX6_rateFor_59 (k34 : Int32 → Int32 → Int32 → Mem → Option (Int32 × Mem)) (x1 : Int32) (x2 : Int32) (x3 : Int32) (x4 : Int32) (x5 : Int32) (k59 : Int32 → Int32 → Mem → Option (Int32 × Mem)) (x6 : Int32) (x7 : Int32) (σ : Mem) : Option (Int32 × Mem) :=
  (if x2 ≤ x7 then ((fX6_laysBack σ).bind fun s_88 => (if x6 ≤ x4 then (pb (iMax x4 x6 : Int32) fun x4_112 => (k34 x3 x4_112 (x5 + 1) s_88)) else (pb (iMax x4 x6 : Int32) fun x4_112 => (k34 x5 x4_112 (x5 + 1) s_88)))) else (bnd2 (fX6_tells x1 σ) fun v_67 s_67 => ((fX6_allPaid s_67).bind fun v_75 => (pb (x6 + v_75 : Int32) fun x6_79 => (k59 x6_79 (x7 + 1) s_67)))))
def fX6_rateFor_34 (x1 : Int32) (x2 : Int32) (k34 : Int32 → Int32 → Int32 → Mem → Option (Int32 × Mem)) (x3 : Int32) (x4 : Int32) (x5 : Int32) (σ : Mem) : Option (Int32 × Mem) :=
  (if 20 < x5 then (some (x3, σ)) else ((fX6_lends σ).bind fun s_42 => (pb (up2 s_42 1 0 x5 : Mem) fun s_52 => (lw3 (fX6_rateFor_59 k34 x1 x2 x3 x4 x5) FU 0 0 s_52))))
def fX6_rateFor (x1 : Int32) (x2 : Int32) (σ : Mem) : Option (Int32 × Mem) :=
  (if fX6_isJoke x1 σ = true then (if fX6_in ((x2 : Int32).toInt64) 1 20 = true then (pb ((-1) : Int32) fun x4_29 => (lw4 (fX6_rateFor_34 x1 x2) FU 0 x4_29 0 σ)) else (bnd2 (fX6_finds 0 σ) fun v_22 s_22 => (some (v_22, s_22)))) else (bnd2 (fX6_finds 0 σ) fun v_22 s_22 => (some (v_22, s_22))))
set_option maxRecDepth 20000 in
theorem pX6_rateFor_59 {M : MC} {w : WE} (X : Cx M w shR cX6_rateFor 9 RX6 (some .int) 5)   (x1 : Int32) (x2 : Int32) (x3 : Int32) (x4 : Int32) (x5 : Int32)   (k34 : Int32 → Int32 → Int32 → Mem → Option (Int32 × Mem)) (hk34 : ∀ (x3 : Int32) (x4 : Int32) (x5 : Int32) (σ : Mem), Cp M w shR 9 iIM 34 [some (.ref (wad w 0)), some (.int x1), some (.int x2), some (.int x3), some (.int x4), some (.int x5), none, none, none] [] σ (k34 x3 x4 x5 σ)) : ∀ (n : Nat) (x6 : Int32) (x7 : Int32) (σ : Mem), Cp M w shR 9 iIM 59 [some (.ref (wad w 0)), some (.int x1), some (.int x2), some (.int x3), some (.int x4), some (.int x5), some (.int x6), some (.int x7), none] [] σ (lw3 (fX6_rateFor_59 k34 x1 x2 x3 x4 x5) n x6 x7 σ) :=
  lw3_i (P := fun x6 x7 σ b => Cp M w shR 9 iIM 59 [some (.ref (wad w 0)), some (.int x1), some (.int x2), some (.int x3), some (.int x4), some (.int x5), some (.int x6), some (.int x7), none] [] σ b) (fun _ _ _ => Cp.non) (fun k59 hk59 x6 x7 σ => by
  unfold fX6_rateFor_59
  refine Cp.iload X dX6_rateFor_59 rfl ?_
  refine Cp.iload_n (i := 2) X dX6_rateFor_61 rfl rfl ?_
  refine Cp.icmp_ge X 87 dX6_rateFor_62 (by decide) (fun c_62 => ?_) (fun c_62 => ?_)
  · refine Cp.aload_n (i := 0) X dX6_rateFor_87 rfl rfl ?_
    refine Cp.cVV [] X [] cvX6_laysBack (kX6_laysBack X.ok σ) sr_0 rfl rfl wmX6_183 rfl rfl dX6_rateFor_88 rfl (Nat.le_of_ble_eq_true rfl) (fun s_88 => ?_)
    refine Cp.iload X dX6_rateFor_91 rfl ?_
    refine Cp.iload X dX6_rateFor_93 rfl ?_
    refine Cp.icmp_le X 103 dX6_rateFor_95 (by decide) (fun c_95 => ?_) (fun c_95 => ?_)
    · refine Cp.iload_n (i := 3) X dX6_rateFor_103 rfl rfl ?_
      refine Cp.istore_n (i := 3) X dX6_rateFor_104 rfl (Nat.le_of_ble_eq_true rfl) rfl ?_
      refine Cp.iload X dX6_rateFor_105 rfl ?_
      refine Cp.iload X dX6_rateFor_107 rfl ?_
      refine Cp.mmax X wqX6_83 (by decide) dX6_rateFor_109 (Nat.le_of_ble_eq_true rfl) ?_
      refine Cp.nameI (fun x4_112 => ?_)
      refine Cp.istore X dX6_rateFor_112 (Nat.le_of_ble_eq_true rfl) rfl ?_
      refine Cp.iinc (v := x5 + 1) X dX6_rateFor_114 rfl rfl (Nat.le_of_ble_eq_true rfl) rfl ?_
      refine Cp.goto X 34 dX6_rateFor_117 (by decide) ?_
      refine Cp.mask [true, true, true, true, true, true, false, false, false] ?_
      exact hk34 x3 x4_112 (x5 + 1) s_88
    · refine Cp.iload X dX6_rateFor_98 rfl ?_
      refine Cp.goto X 104 dX6_rateFor_100 (by decide) ?_
      refine Cp.istore_n (i := 3) X dX6_rateFor_104 rfl (Nat.le_of_ble_eq_true rfl) rfl ?_
      refine Cp.iload X dX6_rateFor_105 rfl ?_
      refine Cp.iload X dX6_rateFor_107 rfl ?_
      refine Cp.mmax X wqX6_83 (by decide) dX6_rateFor_109 (Nat.le_of_ble_eq_true rfl) ?_
      refine Cp.nameI (fun x4_112 => ?_)
      refine Cp.istore X dX6_rateFor_112 (Nat.le_of_ble_eq_true rfl) rfl ?_
      refine Cp.iinc (v := x5 + 1) X dX6_rateFor_114 rfl rfl (Nat.le_of_ble_eq_true rfl) rfl ?_
      refine Cp.goto X 34 dX6_rateFor_117 (by decide) ?_
      refine Cp.mask [true, true, true, true, true, true, false, false, false] ?_
      exact hk34 x5 x4_112 (x5 + 1) s_88
  · refine Cp.aload_n (i := 0) X dX6_rateFor_65 rfl rfl ?_
    refine Cp.iload_n (i := 1) X dX6_rateFor_66 rfl rfl ?_
    refine Cp.cVIM [] X [.int x1] cvX6_tells (kX6_tells X.ok x1 σ) sr_0 rfl rfl wmX6_167 rfl rfl dX6_rateFor_67 rfl (Nat.le_of_ble_eq_true rfl) (fun v_67 s_67 => ?_)
    refine Cp.istore X dX6_rateFor_70 (Nat.le_of_ble_eq_true rfl) rfl ?_
    refine Cp.iload X dX6_rateFor_72 rfl ?_
    refine Cp.aload_n (i := 0) X dX6_rateFor_74 rfl rfl ?_
    refine Cp.cVI [.int x6] X [] cvX6_allPaid (kX6_allPaid X.ok s_67) sr_0 rfl rfl wmX6_186 rfl rfl dX6_rateFor_75 rfl (Nat.le_of_ble_eq_true rfl) (fun v_75 => ?_)
    refine Cp.iadd X dX6_rateFor_78 ?_
    refine Cp.nameI (fun x6_79 => ?_)
    refine Cp.istore X dX6_rateFor_79 (Nat.le_of_ble_eq_true rfl) rfl ?_
    refine Cp.iinc (v := x7 + 1) X dX6_rateFor_81 rfl rfl (Nat.le_of_ble_eq_true rfl) rfl ?_
    refine Cp.goto X 59 dX6_rateFor_84 (by decide) ?_
    refine Cp.mask [true, true, true, true, true, true, true, true, false] ?_
    exact hk59 x6_79 (x7 + 1) s_67)
set_option maxRecDepth 20000 in
theorem pX6_rateFor_34 {M : MC} {w : WE} (X : Cx M w shR cX6_rateFor 9 RX6 (some .int) 5)   (x1 : Int32) (x2 : Int32)    : ∀ (n : Nat) (x3 : Int32) (x4 : Int32) (x5 : Int32) (σ : Mem), Cp M w shR 9 iIM 34 [some (.ref (wad w 0)), some (.int x1), some (.int x2), some (.int x3), some (.int x4), some (.int x5), none, none, none] [] σ (lw4 (fX6_rateFor_34 x1 x2) n x3 x4 x5 σ) :=
  lw4_i (P := fun x3 x4 x5 σ b => Cp M w shR 9 iIM 34 [some (.ref (wad w 0)), some (.int x1), some (.int x2), some (.int x3), some (.int x4), some (.int x5), none, none, none] [] σ b) (fun _ _ _ _ => Cp.non) (fun k34 hk34 x3 x4 x5 σ => by
  unfold fX6_rateFor_34
  refine Cp.iload X dX6_rateFor_34 rfl ?_
  refine Cp.bipush (v := 20) X dX6_rateFor_36 rfl ?_
  refine Cp.icmp_gt X 120 dX6_rateFor_38 (by decide) (fun c_38 => ?_) (fun c_38 => ?_)
  · refine Cp.iload_n (i := 3) X dX6_rateFor_120 rfl rfl ?_
    exact Cp.iret X dX6_rateFor_121 rfl
  · refine Cp.aload_n (i := 0) X dX6_rateFor_41 rfl rfl ?_
    refine Cp.cVV [] X [] cvX6_lends (kX6_lends X.ok σ) sr_0 rfl rfl wmX6_180 rfl rfl dX6_rateFor_42 rfl (Nat.le_of_ble_eq_true rfl) (fun s_42 => ?_)
    refine Cp.aload_n (i := 0) X dX6_rateFor_45 rfl rfl ?_
    refine gfX6_9 X 1 sr_0 rfl dX6_rateFor_46 ?_
    refine Cp.iconst (v := 0) X dX6_rateFor_49 rfl ?_
    refine Cp.iload X dX6_rateFor_50 rfl ?_
    refine Cp.iastc (j := 0) X sr_1 (by decide) (by decide) dX6_rateFor_52 ?_
    refine Cp.nameM (fun s_52 => ?_)
    refine Cp.iconst (v := 0) X dX6_rateFor_53 rfl ?_
    refine Cp.istore X dX6_rateFor_54 (Nat.le_of_ble_eq_true rfl) rfl ?_
    refine Cp.iconst (v := 0) X dX6_rateFor_56 rfl ?_
    refine Cp.istore X dX6_rateFor_57 (Nat.le_of_ble_eq_true rfl) rfl ?_
    exact pX6_rateFor_59 X x1 x2 x3 x4 x5 k34 hk34 FU 0 0 s_52)
set_option maxRecDepth 20000 in
theorem pX6_rateFor {M : MC} {w : WE} (X : Cx M w shR cX6_rateFor 9 RX6 (some .int) 5)   (x1 : Int32) (x2 : Int32) (σ : Mem) : Cp M w shR 9 iIM 0 [some (.ref (wad w 0)), some (.int x1), some (.int x2), none, none, none, none, none, none] [] σ (fX6_rateFor x1 x2 σ) := by
  unfold fX6_rateFor
  refine Cp.aload_n (i := 0) X dX6_rateFor_0 rfl rfl ?_
  refine Cp.iload_n (i := 1) X dX6_rateFor_1 rfl rfl ?_
  refine Cp.cVBT [] X [.int x1] cvX6_isJoke (kX6_isJoke X.ok x1 σ) sr_0 rfl rfl wmX6_138 rfl rfl dX6_rateFor_2 rfl (Nat.le_of_ble_eq_true rfl) ?_
  refine Cp.if_eqB X 20 dX6_rateFor_5 (by decide) (fun c_5 => ?_) (fun c_5 => ?_)
  · refine Cp.aload_n (i := 0) X dX6_rateFor_20 rfl rfl ?_
    refine Cp.iconst (v := 0) X dX6_rateFor_21 rfl ?_
    refine Cp.cVIM [] X [.int 0] cvX6_finds (kX6_finds X.ok 0 σ) sr_0 rfl rfl wmX6_103 rfl rfl dX6_rateFor_22 rfl (Nat.le_of_ble_eq_true rfl) (fun v_22 s_22 => ?_)
    exact Cp.iret X dX6_rateFor_25 rfl
  · refine Cp.iload_n (i := 2) X dX6_rateFor_8 rfl rfl ?_
    refine Cp.i2l X dX6_rateFor_9 ?_
    refine Cp.lconst (v := 1) X dX6_rateFor_10 rfl ?_
    refine Cp.ldc2 (v := 20) X wcX6_141 dX6_rateFor_11 ?_
    refine Cp.cSBT [] X [.long ((x2 : Int32).toInt64), .long 1, .long 20] csX6_in (kX6_in X.ok ((x2 : Int32).toInt64) 1 20 σ) wmX6_48 rfl rfl dX6_rateFor_14 rfl (Nat.le_of_ble_eq_true rfl) ?_
    refine Cp.if_neB X 26 dX6_rateFor_17 (by decide) (fun c_17 => ?_) (fun c_17 => ?_)
    · refine Cp.iconst (v := 0) X dX6_rateFor_26 rfl ?_
      refine Cp.istore_n (i := 3) X dX6_rateFor_27 rfl (Nat.le_of_ble_eq_true rfl) rfl ?_
      refine Cp.iconst (v := (-1)) X dX6_rateFor_28 rfl ?_
      refine Cp.nameI (fun x4_29 => ?_)
      refine Cp.istore X dX6_rateFor_29 (Nat.le_of_ble_eq_true rfl) rfl ?_
      refine Cp.iconst (v := 0) X dX6_rateFor_31 rfl ?_
      refine Cp.istore X dX6_rateFor_32 (Nat.le_of_ble_eq_true rfl) rfl ?_
      exact pX6_rateFor_34 X x1 x2 FU 0 x4_29 0 σ
    · refine Cp.aload_n (i := 0) X dX6_rateFor_20 rfl rfl ?_
      refine Cp.iconst (v := 0) X dX6_rateFor_21 rfl ?_
      refine Cp.cVIM [] X [.int 0] cvX6_finds (kX6_finds X.ok 0 σ) sr_0 rfl rfl wmX6_103 rfl rfl dX6_rateFor_22 rfl (Nat.le_of_ble_eq_true rfl) (fun v_22 s_22 => ?_)
      exact Cp.iret X dX6_rateFor_25 rfl
theorem kX6_rateFor {l : Launch} {w : WE} (hok : OkW w shR)   (x1 : Int32) (x2 : Int32) (σ : Mem) : ∀ v, fX6_rateFor x1 x2 σ = some v → Ctr l w shR yX6_rateFor cX6_rateFor 9 (some .int) 5 [.ref (wad w 0), .int x1, .int x2] σ (iIM v) := fun v hv => Ctr.of [some (.ref (wad w 0)), some (.int x1), some (.int x2), none, none, none, none, none, none] (by decide) hok rfl (Nat.le_of_ble_eq_true rfl) (fun M _ X => pX6_rateFor X   x1 x2 σ v hv)
def fX6_best_20 (x1 : Int32) (k20 : Int32 → Int32 → Int32 → Mem → Option (Int32 × Mem)) (x2 : Int32) (x3 : Int32) (x4 : Int32) (σ : Mem) : Option (Int32 × Mem) :=
  (if 64 ≤ x4 then (some (x2, σ)) else (bnd2 (fX6_laughAt x4 x1 σ) fun v_31 s_31 => ((fX6_ones v_31).bind fun v_34 => (if v_34 ≤ x3 then (pb (iMax x3 v_34 : Int32) fun x3_58 => (k20 x2 x3_58 (x4 + 1) s_31)) else (pb (iMax x3 v_34 : Int32) fun x3_58 => (k20 x4 x3_58 (x4 + 1) s_31))))))
def fX6_best (x1 : Int32) (σ : Mem) : Option (Int32 × Mem) :=
  (if fX6_isFun x1 = true then (pb ((-1) : Int32) fun x3_16 => (lw4 (fX6_best_20 x1) FU 0 x3_16 1 σ)) else (bnd2 (fX6_finds 0 σ) fun v_9 s_9 => (some (v_9, s_9))))
set_option maxRecDepth 20000 in
theorem pX6_best_20 {M : MC} {w : WE} (X : Cx M w shR cX6_best 6 RX6 (some .int) 4)   (x1 : Int32)    : ∀ (n : Nat) (x2 : Int32) (x3 : Int32) (x4 : Int32) (σ : Mem), Cp M w shR 6 iIM 20 [some (.ref (wad w 0)), some (.int x1), some (.int x2), some (.int x3), some (.int x4), none] [] σ (lw4 (fX6_best_20 x1) n x2 x3 x4 σ) :=
  lw4_i (P := fun x2 x3 x4 σ b => Cp M w shR 6 iIM 20 [some (.ref (wad w 0)), some (.int x1), some (.int x2), some (.int x3), some (.int x4), none] [] σ b) (fun _ _ _ _ => Cp.non) (fun k20 hk20 x2 x3 x4 σ => by
  unfold fX6_best_20
  refine Cp.iload X dX6_best_20 rfl ?_
  refine Cp.bipush (v := 64) X dX6_best_22 rfl ?_
  refine Cp.icmp_ge X 65 dX6_best_24 (by decide) (fun c_24 => ?_) (fun c_24 => ?_)
  · refine Cp.iload_n (i := 2) X dX6_best_65 rfl rfl ?_
    exact Cp.iret X dX6_best_66 rfl
  · refine Cp.aload_n (i := 0) X dX6_best_27 rfl rfl ?_
    refine Cp.iload X dX6_best_28 rfl ?_
    refine Cp.iload_n (i := 1) X dX6_best_30 rfl rfl ?_
    refine Cp.cVIM [] X [.int x4, .int x1] cvX6_laughAt (kX6_laughAt X.ok x4 x1 σ) sr_0 rfl rfl wmX6_162 rfl rfl dX6_best_31 rfl (Nat.le_of_ble_eq_true rfl) (fun v_31 s_31 => ?_)
    refine Cp.cSI [] X [.int v_31] csX6_ones (kX6_ones X.ok v_31 s_31) wmX6_76 rfl rfl dX6_best_34 rfl (Nat.le_of_ble_eq_true rfl) (fun v_34 => ?_)
    refine Cp.istore X dX6_best_37 (Nat.le_of_ble_eq_true rfl) rfl ?_
    refine Cp.iload X dX6_best_39 rfl ?_
    refine Cp.iload_n (i := 3) X dX6_best_41 rfl rfl ?_
    refine Cp.icmp_le X 50 dX6_best_42 (by decide) (fun c_42 => ?_) (fun c_42 => ?_)
    · refine Cp.iload_n (i := 2) X dX6_best_50 rfl rfl ?_
      refine Cp.istore_n (i := 2) X dX6_best_51 rfl (Nat.le_of_ble_eq_true rfl) rfl ?_
      refine Cp.iload_n (i := 3) X dX6_best_52 rfl rfl ?_
      refine Cp.iload X dX6_best_53 rfl ?_
      refine Cp.mmax X wqX6_83 (by decide) dX6_best_55 (Nat.le_of_ble_eq_true rfl) ?_
      refine Cp.nameI (fun x3_58 => ?_)
      refine Cp.istore_n (i := 3) X dX6_best_58 rfl (Nat.le_of_ble_eq_true rfl) rfl ?_
      refine Cp.iinc (v := x4 + 1) X dX6_best_59 rfl rfl (Nat.le_of_ble_eq_true rfl) rfl ?_
      refine Cp.goto X 20 dX6_best_62 (by decide) ?_
      refine Cp.mask [true, true, true, true, true, false] ?_
      exact hk20 x2 x3_58 (x4 + 1) s_31
    · refine Cp.iload X dX6_best_45 rfl ?_
      refine Cp.goto X 51 dX6_best_47 (by decide) ?_
      refine Cp.istore_n (i := 2) X dX6_best_51 rfl (Nat.le_of_ble_eq_true rfl) rfl ?_
      refine Cp.iload_n (i := 3) X dX6_best_52 rfl rfl ?_
      refine Cp.iload X dX6_best_53 rfl ?_
      refine Cp.mmax X wqX6_83 (by decide) dX6_best_55 (Nat.le_of_ble_eq_true rfl) ?_
      refine Cp.nameI (fun x3_58 => ?_)
      refine Cp.istore_n (i := 3) X dX6_best_58 rfl (Nat.le_of_ble_eq_true rfl) rfl ?_
      refine Cp.iinc (v := x4 + 1) X dX6_best_59 rfl rfl (Nat.le_of_ble_eq_true rfl) rfl ?_
      refine Cp.goto X 20 dX6_best_62 (by decide) ?_
      refine Cp.mask [true, true, true, true, true, false] ?_
      exact hk20 x4 x3_58 (x4 + 1) s_31)
set_option maxRecDepth 20000 in
theorem pX6_best {M : MC} {w : WE} (X : Cx M w shR cX6_best 6 RX6 (some .int) 4)   (x1 : Int32) (σ : Mem) : Cp M w shR 6 iIM 0 [some (.ref (wad w 0)), some (.int x1), none, none, none, none] [] σ (fX6_best x1 σ) := by
  unfold fX6_best
  refine Cp.iload_n (i := 1) X dX6_best_0 rfl rfl ?_
  refine Cp.cSBT [] X [.int x1] csX6_isFun (kX6_isFun X.ok x1 σ) wmX6_132 rfl rfl dX6_best_1 rfl (Nat.le_of_ble_eq_true rfl) ?_
  refine Cp.if_neB X 13 dX6_best_4 (by decide) (fun c_4 => ?_) (fun c_4 => ?_)
  · refine Cp.iconst (v := 0) X dX6_best_13 rfl ?_
    refine Cp.istore_n (i := 2) X dX6_best_14 rfl (Nat.le_of_ble_eq_true rfl) rfl ?_
    refine Cp.iconst (v := (-1)) X dX6_best_15 rfl ?_
    refine Cp.nameI (fun x3_16 => ?_)
    refine Cp.istore_n (i := 3) X dX6_best_16 rfl (Nat.le_of_ble_eq_true rfl) rfl ?_
    refine Cp.iconst (v := 1) X dX6_best_17 rfl ?_
    refine Cp.istore X dX6_best_18 (Nat.le_of_ble_eq_true rfl) rfl ?_
    exact pX6_best_20 X x1 FU 0 x3_16 1 σ
  · refine Cp.aload_n (i := 0) X dX6_best_7 rfl rfl ?_
    refine Cp.iconst (v := 0) X dX6_best_8 rfl ?_
    refine Cp.cVIM [] X [.int 0] cvX6_finds (kX6_finds X.ok 0 σ) sr_0 rfl rfl wmX6_103 rfl rfl dX6_best_9 rfl (Nat.le_of_ble_eq_true rfl) (fun v_9 s_9 => ?_)
    exact Cp.iret X dX6_best_12 rfl
theorem kX6_best {l : Launch} {w : WE} (hok : OkW w shR)   (x1 : Int32) (σ : Mem) : ∀ v, fX6_best x1 σ = some v → Ctr l w shR yX6_best cX6_best 6 (some .int) 4 [.ref (wad w 0), .int x1] σ (iIM v) := fun v hv => Ctr.of [some (.ref (wad w 0)), some (.int x1), none, none, none, none] (by decide) hok rfl (Nat.le_of_ble_eq_true rfl) (fun M _ X => pX6_best X   x1 σ v hv)
def fX6_quiet_21 (x1 : Int32) (k21 : Int32 → Int32 → Int32 → Mem → Option (Int32 × Mem)) (x2 : Int32) (x3 : Int32) (x4 : Int32) (σ : Mem) : Option (Int32 × Mem) :=
  (if 64 ≤ x4 then (if 0 ≤ x2 then (some (x2, σ)) else (bnd2 (fX6_finds 3 σ) fun v_69 s_69 => (some (v_69, s_69)))) else (bnd2 (fX6_laughAt x4 x1 σ) fun v_32 s_32 => ((fX6_ones v_32).bind fun v_35 => (if v_35 ≤ 0 then (k21 x2 x3 (x4 + 1) s_32) else (if x3 ≤ v_35 then (k21 x2 x3 (x4 + 1) s_32) else (k21 x4 v_35 (x4 + 1) s_32))))))
def fX6_quiet (x1 : Int32) (σ : Mem) : Option (Int32 × Mem) :=
  (if fX6_isFun x1 = true then (pb ((-1) : Int32) fun x2_14 => (lw4 (fX6_quiet_21 x1) FU x2_14 9 1 σ)) else (bnd2 (fX6_finds 0 σ) fun v_9 s_9 => (some (v_9, s_9))))
set_option maxRecDepth 20000 in
theorem pX6_quiet_21 {M : MC} {w : WE} (X : Cx M w shR cX6_quiet 6 RX6 (some .int) 4)   (x1 : Int32)    : ∀ (n : Nat) (x2 : Int32) (x3 : Int32) (x4 : Int32) (σ : Mem), Cp M w shR 6 iIM 21 [some (.ref (wad w 0)), some (.int x1), some (.int x2), some (.int x3), some (.int x4), none] [] σ (lw4 (fX6_quiet_21 x1) n x2 x3 x4 σ) :=
  lw4_i (P := fun x2 x3 x4 σ b => Cp M w shR 6 iIM 21 [some (.ref (wad w 0)), some (.int x1), some (.int x2), some (.int x3), some (.int x4), none] [] σ b) (fun _ _ _ _ => Cp.non) (fun k21 hk21 x2 x3 x4 σ => by
  unfold fX6_quiet_21
  refine Cp.iload X dX6_quiet_21 rfl ?_
  refine Cp.bipush (v := 64) X dX6_quiet_23 rfl ?_
  refine Cp.icmp_ge X 63 dX6_quiet_25 (by decide) (fun c_25 => ?_) (fun c_25 => ?_)
  · refine Cp.iload_n (i := 2) X dX6_quiet_63 rfl rfl ?_
    refine Cp.if_ge X 75 dX6_quiet_64 (by decide) (fun c_64 => ?_) (fun c_64 => ?_)
    · refine Cp.iload_n (i := 2) X dX6_quiet_75 rfl rfl ?_
      exact Cp.iret X dX6_quiet_76 rfl
    · refine Cp.aload_n (i := 0) X dX6_quiet_67 rfl rfl ?_
      refine Cp.iconst (v := 3) X dX6_quiet_68 rfl ?_
      refine Cp.cVIM [] X [.int 3] cvX6_finds (kX6_finds X.ok 3 σ) sr_0 rfl rfl wmX6_103 rfl rfl dX6_quiet_69 rfl (Nat.le_of_ble_eq_true rfl) (fun v_69 s_69 => ?_)
      refine Cp.goto X 76 dX6_quiet_72 (by decide) ?_
      exact Cp.iret X dX6_quiet_76 rfl
  · refine Cp.aload_n (i := 0) X dX6_quiet_28 rfl rfl ?_
    refine Cp.iload X dX6_quiet_29 rfl ?_
    refine Cp.iload_n (i := 1) X dX6_quiet_31 rfl rfl ?_
    refine Cp.cVIM [] X [.int x4, .int x1] cvX6_laughAt (kX6_laughAt X.ok x4 x1 σ) sr_0 rfl rfl wmX6_162 rfl rfl dX6_quiet_32 rfl (Nat.le_of_ble_eq_true rfl) (fun v_32 s_32 => ?_)
    refine Cp.cSI [] X [.int v_32] csX6_ones (kX6_ones X.ok v_32 s_32) wmX6_76 rfl rfl dX6_quiet_35 rfl (Nat.le_of_ble_eq_true rfl) (fun v_35 => ?_)
    refine Cp.istore X dX6_quiet_38 (Nat.le_of_ble_eq_true rfl) rfl ?_
    refine Cp.iload X dX6_quiet_40 rfl ?_
    refine Cp.if_le X 57 dX6_quiet_42 (by decide) (fun c_42 => ?_) (fun c_42 => ?_)
    · refine Cp.iinc (v := x4 + 1) X dX6_quiet_57 rfl rfl (Nat.le_of_ble_eq_true rfl) rfl ?_
      refine Cp.goto X 21 dX6_quiet_60 (by decide) ?_
      refine Cp.mask [true, true, true, true, true, false] ?_
      exact hk21 x2 x3 (x4 + 1) s_32
    · refine Cp.iload X dX6_quiet_45 rfl ?_
      refine Cp.iload_n (i := 3) X dX6_quiet_47 rfl rfl ?_
      refine Cp.icmp_ge X 57 dX6_quiet_48 (by decide) (fun c_48 => ?_) (fun c_48 => ?_)
      · refine Cp.iinc (v := x4 + 1) X dX6_quiet_57 rfl rfl (Nat.le_of_ble_eq_true rfl) rfl ?_
        refine Cp.goto X 21 dX6_quiet_60 (by decide) ?_
        refine Cp.mask [true, true, true, true, true, false] ?_
        exact hk21 x2 x3 (x4 + 1) s_32
      · refine Cp.iload X dX6_quiet_51 rfl ?_
        refine Cp.istore_n (i := 2) X dX6_quiet_53 rfl (Nat.le_of_ble_eq_true rfl) rfl ?_
        refine Cp.iload X dX6_quiet_54 rfl ?_
        refine Cp.istore_n (i := 3) X dX6_quiet_56 rfl (Nat.le_of_ble_eq_true rfl) rfl ?_
        refine Cp.iinc (v := x4 + 1) X dX6_quiet_57 rfl rfl (Nat.le_of_ble_eq_true rfl) rfl ?_
        refine Cp.goto X 21 dX6_quiet_60 (by decide) ?_
        refine Cp.mask [true, true, true, true, true, false] ?_
        exact hk21 x4 v_35 (x4 + 1) s_32)
set_option maxRecDepth 20000 in
theorem pX6_quiet {M : MC} {w : WE} (X : Cx M w shR cX6_quiet 6 RX6 (some .int) 4)   (x1 : Int32) (σ : Mem) : Cp M w shR 6 iIM 0 [some (.ref (wad w 0)), some (.int x1), none, none, none, none] [] σ (fX6_quiet x1 σ) := by
  unfold fX6_quiet
  refine Cp.iload_n (i := 1) X dX6_quiet_0 rfl rfl ?_
  refine Cp.cSBT [] X [.int x1] csX6_isFun (kX6_isFun X.ok x1 σ) wmX6_132 rfl rfl dX6_quiet_1 rfl (Nat.le_of_ble_eq_true rfl) ?_
  refine Cp.if_neB X 13 dX6_quiet_4 (by decide) (fun c_4 => ?_) (fun c_4 => ?_)
  · refine Cp.iconst (v := (-1)) X dX6_quiet_13 rfl ?_
    refine Cp.nameI (fun x2_14 => ?_)
    refine Cp.istore_n (i := 2) X dX6_quiet_14 rfl (Nat.le_of_ble_eq_true rfl) rfl ?_
    refine Cp.bipush (v := 9) X dX6_quiet_15 rfl ?_
    refine Cp.istore_n (i := 3) X dX6_quiet_17 rfl (Nat.le_of_ble_eq_true rfl) rfl ?_
    refine Cp.iconst (v := 1) X dX6_quiet_18 rfl ?_
    refine Cp.istore X dX6_quiet_19 (Nat.le_of_ble_eq_true rfl) rfl ?_
    exact pX6_quiet_21 X x1 FU x2_14 9 1 σ
  · refine Cp.aload_n (i := 0) X dX6_quiet_7 rfl rfl ?_
    refine Cp.iconst (v := 0) X dX6_quiet_8 rfl ?_
    refine Cp.cVIM [] X [.int 0] cvX6_finds (kX6_finds X.ok 0 σ) sr_0 rfl rfl wmX6_103 rfl rfl dX6_quiet_9 rfl (Nat.le_of_ble_eq_true rfl) (fun v_9 s_9 => ?_)
    exact Cp.iret X dX6_quiet_12 rfl
theorem kX6_quiet {l : Launch} {w : WE} (hok : OkW w shR)   (x1 : Int32) (σ : Mem) : ∀ v, fX6_quiet x1 σ = some v → Ctr l w shR yX6_quiet cX6_quiet 6 (some .int) 4 [.ref (wad w 0), .int x1] σ (iIM v) := fun v hv => Ctr.of [some (.ref (wad w 0)), some (.int x1), none, none, none, none] (by decide) hok rfl (Nat.le_of_ble_eq_true rfl) (fun M _ X => pX6_quiet X   x1 σ v hv)
def fX6_safe_17 (x1 : Int32) (k17 : Int32 → Int32 → Mem → Option (Int32 × Mem)) (x2 : Int32) (x3 : Int32) (σ : Mem) : Option (Int32 × Mem) :=
  (if 9 < x3 then (if 0 ≤ x2 then (some (x2, σ)) else (bnd2 (fX6_finds 3 σ) fun v_50 s_50 => (some (v_50, s_50)))) else (bnd2 (fX6_laughAt x1 x3 σ) fun v_26 s_26 => (if v_26 = 0 then (k17 x3 (x3 + 1) s_26) else (k17 x2 (x3 + 1) s_26))))
def fX6_safe (x1 : Int32) (σ : Mem) : Option (Int32 × Mem) :=
  (if fX6_isTopics x1 = true then (pb ((-1) : Int32) fun x2_14 => (lw3 (fX6_safe_17 x1) FU x2_14 0 σ)) else (bnd2 (fX6_finds 0 σ) fun v_9 s_9 => (some (v_9, s_9))))
set_option maxRecDepth 20000 in
theorem pX6_safe_17 {M : MC} {w : WE} (X : Cx M w shR cX6_safe 4 RX6 (some .int) 4)   (x1 : Int32)    : ∀ (n : Nat) (x2 : Int32) (x3 : Int32) (σ : Mem), Cp M w shR 4 iIM 17 [some (.ref (wad w 0)), some (.int x1), some (.int x2), some (.int x3)] [] σ (lw3 (fX6_safe_17 x1) n x2 x3 σ) :=
  lw3_i (P := fun x2 x3 σ b => Cp M w shR 4 iIM 17 [some (.ref (wad w 0)), some (.int x1), some (.int x2), some (.int x3)] [] σ b) (fun _ _ _ => Cp.non) (fun k17 hk17 x2 x3 σ => by
  unfold fX6_safe_17
  refine Cp.iload_n (i := 3) X dX6_safe_17 rfl rfl ?_
  refine Cp.bipush (v := 9) X dX6_safe_18 rfl ?_
  refine Cp.icmp_gt X 44 dX6_safe_20 (by decide) (fun c_20 => ?_) (fun c_20 => ?_)
  · refine Cp.iload_n (i := 2) X dX6_safe_44 rfl rfl ?_
    refine Cp.if_ge X 56 dX6_safe_45 (by decide) (fun c_45 => ?_) (fun c_45 => ?_)
    · refine Cp.iload_n (i := 2) X dX6_safe_56 rfl rfl ?_
      exact Cp.iret X dX6_safe_57 rfl
    · refine Cp.aload_n (i := 0) X dX6_safe_48 rfl rfl ?_
      refine Cp.iconst (v := 3) X dX6_safe_49 rfl ?_
      refine Cp.cVIM [] X [.int 3] cvX6_finds (kX6_finds X.ok 3 σ) sr_0 rfl rfl wmX6_103 rfl rfl dX6_safe_50 rfl (Nat.le_of_ble_eq_true rfl) (fun v_50 s_50 => ?_)
      refine Cp.goto X 57 dX6_safe_53 (by decide) ?_
      exact Cp.iret X dX6_safe_57 rfl
  · refine Cp.aload_n (i := 0) X dX6_safe_23 rfl rfl ?_
    refine Cp.iload_n (i := 1) X dX6_safe_24 rfl rfl ?_
    refine Cp.iload_n (i := 3) X dX6_safe_25 rfl rfl ?_
    refine Cp.cVIM [] X [.int x1, .int x3] cvX6_laughAt (kX6_laughAt X.ok x1 x3 σ) sr_0 rfl rfl wmX6_162 rfl rfl dX6_safe_26 rfl (Nat.le_of_ble_eq_true rfl) (fun v_26 s_26 => ?_)
    refine Cp.if_ne X 36 dX6_safe_29 (by decide) (fun c_29 => ?_) (fun c_29 => ?_)
    · refine Cp.iload_n (i := 2) X dX6_safe_36 rfl rfl ?_
      refine Cp.istore_n (i := 2) X dX6_safe_37 rfl (Nat.le_of_ble_eq_true rfl) rfl ?_
      refine Cp.iinc (v := x3 + 1) X dX6_safe_38 rfl rfl (Nat.le_of_ble_eq_true rfl) rfl ?_
      refine Cp.goto X 17 dX6_safe_41 (by decide) ?_
      exact hk17 x2 (x3 + 1) s_26
    · refine Cp.iload_n (i := 3) X dX6_safe_32 rfl rfl ?_
      refine Cp.goto X 37 dX6_safe_33 (by decide) ?_
      refine Cp.istore_n (i := 2) X dX6_safe_37 rfl (Nat.le_of_ble_eq_true rfl) rfl ?_
      refine Cp.iinc (v := x3 + 1) X dX6_safe_38 rfl rfl (Nat.le_of_ble_eq_true rfl) rfl ?_
      refine Cp.goto X 17 dX6_safe_41 (by decide) ?_
      exact hk17 x3 (x3 + 1) s_26)
set_option maxRecDepth 20000 in
theorem pX6_safe {M : MC} {w : WE} (X : Cx M w shR cX6_safe 4 RX6 (some .int) 4)   (x1 : Int32) (σ : Mem) : Cp M w shR 4 iIM 0 [some (.ref (wad w 0)), some (.int x1), none, none] [] σ (fX6_safe x1 σ) := by
  unfold fX6_safe
  refine Cp.iload_n (i := 1) X dX6_safe_0 rfl rfl ?_
  refine Cp.cSBT [] X [.int x1] csX6_isTopics (kX6_isTopics X.ok x1 σ) wmX6_129 rfl rfl dX6_safe_1 rfl (Nat.le_of_ble_eq_true rfl) ?_
  refine Cp.if_neB X 13 dX6_safe_4 (by decide) (fun c_4 => ?_) (fun c_4 => ?_)
  · refine Cp.iconst (v := (-1)) X dX6_safe_13 rfl ?_
    refine Cp.nameI (fun x2_14 => ?_)
    refine Cp.istore_n (i := 2) X dX6_safe_14 rfl (Nat.le_of_ble_eq_true rfl) rfl ?_
    refine Cp.iconst (v := 0) X dX6_safe_15 rfl ?_
    refine Cp.istore_n (i := 3) X dX6_safe_16 rfl (Nat.le_of_ble_eq_true rfl) rfl ?_
    exact pX6_safe_17 X x1 FU x2_14 0 σ
  · refine Cp.aload_n (i := 0) X dX6_safe_7 rfl rfl ?_
    refine Cp.iconst (v := 0) X dX6_safe_8 rfl ?_
    refine Cp.cVIM [] X [.int 0] cvX6_finds (kX6_finds X.ok 0 σ) sr_0 rfl rfl wmX6_103 rfl rfl dX6_safe_9 rfl (Nat.le_of_ble_eq_true rfl) (fun v_9 s_9 => ?_)
    exact Cp.iret X dX6_safe_12 rfl
theorem kX6_safe {l : Launch} {w : WE} (hok : OkW w shR)   (x1 : Int32) (σ : Mem) : ∀ v, fX6_safe x1 σ = some v → Ctr l w shR yX6_safe cX6_safe 4 (some .int) 4 [.ref (wad w 0), .int x1] σ (iIM v) := fun v hv => Ctr.of [some (.ref (wad w 0)), some (.int x1), none, none] (by decide) hok rfl (Nat.le_of_ble_eq_true rfl) (fun M _ X => pX6_safe X   x1 σ v hv)
def fX6_isSheet (x0 : Int32) : Bool :=
  fX6_in ((x0 : Int32).toInt64) 0 3
set_option maxRecDepth 20000 in
theorem pX6_isSheet {M : MC} {w : WE} (X : Cx M w shR cX6_isSheet 1 RX6 (some .boolean) 1)   (x0 : Int32) (σ : Mem) : Cp M w shR 1 (iB σ) 0 [some (.int x0)] [] σ (some (fX6_isSheet x0)) := by
  unfold fX6_isSheet
  refine Cp.iload_n (i := 0) X dX6_isSheet_0 rfl rfl ?_
  refine Cp.i2l X dX6_isSheet_1 ?_
  refine Cp.lconst (v := 0) X dX6_isSheet_2 rfl ?_
  refine Cp.ldc2 (v := 3) X wcX6_316 dX6_isSheet_3 ?_
  refine Cp.cSBT [] X [.long ((x0 : Int32).toInt64), .long 0, .long 3] csX6_in (kX6_in X.ok ((x0 : Int32).toInt64) 0 3 σ) wmX6_48 rfl rfl dX6_isSheet_6 rfl (Nat.le_of_ble_eq_true rfl) ?_
  exact Cp.bret X dX6_isSheet_9 rfl
theorem kX6_isSheet {l : Launch} {w : WE} (hok : OkW w shR)   (x0 : Int32) (σ : Mem) : Ctr l w shR yX6_isSheet cX6_isSheet 1 (some .boolean) 1 [.int x0] σ ((iB σ) (fX6_isSheet x0)) := Ctr.of [some (.int x0)] (by decide) hok rfl (Nat.le_of_ble_eq_true rfl) (fun M _ X => pX6_isSheet X   x0 σ _ rfl)
def fX6_lacks (x1 : Int32) (σ : Mem) : Option Int32 :=
  (if fX6_isSheet x1 = true then (gd (inB x1 4 = true) (if (σ 8 x1.toNatClampNeg) = 0 then (some 5) else (some (-1)))) else (some 0))
set_option maxRecDepth 20000 in
theorem pX6_lacks {M : MC} {w : WE} (X : Cx M w shR cX6_lacks 2 RX6 (some .int) 2)   (x1 : Int32) (σ : Mem) : Cp M w shR 2 (iI σ) 0 [some (.ref (wad w 0)), some (.int x1)] [] σ (fX6_lacks x1 σ) := by
  unfold fX6_lacks
  refine Cp.iload_n (i := 1) X dX6_lacks_0 rfl rfl ?_
  refine Cp.cSBT [] X [.int x1] csX6_isSheet (kX6_isSheet X.ok x1 σ) wmX6_318 rfl rfl dX6_lacks_1 rfl (Nat.le_of_ble_eq_true rfl) ?_
  refine Cp.if_neB X 11 dX6_lacks_4 (by decide) (fun c_4 => ?_) (fun c_4 => ?_)
  · refine Cp.aload_n (i := 0) X dX6_lacks_11 rfl rfl ?_
    refine gfX6_31 X 8 sr_0 rfl dX6_lacks_12 ?_
    refine Cp.iload_n (i := 1) X dX6_lacks_15 rfl rfl ?_
    refine Cp.iald X sr_8 dX6_lacks_16 ?_
    refine Cp.if_ne X 24 dX6_lacks_17 (by decide) (fun c_17 => ?_) (fun c_17 => ?_)
    · refine Cp.iconst (v := (-1)) X dX6_lacks_24 rfl ?_
      exact Cp.iret X dX6_lacks_25 rfl
    · refine Cp.iconst (v := 5) X dX6_lacks_20 rfl ?_
      refine Cp.goto X 25 dX6_lacks_21 (by decide) ?_
      exact Cp.iret X dX6_lacks_25 rfl
  · refine Cp.iconst (v := 0) X dX6_lacks_7 rfl ?_
    refine Cp.goto X 25 dX6_lacks_8 (by decide) ?_
    exact Cp.iret X dX6_lacks_25 rfl
theorem kX6_lacks {l : Launch} {w : WE} (hok : OkW w shR)   (x1 : Int32) (σ : Mem) : ∀ v, fX6_lacks x1 σ = some v → Ctr l w shR yX6_lacks cX6_lacks 2 (some .int) 2 [.ref (wad w 0), .int x1] σ ((iI σ) v) := fun v hv => Ctr.of [some (.ref (wad w 0)), some (.int x1)] (by decide) hok rfl (Nat.le_of_ble_eq_true rfl) (fun M _ X => pX6_lacks X   x1 σ v hv)
def fX6_lacksTastes (x1 : Int32) (x2 : Int32) (x3 : Int32) (σ : Mem) : Option Int32 :=
  ((fX6_lacks x1 σ).bind fun v_2 => (if v_2 < 0 then (if fX6_isPerson x2 σ = true then (if fX6_isJoke x3 σ = true then (some (-1)) else (some 0)) else (some 0)) else (some v_2)))
set_option maxRecDepth 20000 in
theorem pX6_lacksTastes {M : MC} {w : WE} (X : Cx M w shR cX6_lacksTastes 5 RX6 (some .int) 3)   (x1 : Int32) (x2 : Int32) (x3 : Int32) (σ : Mem) : Cp M w shR 5 (iI σ) 0 [some (.ref (wad w 0)), some (.int x1), some (.int x2), some (.int x3), none] [] σ (fX6_lacksTastes x1 x2 x3 σ) := by
  unfold fX6_lacksTastes
  refine Cp.aload_n (i := 0) X dX6_lacksTastes_0 rfl rfl ?_
  refine Cp.iload_n (i := 1) X dX6_lacksTastes_1 rfl rfl ?_
  refine Cp.cVI [] X [.int x1] cvX6_lacks (kX6_lacks X.ok x1 σ) sr_0 rfl rfl wmX6_204 rfl rfl dX6_lacksTastes_2 rfl (Nat.le_of_ble_eq_true rfl) (fun v_2 => ?_)
  refine Cp.istore X dX6_lacksTastes_5 (Nat.le_of_ble_eq_true rfl) rfl ?_
  refine Cp.iload X dX6_lacksTastes_7 rfl ?_
  refine Cp.if_lt X 15 dX6_lacksTastes_9 (by decide) (fun c_9 => ?_) (fun c_9 => ?_)
  · refine Cp.aload_n (i := 0) X dX6_lacksTastes_15 rfl rfl ?_
    refine Cp.iload_n (i := 2) X dX6_lacksTastes_16 rfl rfl ?_
    refine Cp.cVBT [] X [.int x2] cvX6_isPerson (kX6_isPerson X.ok x2 σ) sr_0 rfl rfl wmX6_109 rfl rfl dX6_lacksTastes_17 rfl (Nat.le_of_ble_eq_true rfl) ?_
    refine Cp.if_eqB X 35 dX6_lacksTastes_20 (by decide) (fun c_20 => ?_) (fun c_20 => ?_)
    · refine Cp.iconst (v := 0) X dX6_lacksTastes_35 rfl ?_
      exact Cp.iret X dX6_lacksTastes_36 rfl
    · refine Cp.aload_n (i := 0) X dX6_lacksTastes_23 rfl rfl ?_
      refine Cp.iload_n (i := 3) X dX6_lacksTastes_24 rfl rfl ?_
      refine Cp.cVBT [] X [.int x3] cvX6_isJoke (kX6_isJoke X.ok x3 σ) sr_0 rfl rfl wmX6_138 rfl rfl dX6_lacksTastes_25 rfl (Nat.le_of_ble_eq_true rfl) ?_
      refine Cp.if_eqB X 35 dX6_lacksTastes_28 (by decide) (fun c_28 => ?_) (fun c_28 => ?_)
      · refine Cp.iconst (v := 0) X dX6_lacksTastes_35 rfl ?_
        exact Cp.iret X dX6_lacksTastes_36 rfl
      · refine Cp.iconst (v := (-1)) X dX6_lacksTastes_31 rfl ?_
        refine Cp.goto X 36 dX6_lacksTastes_32 (by decide) ?_
        exact Cp.iret X dX6_lacksTastes_36 rfl
  · refine Cp.iload X dX6_lacksTastes_12 rfl ?_
    exact Cp.iret X dX6_lacksTastes_14 rfl
theorem kX6_lacksTastes {l : Launch} {w : WE} (hok : OkW w shR)   (x1 : Int32) (x2 : Int32) (x3 : Int32) (σ : Mem) : ∀ v, fX6_lacksTastes x1 x2 x3 σ = some v → Ctr l w shR yX6_lacksTastes cX6_lacksTastes 5 (some .int) 3 [.ref (wad w 0), .int x1, .int x2, .int x3] σ ((iI σ) v) := fun v hv => Ctr.of [some (.ref (wad w 0)), some (.int x1), some (.int x2), some (.int x3), none] (by decide) hok rfl (Nat.le_of_ble_eq_true rfl) (fun M _ X => pX6_lacksTastes X   x1 x2 x3 σ v hv)
def fX6_paysSo_6 (x1 : Int32) (x2 : Int32) (x3 : Int32) (k6 : Int32 → Int32 → Mem → Option (Bool × Mem)) (x4 : Int32) (x5 : Int32) (σ : Mem) : Option (Bool × Mem) :=
  (gd (inB x1 4 = true) (if (σ 9 x1.toNatClampNeg) ≤ x5 then (gd (x4 = 0 ∨ x4 = 1) (some ((fun z => (z, σ)) (decide (x4 = 1))))) else (if x4 = 0 then (gd (x4 = 0 ∨ x4 = 1) (some ((fun z => (z, σ)) (decide (x4 = 1))))) else (bnd2 (fX6_tells x3 σ) fun v_24 s_24 => (gd (inB ((40 * x1) + x5) 160 = true) (pb (s_24 10 ((40 * x1) + x5).toNatClampNeg : Int32) fun x7_41 => (if x7_41 = (-1) then (k6 1 (x5 + 1) s_24) else (gd (inB x2 8 = true) (if x7_41 = (s_24 6 x2.toNatClampNeg) then (k6 1 (x5 + 1) s_24) else (k6 0 (x5 + 1) s_24))))))))))
def fX6_paysSo (x1 : Int32) (x2 : Int32) (x3 : Int32) (σ : Mem) : Option (Bool × Mem) :=
  (lw3 (fX6_paysSo_6 x1 x2 x3) FU 1 0 σ)
set_option maxRecDepth 20000 in
theorem pX6_paysSo_6 {M : MC} {w : WE} (X : Cx M w shR cX6_paysSo 8 RX6 (some .boolean) 5)   (x1 : Int32) (x2 : Int32) (x3 : Int32)    : ∀ (n : Nat) (x4 : Int32) (x5 : Int32) (σ : Mem), Cp M w shR 8 iBM 6 [some (.ref (wad w 0)), some (.int x1), some (.int x2), some (.int x3), some (.int x4), some (.int x5), none, none] [] σ (lw3 (fX6_paysSo_6 x1 x2 x3) n x4 x5 σ) :=
  lw3_i (P := fun x4 x5 σ b => Cp M w shR 8 iBM 6 [some (.ref (wad w 0)), some (.int x1), some (.int x2), some (.int x3), some (.int x4), some (.int x5), none, none] [] σ b) (fun _ _ _ => Cp.non) (fun k6 hk6 x4 x5 σ => by
  unfold fX6_paysSo_6
  refine Cp.iload X dX6_paysSo_6 rfl ?_
  refine Cp.aload_n (i := 0) X dX6_paysSo_8 rfl rfl ?_
  refine gfX6_34 X 9 sr_0 rfl dX6_paysSo_9 ?_
  refine Cp.iload_n (i := 1) X dX6_paysSo_12 rfl rfl ?_
  refine Cp.iald X sr_9 dX6_paysSo_13 ?_
  refine Cp.icmp_ge X 73 dX6_paysSo_14 (by decide) (fun c_14 => ?_) (fun c_14 => ?_)
  · refine Cp.iload X dX6_paysSo_73 rfl ?_
    exact Cp.bretI (g := (fun z => (z, σ))) X dX6_paysSo_75 (fun _ => rfl)
  · refine Cp.iload X dX6_paysSo_17 rfl ?_
    refine Cp.if_eq X 73 dX6_paysSo_19 (by decide) (fun c_19 => ?_) (fun c_19 => ?_)
    · refine Cp.iload X dX6_paysSo_73 rfl ?_
      exact Cp.bretI (g := (fun z => (z, σ))) X dX6_paysSo_75 (fun _ => rfl)
    · refine Cp.aload_n (i := 0) X dX6_paysSo_22 rfl rfl ?_
      refine Cp.iload_n (i := 3) X dX6_paysSo_23 rfl rfl ?_
      refine Cp.cVIM [] X [.int x3] cvX6_tells (kX6_tells X.ok x3 σ) sr_0 rfl rfl wmX6_167 rfl rfl dX6_paysSo_24 rfl (Nat.le_of_ble_eq_true rfl) (fun v_24 s_24 => ?_)
      refine Cp.istore X dX6_paysSo_27 (Nat.le_of_ble_eq_true rfl) rfl ?_
      refine Cp.aload_n (i := 0) X dX6_paysSo_29 rfl rfl ?_
      refine gfX6_37 X 10 sr_0 rfl dX6_paysSo_30 ?_
      refine Cp.bipush (v := 40) X dX6_paysSo_33 rfl ?_
      refine Cp.iload_n (i := 1) X dX6_paysSo_35 rfl rfl ?_
      refine Cp.imul X dX6_paysSo_36 ?_
      refine Cp.iload X dX6_paysSo_37 rfl ?_
      refine Cp.iadd X dX6_paysSo_39 ?_
      refine Cp.iald X sr_10 dX6_paysSo_40 ?_
      refine Cp.nameI (fun x7_41 => ?_)
      refine Cp.istore X dX6_paysSo_41 (Nat.le_of_ble_eq_true rfl) rfl ?_
      refine Cp.iload X dX6_paysSo_43 rfl ?_
      refine Cp.iconst (v := (-1)) X dX6_paysSo_45 rfl ?_
      refine Cp.icmp_eq X 60 dX6_paysSo_46 (by decide) (fun c_46 => ?_) (fun c_46 => ?_)
      · refine Cp.iconst (v := 1) X dX6_paysSo_60 rfl ?_
        refine Cp.goto X 65 dX6_paysSo_61 (by decide) ?_
        refine Cp.istore X dX6_paysSo_65 (Nat.le_of_ble_eq_true rfl) rfl ?_
        refine Cp.iinc (v := x5 + 1) X dX6_paysSo_67 rfl rfl (Nat.le_of_ble_eq_true rfl) rfl ?_
        refine Cp.goto X 6 dX6_paysSo_70 (by decide) ?_
        refine Cp.mask [true, true, true, true, true, true, false, false] ?_
        exact hk6 1 (x5 + 1) s_24
      · refine Cp.iload X dX6_paysSo_49 rfl ?_
        refine Cp.aload_n (i := 0) X dX6_paysSo_51 rfl rfl ?_
        refine gfX6_25 X 6 sr_0 rfl dX6_paysSo_52 ?_
        refine Cp.iload_n (i := 2) X dX6_paysSo_55 rfl rfl ?_
        refine Cp.iald X sr_6 dX6_paysSo_56 ?_
        refine Cp.icmp_ne X 64 dX6_paysSo_57 (by decide) (fun c_57 => ?_) (fun c_57 => ?_)
        · refine Cp.iconst (v := 0) X dX6_paysSo_64 rfl ?_
          refine Cp.istore X dX6_paysSo_65 (Nat.le_of_ble_eq_true rfl) rfl ?_
          refine Cp.iinc (v := x5 + 1) X dX6_paysSo_67 rfl rfl (Nat.le_of_ble_eq_true rfl) rfl ?_
          refine Cp.goto X 6 dX6_paysSo_70 (by decide) ?_
          refine Cp.mask [true, true, true, true, true, true, false, false] ?_
          exact hk6 0 (x5 + 1) s_24
        · refine Cp.iconst (v := 1) X dX6_paysSo_60 rfl ?_
          refine Cp.goto X 65 dX6_paysSo_61 (by decide) ?_
          refine Cp.istore X dX6_paysSo_65 (Nat.le_of_ble_eq_true rfl) rfl ?_
          refine Cp.iinc (v := x5 + 1) X dX6_paysSo_67 rfl rfl (Nat.le_of_ble_eq_true rfl) rfl ?_
          refine Cp.goto X 6 dX6_paysSo_70 (by decide) ?_
          refine Cp.mask [true, true, true, true, true, true, false, false] ?_
          exact hk6 1 (x5 + 1) s_24)
set_option maxRecDepth 20000 in
theorem pX6_paysSo {M : MC} {w : WE} (X : Cx M w shR cX6_paysSo 8 RX6 (some .boolean) 5)   (x1 : Int32) (x2 : Int32) (x3 : Int32) (σ : Mem) : Cp M w shR 8 iBM 0 [some (.ref (wad w 0)), some (.int x1), some (.int x2), some (.int x3), none, none, none, none] [] σ (fX6_paysSo x1 x2 x3 σ) := by
  unfold fX6_paysSo
  refine Cp.iconst (v := 1) X dX6_paysSo_0 rfl ?_
  refine Cp.istore X dX6_paysSo_1 (Nat.le_of_ble_eq_true rfl) rfl ?_
  refine Cp.iconst (v := 0) X dX6_paysSo_3 rfl ?_
  refine Cp.istore X dX6_paysSo_4 (Nat.le_of_ble_eq_true rfl) rfl ?_
  exact pX6_paysSo_6 X x1 x2 x3 FU 1 0 σ
theorem kX6_paysSo {l : Launch} {w : WE} (hok : OkW w shR)   (x1 : Int32) (x2 : Int32) (x3 : Int32) (σ : Mem) : ∀ v, fX6_paysSo x1 x2 x3 σ = some v → Ctr l w shR yX6_paysSo cX6_paysSo 8 (some .boolean) 5 [.ref (wad w 0), .int x1, .int x2, .int x3] σ (iBM v) := fun v hv => Ctr.of [some (.ref (wad w 0)), some (.int x1), some (.int x2), some (.int x3), none, none, none, none] (by decide) hok rfl (Nat.le_of_ble_eq_true rfl) (fun M _ X => pX6_paysSo X   x1 x2 x3 σ v hv)
def fX6_findTastes_54 (k12 : Int32 → Int32 → Mem → Option (Int32 × Mem)) (x1 : Int32) (x2 : Int32) (x3 : Int32) (x5 : Int32) (x6 : Int32) (t0 : Int32) (t1 : Int32) (σ : Mem) : Option (Int32 × Mem) :=
  (pb (t1 + t0 : Int32) fun x4_55 => (if x6 = 0 then (pb (up2 σ 0 8 (σ 0 8) : Mem) fun s_72 => (k12 x4_55 (x5 + (-1)) s_72)) else (pb (up2 σ 0 8 x5 : Mem) fun s_72 => (k12 x4_55 (x5 + (-1)) s_72))))
def fX6_findTastes_12 (x1 : Int32) (x2 : Int32) (x3 : Int32) (k12 : Int32 → Int32 → Mem → Option (Int32 × Mem)) (x4 : Int32) (x5 : Int32) (σ : Mem) : Option (Int32 × Mem) :=
  (if x5 < 0 then (some (x4, σ)) else ((fX6_lends σ).bind fun s_18 => ((fX6_sets x2 2 x5 s_18).bind fun s_26 => (bnd2 (fX6_paysSo x1 x2 x3 s_26) fun v_33 s_33 => ((fX6_laysBack s_33).bind fun s_39 => (if v_33 = true then (fX6_findTastes_54 k12 x1 x2 x3 x5 (b2i v_33) 1 x4 s_39) else (fX6_findTastes_54 k12 x1 x2 x3 x5 (b2i v_33) 0 x4 s_39)))))))
def fX6_findTastes (x1 : Int32) (x2 : Int32) (x3 : Int32) (σ : Mem) : Option (Int32 × Mem) :=
  (pb (up2 σ 0 8 (-1) : Mem) fun s_5 => (lw3 (fX6_findTastes_12 x1 x2 x3) FU 0 63 s_5))
set_option maxRecDepth 20000 in
theorem pX6_findTastes_54 {M : MC} {w : WE} (X : Cx M w shR cX6_findTastes 7 RX6 (some .int) 6)   (x1 : Int32) (x2 : Int32) (x3 : Int32) (x5 : Int32) (x6 : Int32) (t0 : Int32) (t1 : Int32)  (σ : Mem) (k12 : Int32 → Int32 → Mem → Option (Int32 × Mem)) (hk12 : ∀ (x4 : Int32) (x5 : Int32) (σ : Mem), Cp M w shR 7 iIM 12 [some (.ref (wad w 0)), some (.int x1), some (.int x2), some (.int x3), some (.int x4), some (.int x5), none] [] σ (k12 x4 x5 σ)) : Cp M w shR 7 iIM 54 [some (.ref (wad w 0)), some (.int x1), some (.int x2), some (.int x3), none, some (.int x5), some (.int x6)] [.int t0, .int t1] σ (fX6_findTastes_54 k12 x1 x2 x3 x5 x6 t0 t1 σ) := by
  unfold fX6_findTastes_54
  refine Cp.iadd X dX6_findTastes_54 ?_
  refine Cp.nameI (fun x4_55 => ?_)
  refine Cp.istore X dX6_findTastes_55 (Nat.le_of_ble_eq_true rfl) rfl ?_
  refine Cp.aload_n (i := 0) X dX6_findTastes_57 rfl rfl ?_
  refine Cp.iload X dX6_findTastes_58 rfl ?_
  refine Cp.if_eq X 68 dX6_findTastes_60 (by decide) (fun c_60 => ?_) (fun c_60 => ?_)
  · refine Cp.aload_n (i := 0) X dX6_findTastes_68 rfl rfl ?_
    refine gfX6_197 X sr_0 rfl dX6_findTastes_69 ?_
    refine pfX6_197 X sr_0 rfl dX6_findTastes_72 ?_
    refine Cp.nameM (fun s_72 => ?_)
    refine Cp.iinc (v := x5 + (-1)) X dX6_findTastes_75 rfl rfl (Nat.le_of_ble_eq_true rfl) rfl ?_
    refine Cp.goto X 12 dX6_findTastes_78 (by decide) ?_
    refine Cp.mask [true, true, true, true, true, true, false] ?_
    exact hk12 x4_55 (x5 + (-1)) s_72
  · refine Cp.iload X dX6_findTastes_63 rfl ?_
    refine Cp.goto X 72 dX6_findTastes_65 (by decide) ?_
    refine pfX6_197 X sr_0 rfl dX6_findTastes_72 ?_
    refine Cp.nameM (fun s_72 => ?_)
    refine Cp.iinc (v := x5 + (-1)) X dX6_findTastes_75 rfl rfl (Nat.le_of_ble_eq_true rfl) rfl ?_
    refine Cp.goto X 12 dX6_findTastes_78 (by decide) ?_
    refine Cp.mask [true, true, true, true, true, true, false] ?_
    exact hk12 x4_55 (x5 + (-1)) s_72
set_option maxRecDepth 20000 in
theorem pX6_findTastes_12 {M : MC} {w : WE} (X : Cx M w shR cX6_findTastes 7 RX6 (some .int) 6)   (x1 : Int32) (x2 : Int32) (x3 : Int32)    : ∀ (n : Nat) (x4 : Int32) (x5 : Int32) (σ : Mem), Cp M w shR 7 iIM 12 [some (.ref (wad w 0)), some (.int x1), some (.int x2), some (.int x3), some (.int x4), some (.int x5), none] [] σ (lw3 (fX6_findTastes_12 x1 x2 x3) n x4 x5 σ) :=
  lw3_i (P := fun x4 x5 σ b => Cp M w shR 7 iIM 12 [some (.ref (wad w 0)), some (.int x1), some (.int x2), some (.int x3), some (.int x4), some (.int x5), none] [] σ b) (fun _ _ _ => Cp.non) (fun k12 hk12 x4 x5 σ => by
  unfold fX6_findTastes_12
  refine Cp.iload X dX6_findTastes_12 rfl ?_
  refine Cp.if_lt X 81 dX6_findTastes_14 (by decide) (fun c_14 => ?_) (fun c_14 => ?_)
  · refine Cp.iload X dX6_findTastes_81 rfl ?_
    exact Cp.iret X dX6_findTastes_83 rfl
  · refine Cp.aload_n (i := 0) X dX6_findTastes_17 rfl rfl ?_
    refine Cp.cVV [] X [] cvX6_lends (kX6_lends X.ok σ) sr_0 rfl rfl wmX6_180 rfl rfl dX6_findTastes_18 rfl (Nat.le_of_ble_eq_true rfl) (fun s_18 => ?_)
    refine Cp.aload_n (i := 0) X dX6_findTastes_21 rfl rfl ?_
    refine Cp.iload_n (i := 2) X dX6_findTastes_22 rfl rfl ?_
    refine Cp.iconst (v := 2) X dX6_findTastes_23 rfl ?_
    refine Cp.iload X dX6_findTastes_24 rfl ?_
    refine Cp.cVV [] X [.int x2, .int 2, .int x5] cvX6_sets (kX6_sets X.ok x2 2 x5 s_18) sr_0 rfl rfl wmX6_92 rfl rfl dX6_findTastes_26 rfl (Nat.le_of_ble_eq_true rfl) (fun s_26 => ?_)
    refine Cp.aload_n (i := 0) X dX6_findTastes_29 rfl rfl ?_
    refine Cp.iload_n (i := 1) X dX6_findTastes_30 rfl rfl ?_
    refine Cp.iload_n (i := 2) X dX6_findTastes_31 rfl rfl ?_
    refine Cp.iload_n (i := 3) X dX6_findTastes_32 rfl rfl ?_
    refine Cp.cVBM [] X [.int x1, .int x2, .int x3] cvX6_paysSo (kX6_paysSo X.ok x1 x2 x3 s_26) sr_0 rfl rfl wmX6_200 rfl rfl dX6_findTastes_33 rfl (Nat.le_of_ble_eq_true rfl) (fun v_33 s_33 => ?_)
    refine Cp.istore X dX6_findTastes_36 (Nat.le_of_ble_eq_true rfl) rfl ?_
    refine Cp.aload_n (i := 0) X dX6_findTastes_38 rfl rfl ?_
    refine Cp.cVV [] X [] cvX6_laysBack (kX6_laysBack X.ok s_33) sr_0 rfl rfl wmX6_183 rfl rfl dX6_findTastes_39 rfl (Nat.le_of_ble_eq_true rfl) (fun s_39 => ?_)
    refine Cp.iload X dX6_findTastes_42 rfl ?_
    refine Cp.iload X dX6_findTastes_44 rfl ?_
    refine Cp.if_eqB X 53 dX6_findTastes_46 (by decide) (fun c_46 => ?_) (fun c_46 => ?_)
    · refine Cp.iconst (v := 0) X dX6_findTastes_53 rfl ?_
      refine Cp.mask [true, true, true, true, false, true, true] ?_
      exact pX6_findTastes_54 X x1 x2 x3 x5 (b2i v_33) 0 x4 s_39 k12 hk12
    · refine Cp.iconst (v := 1) X dX6_findTastes_49 rfl ?_
      refine Cp.goto X 54 dX6_findTastes_50 (by decide) ?_
      refine Cp.mask [true, true, true, true, false, true, true] ?_
      exact pX6_findTastes_54 X x1 x2 x3 x5 (b2i v_33) 1 x4 s_39 k12 hk12)
set_option maxRecDepth 20000 in
theorem pX6_findTastes {M : MC} {w : WE} (X : Cx M w shR cX6_findTastes 7 RX6 (some .int) 6)   (x1 : Int32) (x2 : Int32) (x3 : Int32) (σ : Mem) : Cp M w shR 7 iIM 0 [some (.ref (wad w 0)), some (.int x1), some (.int x2), some (.int x3), none, none, none] [] σ (fX6_findTastes x1 x2 x3 σ) := by
  unfold fX6_findTastes
  refine Cp.iconst (v := 0) X dX6_findTastes_0 rfl ?_
  refine Cp.istore X dX6_findTastes_1 (Nat.le_of_ble_eq_true rfl) rfl ?_
  refine Cp.aload_n (i := 0) X dX6_findTastes_3 rfl rfl ?_
  refine Cp.iconst (v := (-1)) X dX6_findTastes_4 rfl ?_
  refine pfX6_197 X sr_0 rfl dX6_findTastes_5 ?_
  refine Cp.nameM (fun s_5 => ?_)
  refine Cp.bipush (v := 63) X dX6_findTastes_8 rfl ?_
  refine Cp.istore X dX6_findTastes_10 (Nat.le_of_ble_eq_true rfl) rfl ?_
  exact pX6_findTastes_12 X x1 x2 x3 FU 0 63 s_5
theorem kX6_findTastes {l : Launch} {w : WE} (hok : OkW w shR)   (x1 : Int32) (x2 : Int32) (x3 : Int32) (σ : Mem) : ∀ v, fX6_findTastes x1 x2 x3 σ = some v → Ctr l w shR yX6_findTastes cX6_findTastes 7 (some .int) 6 [.ref (wad w 0), .int x1, .int x2, .int x3] σ (iIM v) := fun v hv => Ctr.of [some (.ref (wad w 0)), some (.int x1), some (.int x2), some (.int x3), none, none, none] (by decide) hok rfl (Nat.le_of_ble_eq_true rfl) (fun M _ X => pX6_findTastes X   x1 x2 x3 σ v hv)
def fX6_tastes (x1 : Int32) (x2 : Int32) (x3 : Int32) (σ : Mem) : Option (Int32 × Mem) :=
  ((fX6_lacksTastes x1 x2 x3 σ).bind fun v_4 => (if v_4 < 0 then (bnd2 (fX6_findTastes x1 x2 x3 σ) fun v_27 s_27 => (some (v_27, s_27))) else (bnd2 (fX6_finds v_4 σ) fun v_17 s_17 => (some (v_17, s_17)))))
set_option maxRecDepth 20000 in
theorem pX6_tastes {M : MC} {w : WE} (X : Cx M w shR cX6_tastes 5 RX6 (some .int) 7)   (x1 : Int32) (x2 : Int32) (x3 : Int32) (σ : Mem) : Cp M w shR 5 iIM 0 [some (.ref (wad w 0)), some (.int x1), some (.int x2), some (.int x3), none] [] σ (fX6_tastes x1 x2 x3 σ) := by
  unfold fX6_tastes
  refine Cp.aload_n (i := 0) X dX6_tastes_0 rfl rfl ?_
  refine Cp.iload_n (i := 1) X dX6_tastes_1 rfl rfl ?_
  refine Cp.iload_n (i := 2) X dX6_tastes_2 rfl rfl ?_
  refine Cp.iload_n (i := 3) X dX6_tastes_3 rfl rfl ?_
  refine Cp.cVI [] X [.int x1, .int x2, .int x3] cvX6_lacksTastes (kX6_lacksTastes X.ok x1 x2 x3 σ) sr_0 rfl rfl wmX6_207 rfl rfl dX6_tastes_4 rfl (Nat.le_of_ble_eq_true rfl) (fun v_4 => ?_)
  refine Cp.istore X dX6_tastes_7 (Nat.le_of_ble_eq_true rfl) rfl ?_
  refine Cp.iload X dX6_tastes_9 rfl ?_
  refine Cp.if_lt X 23 dX6_tastes_11 (by decide) (fun c_11 => ?_) (fun c_11 => ?_)
  · refine Cp.aload_n (i := 0) X dX6_tastes_23 rfl rfl ?_
    refine Cp.iload_n (i := 1) X dX6_tastes_24 rfl rfl ?_
    refine Cp.iload_n (i := 2) X dX6_tastes_25 rfl rfl ?_
    refine Cp.iload_n (i := 3) X dX6_tastes_26 rfl rfl ?_
    refine Cp.cVIM [] X [.int x1, .int x2, .int x3] cvX6_findTastes (kX6_findTastes X.ok x1 x2 x3 σ) sr_0 rfl rfl wmX6_210 rfl rfl dX6_tastes_27 rfl (Nat.le_of_ble_eq_true rfl) (fun v_27 s_27 => ?_)
    exact Cp.iret X dX6_tastes_30 rfl
  · refine Cp.aload_n (i := 0) X dX6_tastes_14 rfl rfl ?_
    refine Cp.iload X dX6_tastes_15 rfl ?_
    refine Cp.cVIM [] X [.int v_4] cvX6_finds (kX6_finds X.ok v_4 σ) sr_0 rfl rfl wmX6_103 rfl rfl dX6_tastes_17 rfl (Nat.le_of_ble_eq_true rfl) (fun v_17 s_17 => ?_)
    refine Cp.goto X 30 dX6_tastes_20 (by decide) ?_
    exact Cp.iret X dX6_tastes_30 rfl
theorem kX6_tastes {l : Launch} {w : WE} (hok : OkW w shR)   (x1 : Int32) (x2 : Int32) (x3 : Int32) (σ : Mem) : ∀ v, fX6_tastes x1 x2 x3 σ = some v → Ctr l w shR yX6_tastes cX6_tastes 5 (some .int) 7 [.ref (wad w 0), .int x1, .int x2, .int x3] σ (iIM v) := fun v hv => Ctr.of [some (.ref (wad w 0)), some (.int x1), some (.int x2), some (.int x3), none] (by decide) hok rfl (Nat.le_of_ble_eq_true rfl) (fun M _ X => pX6_tastes X   x1 x2 x3 σ v hv)
def fX6_taste (x1 : Int32) (x2 : Int32) (x3 : Int32) (σ : Mem) : Option (Int32 × Mem) :=
  ((fX6_lacksTastes x1 x2 x3 σ).bind fun v_4 => (if v_4 < 0 then (bnd2 (fX6_findTastes x1 x2 x3 σ) fun v_25 s_25 => (if v_25 = 0 then (bnd2 (fX6_finds 3 s_25) fun v_33 s_33 => (some (v_33, s_33))) else (some (s_25 0 8, s_25)))) else (bnd2 (fX6_finds v_4 σ) fun v_17 s_17 => (some (v_17, s_17)))))
set_option maxRecDepth 20000 in
theorem pX6_taste {M : MC} {w : WE} (X : Cx M w shR cX6_taste 5 RX6 (some .int) 7)   (x1 : Int32) (x2 : Int32) (x3 : Int32) (σ : Mem) : Cp M w shR 5 iIM 0 [some (.ref (wad w 0)), some (.int x1), some (.int x2), some (.int x3), none] [] σ (fX6_taste x1 x2 x3 σ) := by
  unfold fX6_taste
  refine Cp.aload_n (i := 0) X dX6_taste_0 rfl rfl ?_
  refine Cp.iload_n (i := 1) X dX6_taste_1 rfl rfl ?_
  refine Cp.iload_n (i := 2) X dX6_taste_2 rfl rfl ?_
  refine Cp.iload_n (i := 3) X dX6_taste_3 rfl rfl ?_
  refine Cp.cVI [] X [.int x1, .int x2, .int x3] cvX6_lacksTastes (kX6_lacksTastes X.ok x1 x2 x3 σ) sr_0 rfl rfl wmX6_207 rfl rfl dX6_taste_4 rfl (Nat.le_of_ble_eq_true rfl) (fun v_4 => ?_)
  refine Cp.istore X dX6_taste_7 (Nat.le_of_ble_eq_true rfl) rfl ?_
  refine Cp.iload X dX6_taste_9 rfl ?_
  refine Cp.if_lt X 21 dX6_taste_11 (by decide) (fun c_11 => ?_) (fun c_11 => ?_)
  · refine Cp.aload_n (i := 0) X dX6_taste_21 rfl rfl ?_
    refine Cp.iload_n (i := 1) X dX6_taste_22 rfl rfl ?_
    refine Cp.iload_n (i := 2) X dX6_taste_23 rfl rfl ?_
    refine Cp.iload_n (i := 3) X dX6_taste_24 rfl rfl ?_
    refine Cp.cVIM [] X [.int x1, .int x2, .int x3] cvX6_findTastes (kX6_findTastes X.ok x1 x2 x3 σ) sr_0 rfl rfl wmX6_210 rfl rfl dX6_taste_25 rfl (Nat.le_of_ble_eq_true rfl) (fun v_25 s_25 => ?_)
    refine Cp.if_ne X 39 dX6_taste_28 (by decide) (fun c_28 => ?_) (fun c_28 => ?_)
    · refine Cp.aload_n (i := 0) X dX6_taste_39 rfl rfl ?_
      refine gfX6_197 X sr_0 rfl dX6_taste_40 ?_
      exact Cp.iret X dX6_taste_43 rfl
    · refine Cp.aload_n (i := 0) X dX6_taste_31 rfl rfl ?_
      refine Cp.iconst (v := 3) X dX6_taste_32 rfl ?_
      refine Cp.cVIM [] X [.int 3] cvX6_finds (kX6_finds X.ok 3 s_25) sr_0 rfl rfl wmX6_103 rfl rfl dX6_taste_33 rfl (Nat.le_of_ble_eq_true rfl) (fun v_33 s_33 => ?_)
      refine Cp.goto X 43 dX6_taste_36 (by decide) ?_
      exact Cp.iret X dX6_taste_43 rfl
  · refine Cp.aload_n (i := 0) X dX6_taste_14 rfl rfl ?_
    refine Cp.iload X dX6_taste_15 rfl ?_
    refine Cp.cVIM [] X [.int v_4] cvX6_finds (kX6_finds X.ok v_4 σ) sr_0 rfl rfl wmX6_103 rfl rfl dX6_taste_17 rfl (Nat.le_of_ble_eq_true rfl) (fun v_17 s_17 => ?_)
    exact Cp.iret X dX6_taste_20 rfl
theorem kX6_taste {l : Launch} {w : WE} (hok : OkW w shR)   (x1 : Int32) (x2 : Int32) (x3 : Int32) (σ : Mem) : ∀ v, fX6_taste x1 x2 x3 σ = some v → Ctr l w shR yX6_taste cX6_taste 5 (some .int) 7 [.ref (wad w 0), .int x1, .int x2, .int x3] σ (iIM v) := fun v hv => Ctr.of [some (.ref (wad w 0)), some (.int x1), some (.int x2), some (.int x3), none] (by decide) hok rfl (Nat.le_of_ble_eq_true rfl) (fun M _ X => pX6_taste X   x1 x2 x3 σ v hv)
def fX6_which_127 (k21 : Int32 → Int32 → Mem → Option (Int32 × Mem)) (x1 : Int32) (x3 : Int32) (x4 : Int32) (x6 : Int32) (σ : Mem) : Option (Int32 × Mem) :=
  (if x6 = 0 then (pb (x3 ||| 0 : Int32) fun x3_142 => (k21 x3_142 (x4 + 1) σ)) else (pb (x3 ||| (1 <<< (x4 &&& 31)) : Int32) fun x3_142 => (k21 x3_142 (x4 + 1) σ)))
def fX6_which_55 (k21 : Int32 → Int32 → Mem → Option (Int32 × Mem)) (x1 : Int32) (x3 : Int32) (x4 : Int32) (σ : Mem) (k55 : Int32 → Int32 → Option (Int32 × Mem)) (x6 : Int32) (x7 : Int32) : Option (Int32 × Mem) :=
  (gd (inB x1 4 = true) (if (σ 9 x1.toNatClampNeg) ≤ x7 then (fX6_which_127 k21 x1 x3 x4 x6 σ) else (if (σ 1 5) ≤ x7 then (fX6_which_127 k21 x1 x3 x4 x6 σ) else (gd (inB ((40 * x1) + x7) 160 = true) (pb (σ 10 ((40 * x1) + x7).toNatClampNeg : Int32) fun x8_89 => (if x6 = 0 then (k55 0 (x7 + 1)) else (if x8_89 = (-1) then (k55 1 (x7 + 1)) else (gd (inB x7 8 = true) (if x8_89 = (σ 6 x7.toNatClampNeg) then (k55 1 (x7 + 1)) else (k55 0 (x7 + 1)))))))))))
def fX6_which_21 (x1 : Int32) (k21 : Int32 → Int32 → Mem → Option (Int32 × Mem)) (x3 : Int32) (x4 : Int32) (σ : Mem) : Option (Int32 × Mem) :=
  (if (σ 1 6) ≤ x4 then (some (x3, σ)) else ((fX6_lends σ).bind fun s_34 => (bnd2 (fX6_tells x4 s_34) fun v_40 s_40 => ((fX6_laysBack s_40).bind fun s_46 => (lw2 (fX6_which_55 k21 x1 x3 x4 s_46) FU 1 0)))))
def fX6_which (x1 : Int32) (σ : Mem) : Option (Int32 × Mem) :=
  ((fX6_lacks x1 σ).bind fun v_2 => (if v_2 < 0 then (lw3 (fX6_which_21 x1) FU 0 0 σ) else (bnd2 (fX6_finds v_2 σ) fun v_12 s_12 => (some (v_12, s_12)))))
set_option maxRecDepth 20000 in
theorem pX6_which_127 {M : MC} {w : WE} (X : Cx M w shR cX6_which 9 RX6 (some .int) 5)   (x1 : Int32) (x3 : Int32) (x4 : Int32) (x6 : Int32)  (σ : Mem) (k21 : Int32 → Int32 → Mem → Option (Int32 × Mem)) (hk21 : ∀ (x3 : Int32) (x4 : Int32) (σ : Mem), Cp M w shR 9 iIM 21 [some (.ref (wad w 0)), some (.int x1), none, some (.int x3), some (.int x4), none, none, none, none] [] σ (k21 x3 x4 σ)) : Cp M w shR 9 iIM 127 [some (.ref (wad w 0)), some (.int x1), none, some (.int x3), some (.int x4), none, some (.int x6), none, none] [] σ (fX6_which_127 k21 x1 x3 x4 x6 σ) := by
  unfold fX6_which_127
  refine Cp.iload_n (i := 3) X dX6_which_127 rfl rfl ?_
  refine Cp.iload X dX6_which_128 rfl ?_
  refine Cp.if_eq X 140 dX6_which_130 (by decide) (fun c_130 => ?_) (fun c_130 => ?_)
  · refine Cp.iconst (v := 0) X dX6_which_140 rfl ?_
    refine Cp.ior X dX6_which_141 ?_
    refine Cp.nameI (fun x3_142 => ?_)
    refine Cp.istore_n (i := 3) X dX6_which_142 rfl (Nat.le_of_ble_eq_true rfl) rfl ?_
    refine Cp.iinc (v := x4 + 1) X dX6_which_143 rfl rfl (Nat.le_of_ble_eq_true rfl) rfl ?_
    refine Cp.goto X 21 dX6_which_146 (by decide) ?_
    refine Cp.mask [true, true, false, true, true, false, false, false, false] ?_
    exact hk21 x3_142 (x4 + 1) σ
  · refine Cp.iconst (v := 1) X dX6_which_133 rfl ?_
    refine Cp.iload X dX6_which_134 rfl ?_
    refine Cp.ishl X dX6_which_136 ?_
    refine Cp.goto X 141 dX6_which_137 (by decide) ?_
    refine Cp.ior X dX6_which_141 ?_
    refine Cp.nameI (fun x3_142 => ?_)
    refine Cp.istore_n (i := 3) X dX6_which_142 rfl (Nat.le_of_ble_eq_true rfl) rfl ?_
    refine Cp.iinc (v := x4 + 1) X dX6_which_143 rfl rfl (Nat.le_of_ble_eq_true rfl) rfl ?_
    refine Cp.goto X 21 dX6_which_146 (by decide) ?_
    refine Cp.mask [true, true, false, true, true, false, false, false, false] ?_
    exact hk21 x3_142 (x4 + 1) σ
set_option maxRecDepth 20000 in
theorem pX6_which_55 {M : MC} {w : WE} (X : Cx M w shR cX6_which 9 RX6 (some .int) 5)   (x1 : Int32) (x3 : Int32) (x4 : Int32)  (σ : Mem) (k21 : Int32 → Int32 → Mem → Option (Int32 × Mem)) (hk21 : ∀ (x3 : Int32) (x4 : Int32) (σ : Mem), Cp M w shR 9 iIM 21 [some (.ref (wad w 0)), some (.int x1), none, some (.int x3), some (.int x4), none, none, none, none] [] σ (k21 x3 x4 σ)) : ∀ (n : Nat) (x6 : Int32) (x7 : Int32), Cp M w shR 9 iIM 55 [some (.ref (wad w 0)), some (.int x1), none, some (.int x3), some (.int x4), none, some (.int x6), some (.int x7), none] [] σ (lw2 (fX6_which_55 k21 x1 x3 x4 σ) n x6 x7) :=
  lw2_i (P := fun x6 x7 b => Cp M w shR 9 iIM 55 [some (.ref (wad w 0)), some (.int x1), none, some (.int x3), some (.int x4), none, some (.int x6), some (.int x7), none] [] σ b) (fun _ _ => Cp.non) (fun k55 hk55 x6 x7 => by
  unfold fX6_which_55
  refine Cp.iload X dX6_which_55 rfl ?_
  refine Cp.aload_n (i := 0) X dX6_which_57 rfl rfl ?_
  refine gfX6_34 X 9 sr_0 rfl dX6_which_58 ?_
  refine Cp.iload_n (i := 1) X dX6_which_61 rfl rfl ?_
  refine Cp.iald X sr_9 dX6_which_62 ?_
  refine Cp.icmp_ge X 127 dX6_which_63 (by decide) (fun c_63 => ?_) (fun c_63 => ?_)
  · refine Cp.mask [true, true, false, true, true, false, true, false, false] ?_
    exact pX6_which_127 X x1 x3 x4 x6 σ k21 hk21
  · refine Cp.iload X dX6_which_66 rfl ?_
    refine Cp.aload_n (i := 0) X dX6_which_68 rfl rfl ?_
    refine gfX6_9 X 1 sr_0 rfl dX6_which_69 ?_
    refine Cp.iconst (v := 5) X dX6_which_72 rfl ?_
    refine Cp.ialdc (j := 5) X sr_1 (by decide) (by decide) dX6_which_73 ?_
    refine Cp.icmp_ge X 127 dX6_which_74 (by decide) (fun c_74 => ?_) (fun c_74 => ?_)
    · refine Cp.mask [true, true, false, true, true, false, true, false, false] ?_
      exact pX6_which_127 X x1 x3 x4 x6 σ k21 hk21
    · refine Cp.aload_n (i := 0) X dX6_which_77 rfl rfl ?_
      refine gfX6_37 X 10 sr_0 rfl dX6_which_78 ?_
      refine Cp.bipush (v := 40) X dX6_which_81 rfl ?_
      refine Cp.iload_n (i := 1) X dX6_which_83 rfl rfl ?_
      refine Cp.imul X dX6_which_84 ?_
      refine Cp.iload X dX6_which_85 rfl ?_
      refine Cp.iadd X dX6_which_87 ?_
      refine Cp.iald X sr_10 dX6_which_88 ?_
      refine Cp.nameI (fun x8_89 => ?_)
      refine Cp.istore X dX6_which_89 (Nat.le_of_ble_eq_true rfl) rfl ?_
      refine Cp.iload X dX6_which_91 rfl ?_
      refine Cp.if_eq X 118 dX6_which_93 (by decide) (fun c_93 => ?_) (fun c_93 => ?_)
      · refine Cp.iconst (v := 0) X dX6_which_118 rfl ?_
        refine Cp.istore X dX6_which_119 (Nat.le_of_ble_eq_true rfl) rfl ?_
        refine Cp.iinc (v := x7 + 1) X dX6_which_121 rfl rfl (Nat.le_of_ble_eq_true rfl) rfl ?_
        refine Cp.goto X 55 dX6_which_124 (by decide) ?_
        refine Cp.mask [true, true, false, true, true, false, true, true, false] ?_
        exact hk55 0 (x7 + 1)
      · refine Cp.iload X dX6_which_96 rfl ?_
        refine Cp.iconst (v := (-1)) X dX6_which_98 rfl ?_
        refine Cp.icmp_eq X 114 dX6_which_99 (by decide) (fun c_99 => ?_) (fun c_99 => ?_)
        · refine Cp.iconst (v := 1) X dX6_which_114 rfl ?_
          refine Cp.goto X 119 dX6_which_115 (by decide) ?_
          refine Cp.istore X dX6_which_119 (Nat.le_of_ble_eq_true rfl) rfl ?_
          refine Cp.iinc (v := x7 + 1) X dX6_which_121 rfl rfl (Nat.le_of_ble_eq_true rfl) rfl ?_
          refine Cp.goto X 55 dX6_which_124 (by decide) ?_
          refine Cp.mask [true, true, false, true, true, false, true, true, false] ?_
          exact hk55 1 (x7 + 1)
        · refine Cp.iload X dX6_which_102 rfl ?_
          refine Cp.aload_n (i := 0) X dX6_which_104 rfl rfl ?_
          refine gfX6_25 X 6 sr_0 rfl dX6_which_105 ?_
          refine Cp.iload X dX6_which_108 rfl ?_
          refine Cp.iald X sr_6 dX6_which_110 ?_
          refine Cp.icmp_ne X 118 dX6_which_111 (by decide) (fun c_111 => ?_) (fun c_111 => ?_)
          · refine Cp.iconst (v := 0) X dX6_which_118 rfl ?_
            refine Cp.istore X dX6_which_119 (Nat.le_of_ble_eq_true rfl) rfl ?_
            refine Cp.iinc (v := x7 + 1) X dX6_which_121 rfl rfl (Nat.le_of_ble_eq_true rfl) rfl ?_
            refine Cp.goto X 55 dX6_which_124 (by decide) ?_
            refine Cp.mask [true, true, false, true, true, false, true, true, false] ?_
            exact hk55 0 (x7 + 1)
          · refine Cp.iconst (v := 1) X dX6_which_114 rfl ?_
            refine Cp.goto X 119 dX6_which_115 (by decide) ?_
            refine Cp.istore X dX6_which_119 (Nat.le_of_ble_eq_true rfl) rfl ?_
            refine Cp.iinc (v := x7 + 1) X dX6_which_121 rfl rfl (Nat.le_of_ble_eq_true rfl) rfl ?_
            refine Cp.goto X 55 dX6_which_124 (by decide) ?_
            refine Cp.mask [true, true, false, true, true, false, true, true, false] ?_
            exact hk55 1 (x7 + 1))
set_option maxRecDepth 20000 in
theorem pX6_which_21 {M : MC} {w : WE} (X : Cx M w shR cX6_which 9 RX6 (some .int) 5)   (x1 : Int32)    : ∀ (n : Nat) (x3 : Int32) (x4 : Int32) (σ : Mem), Cp M w shR 9 iIM 21 [some (.ref (wad w 0)), some (.int x1), none, some (.int x3), some (.int x4), none, none, none, none] [] σ (lw3 (fX6_which_21 x1) n x3 x4 σ) :=
  lw3_i (P := fun x3 x4 σ b => Cp M w shR 9 iIM 21 [some (.ref (wad w 0)), some (.int x1), none, some (.int x3), some (.int x4), none, none, none, none] [] σ b) (fun _ _ _ => Cp.non) (fun k21 hk21 x3 x4 σ => by
  unfold fX6_which_21
  refine Cp.iload X dX6_which_21 rfl ?_
  refine Cp.aload_n (i := 0) X dX6_which_23 rfl rfl ?_
  refine gfX6_9 X 1 sr_0 rfl dX6_which_24 ?_
  refine Cp.bipush (v := 6) X dX6_which_27 rfl ?_
  refine Cp.ialdc (j := 6) X sr_1 (by decide) (by decide) dX6_which_29 ?_
  refine Cp.icmp_ge X 149 dX6_which_30 (by decide) (fun c_30 => ?_) (fun c_30 => ?_)
  · refine Cp.iload_n (i := 3) X dX6_which_149 rfl rfl ?_
    exact Cp.iret X dX6_which_150 rfl
  · refine Cp.aload_n (i := 0) X dX6_which_33 rfl rfl ?_
    refine Cp.cVV [] X [] cvX6_lends (kX6_lends X.ok σ) sr_0 rfl rfl wmX6_180 rfl rfl dX6_which_34 rfl (Nat.le_of_ble_eq_true rfl) (fun s_34 => ?_)
    refine Cp.aload_n (i := 0) X dX6_which_37 rfl rfl ?_
    refine Cp.iload X dX6_which_38 rfl ?_
    refine Cp.cVIM [] X [.int x4] cvX6_tells (kX6_tells X.ok x4 s_34) sr_0 rfl rfl wmX6_167 rfl rfl dX6_which_40 rfl (Nat.le_of_ble_eq_true rfl) (fun v_40 s_40 => ?_)
    refine Cp.istore X dX6_which_43 (Nat.le_of_ble_eq_true rfl) rfl ?_
    refine Cp.aload_n (i := 0) X dX6_which_45 rfl rfl ?_
    refine Cp.cVV [] X [] cvX6_laysBack (kX6_laysBack X.ok s_40) sr_0 rfl rfl wmX6_183 rfl rfl dX6_which_46 rfl (Nat.le_of_ble_eq_true rfl) (fun s_46 => ?_)
    refine Cp.iconst (v := 1) X dX6_which_49 rfl ?_
    refine Cp.istore X dX6_which_50 (Nat.le_of_ble_eq_true rfl) rfl ?_
    refine Cp.iconst (v := 0) X dX6_which_52 rfl ?_
    refine Cp.istore X dX6_which_53 (Nat.le_of_ble_eq_true rfl) rfl ?_
    refine Cp.mask [true, true, false, true, true, false, true, true, false] ?_
    exact pX6_which_55 X x1 x3 x4 s_46 k21 hk21 FU 1 0)
set_option maxRecDepth 20000 in
theorem pX6_which {M : MC} {w : WE} (X : Cx M w shR cX6_which 9 RX6 (some .int) 5)   (x1 : Int32) (σ : Mem) : Cp M w shR 9 iIM 0 [some (.ref (wad w 0)), some (.int x1), none, none, none, none, none, none, none] [] σ (fX6_which x1 σ) := by
  unfold fX6_which
  refine Cp.aload_n (i := 0) X dX6_which_0 rfl rfl ?_
  refine Cp.iload_n (i := 1) X dX6_which_1 rfl rfl ?_
  refine Cp.cVI [] X [.int x1] cvX6_lacks (kX6_lacks X.ok x1 σ) sr_0 rfl rfl wmX6_204 rfl rfl dX6_which_2 rfl (Nat.le_of_ble_eq_true rfl) (fun v_2 => ?_)
  refine Cp.istore_n (i := 2) X dX6_which_5 rfl (Nat.le_of_ble_eq_true rfl) rfl ?_
  refine Cp.iload_n (i := 2) X dX6_which_6 rfl rfl ?_
  refine Cp.if_lt X 16 dX6_which_7 (by decide) (fun c_7 => ?_) (fun c_7 => ?_)
  · refine Cp.iconst (v := 0) X dX6_which_16 rfl ?_
    refine Cp.istore_n (i := 3) X dX6_which_17 rfl (Nat.le_of_ble_eq_true rfl) rfl ?_
    refine Cp.iconst (v := 0) X dX6_which_18 rfl ?_
    refine Cp.istore X dX6_which_19 (Nat.le_of_ble_eq_true rfl) rfl ?_
    refine Cp.mask [true, true, false, true, true, false, false, false, false] ?_
    exact pX6_which_21 X x1 FU 0 0 σ
  · refine Cp.aload_n (i := 0) X dX6_which_10 rfl rfl ?_
    refine Cp.iload_n (i := 2) X dX6_which_11 rfl rfl ?_
    refine Cp.cVIM [] X [.int v_2] cvX6_finds (kX6_finds X.ok v_2 σ) sr_0 rfl rfl wmX6_103 rfl rfl dX6_which_12 rfl (Nat.le_of_ble_eq_true rfl) (fun v_12 s_12 => ?_)
    exact Cp.iret X dX6_which_15 rfl
theorem kX6_which {l : Launch} {w : WE} (hok : OkW w shR)   (x1 : Int32) (σ : Mem) : ∀ v, fX6_which x1 σ = some v → Ctr l w shR yX6_which cX6_which 9 (some .int) 5 [.ref (wad w 0), .int x1] σ (iIM v) := fun v hv => Ctr.of [some (.ref (wad w 0)), some (.int x1), none, none, none, none, none, none, none] (by decide) hok rfl (Nat.le_of_ble_eq_true rfl) (fun M _ X => pX6_which X   x1 σ v hv)
def fX6_draw  (σ : Mem) : Option (Int32 × Mem) :=
  (pb (up2 σ 1 4 (((σ 1 4) * 1103515245) + 12345) : Mem) fun s_18 => (some (((s_18 1 4 : Int32).toUInt32 >>> ((8 : Int32).toUInt32 &&& Int32.toUInt32 31)).toInt32, s_18)))
set_option maxRecDepth 20000 in
theorem pX6_draw {M : MC} {w : WE} (X : Cx M w shR cX6_draw 1 RX6 (some .int) 0)    (σ : Mem) : Cp M w shR 1 iIM 0 [some (.ref (wad w 0))] [] σ (fX6_draw σ) := by
  unfold fX6_draw
  refine Cp.aload_n (i := 0) X dX6_draw_0 rfl rfl ?_
  refine gfX6_9 X 1 sr_0 rfl dX6_draw_1 ?_
  refine Cp.iconst (v := 4) X dX6_draw_4 rfl ?_
  refine Cp.aload_n (i := 0) X dX6_draw_5 rfl rfl ?_
  refine gfX6_9 X 1 sr_0 rfl dX6_draw_6 ?_
  refine Cp.iconst (v := 4) X dX6_draw_9 rfl ?_
  refine Cp.ialdc (j := 4) X sr_1 (by decide) (by decide) dX6_draw_10 ?_
  refine Cp.ldc (v := 1103515245) X wcX6_213 dX6_draw_11 ?_
  refine Cp.imul X dX6_draw_13 ?_
  refine Cp.sipush (v := 12345) X dX6_draw_14 rfl ?_
  refine Cp.iadd X dX6_draw_17 ?_
  refine Cp.iastc (j := 4) X sr_1 (by decide) (by decide) dX6_draw_18 ?_
  refine Cp.nameM (fun s_18 => ?_)
  refine Cp.aload_n (i := 0) X dX6_draw_19 rfl rfl ?_
  refine gfX6_9 X 1 sr_0 rfl dX6_draw_20 ?_
  refine Cp.iconst (v := 4) X dX6_draw_23 rfl ?_
  refine Cp.ialdc (j := 4) X sr_1 (by decide) (by decide) dX6_draw_24 ?_
  refine Cp.bipush (v := 8) X dX6_draw_25 rfl ?_
  refine Cp.iushr X dX6_draw_27 ?_
  exact Cp.iret X dX6_draw_28 rfl
theorem kX6_draw {l : Launch} {w : WE} (hok : OkW w shR)    (σ : Mem) : ∀ v, fX6_draw σ = some v → Ctr l w shR yX6_draw cX6_draw 1 (some .int) 0 [.ref (wad w 0)] σ (iIM v) := fun v hv => Ctr.of [some (.ref (wad w 0))] (by decide) hok rfl (Nat.le_of_ble_eq_true rfl) (fun M _ X => pX6_draw X    σ v hv)
def fX6_shows_49 (x1 : Int32) (k49 : Int32 → Mem → Option (Int32 × Mem)) (x2 : Int32) (σ : Mem) : Option (Int32 × Mem) :=
  (if x1 ≤ x2 then (some (σ 1 2, σ)) else (bnd2 (fX6_draw σ) fun v_56 s_56 => (gd (¬ (s_56 1 6) = 0) (bnd2 (fX6_tells (v_56 - v_56 / (s_56 1 6) * (s_56 1 6)) s_56) fun v_67 s_67 => (k49 (x2 + 1) s_67)))))
def fX6_shows (x1 : Int32) (σ : Mem) : Option (Int32 × Mem) :=
  (if fX6_in ((x1 : Int32).toInt64) 1 20 = true then (if (σ 1 6) = 0 then (bnd2 (fX6_finds 4 σ) fun v_43 s_43 => (some (v_43, s_43))) else (if ((σ 1 3) + x1) ≤ 99999 then (lw2 (fX6_shows_49 x1) FU 0 σ) else (bnd2 (fX6_finds 4 σ) fun v_43 s_43 => (some (v_43, s_43))))) else (bnd2 (fX6_finds 0 σ) fun v_14 s_14 => (some (v_14, s_14))))
set_option maxRecDepth 20000 in
theorem pX6_shows_49 {M : MC} {w : WE} (X : Cx M w shR cX6_shows 4 RX6 (some .int) 5)   (x1 : Int32)    : ∀ (n : Nat) (x2 : Int32) (σ : Mem), Cp M w shR 4 iIM 49 [some (.ref (wad w 0)), some (.int x1), some (.int x2), none] [] σ (lw2 (fX6_shows_49 x1) n x2 σ) :=
  lw2_i (P := fun x2 σ b => Cp M w shR 4 iIM 49 [some (.ref (wad w 0)), some (.int x1), some (.int x2), none] [] σ b) (fun _ _ => Cp.non) (fun k49 hk49 x2 σ => by
  unfold fX6_shows_49
  refine Cp.iload_n (i := 2) X dX6_shows_49 rfl rfl ?_
  refine Cp.iload_n (i := 1) X dX6_shows_50 rfl rfl ?_
  refine Cp.icmp_ge X 77 dX6_shows_51 (by decide) (fun c_51 => ?_) (fun c_51 => ?_)
  · refine Cp.aload_n (i := 0) X dX6_shows_77 rfl rfl ?_
    refine gfX6_9 X 1 sr_0 rfl dX6_shows_78 ?_
    refine Cp.iconst (v := 2) X dX6_shows_81 rfl ?_
    refine Cp.ialdc (j := 2) X sr_1 (by decide) (by decide) dX6_shows_82 ?_
    exact Cp.iret X dX6_shows_83 rfl
  · refine Cp.aload_n (i := 0) X dX6_shows_54 rfl rfl ?_
    refine Cp.aload_n (i := 0) X dX6_shows_55 rfl rfl ?_
    refine Cp.cVIM [.ref (wad w 0)] X [] cvX6_draw (kX6_draw X.ok σ) sr_0 rfl rfl wmX6_214 rfl rfl dX6_shows_56 rfl (Nat.le_of_ble_eq_true rfl) (fun v_56 s_56 => ?_)
    refine Cp.aload_n (i := 0) X dX6_shows_59 rfl rfl ?_
    refine gfX6_9 X 1 sr_0 rfl dX6_shows_60 ?_
    refine Cp.bipush (v := 6) X dX6_shows_63 rfl ?_
    refine Cp.ialdc (j := 6) X sr_1 (by decide) (by decide) dX6_shows_65 ?_
    refine Cp.iremg X dX6_shows_66 ?_
    refine Cp.cVIM [] X [.int (v_56 - v_56 / (s_56 1 6) * (s_56 1 6))] cvX6_tells (kX6_tells X.ok (v_56 - v_56 / (s_56 1 6) * (s_56 1 6)) s_56) sr_0 rfl rfl wmX6_167 rfl rfl dX6_shows_67 rfl (Nat.le_of_ble_eq_true rfl) (fun v_67 s_67 => ?_)
    refine Cp.istore_n (i := 3) X dX6_shows_70 rfl (Nat.le_of_ble_eq_true rfl) rfl ?_
    refine Cp.iinc (v := x2 + 1) X dX6_shows_71 rfl rfl (Nat.le_of_ble_eq_true rfl) rfl ?_
    refine Cp.goto X 49 dX6_shows_74 (by decide) ?_
    refine Cp.mask [true, true, true, false] ?_
    exact hk49 (x2 + 1) s_67)
set_option maxRecDepth 20000 in
theorem pX6_shows {M : MC} {w : WE} (X : Cx M w shR cX6_shows 4 RX6 (some .int) 5)   (x1 : Int32) (σ : Mem) : Cp M w shR 4 iIM 0 [some (.ref (wad w 0)), some (.int x1), none, none] [] σ (fX6_shows x1 σ) := by
  unfold fX6_shows
  refine Cp.iload_n (i := 1) X dX6_shows_0 rfl rfl ?_
  refine Cp.i2l X dX6_shows_1 ?_
  refine Cp.lconst (v := 1) X dX6_shows_2 rfl ?_
  refine Cp.ldc2 (v := 20) X wcX6_141 dX6_shows_3 ?_
  refine Cp.cSBT [] X [.long ((x1 : Int32).toInt64), .long 1, .long 20] csX6_in (kX6_in X.ok ((x1 : Int32).toInt64) 1 20 σ) wmX6_48 rfl rfl dX6_shows_6 rfl (Nat.le_of_ble_eq_true rfl) ?_
  refine Cp.if_neB X 18 dX6_shows_9 (by decide) (fun c_9 => ?_) (fun c_9 => ?_)
  · refine Cp.aload_n (i := 0) X dX6_shows_18 rfl rfl ?_
    refine gfX6_9 X 1 sr_0 rfl dX6_shows_19 ?_
    refine Cp.bipush (v := 6) X dX6_shows_22 rfl ?_
    refine Cp.ialdc (j := 6) X sr_1 (by decide) (by decide) dX6_shows_24 ?_
    refine Cp.if_eq X 41 dX6_shows_25 (by decide) (fun c_25 => ?_) (fun c_25 => ?_)
    · refine Cp.aload_n (i := 0) X dX6_shows_41 rfl rfl ?_
      refine Cp.iconst (v := 4) X dX6_shows_42 rfl ?_
      refine Cp.cVIM [] X [.int 4] cvX6_finds (kX6_finds X.ok 4 σ) sr_0 rfl rfl wmX6_103 rfl rfl dX6_shows_43 rfl (Nat.le_of_ble_eq_true rfl) (fun v_43 s_43 => ?_)
      exact Cp.iret X dX6_shows_46 rfl
    · refine Cp.aload_n (i := 0) X dX6_shows_28 rfl rfl ?_
      refine gfX6_9 X 1 sr_0 rfl dX6_shows_29 ?_
      refine Cp.iconst (v := 3) X dX6_shows_32 rfl ?_
      refine Cp.ialdc (j := 3) X sr_1 (by decide) (by decide) dX6_shows_33 ?_
      refine Cp.iload_n (i := 1) X dX6_shows_34 rfl rfl ?_
      refine Cp.iadd X dX6_shows_35 ?_
      refine Cp.ldc (v := 99999) X wcX6_166 dX6_shows_36 ?_
      refine Cp.icmp_le X 47 dX6_shows_38 (by decide) (fun c_38 => ?_) (fun c_38 => ?_)
      · refine Cp.iconst (v := 0) X dX6_shows_47 rfl ?_
        refine Cp.istore_n (i := 2) X dX6_shows_48 rfl (Nat.le_of_ble_eq_true rfl) rfl ?_
        exact pX6_shows_49 X x1 FU 0 σ
      · refine Cp.aload_n (i := 0) X dX6_shows_41 rfl rfl ?_
        refine Cp.iconst (v := 4) X dX6_shows_42 rfl ?_
        refine Cp.cVIM [] X [.int 4] cvX6_finds (kX6_finds X.ok 4 σ) sr_0 rfl rfl wmX6_103 rfl rfl dX6_shows_43 rfl (Nat.le_of_ble_eq_true rfl) (fun v_43 s_43 => ?_)
        exact Cp.iret X dX6_shows_46 rfl
  · refine Cp.aload_n (i := 0) X dX6_shows_12 rfl rfl ?_
    refine Cp.iconst (v := 0) X dX6_shows_13 rfl ?_
    refine Cp.cVIM [] X [.int 0] cvX6_finds (kX6_finds X.ok 0 σ) sr_0 rfl rfl wmX6_103 rfl rfl dX6_shows_14 rfl (Nat.le_of_ble_eq_true rfl) (fun v_14 s_14 => ?_)
    exact Cp.iret X dX6_shows_17 rfl
theorem kX6_shows {l : Launch} {w : WE} (hok : OkW w shR)   (x1 : Int32) (σ : Mem) : ∀ v, fX6_shows x1 σ = some v → Ctr l w shR yX6_shows cX6_shows 4 (some .int) 5 [.ref (wad w 0), .int x1] σ (iIM v) := fun v hv => Ctr.of [some (.ref (wad w 0)), some (.int x1), none, none] (by decide) hok rfl (Nat.le_of_ble_eq_true rfl) (fun M _ X => pX6_shows X   x1 σ v hv)
def fX6_odds_135 (x2 : Int32) (x4 : Int64) (x6 : Int64) (σ : Mem) (k135 : Int64 → Int64 → Option (Int64 × Mem)) (x8 : Int64) (x10 : Int64) : Option (Int64 × Mem) :=
  (if (lg_cmp x10 0) = 0 then (if x2 = 0 then (gd (¬ x8 = 0) (some (x4 / x8, σ))) else (gd (¬ x8 = 0) (some (x6 / x8, σ)))) else (gd (¬ x10 = 0) (pb (x8 - x8 / x10 * x10 : Int64) fun x12_147 => (k135 x10 x12_147))))
def fX6_odds_95 (x1 : Int32) (x2 : Int32) (x3 : Int32) (σ : Mem) (k95 : Int64 → Int64 → Int32 → Option (Int64 × Mem)) (x4 : Int64) (x6 : Int64) (x8 : Int32) : Option (Int64 × Mem) :=
  (if x1 ≤ x8 then (lw2 (fX6_odds_135 x2 x4 x6 σ) FU x4 x6) else (pb (x4 * ((x3 : Int32).toInt64) : Int64) fun x4_106 => (pb (x6 * ((σ 1 6 : Int32).toInt64) : Int64) fun x6_119 => (k95 x4_106 x6_119 (x8 + 1)))))
def fX6_odds_51 (x1 : Int32) (x2 : Int32) (k51 : Int32 → Int32 → Mem → Option (Int64 × Mem)) (x3 : Int32) (x4 : Int32) (σ : Mem) : Option (Int64 × Mem) :=
  (if (σ 1 6) ≤ x4 then (lw3 (fX6_odds_95 x1 x2 x3 σ) FU 1 1 0) else (bnd2 (fX6_laughAt_ x4 σ) fun v_67 s_67 => (if v_67 = 0 then (pb (x3 + 0 : Int32) fun x3_79 => (k51 x3_79 (x4 + 1) s_67)) else (pb (x3 + 1 : Int32) fun x3_79 => (k51 x3_79 (x4 + 1) s_67)))))
def fX6_odds (x1 : Int32) (x2 : Int32) (σ : Mem) : Option (Int64 × Mem) :=
  (if fX6_in ((x1 : Int32).toInt64) 0 14 = true then (if fX6_in ((x2 : Int32).toInt64) 0 1 = true then (if (σ 1 6) = 0 then (bnd2 (fX6_finds 3 σ) fun v_41 s_41 => (some ((v_41 : Int32).toInt64, s_41))) else (lw3 (fX6_odds_51 x1 x2) FU 0 0 σ)) else (bnd2 (fX6_finds 0 σ) fun v_24 s_24 => (some ((v_24 : Int32).toInt64, s_24)))) else (bnd2 (fX6_finds 0 σ) fun v_24 s_24 => (some ((v_24 : Int32).toInt64, s_24))))
set_option maxRecDepth 20000 in
theorem pX6_odds_135 {M : MC} {w : WE} (X : Cx M w shR cX6_odds 14 RX6 (some .long) 5)   (x2 : Int32) (x4 : Int64) (x6 : Int64)  (σ : Mem)  : ∀ (n : Nat) (x8 : Int64) (x10 : Int64), Cp M w shR 14 iLM 135 [none, none, some (.int x2), none, some (.long x4), none, some (.long x6), none, some (.long x8), none, some (.long x10), none, none, none] [] σ (lw2 (fX6_odds_135 x2 x4 x6 σ) n x8 x10) :=
  lw2_i (P := fun x8 x10 b => Cp M w shR 14 iLM 135 [none, none, some (.int x2), none, some (.long x4), none, some (.long x6), none, some (.long x8), none, some (.long x10), none, none, none] [] σ b) (fun _ _ => Cp.non) (fun k135 hk135 x8 x10 => by
  unfold fX6_odds_135
  refine Cp.lload X dX6_odds_135 rfl ?_
  refine Cp.lconst (v := 0) X dX6_odds_137 rfl ?_
  refine Cp.lcmp X dX6_odds_138 ?_
  refine Cp.if_eq X 160 dX6_odds_139 (by decide) (fun c_139 => ?_) (fun c_139 => ?_)
  · refine Cp.iload_n (i := 2) X dX6_odds_160 rfl rfl ?_
    refine Cp.if_ne X 169 dX6_odds_161 (by decide) (fun c_161 => ?_) (fun c_161 => ?_)
    · refine Cp.lload X dX6_odds_169 rfl ?_
      refine Cp.lload X dX6_odds_171 rfl ?_
      refine Cp.ldivg X dX6_odds_173 ?_
      exact Cp.lret X dX6_odds_174 rfl
    · refine Cp.lload X dX6_odds_164 rfl ?_
      refine Cp.goto X 171 dX6_odds_166 (by decide) ?_
      refine Cp.lload X dX6_odds_171 rfl ?_
      refine Cp.ldivg X dX6_odds_173 ?_
      exact Cp.lret X dX6_odds_174 rfl
  · refine Cp.lload X dX6_odds_142 rfl ?_
    refine Cp.lload X dX6_odds_144 rfl ?_
    refine Cp.lremg X dX6_odds_146 ?_
    refine Cp.nameL (fun x12_147 => ?_)
    refine Cp.lstore X dX6_odds_147 (Nat.le_of_ble_eq_true rfl) rfl ?_
    refine Cp.lload X dX6_odds_149 rfl ?_
    refine Cp.lstore X dX6_odds_151 (Nat.le_of_ble_eq_true rfl) rfl ?_
    refine Cp.lload X dX6_odds_153 rfl ?_
    refine Cp.lstore X dX6_odds_155 (Nat.le_of_ble_eq_true rfl) rfl ?_
    refine Cp.goto X 135 dX6_odds_157 (by decide) ?_
    refine Cp.mask [false, false, true, false, true, false, true, false, true, false, true, false, false, false] ?_
    exact hk135 x10 x12_147)
set_option maxRecDepth 20000 in
theorem pX6_odds_95 {M : MC} {w : WE} (X : Cx M w shR cX6_odds 14 RX6 (some .long) 5)   (x1 : Int32) (x2 : Int32) (x3 : Int32)  (σ : Mem)  : ∀ (n : Nat) (x4 : Int64) (x6 : Int64) (x8 : Int32), Cp M w shR 14 iLM 95 [some (.ref (wad w 0)), some (.int x1), some (.int x2), some (.int x3), some (.long x4), none, some (.long x6), none, some (.int x8), none, none, none, none, none] [] σ (lw3 (fX6_odds_95 x1 x2 x3 σ) n x4 x6 x8) :=
  lw3_i (P := fun x4 x6 x8 b => Cp M w shR 14 iLM 95 [some (.ref (wad w 0)), some (.int x1), some (.int x2), some (.int x3), some (.long x4), none, some (.long x6), none, some (.int x8), none, none, none, none, none] [] σ b) (fun _ _ _ => Cp.non) (fun k95 hk95 x4 x6 x8 => by
  unfold fX6_odds_95
  refine Cp.iload X dX6_odds_95 rfl ?_
  refine Cp.iload_n (i := 1) X dX6_odds_97 rfl rfl ?_
  refine Cp.icmp_ge X 127 dX6_odds_98 (by decide) (fun c_98 => ?_) (fun c_98 => ?_)
  · refine Cp.lload X dX6_odds_127 rfl ?_
    refine Cp.lstore X dX6_odds_129 (Nat.le_of_ble_eq_true rfl) rfl ?_
    refine Cp.lload X dX6_odds_131 rfl ?_
    refine Cp.lstore X dX6_odds_133 (Nat.le_of_ble_eq_true rfl) rfl ?_
    refine Cp.mask [false, false, true, false, true, false, true, false, true, false, true, false, false, false] ?_
    exact pX6_odds_135 X x2 x4 x6 σ FU x4 x6
  · refine Cp.lload X dX6_odds_101 rfl ?_
    refine Cp.iload_n (i := 3) X dX6_odds_103 rfl rfl ?_
    refine Cp.i2l X dX6_odds_104 ?_
    refine Cp.lmul X dX6_odds_105 ?_
    refine Cp.nameL (fun x4_106 => ?_)
    refine Cp.lstore X dX6_odds_106 (Nat.le_of_ble_eq_true rfl) rfl ?_
    refine Cp.lload X dX6_odds_108 rfl ?_
    refine Cp.aload_n (i := 0) X dX6_odds_110 rfl rfl ?_
    refine gfX6_9 X 1 sr_0 rfl dX6_odds_111 ?_
    refine Cp.bipush (v := 6) X dX6_odds_114 rfl ?_
    refine Cp.ialdc (j := 6) X sr_1 (by decide) (by decide) dX6_odds_116 ?_
    refine Cp.i2l X dX6_odds_117 ?_
    refine Cp.lmul X dX6_odds_118 ?_
    refine Cp.nameL (fun x6_119 => ?_)
    refine Cp.lstore X dX6_odds_119 (Nat.le_of_ble_eq_true rfl) rfl ?_
    refine Cp.iinc (v := x8 + 1) X dX6_odds_121 rfl rfl (Nat.le_of_ble_eq_true rfl) rfl ?_
    refine Cp.goto X 95 dX6_odds_124 (by decide) ?_
    exact hk95 x4_106 x6_119 (x8 + 1))
set_option maxRecDepth 20000 in
theorem pX6_odds_51 {M : MC} {w : WE} (X : Cx M w shR cX6_odds 14 RX6 (some .long) 5)   (x1 : Int32) (x2 : Int32)    : ∀ (n : Nat) (x3 : Int32) (x4 : Int32) (σ : Mem), Cp M w shR 14 iLM 51 [some (.ref (wad w 0)), some (.int x1), some (.int x2), some (.int x3), some (.int x4), none, none, none, none, none, none, none, none, none] [] σ (lw3 (fX6_odds_51 x1 x2) n x3 x4 σ) :=
  lw3_i (P := fun x3 x4 σ b => Cp M w shR 14 iLM 51 [some (.ref (wad w 0)), some (.int x1), some (.int x2), some (.int x3), some (.int x4), none, none, none, none, none, none, none, none, none] [] σ b) (fun _ _ _ => Cp.non) (fun k51 hk51 x3 x4 σ => by
  unfold fX6_odds_51
  refine Cp.iload X dX6_odds_51 rfl ?_
  refine Cp.aload_n (i := 0) X dX6_odds_53 rfl rfl ?_
  refine gfX6_9 X 1 sr_0 rfl dX6_odds_54 ?_
  refine Cp.bipush (v := 6) X dX6_odds_57 rfl ?_
  refine Cp.ialdc (j := 6) X sr_1 (by decide) (by decide) dX6_odds_59 ?_
  refine Cp.icmp_ge X 86 dX6_odds_60 (by decide) (fun c_60 => ?_) (fun c_60 => ?_)
  · refine Cp.lconst (v := 1) X dX6_odds_86 rfl ?_
    refine Cp.lstore X dX6_odds_87 (Nat.le_of_ble_eq_true rfl) rfl ?_
    refine Cp.lconst (v := 1) X dX6_odds_89 rfl ?_
    refine Cp.lstore X dX6_odds_90 (Nat.le_of_ble_eq_true rfl) rfl ?_
    refine Cp.iconst (v := 0) X dX6_odds_92 rfl ?_
    refine Cp.istore X dX6_odds_93 (Nat.le_of_ble_eq_true rfl) rfl ?_
    exact pX6_odds_95 X x1 x2 x3 σ FU 1 1 0
  · refine Cp.iload_n (i := 3) X dX6_odds_63 rfl rfl ?_
    refine Cp.aload_n (i := 0) X dX6_odds_64 rfl rfl ?_
    refine Cp.iload X dX6_odds_65 rfl ?_
    refine Cp.cVIM [.int x3] X [.int x4] cvX6_laughAt_ (kX6_laughAt_ X.ok x4 σ) sr_0 rfl rfl wmX6_178 rfl rfl dX6_odds_67 rfl (Nat.le_of_ble_eq_true rfl) (fun v_67 s_67 => ?_)
    refine Cp.if_eq X 77 dX6_odds_70 (by decide) (fun c_70 => ?_) (fun c_70 => ?_)
    · refine Cp.iconst (v := 0) X dX6_odds_77 rfl ?_
      refine Cp.iadd X dX6_odds_78 ?_
      refine Cp.nameI (fun x3_79 => ?_)
      refine Cp.istore_n (i := 3) X dX6_odds_79 rfl (Nat.le_of_ble_eq_true rfl) rfl ?_
      refine Cp.iinc (v := x4 + 1) X dX6_odds_80 rfl rfl (Nat.le_of_ble_eq_true rfl) rfl ?_
      refine Cp.goto X 51 dX6_odds_83 (by decide) ?_
      exact hk51 x3_79 (x4 + 1) s_67
    · refine Cp.iconst (v := 1) X dX6_odds_73 rfl ?_
      refine Cp.goto X 78 dX6_odds_74 (by decide) ?_
      refine Cp.iadd X dX6_odds_78 ?_
      refine Cp.nameI (fun x3_79 => ?_)
      refine Cp.istore_n (i := 3) X dX6_odds_79 rfl (Nat.le_of_ble_eq_true rfl) rfl ?_
      refine Cp.iinc (v := x4 + 1) X dX6_odds_80 rfl rfl (Nat.le_of_ble_eq_true rfl) rfl ?_
      refine Cp.goto X 51 dX6_odds_83 (by decide) ?_
      exact hk51 x3_79 (x4 + 1) s_67)
set_option maxRecDepth 20000 in
theorem pX6_odds {M : MC} {w : WE} (X : Cx M w shR cX6_odds 14 RX6 (some .long) 5)   (x1 : Int32) (x2 : Int32) (σ : Mem) : Cp M w shR 14 iLM 0 [some (.ref (wad w 0)), some (.int x1), some (.int x2), none, none, none, none, none, none, none, none, none, none, none] [] σ (fX6_odds x1 x2 σ) := by
  unfold fX6_odds
  refine Cp.iload_n (i := 1) X dX6_odds_0 rfl rfl ?_
  refine Cp.i2l X dX6_odds_1 ?_
  refine Cp.lconst (v := 0) X dX6_odds_2 rfl ?_
  refine Cp.ldc2 (v := 14) X wcX6_217 dX6_odds_3 ?_
  refine Cp.cSBT [] X [.long ((x1 : Int32).toInt64), .long 0, .long 14] csX6_in (kX6_in X.ok ((x1 : Int32).toInt64) 0 14 σ) wmX6_48 rfl rfl dX6_odds_6 rfl (Nat.le_of_ble_eq_true rfl) ?_
  refine Cp.if_eqB X 22 dX6_odds_9 (by decide) (fun c_9 => ?_) (fun c_9 => ?_)
  · refine Cp.aload_n (i := 0) X dX6_odds_22 rfl rfl ?_
    refine Cp.iconst (v := 0) X dX6_odds_23 rfl ?_
    refine Cp.cVIM [] X [.int 0] cvX6_finds (kX6_finds X.ok 0 σ) sr_0 rfl rfl wmX6_103 rfl rfl dX6_odds_24 rfl (Nat.le_of_ble_eq_true rfl) (fun v_24 s_24 => ?_)
    refine Cp.i2l X dX6_odds_27 ?_
    exact Cp.lret X dX6_odds_28 rfl
  · refine Cp.iload_n (i := 2) X dX6_odds_12 rfl rfl ?_
    refine Cp.i2l X dX6_odds_13 ?_
    refine Cp.lconst (v := 0) X dX6_odds_14 rfl ?_
    refine Cp.lconst (v := 1) X dX6_odds_15 rfl ?_
    refine Cp.cSBT [] X [.long ((x2 : Int32).toInt64), .long 0, .long 1] csX6_in (kX6_in X.ok ((x2 : Int32).toInt64) 0 1 σ) wmX6_48 rfl rfl dX6_odds_16 rfl (Nat.le_of_ble_eq_true rfl) ?_
    refine Cp.if_neB X 29 dX6_odds_19 (by decide) (fun c_19 => ?_) (fun c_19 => ?_)
    · refine Cp.aload_n (i := 0) X dX6_odds_29 rfl rfl ?_
      refine gfX6_9 X 1 sr_0 rfl dX6_odds_30 ?_
      refine Cp.bipush (v := 6) X dX6_odds_33 rfl ?_
      refine Cp.ialdc (j := 6) X sr_1 (by decide) (by decide) dX6_odds_35 ?_
      refine Cp.if_ne X 46 dX6_odds_36 (by decide) (fun c_36 => ?_) (fun c_36 => ?_)
      · refine Cp.iconst (v := 0) X dX6_odds_46 rfl ?_
        refine Cp.istore_n (i := 3) X dX6_odds_47 rfl (Nat.le_of_ble_eq_true rfl) rfl ?_
        refine Cp.iconst (v := 0) X dX6_odds_48 rfl ?_
        refine Cp.istore X dX6_odds_49 (Nat.le_of_ble_eq_true rfl) rfl ?_
        exact pX6_odds_51 X x1 x2 FU 0 0 σ
      · refine Cp.aload_n (i := 0) X dX6_odds_39 rfl rfl ?_
        refine Cp.iconst (v := 3) X dX6_odds_40 rfl ?_
        refine Cp.cVIM [] X [.int 3] cvX6_finds (kX6_finds X.ok 3 σ) sr_0 rfl rfl wmX6_103 rfl rfl dX6_odds_41 rfl (Nat.le_of_ble_eq_true rfl) (fun v_41 s_41 => ?_)
        refine Cp.i2l X dX6_odds_44 ?_
        exact Cp.lret X dX6_odds_45 rfl
    · refine Cp.aload_n (i := 0) X dX6_odds_22 rfl rfl ?_
      refine Cp.iconst (v := 0) X dX6_odds_23 rfl ?_
      refine Cp.cVIM [] X [.int 0] cvX6_finds (kX6_finds X.ok 0 σ) sr_0 rfl rfl wmX6_103 rfl rfl dX6_odds_24 rfl (Nat.le_of_ble_eq_true rfl) (fun v_24 s_24 => ?_)
      refine Cp.i2l X dX6_odds_27 ?_
      exact Cp.lret X dX6_odds_28 rfl
theorem kX6_odds {l : Launch} {w : WE} (hok : OkW w shR)   (x1 : Int32) (x2 : Int32) (σ : Mem) : ∀ v, fX6_odds x1 x2 σ = some v → Ctr l w shR yX6_odds cX6_odds 14 (some .long) 5 [.ref (wad w 0), .int x1, .int x2] σ (iLM v) := fun v hv => Ctr.of [some (.ref (wad w 0)), some (.int x1), some (.int x2), none, none, none, none, none, none, none, none, none, none, none] (by decide) hok rfl (Nat.le_of_ble_eq_true rfl) (fun M _ X => pX6_odds X   x1 x2 σ v hv)
def fX6_seed (x1 : Int32) (σ : Mem) : Option (Int32 × Mem) :=
  (bnd2 (fX6_becomes 4 x1 σ) fun v_3 s_3 => (some (v_3, s_3)))
set_option maxRecDepth 20000 in
theorem pX6_seed {M : MC} {w : WE} (X : Cx M w shR cX6_seed 2 RX6 (some .int) 1)   (x1 : Int32) (σ : Mem) : Cp M w shR 2 iIM 0 [some (.ref (wad w 0)), some (.int x1)] [] σ (fX6_seed x1 σ) := by
  unfold fX6_seed
  refine Cp.aload_n (i := 0) X dX6_seed_0 rfl rfl ?_
  refine Cp.iconst (v := 4) X dX6_seed_1 rfl ?_
  refine Cp.iload_n (i := 1) X dX6_seed_2 rfl rfl ?_
  refine Cp.cVIM [] X [.int 4, .int x1] cvX6_becomes (kX6_becomes X.ok 4 x1 σ) sr_0 rfl rfl wmX6_126 rfl rfl dX6_seed_3 rfl (Nat.le_of_ble_eq_true rfl) (fun v_3 s_3 => ?_)
  exact Cp.iret X dX6_seed_6 rfl
theorem kX6_seed {l : Launch} {w : WE} (hok : OkW w shR)   (x1 : Int32) (σ : Mem) : ∀ v, fX6_seed x1 σ = some v → Ctr l w shR yX6_seed cX6_seed 2 (some .int) 1 [.ref (wad w 0), .int x1] σ (iIM v) := fun v hv => Ctr.of [some (.ref (wad w 0)), some (.int x1)] (by decide) hok rfl (Nat.le_of_ble_eq_true rfl) (fun M _ X => pX6_seed X   x1 σ v hv)
def fX6_feed_39 (x1 : Int32) (k39 : Int32 → Mem → Option (Int32 × Mem)) (x3 : Int32) (σ : Mem) : Option (Int32 × Mem) :=
  (if x3 < 0 then (some (σ 0 10, σ)) else (gd (inB (σ 0 10) 120 = true) (pb (up2 σ 7 (σ 0 10).toNatClampNeg ((x1 >>> ((8 * x3) &&& 31)) &&& 255) : Mem) fun s_61 => (pb (up2 s_61 0 10 ((s_61 0 10) + 1) : Mem) fun s_69 => (k39 (x3 + (-1)) s_69)))))
def fX6_feed (x1 : Int32) (x2 : Int32) (σ : Mem) : Option (Int32 × Mem) :=
  (if fX6_in ((x2 : Int32).toInt64) 1 4 = true then (if ((σ 0 10) + x2) ≤ 120 then (pb (x2 - 1 : Int32) fun x3_38 => (lw2 (fX6_feed_39 x1) FU x3_38 σ)) else (bnd2 (fX6_finds 1 σ) fun v_31 s_31 => (some (v_31, s_31)))) else (bnd2 (fX6_finds 0 σ) fun v_14 s_14 => (some (v_14, s_14))))
set_option maxRecDepth 20000 in
theorem pX6_feed_39 {M : MC} {w : WE} (X : Cx M w shR cX6_feed 4 RX6 (some .int) 1)   (x1 : Int32)    : ∀ (n : Nat) (x3 : Int32) (σ : Mem), Cp M w shR 4 iIM 39 [some (.ref (wad w 0)), some (.int x1), none, some (.int x3)] [] σ (lw2 (fX6_feed_39 x1) n x3 σ) :=
  lw2_i (P := fun x3 σ b => Cp M w shR 4 iIM 39 [some (.ref (wad w 0)), some (.int x1), none, some (.int x3)] [] σ b) (fun _ _ => Cp.non) (fun k39 hk39 x3 σ => by
  unfold fX6_feed_39
  refine Cp.iload_n (i := 3) X dX6_feed_39 rfl rfl ?_
  refine Cp.if_lt X 78 dX6_feed_40 (by decide) (fun c_40 => ?_) (fun c_40 => ?_)
  · refine Cp.aload_n (i := 0) X dX6_feed_78 rfl rfl ?_
    refine gfX6_221 X sr_0 rfl dX6_feed_79 ?_
    exact Cp.iret X dX6_feed_82 rfl
  · refine Cp.aload_n (i := 0) X dX6_feed_43 rfl rfl ?_
    refine gfX6_28 X 7 sr_0 rfl dX6_feed_44 ?_
    refine Cp.aload_n (i := 0) X dX6_feed_47 rfl rfl ?_
    refine gfX6_221 X sr_0 rfl dX6_feed_48 ?_
    refine Cp.iload_n (i := 1) X dX6_feed_51 rfl rfl ?_
    refine Cp.bipush (v := 8) X dX6_feed_52 rfl ?_
    refine Cp.iload_n (i := 3) X dX6_feed_54 rfl rfl ?_
    refine Cp.imul X dX6_feed_55 ?_
    refine Cp.ishr X dX6_feed_56 ?_
    refine Cp.sipush (v := 255) X dX6_feed_57 rfl ?_
    refine Cp.iand X dX6_feed_60 ?_
    refine Cp.iast X sr_7 dX6_feed_61 ?_
    refine Cp.nameM (fun s_61 => ?_)
    refine Cp.aload_n (i := 0) X dX6_feed_62 rfl rfl ?_
    refine Cp.dup X dX6_feed_63 rfl ?_
    refine gfX6_221 X sr_0 rfl dX6_feed_64 ?_
    refine Cp.iconst (v := 1) X dX6_feed_67 rfl ?_
    refine Cp.iadd X dX6_feed_68 ?_
    refine pfX6_221 X sr_0 rfl dX6_feed_69 ?_
    refine Cp.nameM (fun s_69 => ?_)
    refine Cp.iinc (v := x3 + (-1)) X dX6_feed_72 rfl rfl (Nat.le_of_ble_eq_true rfl) rfl ?_
    refine Cp.goto X 39 dX6_feed_75 (by decide) ?_
    exact hk39 (x3 + (-1)) s_69)
set_option maxRecDepth 20000 in
theorem pX6_feed {M : MC} {w : WE} (X : Cx M w shR cX6_feed 4 RX6 (some .int) 1)   (x1 : Int32) (x2 : Int32) (σ : Mem) : Cp M w shR 4 iIM 0 [some (.ref (wad w 0)), some (.int x1), some (.int x2), none] [] σ (fX6_feed x1 x2 σ) := by
  unfold fX6_feed
  refine Cp.iload_n (i := 2) X dX6_feed_0 rfl rfl ?_
  refine Cp.i2l X dX6_feed_1 ?_
  refine Cp.lconst (v := 1) X dX6_feed_2 rfl ?_
  refine Cp.ldc2 (v := 4) X wcX6_219 dX6_feed_3 ?_
  refine Cp.cSBT [] X [.long ((x2 : Int32).toInt64), .long 1, .long 4] csX6_in (kX6_in X.ok ((x2 : Int32).toInt64) 1 4 σ) wmX6_48 rfl rfl dX6_feed_6 rfl (Nat.le_of_ble_eq_true rfl) ?_
  refine Cp.if_neB X 18 dX6_feed_9 (by decide) (fun c_9 => ?_) (fun c_9 => ?_)
  · refine Cp.aload_n (i := 0) X dX6_feed_18 rfl rfl ?_
    refine gfX6_221 X sr_0 rfl dX6_feed_19 ?_
    refine Cp.iload_n (i := 2) X dX6_feed_22 rfl rfl ?_
    refine Cp.iadd X dX6_feed_23 ?_
    refine Cp.bipush (v := 120) X dX6_feed_24 rfl ?_
    refine Cp.icmp_le X 35 dX6_feed_26 (by decide) (fun c_26 => ?_) (fun c_26 => ?_)
    · refine Cp.iload_n (i := 2) X dX6_feed_35 rfl rfl ?_
      refine Cp.iconst (v := 1) X dX6_feed_36 rfl ?_
      refine Cp.isub X dX6_feed_37 ?_
      refine Cp.nameI (fun x3_38 => ?_)
      refine Cp.istore_n (i := 3) X dX6_feed_38 rfl (Nat.le_of_ble_eq_true rfl) rfl ?_
      refine Cp.mask [true, true, false, true] ?_
      exact pX6_feed_39 X x1 FU x3_38 σ
    · refine Cp.aload_n (i := 0) X dX6_feed_29 rfl rfl ?_
      refine Cp.iconst (v := 1) X dX6_feed_30 rfl ?_
      refine Cp.cVIM [] X [.int 1] cvX6_finds (kX6_finds X.ok 1 σ) sr_0 rfl rfl wmX6_103 rfl rfl dX6_feed_31 rfl (Nat.le_of_ble_eq_true rfl) (fun v_31 s_31 => ?_)
      exact Cp.iret X dX6_feed_34 rfl
  · refine Cp.aload_n (i := 0) X dX6_feed_12 rfl rfl ?_
    refine Cp.iconst (v := 0) X dX6_feed_13 rfl ?_
    refine Cp.cVIM [] X [.int 0] cvX6_finds (kX6_finds X.ok 0 σ) sr_0 rfl rfl wmX6_103 rfl rfl dX6_feed_14 rfl (Nat.le_of_ble_eq_true rfl) (fun v_14 s_14 => ?_)
    exact Cp.iret X dX6_feed_17 rfl
theorem kX6_feed {l : Launch} {w : WE} (hok : OkW w shR)   (x1 : Int32) (x2 : Int32) (σ : Mem) : ∀ v, fX6_feed x1 x2 σ = some v → Ctr l w shR yX6_feed cX6_feed 4 (some .int) 1 [.ref (wad w 0), .int x1, .int x2] σ (iIM v) := fun v hv => Ctr.of [some (.ref (wad w 0)), some (.int x1), some (.int x2), none] (by decide) hok rfl (Nat.le_of_ble_eq_true rfl) (fun M _ X => pX6_feed X   x1 x2 σ v hv)
def fX6_wipe  (σ : Mem) : Option (Int32 × Mem) :=
  (pb (σ 0 10 : Int32) fun x1_4 => (pb (up2 σ 0 10 0 : Mem) fun s_7 => (some (x1_4, s_7))))
set_option maxRecDepth 20000 in
theorem pX6_wipe {M : MC} {w : WE} (X : Cx M w shR cX6_wipe 2 RX6 (some .int) 0)    (σ : Mem) : Cp M w shR 2 iIM 0 [some (.ref (wad w 0)), none] [] σ (fX6_wipe σ) := by
  unfold fX6_wipe
  refine Cp.aload_n (i := 0) X dX6_wipe_0 rfl rfl ?_
  refine gfX6_221 X sr_0 rfl dX6_wipe_1 ?_
  refine Cp.nameI (fun x1_4 => ?_)
  refine Cp.istore_n (i := 1) X dX6_wipe_4 rfl (Nat.le_of_ble_eq_true rfl) rfl ?_
  refine Cp.aload_n (i := 0) X dX6_wipe_5 rfl rfl ?_
  refine Cp.iconst (v := 0) X dX6_wipe_6 rfl ?_
  refine pfX6_221 X sr_0 rfl dX6_wipe_7 ?_
  refine Cp.nameM (fun s_7 => ?_)
  refine Cp.iload_n (i := 1) X dX6_wipe_10 rfl rfl ?_
  exact Cp.iret X dX6_wipe_11 rfl
theorem kX6_wipe {l : Launch} {w : WE} (hok : OkW w shR)    (σ : Mem) : ∀ v, fX6_wipe σ = some v → Ctr l w shR yX6_wipe cX6_wipe 2 (some .int) 0 [.ref (wad w 0)] σ (iIM v) := fun v hv => Ctr.of [some (.ref (wad w 0)), none] (by decide) hok rfl (Nat.le_of_ble_eq_true rfl) (fun M _ X => pX6_wipe X    σ v hv)
def fX6_isByte (x1 : Int32) (x2 : Int32) (x3 : Int32) (σ : Mem) : Option Bool :=
  (if (σ 0 10) ≤ x1 then (some false) else (gd (inB x1 120 = true) (if fX6_in ((σ 7 x1.toNatClampNeg : Int32).toInt64) ((x2 : Int32).toInt64) ((x3 : Int32).toInt64) = true then (some true) else (some false))))
set_option maxRecDepth 20000 in
theorem pX6_isByte {M : MC} {w : WE} (X : Cx M w shR cX6_isByte 4 RX6 (some .boolean) 1)   (x1 : Int32) (x2 : Int32) (x3 : Int32) (σ : Mem) : Cp M w shR 4 (iB σ) 0 [some (.ref (wad w 0)), some (.int x1), some (.int x2), some (.int x3)] [] σ (fX6_isByte x1 x2 x3 σ) := by
  unfold fX6_isByte
  refine Cp.iload_n (i := 1) X dX6_isByte_0 rfl rfl ?_
  refine Cp.aload_n (i := 0) X dX6_isByte_1 rfl rfl ?_
  refine gfX6_221 X sr_0 rfl dX6_isByte_2 ?_
  refine Cp.icmp_ge X 29 dX6_isByte_5 (by decide) (fun c_5 => ?_) (fun c_5 => ?_)
  · refine Cp.iconst (v := 0) X dX6_isByte_29 rfl ?_
    exact Cp.bret (v := false) X dX6_isByte_30 rfl
  · refine Cp.aload_n (i := 0) X dX6_isByte_8 rfl rfl ?_
    refine gfX6_28 X 7 sr_0 rfl dX6_isByte_9 ?_
    refine Cp.iload_n (i := 1) X dX6_isByte_12 rfl rfl ?_
    refine Cp.iald X sr_7 dX6_isByte_13 ?_
    refine Cp.i2l X dX6_isByte_14 ?_
    refine Cp.iload_n (i := 2) X dX6_isByte_15 rfl rfl ?_
    refine Cp.i2l X dX6_isByte_16 ?_
    refine Cp.iload_n (i := 3) X dX6_isByte_17 rfl rfl ?_
    refine Cp.i2l X dX6_isByte_18 ?_
    refine Cp.cSBT [] X [.long ((σ 7 x1.toNatClampNeg : Int32).toInt64), .long ((x2 : Int32).toInt64), .long ((x3 : Int32).toInt64)] csX6_in (kX6_in X.ok ((σ 7 x1.toNatClampNeg : Int32).toInt64) ((x2 : Int32).toInt64) ((x3 : Int32).toInt64) σ) wmX6_48 rfl rfl dX6_isByte_19 rfl (Nat.le_of_ble_eq_true rfl) ?_
    refine Cp.if_eqB X 29 dX6_isByte_22 (by decide) (fun c_22 => ?_) (fun c_22 => ?_)
    · refine Cp.iconst (v := 0) X dX6_isByte_29 rfl ?_
      exact Cp.bret (v := false) X dX6_isByte_30 rfl
    · refine Cp.iconst (v := 1) X dX6_isByte_25 rfl ?_
      refine Cp.goto X 30 dX6_isByte_26 (by decide) ?_
      exact Cp.bret (v := true) X dX6_isByte_30 rfl
theorem kX6_isByte {l : Launch} {w : WE} (hok : OkW w shR)   (x1 : Int32) (x2 : Int32) (x3 : Int32) (σ : Mem) : ∀ v, fX6_isByte x1 x2 x3 σ = some v → Ctr l w shR yX6_isByte cX6_isByte 4 (some .boolean) 1 [.ref (wad w 0), .int x1, .int x2, .int x3] σ ((iB σ) v) := fun v hv => Ctr.of [some (.ref (wad w 0)), some (.int x1), some (.int x2), some (.int x3)] (by decide) hok rfl (Nat.le_of_ble_eq_true rfl) (fun M _ X => pX6_isByte X   x1 x2 x3 σ v hv)
def fX6_next_121 (x1 : Int32) (x2 : Int32) (σ : Mem) : Option Mem :=
  (if x1 = 0 then (if x2 = 0 then (if (σ 0 10) ≤ (σ 0 11) then (pb (up2 σ 0 12 ((σ 0 12) + 0) : Mem) fun s_151 => (some s_151)) else (pb (up2 σ 0 12 ((σ 0 12) + 1) : Mem) fun s_151 => (some s_151))) else (pb (up2 σ 0 12 ((σ 0 12) + 0) : Mem) fun s_151 => (some s_151))) else (pb (up2 σ 0 12 ((σ 0 12) + 0) : Mem) fun s_151 => (some s_151)))
def fX6_next_89 (k70 : Mem → Option Mem) (x1 : Int32) (x2 : Int32) (σ : Mem) : Option Mem :=
  (if x2 = 0 then (fX6_next_121 x1 x2 σ) else ((fX6_isByte (σ 0 12) 48 57 σ).bind fun v_102 => (if v_102 = true then (pb (up2 σ 0 12 ((σ 0 12) + 1) : Mem) fun s_115 => (k70 s_115)) else (fX6_next_121 x1 x2 σ))))
def fX6_next_70 (x1 : Int32) (x2 : Int32) (k70 : Mem → Option Mem) (σ : Mem) : Option Mem :=
  (if x1 = 0 then (fX6_next_89 k70 x1 x2 σ) else ((fX6_isByte (σ 0 12) 97 122 σ).bind fun v_83 => (if v_83 = true then (pb (up2 σ 0 12 ((σ 0 12) + 1) : Mem) fun s_115 => (k70 s_115)) else (fX6_next_89 k70 x1 x2 σ))))
def fX6_next_8 (k8 : Mem → Option Mem) (σ : Mem) : Option Mem :=
  ((fX6_isByte (σ 0 11) 32 32 σ).bind fun v_17 => (if v_17 = true then (pb (up2 σ 0 11 ((σ 0 11) + 1) : Mem) fun s_30 => (k8 s_30)) else (pb (up2 σ 0 12 (σ 0 11) : Mem) fun s_41 => ((fX6_isByte (s_41 0 11) 97 122 s_41).bind fun v_53 => ((fX6_isByte (s_41 0 11) 48 57 s_41).bind fun v_66 => (lw1 (fX6_next_70 (b2i v_53) (b2i v_66)) FU s_41))))))
def fX6_next  (σ : Mem) : Option Mem :=
  (pb (up2 σ 0 11 (σ 0 12) : Mem) fun s_5 => (lw1 (fX6_next_8) FU s_5))
set_option maxRecDepth 20000 in
theorem pX6_next_121 {M : MC} {w : WE} (X : Cx M w shR cX6_next 3 RX6 none 2)   (x1 : Int32) (x2 : Int32)  (σ : Mem)  : Cp M w shR 3 iVM 121 [some (.ref (wad w 0)), some (.int x1), some (.int x2)] [] σ (fX6_next_121 x1 x2 σ) := by
  unfold fX6_next_121
  refine Cp.aload_n (i := 0) X dX6_next_121 rfl rfl ?_
  refine Cp.dup X dX6_next_122 rfl ?_
  refine gfX6_224 X sr_0 rfl dX6_next_123 ?_
  refine Cp.iload_n (i := 1) X dX6_next_126 rfl rfl ?_
  refine Cp.if_ne X 149 dX6_next_127 (by decide) (fun c_127 => ?_) (fun c_127 => ?_)
  · refine Cp.iconst (v := 0) X dX6_next_149 rfl ?_
    refine Cp.iadd X dX6_next_150 ?_
    refine pfX6_224 X sr_0 rfl dX6_next_151 ?_
    refine Cp.nameM (fun s_151 => ?_)
    exact Cp.vret X dX6_next_154 rfl
  · refine Cp.iload_n (i := 2) X dX6_next_130 rfl rfl ?_
    refine Cp.if_ne X 149 dX6_next_131 (by decide) (fun c_131 => ?_) (fun c_131 => ?_)
    · refine Cp.iconst (v := 0) X dX6_next_149 rfl ?_
      refine Cp.iadd X dX6_next_150 ?_
      refine pfX6_224 X sr_0 rfl dX6_next_151 ?_
      refine Cp.nameM (fun s_151 => ?_)
      exact Cp.vret X dX6_next_154 rfl
    · refine Cp.aload_n (i := 0) X dX6_next_134 rfl rfl ?_
      refine gfX6_227 X sr_0 rfl dX6_next_135 ?_
      refine Cp.aload_n (i := 0) X dX6_next_138 rfl rfl ?_
      refine gfX6_221 X sr_0 rfl dX6_next_139 ?_
      refine Cp.icmp_ge X 149 dX6_next_142 (by decide) (fun c_142 => ?_) (fun c_142 => ?_)
      · refine Cp.iconst (v := 0) X dX6_next_149 rfl ?_
        refine Cp.iadd X dX6_next_150 ?_
        refine pfX6_224 X sr_0 rfl dX6_next_151 ?_
        refine Cp.nameM (fun s_151 => ?_)
        exact Cp.vret X dX6_next_154 rfl
      · refine Cp.iconst (v := 1) X dX6_next_145 rfl ?_
        refine Cp.goto X 150 dX6_next_146 (by decide) ?_
        refine Cp.iadd X dX6_next_150 ?_
        refine pfX6_224 X sr_0 rfl dX6_next_151 ?_
        refine Cp.nameM (fun s_151 => ?_)
        exact Cp.vret X dX6_next_154 rfl
set_option maxRecDepth 20000 in
theorem pX6_next_89 {M : MC} {w : WE} (X : Cx M w shR cX6_next 3 RX6 none 2)   (x1 : Int32) (x2 : Int32)  (σ : Mem) (k70 : Mem → Option Mem) (hk70 : ∀ (σ : Mem), Cp M w shR 3 iVM 70 [some (.ref (wad w 0)), some (.int x1), some (.int x2)] [] σ (k70 σ)) : Cp M w shR 3 iVM 89 [some (.ref (wad w 0)), some (.int x1), some (.int x2)] [] σ (fX6_next_89 k70 x1 x2 σ) := by
  unfold fX6_next_89
  refine Cp.iload_n (i := 2) X dX6_next_89 rfl rfl ?_
  refine Cp.if_eq X 121 dX6_next_90 (by decide) (fun c_90 => ?_) (fun c_90 => ?_)
  · exact pX6_next_121 X x1 x2 σ
  · refine Cp.aload_n (i := 0) X dX6_next_93 rfl rfl ?_
    refine Cp.aload_n (i := 0) X dX6_next_94 rfl rfl ?_
    refine gfX6_224 X sr_0 rfl dX6_next_95 ?_
    refine Cp.bipush (v := 48) X dX6_next_98 rfl ?_
    refine Cp.bipush (v := 57) X dX6_next_100 rfl ?_
    refine Cp.cVB [] X [.int (σ 0 12), .int 48, .int 57] cvX6_isByte (kX6_isByte X.ok (σ 0 12) 48 57 σ) sr_0 rfl rfl wmX6_230 rfl rfl dX6_next_102 rfl (Nat.le_of_ble_eq_true rfl) (fun v_102 => ?_)
    refine Cp.if_eqB X 121 dX6_next_105 (by decide) (fun c_105 => ?_) (fun c_105 => ?_)
    · exact pX6_next_121 X x1 x2 σ
    · refine Cp.aload_n (i := 0) X dX6_next_108 rfl rfl ?_
      refine Cp.dup X dX6_next_109 rfl ?_
      refine gfX6_224 X sr_0 rfl dX6_next_110 ?_
      refine Cp.iconst (v := 1) X dX6_next_113 rfl ?_
      refine Cp.iadd X dX6_next_114 ?_
      refine pfX6_224 X sr_0 rfl dX6_next_115 ?_
      refine Cp.nameM (fun s_115 => ?_)
      refine Cp.goto X 70 dX6_next_118 (by decide) ?_
      exact hk70 s_115
set_option maxRecDepth 20000 in
theorem pX6_next_70 {M : MC} {w : WE} (X : Cx M w shR cX6_next 3 RX6 none 2)   (x1 : Int32) (x2 : Int32)    : ∀ (n : Nat) (σ : Mem), Cp M w shR 3 iVM 70 [some (.ref (wad w 0)), some (.int x1), some (.int x2)] [] σ (lw1 (fX6_next_70 x1 x2) n σ) :=
  lw1_i (P := fun σ b => Cp M w shR 3 iVM 70 [some (.ref (wad w 0)), some (.int x1), some (.int x2)] [] σ b) (fun _ => Cp.non) (fun k70 hk70 σ => by
  unfold fX6_next_70
  refine Cp.iload_n (i := 1) X dX6_next_70 rfl rfl ?_
  refine Cp.if_eq X 89 dX6_next_71 (by decide) (fun c_71 => ?_) (fun c_71 => ?_)
  · exact pX6_next_89 X x1 x2 σ k70 hk70
  · refine Cp.aload_n (i := 0) X dX6_next_74 rfl rfl ?_
    refine Cp.aload_n (i := 0) X dX6_next_75 rfl rfl ?_
    refine gfX6_224 X sr_0 rfl dX6_next_76 ?_
    refine Cp.bipush (v := 97) X dX6_next_79 rfl ?_
    refine Cp.bipush (v := 122) X dX6_next_81 rfl ?_
    refine Cp.cVB [] X [.int (σ 0 12), .int 97, .int 122] cvX6_isByte (kX6_isByte X.ok (σ 0 12) 97 122 σ) sr_0 rfl rfl wmX6_230 rfl rfl dX6_next_83 rfl (Nat.le_of_ble_eq_true rfl) (fun v_83 => ?_)
    refine Cp.if_neB X 108 dX6_next_86 (by decide) (fun c_86 => ?_) (fun c_86 => ?_)
    · refine Cp.aload_n (i := 0) X dX6_next_108 rfl rfl ?_
      refine Cp.dup X dX6_next_109 rfl ?_
      refine gfX6_224 X sr_0 rfl dX6_next_110 ?_
      refine Cp.iconst (v := 1) X dX6_next_113 rfl ?_
      refine Cp.iadd X dX6_next_114 ?_
      refine pfX6_224 X sr_0 rfl dX6_next_115 ?_
      refine Cp.nameM (fun s_115 => ?_)
      refine Cp.goto X 70 dX6_next_118 (by decide) ?_
      exact hk70 s_115
    · exact pX6_next_89 X x1 x2 σ k70 hk70)
set_option maxRecDepth 20000 in
theorem pX6_next_8 {M : MC} {w : WE} (X : Cx M w shR cX6_next 3 RX6 none 2)       : ∀ (n : Nat) (σ : Mem), Cp M w shR 3 iVM 8 [some (.ref (wad w 0)), none, none] [] σ (lw1 (fX6_next_8) n σ) :=
  lw1_i (P := fun σ b => Cp M w shR 3 iVM 8 [some (.ref (wad w 0)), none, none] [] σ b) (fun _ => Cp.non) (fun k8 hk8 σ => by
  unfold fX6_next_8
  refine Cp.aload_n (i := 0) X dX6_next_8 rfl rfl ?_
  refine Cp.aload_n (i := 0) X dX6_next_9 rfl rfl ?_
  refine gfX6_227 X sr_0 rfl dX6_next_10 ?_
  refine Cp.bipush (v := 32) X dX6_next_13 rfl ?_
  refine Cp.bipush (v := 32) X dX6_next_15 rfl ?_
  refine Cp.cVB [] X [.int (σ 0 11), .int 32, .int 32] cvX6_isByte (kX6_isByte X.ok (σ 0 11) 32 32 σ) sr_0 rfl rfl wmX6_230 rfl rfl dX6_next_17 rfl (Nat.le_of_ble_eq_true rfl) (fun v_17 => ?_)
  refine Cp.if_eqB X 36 dX6_next_20 (by decide) (fun c_20 => ?_) (fun c_20 => ?_)
  · refine Cp.aload_n (i := 0) X dX6_next_36 rfl rfl ?_
    refine Cp.aload_n (i := 0) X dX6_next_37 rfl rfl ?_
    refine gfX6_227 X sr_0 rfl dX6_next_38 ?_
    refine pfX6_224 X sr_0 rfl dX6_next_41 ?_
    refine Cp.nameM (fun s_41 => ?_)
    refine Cp.aload_n (i := 0) X dX6_next_44 rfl rfl ?_
    refine Cp.aload_n (i := 0) X dX6_next_45 rfl rfl ?_
    refine gfX6_227 X sr_0 rfl dX6_next_46 ?_
    refine Cp.bipush (v := 97) X dX6_next_49 rfl ?_
    refine Cp.bipush (v := 122) X dX6_next_51 rfl ?_
    refine Cp.cVB [] X [.int (s_41 0 11), .int 97, .int 122] cvX6_isByte (kX6_isByte X.ok (s_41 0 11) 97 122 s_41) sr_0 rfl rfl wmX6_230 rfl rfl dX6_next_53 rfl (Nat.le_of_ble_eq_true rfl) (fun v_53 => ?_)
    refine Cp.istore_n (i := 1) X dX6_next_56 rfl (Nat.le_of_ble_eq_true rfl) rfl ?_
    refine Cp.aload_n (i := 0) X dX6_next_57 rfl rfl ?_
    refine Cp.aload_n (i := 0) X dX6_next_58 rfl rfl ?_
    refine gfX6_227 X sr_0 rfl dX6_next_59 ?_
    refine Cp.bipush (v := 48) X dX6_next_62 rfl ?_
    refine Cp.bipush (v := 57) X dX6_next_64 rfl ?_
    refine Cp.cVB [] X [.int (s_41 0 11), .int 48, .int 57] cvX6_isByte (kX6_isByte X.ok (s_41 0 11) 48 57 s_41) sr_0 rfl rfl wmX6_230 rfl rfl dX6_next_66 rfl (Nat.le_of_ble_eq_true rfl) (fun v_66 => ?_)
    refine Cp.istore_n (i := 2) X dX6_next_69 rfl (Nat.le_of_ble_eq_true rfl) rfl ?_
    exact pX6_next_70 X (b2i v_53) (b2i v_66) FU s_41
  · refine Cp.aload_n (i := 0) X dX6_next_23 rfl rfl ?_
    refine Cp.dup X dX6_next_24 rfl ?_
    refine gfX6_227 X sr_0 rfl dX6_next_25 ?_
    refine Cp.iconst (v := 1) X dX6_next_28 rfl ?_
    refine Cp.iadd X dX6_next_29 ?_
    refine pfX6_227 X sr_0 rfl dX6_next_30 ?_
    refine Cp.nameM (fun s_30 => ?_)
    refine Cp.goto X 8 dX6_next_33 (by decide) ?_
    exact hk8 s_30)
set_option maxRecDepth 20000 in
theorem pX6_next {M : MC} {w : WE} (X : Cx M w shR cX6_next 3 RX6 none 2)    (σ : Mem) : Cp M w shR 3 iVM 0 [some (.ref (wad w 0)), none, none] [] σ (fX6_next σ) := by
  unfold fX6_next
  refine Cp.aload_n (i := 0) X dX6_next_0 rfl rfl ?_
  refine Cp.aload_n (i := 0) X dX6_next_1 rfl rfl ?_
  refine gfX6_224 X sr_0 rfl dX6_next_2 ?_
  refine pfX6_227 X sr_0 rfl dX6_next_5 ?_
  refine Cp.nameM (fun s_5 => ?_)
  exact pX6_next_8 X FU s_5
theorem kX6_next {l : Launch} {w : WE} (hok : OkW w shR)    (σ : Mem) : ∀ v, fX6_next σ = some v → Ctr l w shR yX6_next cX6_next 3 none 2 [.ref (wad w 0)] σ (iVM v) := fun v hv => Ctr.of [some (.ref (wad w 0)), none, none] (by decide) hok rfl (Nat.le_of_ble_eq_true rfl) (fun M _ X => pX6_next X    σ v hv)
def fX6_must_17 (t0 : Int32) (σ : Mem) : Option Mem :=
  (gd (t0 = 0 ∨ t0 = 1) (pb (up2 σ 0 13 t0 : Mem) fun s_17 => (if (s_17 0 13) = 0 then ((fX6_next s_17).bind fun s_28 => (some s_28)) else (some s_17))))
def fX6_must_12 (σ : Mem) : Option Mem :=
  (fX6_must_17 1 σ)
def fX6_must (x1 : Bool) (σ : Mem) : Option Mem :=
  (if (σ 0 13) = 0 then (if x1 = true then (fX6_must_17 0 σ) else (fX6_must_12 σ)) else (fX6_must_12 σ))
set_option maxRecDepth 20000 in
theorem pX6_must_17 {M : MC} {w : WE} (X : Cx M w shR cX6_must 2 RX6 none 3)   (t0 : Int32)  (σ : Mem)  : Cp M w shR 2 iVM 17 [some (.ref (wad w 0)), none] [.int t0, .ref (wad w 0)] σ (fX6_must_17 t0 σ) := by
  unfold fX6_must_17
  refine pfX6_233 X sr_0 rfl dX6_must_17 ?_
  refine Cp.nameM (fun s_17 => ?_)
  refine Cp.aload_n (i := 0) X dX6_must_20 rfl rfl ?_
  refine gfX6_233 X sr_0 rfl dX6_must_21 ?_
  refine Cp.if_ne X 31 dX6_must_24 (by decide) (fun c_24 => ?_) (fun c_24 => ?_)
  · exact Cp.vret X dX6_must_31 rfl
  · refine Cp.aload_n (i := 0) X dX6_must_27 rfl rfl ?_
    refine Cp.cVV [] X [] cvX6_next (kX6_next X.ok s_17) sr_0 rfl rfl wmX6_246 rfl rfl dX6_must_28 rfl (Nat.le_of_ble_eq_true rfl) (fun s_28 => ?_)
    exact Cp.vret X dX6_must_31 rfl
set_option maxRecDepth 20000 in
theorem pX6_must_12 {M : MC} {w : WE} (X : Cx M w shR cX6_must 2 RX6 none 3)     (σ : Mem)  : Cp M w shR 2 iVM 12 [some (.ref (wad w 0)), none] [.ref (wad w 0)] σ (fX6_must_12 σ) := by
  unfold fX6_must_12
  refine Cp.iconst (v := 1) X dX6_must_12 rfl ?_
  refine Cp.goto X 17 dX6_must_13 (by decide) ?_
  exact pX6_must_17 X 1 σ
set_option maxRecDepth 20000 in
theorem pX6_must {M : MC} {w : WE} (X : Cx M w shR cX6_must 2 RX6 none 3)   (x1 : Bool) (σ : Mem) : Cp M w shR 2 iVM 0 [some (.ref (wad w 0)), some (.int (b2i x1))] [] σ (fX6_must x1 σ) := by
  unfold fX6_must
  refine Cp.aload_n (i := 0) X dX6_must_0 rfl rfl ?_
  refine Cp.aload_n (i := 0) X dX6_must_1 rfl rfl ?_
  refine gfX6_233 X sr_0 rfl dX6_must_2 ?_
  refine Cp.if_ne X 12 dX6_must_5 (by decide) (fun c_5 => ?_) (fun c_5 => ?_)
  · refine Cp.mask [true, false] ?_
    exact pX6_must_12 X σ
  · refine Cp.iload_n (i := 1) X dX6_must_8 rfl rfl ?_
    refine Cp.if_neB X 16 dX6_must_9 (by decide) (fun c_9 => ?_) (fun c_9 => ?_)
    · refine Cp.iconst (v := 0) X dX6_must_16 rfl ?_
      refine Cp.mask [true, false] ?_
      exact pX6_must_17 X 0 σ
    · refine Cp.mask [true, false] ?_
      exact pX6_must_12 X σ
theorem kX6_must {l : Launch} {w : WE} (hok : OkW w shR)   (x1 : Bool) (σ : Mem) : ∀ v, fX6_must x1 σ = some v → Ctr l w shR yX6_must cX6_must 2 none 3 [.ref (wad w 0), .int (b2i x1)] σ (iVM v) := fun v hv => Ctr.of [some (.ref (wad w 0)), some (.int (b2i x1))] (by decide) hok rfl (Nat.le_of_ble_eq_true rfl) (fun M _ X => pX6_must X   x1 σ v hv)
def fX6_numberRead_73 (x1 : Int32) (x2 : Int32) (x3 : Int32) (σ : Mem) : Option (Int32 × Mem) :=
  ((fX6_must (fX6_in ((x3 : Int32).toInt64) ((x1 : Int32).toInt64) ((x2 : Int32).toInt64)) σ).bind fun s_83 => (some (x3, s_83)))
def fX6_numberRead_27 (x1 : Int32) (x2 : Int32) (σ : Mem) (k27 : Int32 → Int32 → Option (Int32 × Mem)) (x3 : Int32) (x4 : Int32) : Option (Int32 × Mem) :=
  (if (σ 0 12) ≤ x4 then (fX6_numberRead_73 x1 x2 x3 σ) else (if x3 < 0 then (fX6_numberRead_73 x1 x2 x3 σ) else (if x3 ≤ 9999 then (gd (inB x4 120 = true) (pb (((10 * x3) + (σ 7 x4.toNatClampNeg)) - 48 : Int32) fun x3_66 => (k27 x3_66 (x4 + 1)))) else (k27 x3 (x4 + 1)))))
def fX6_numberRead (x1 : Int32) (x2 : Int32) (σ : Mem) : Option (Int32 × Mem) :=
  ((fX6_isByte (σ 0 11) 48 57 σ).bind fun v_9 => (if v_9 = true then (pb (σ 0 11 : Int32) fun x4_25 => (lw2 (fX6_numberRead_27 x1 x2 σ) FU 0 x4_25)) else (pb ((-1) : Int32) fun x3_20 => (pb (σ 0 11 : Int32) fun x4_25 => (lw2 (fX6_numberRead_27 x1 x2 σ) FU x3_20 x4_25)))))
set_option maxRecDepth 20000 in
theorem pX6_numberRead_73 {M : MC} {w : WE} (X : Cx M w shR cX6_numberRead 5 RX6 (some .int) 4)   (x1 : Int32) (x2 : Int32) (x3 : Int32)  (σ : Mem)  : Cp M w shR 5 iIM 73 [some (.ref (wad w 0)), some (.int x1), some (.int x2), some (.int x3), none] [] σ (fX6_numberRead_73 x1 x2 x3 σ) := by
  unfold fX6_numberRead_73
  refine Cp.aload_n (i := 0) X dX6_numberRead_73 rfl rfl ?_
  refine Cp.iload_n (i := 3) X dX6_numberRead_74 rfl rfl ?_
  refine Cp.i2l X dX6_numberRead_75 ?_
  refine Cp.iload_n (i := 1) X dX6_numberRead_76 rfl rfl ?_
  refine Cp.i2l X dX6_numberRead_77 ?_
  refine Cp.iload_n (i := 2) X dX6_numberRead_78 rfl rfl ?_
  refine Cp.i2l X dX6_numberRead_79 ?_
  refine Cp.cSBT [.ref (wad w 0)] X [.long ((x3 : Int32).toInt64), .long ((x1 : Int32).toInt64), .long ((x2 : Int32).toInt64)] csX6_in (kX6_in X.ok ((x3 : Int32).toInt64) ((x1 : Int32).toInt64) ((x2 : Int32).toInt64) σ) wmX6_48 rfl rfl dX6_numberRead_80 rfl (Nat.le_of_ble_eq_true rfl) ?_
  refine Cp.cVV [] X [.int (b2i (fX6_in ((x3 : Int32).toInt64) ((x1 : Int32).toInt64) ((x2 : Int32).toInt64)))] cvX6_must (kX6_must X.ok (fX6_in ((x3 : Int32).toInt64) ((x1 : Int32).toInt64) ((x2 : Int32).toInt64)) σ) sr_0 rfl rfl wmX6_253 rfl rfl dX6_numberRead_83 rfl (Nat.le_of_ble_eq_true rfl) (fun s_83 => ?_)
  refine Cp.iload_n (i := 3) X dX6_numberRead_86 rfl rfl ?_
  exact Cp.iret X dX6_numberRead_87 rfl
set_option maxRecDepth 20000 in
theorem pX6_numberRead_27 {M : MC} {w : WE} (X : Cx M w shR cX6_numberRead 5 RX6 (some .int) 4)   (x1 : Int32) (x2 : Int32)  (σ : Mem)  : ∀ (n : Nat) (x3 : Int32) (x4 : Int32), Cp M w shR 5 iIM 27 [some (.ref (wad w 0)), some (.int x1), some (.int x2), some (.int x3), some (.int x4)] [] σ (lw2 (fX6_numberRead_27 x1 x2 σ) n x3 x4) :=
  lw2_i (P := fun x3 x4 b => Cp M w shR 5 iIM 27 [some (.ref (wad w 0)), some (.int x1), some (.int x2), some (.int x3), some (.int x4)] [] σ b) (fun _ _ => Cp.non) (fun k27 hk27 x3 x4 => by
  unfold fX6_numberRead_27
  refine Cp.iload X dX6_numberRead_27 rfl ?_
  refine Cp.aload_n (i := 0) X dX6_numberRead_29 rfl rfl ?_
  refine gfX6_224 X sr_0 rfl dX6_numberRead_30 ?_
  refine Cp.icmp_ge X 73 dX6_numberRead_33 (by decide) (fun c_33 => ?_) (fun c_33 => ?_)
  · refine Cp.mask [true, true, true, true, false] ?_
    exact pX6_numberRead_73 X x1 x2 x3 σ
  · refine Cp.iload_n (i := 3) X dX6_numberRead_36 rfl rfl ?_
    refine Cp.if_lt X 73 dX6_numberRead_37 (by decide) (fun c_37 => ?_) (fun c_37 => ?_)
    · refine Cp.mask [true, true, true, true, false] ?_
      exact pX6_numberRead_73 X x1 x2 x3 σ
    · refine Cp.iload_n (i := 3) X dX6_numberRead_40 rfl rfl ?_
      refine Cp.sipush (v := 9999) X dX6_numberRead_41 rfl ?_
      refine Cp.icmp_le X 51 dX6_numberRead_44 (by decide) (fun c_44 => ?_) (fun c_44 => ?_)
      · refine Cp.bipush (v := 10) X dX6_numberRead_51 rfl ?_
        refine Cp.iload_n (i := 3) X dX6_numberRead_53 rfl rfl ?_
        refine Cp.imul X dX6_numberRead_54 ?_
        refine Cp.aload_n (i := 0) X dX6_numberRead_55 rfl rfl ?_
        refine gfX6_28 X 7 sr_0 rfl dX6_numberRead_56 ?_
        refine Cp.iload X dX6_numberRead_59 rfl ?_
        refine Cp.iald X sr_7 dX6_numberRead_61 ?_
        refine Cp.iadd X dX6_numberRead_62 ?_
        refine Cp.bipush (v := 48) X dX6_numberRead_63 rfl ?_
        refine Cp.isub X dX6_numberRead_65 ?_
        refine Cp.nameI (fun x3_66 => ?_)
        refine Cp.istore_n (i := 3) X dX6_numberRead_66 rfl (Nat.le_of_ble_eq_true rfl) rfl ?_
        refine Cp.iinc (v := x4 + 1) X dX6_numberRead_67 rfl rfl (Nat.le_of_ble_eq_true rfl) rfl ?_
        refine Cp.goto X 27 dX6_numberRead_70 (by decide) ?_
        exact hk27 x3_66 (x4 + 1)
      · refine Cp.iload_n (i := 3) X dX6_numberRead_47 rfl rfl ?_
        refine Cp.goto X 66 dX6_numberRead_48 (by decide) ?_
        refine Cp.istore_n (i := 3) X dX6_numberRead_66 rfl (Nat.le_of_ble_eq_true rfl) rfl ?_
        refine Cp.iinc (v := x4 + 1) X dX6_numberRead_67 rfl rfl (Nat.le_of_ble_eq_true rfl) rfl ?_
        refine Cp.goto X 27 dX6_numberRead_70 (by decide) ?_
        exact hk27 x3 (x4 + 1))
set_option maxRecDepth 20000 in
theorem pX6_numberRead {M : MC} {w : WE} (X : Cx M w shR cX6_numberRead 5 RX6 (some .int) 4)   (x1 : Int32) (x2 : Int32) (σ : Mem) : Cp M w shR 5 iIM 0 [some (.ref (wad w 0)), some (.int x1), some (.int x2), none, none] [] σ (fX6_numberRead x1 x2 σ) := by
  unfold fX6_numberRead
  refine Cp.aload_n (i := 0) X dX6_numberRead_0 rfl rfl ?_
  refine Cp.aload_n (i := 0) X dX6_numberRead_1 rfl rfl ?_
  refine gfX6_227 X sr_0 rfl dX6_numberRead_2 ?_
  refine Cp.bipush (v := 48) X dX6_numberRead_5 rfl ?_
  refine Cp.bipush (v := 57) X dX6_numberRead_7 rfl ?_
  refine Cp.cVB [] X [.int (σ 0 11), .int 48, .int 57] cvX6_isByte (kX6_isByte X.ok (σ 0 11) 48 57 σ) sr_0 rfl rfl wmX6_230 rfl rfl dX6_numberRead_9 rfl (Nat.le_of_ble_eq_true rfl) (fun v_9 => ?_)
  refine Cp.if_eqB X 19 dX6_numberRead_12 (by decide) (fun c_12 => ?_) (fun c_12 => ?_)
  · refine Cp.iconst (v := (-1)) X dX6_numberRead_19 rfl ?_
    refine Cp.nameI (fun x3_20 => ?_)
    refine Cp.istore_n (i := 3) X dX6_numberRead_20 rfl (Nat.le_of_ble_eq_true rfl) rfl ?_
    refine Cp.aload_n (i := 0) X dX6_numberRead_21 rfl rfl ?_
    refine gfX6_227 X sr_0 rfl dX6_numberRead_22 ?_
    refine Cp.nameI (fun x4_25 => ?_)
    refine Cp.istore X dX6_numberRead_25 (Nat.le_of_ble_eq_true rfl) rfl ?_
    exact pX6_numberRead_27 X x1 x2 σ FU x3_20 x4_25
  · refine Cp.iconst (v := 0) X dX6_numberRead_15 rfl ?_
    refine Cp.goto X 20 dX6_numberRead_16 (by decide) ?_
    refine Cp.istore_n (i := 3) X dX6_numberRead_20 rfl (Nat.le_of_ble_eq_true rfl) rfl ?_
    refine Cp.aload_n (i := 0) X dX6_numberRead_21 rfl rfl ?_
    refine gfX6_227 X sr_0 rfl dX6_numberRead_22 ?_
    refine Cp.nameI (fun x4_25 => ?_)
    refine Cp.istore X dX6_numberRead_25 (Nat.le_of_ble_eq_true rfl) rfl ?_
    exact pX6_numberRead_27 X x1 x2 σ FU 0 x4_25
theorem kX6_numberRead {l : Launch} {w : WE} (hok : OkW w shR)   (x1 : Int32) (x2 : Int32) (σ : Mem) : ∀ v, fX6_numberRead x1 x2 σ = some v → Ctr l w shR yX6_numberRead cX6_numberRead 5 (some .int) 4 [.ref (wad w 0), .int x1, .int x2] σ (iIM v) := fun v hv => Ctr.of [some (.ref (wad w 0)), some (.int x1), some (.int x2), none, none] (by decide) hok rfl (Nat.le_of_ble_eq_true rfl) (fun M _ X => pX6_numberRead X   x1 x2 σ v hv)
def fX6_jokeTold_18 (t0 : Int32) (σ : Mem) : Option Mem :=
  (gd (t0 = 0 ∨ t0 = 1) ((fX6_must (decide (t0 = 1)) σ).bind fun s_18 => (bnd2 (fX6_numberRead 1 63 s_18) fun v_25 s_25 => (bnd2 (fX6_numberRead 0 9 s_25) fun v_33 s_33 => (if (s_33 0 13) = 0 then (bnd2 (fX6_addsJoke v_25 v_33 s_33) fun v_47 s_47 => (some s_47)) else (some s_33))))))
def fX6_jokeTold  (σ : Mem) : Option Mem :=
  (if 8 ≤ (σ 1 6) then (fX6_jokeTold_18 0 σ) else (fX6_jokeTold_18 1 σ))
set_option maxRecDepth 20000 in
theorem pX6_jokeTold_18 {M : MC} {w : WE} (X : Cx M w shR cX6_jokeTold 4 RX6 none 5)   (t0 : Int32)  (σ : Mem)  : Cp M w shR 4 iVM 18 [some (.ref (wad w 0)), none, none, none] [.int t0, .ref (wad w 0)] σ (fX6_jokeTold_18 t0 σ) := by
  unfold fX6_jokeTold_18
  refine Cp.topB ?_
  refine Cp.cVV [] X [.int (b2i (decide (t0 = 1)))] cvX6_must (kX6_must X.ok (decide (t0 = 1)) σ) sr_0 rfl rfl wmX6_253 rfl rfl dX6_jokeTold_18 rfl (Nat.le_of_ble_eq_true rfl) (fun s_18 => ?_)
  refine Cp.aload_n (i := 0) X dX6_jokeTold_21 rfl rfl ?_
  refine Cp.iconst (v := 1) X dX6_jokeTold_22 rfl ?_
  refine Cp.bipush (v := 63) X dX6_jokeTold_23 rfl ?_
  refine Cp.cVIM [] X [.int 1, .int 63] cvX6_numberRead (kX6_numberRead X.ok 1 63 s_18) sr_0 rfl rfl wmX6_274 rfl rfl dX6_jokeTold_25 rfl (Nat.le_of_ble_eq_true rfl) (fun v_25 s_25 => ?_)
  refine Cp.istore_n (i := 1) X dX6_jokeTold_28 rfl (Nat.le_of_ble_eq_true rfl) rfl ?_
  refine Cp.aload_n (i := 0) X dX6_jokeTold_29 rfl rfl ?_
  refine Cp.iconst (v := 0) X dX6_jokeTold_30 rfl ?_
  refine Cp.bipush (v := 9) X dX6_jokeTold_31 rfl ?_
  refine Cp.cVIM [] X [.int 0, .int 9] cvX6_numberRead (kX6_numberRead X.ok 0 9 s_25) sr_0 rfl rfl wmX6_274 rfl rfl dX6_jokeTold_33 rfl (Nat.le_of_ble_eq_true rfl) (fun v_33 s_33 => ?_)
  refine Cp.istore_n (i := 2) X dX6_jokeTold_36 rfl (Nat.le_of_ble_eq_true rfl) rfl ?_
  refine Cp.aload_n (i := 0) X dX6_jokeTold_37 rfl rfl ?_
  refine gfX6_233 X sr_0 rfl dX6_jokeTold_38 ?_
  refine Cp.if_ne X 51 dX6_jokeTold_41 (by decide) (fun c_41 => ?_) (fun c_41 => ?_)
  · exact Cp.vret X dX6_jokeTold_51 rfl
  · refine Cp.aload_n (i := 0) X dX6_jokeTold_44 rfl rfl ?_
    refine Cp.iload_n (i := 1) X dX6_jokeTold_45 rfl rfl ?_
    refine Cp.iload_n (i := 2) X dX6_jokeTold_46 rfl rfl ?_
    refine Cp.cVIM [] X [.int v_25, .int v_33] cvX6_addsJoke (kX6_addsJoke X.ok v_25 v_33 s_33) sr_0 rfl rfl wmX6_135 rfl rfl dX6_jokeTold_47 rfl (Nat.le_of_ble_eq_true rfl) (fun v_47 s_47 => ?_)
    refine Cp.istore_n (i := 3) X dX6_jokeTold_50 rfl (Nat.le_of_ble_eq_true rfl) rfl ?_
    exact Cp.vret X dX6_jokeTold_51 rfl
set_option maxRecDepth 20000 in
theorem pX6_jokeTold {M : MC} {w : WE} (X : Cx M w shR cX6_jokeTold 4 RX6 none 5)    (σ : Mem) : Cp M w shR 4 iVM 0 [some (.ref (wad w 0)), none, none, none] [] σ (fX6_jokeTold σ) := by
  unfold fX6_jokeTold
  refine Cp.aload_n (i := 0) X dX6_jokeTold_0 rfl rfl ?_
  refine Cp.aload_n (i := 0) X dX6_jokeTold_1 rfl rfl ?_
  refine gfX6_9 X 1 sr_0 rfl dX6_jokeTold_2 ?_
  refine Cp.bipush (v := 6) X dX6_jokeTold_5 rfl ?_
  refine Cp.ialdc (j := 6) X sr_1 (by decide) (by decide) dX6_jokeTold_7 ?_
  refine Cp.bipush (v := 8) X dX6_jokeTold_8 rfl ?_
  refine Cp.icmp_ge X 17 dX6_jokeTold_10 (by decide) (fun c_10 => ?_) (fun c_10 => ?_)
  · refine Cp.iconst (v := 0) X dX6_jokeTold_17 rfl ?_
    exact pX6_jokeTold_18 X 0 σ
  · refine Cp.iconst (v := 1) X dX6_jokeTold_13 rfl ?_
    refine Cp.goto X 18 dX6_jokeTold_14 (by decide) ?_
    exact pX6_jokeTold_18 X 1 σ
theorem kX6_jokeTold {l : Launch} {w : WE} (hok : OkW w shR)    (σ : Mem) : ∀ v, fX6_jokeTold σ = some v → Ctr l w shR yX6_jokeTold cX6_jokeTold 4 none 5 [.ref (wad w 0)] σ (iVM v) := fun v hv => Ctr.of [some (.ref (wad w 0)), none, none, none] (by decide) hok rfl (Nat.le_of_ble_eq_true rfl) (fun M _ X => pX6_jokeTold X    σ v hv)
def fX6_isSpot (x0 : Int32) : Bool :=
  fX6_in ((x0 : Int32).toInt64) 0 9
set_option maxRecDepth 20000 in
theorem pX6_isSpot {M : MC} {w : WE} (X : Cx M w shR cX6_isSpot 1 RX6 (some .boolean) 1)   (x0 : Int32) (σ : Mem) : Cp M w shR 1 (iB σ) 0 [some (.int x0)] [] σ (some (fX6_isSpot x0)) := by
  unfold fX6_isSpot
  refine Cp.iload_n (i := 0) X dX6_isSpot_0 rfl rfl ?_
  refine Cp.i2l X dX6_isSpot_1 ?_
  refine Cp.lconst (v := 0) X dX6_isSpot_2 rfl ?_
  refine Cp.ldc2 (v := 9) X wcX6_56 dX6_isSpot_3 ?_
  refine Cp.cSBT [] X [.long ((x0 : Int32).toInt64), .long 0, .long 9] csX6_in (kX6_in X.ok ((x0 : Int32).toInt64) 0 9 σ) wmX6_48 rfl rfl dX6_isSpot_6 rfl (Nat.le_of_ble_eq_true rfl) ?_
  exact Cp.bret X dX6_isSpot_9 rfl
theorem kX6_isSpot {l : Launch} {w : WE} (hok : OkW w shR)   (x0 : Int32) (σ : Mem) : Ctr l w shR yX6_isSpot cX6_isSpot 1 (some .boolean) 1 [.int x0] σ ((iB σ) (fX6_isSpot x0)) := Ctr.of [some (.int x0)] (by decide) hok rfl (Nat.le_of_ble_eq_true rfl) (fun M _ X => pX6_isSpot X   x0 σ _ rfl)
def fX6_hold (x1 : Int32) (x2 : Int32) (σ : Mem) : Option (Int32 × Mem) :=
  (if fX6_isSpot x1 = true then (if x2 = (-1) then (gd (inB (63 + x1) 73 = true) (pb (up2 σ 1 (63 + x1).toNatClampNeg x2 : Mem) fun s_35 => (some (1, s_35)))) else (if fX6_isPerson x2 σ = true then (gd (inB (63 + x1) 73 = true) (pb (up2 σ 1 (63 + x1).toNatClampNeg x2 : Mem) fun s_35 => (some (1, s_35)))) else (bnd2 (fX6_finds 0 σ) fun v_22 s_22 => (some (v_22, s_22))))) else (bnd2 (fX6_finds 0 σ) fun v_22 s_22 => (some (v_22, s_22))))
set_option maxRecDepth 20000 in
theorem pX6_hold {M : MC} {w : WE} (X : Cx M w shR cX6_hold 3 RX6 (some .int) 2)   (x1 : Int32) (x2 : Int32) (σ : Mem) : Cp M w shR 3 iIM 0 [some (.ref (wad w 0)), some (.int x1), some (.int x2)] [] σ (fX6_hold x1 x2 σ) := by
  unfold fX6_hold
  refine Cp.iload_n (i := 1) X dX6_hold_0 rfl rfl ?_
  refine Cp.cSBT [] X [.int x1] csX6_isSpot (kX6_isSpot X.ok x1 σ) wmX6_310 rfl rfl dX6_hold_1 rfl (Nat.le_of_ble_eq_true rfl) ?_
  refine Cp.if_eqB X 20 dX6_hold_4 (by decide) (fun c_4 => ?_) (fun c_4 => ?_)
  · refine Cp.aload_n (i := 0) X dX6_hold_20 rfl rfl ?_
    refine Cp.iconst (v := 0) X dX6_hold_21 rfl ?_
    refine Cp.cVIM [] X [.int 0] cvX6_finds (kX6_finds X.ok 0 σ) sr_0 rfl rfl wmX6_103 rfl rfl dX6_hold_22 rfl (Nat.le_of_ble_eq_true rfl) (fun v_22 s_22 => ?_)
    exact Cp.iret X dX6_hold_25 rfl
  · refine Cp.iload_n (i := 2) X dX6_hold_7 rfl rfl ?_
    refine Cp.iconst (v := (-1)) X dX6_hold_8 rfl ?_
    refine Cp.icmp_eq X 26 dX6_hold_9 (by decide) (fun c_9 => ?_) (fun c_9 => ?_)
    · refine Cp.aload_n (i := 0) X dX6_hold_26 rfl rfl ?_
      refine gfX6_9 X 1 sr_0 rfl dX6_hold_27 ?_
      refine Cp.bipush (v := 63) X dX6_hold_30 rfl ?_
      refine Cp.iload_n (i := 1) X dX6_hold_32 rfl rfl ?_
      refine Cp.iadd X dX6_hold_33 ?_
      refine Cp.iload_n (i := 2) X dX6_hold_34 rfl rfl ?_
      refine Cp.iast X sr_1 dX6_hold_35 ?_
      refine Cp.nameM (fun s_35 => ?_)
      refine Cp.iconst (v := 1) X dX6_hold_36 rfl ?_
      exact Cp.iret X dX6_hold_37 rfl
    · refine Cp.aload_n (i := 0) X dX6_hold_12 rfl rfl ?_
      refine Cp.iload_n (i := 2) X dX6_hold_13 rfl rfl ?_
      refine Cp.cVBT [] X [.int x2] cvX6_isPerson (kX6_isPerson X.ok x2 σ) sr_0 rfl rfl wmX6_109 rfl rfl dX6_hold_14 rfl (Nat.le_of_ble_eq_true rfl) ?_
      refine Cp.if_neB X 26 dX6_hold_17 (by decide) (fun c_17 => ?_) (fun c_17 => ?_)
      · refine Cp.aload_n (i := 0) X dX6_hold_26 rfl rfl ?_
        refine gfX6_9 X 1 sr_0 rfl dX6_hold_27 ?_
        refine Cp.bipush (v := 63) X dX6_hold_30 rfl ?_
        refine Cp.iload_n (i := 1) X dX6_hold_32 rfl rfl ?_
        refine Cp.iadd X dX6_hold_33 ?_
        refine Cp.iload_n (i := 2) X dX6_hold_34 rfl rfl ?_
        refine Cp.iast X sr_1 dX6_hold_35 ?_
        refine Cp.nameM (fun s_35 => ?_)
        refine Cp.iconst (v := 1) X dX6_hold_36 rfl ?_
        exact Cp.iret X dX6_hold_37 rfl
      · refine Cp.aload_n (i := 0) X dX6_hold_20 rfl rfl ?_
        refine Cp.iconst (v := 0) X dX6_hold_21 rfl ?_
        refine Cp.cVIM [] X [.int 0] cvX6_finds (kX6_finds X.ok 0 σ) sr_0 rfl rfl wmX6_103 rfl rfl dX6_hold_22 rfl (Nat.le_of_ble_eq_true rfl) (fun v_22 s_22 => ?_)
        exact Cp.iret X dX6_hold_25 rfl
theorem kX6_hold {l : Launch} {w : WE} (hok : OkW w shR)   (x1 : Int32) (x2 : Int32) (σ : Mem) : ∀ v, fX6_hold x1 x2 σ = some v → Ctr l w shR yX6_hold cX6_hold 3 (some .int) 2 [.ref (wad w 0), .int x1, .int x2] σ (iIM v) := fun v hv => Ctr.of [some (.ref (wad w 0)), some (.int x1), some (.int x2)] (by decide) hok rfl (Nat.le_of_ble_eq_true rfl) (fun M _ X => pX6_hold X   x1 x2 σ v hv)
def fX6_aboveOf (x0 : Int32) : Int32 :=
  (if x0 = 3 then 2 else (if x0 = 4 then 3 else (if x0 = 6 then 1 else 0)))
set_option maxRecDepth 20000 in
theorem pX6_aboveOf {M : MC} {w : WE} (X : Cx M w shR cX6_aboveOf 1 RX6 (some .int) 0)   (x0 : Int32) (σ : Mem) : Cp M w shR 1 (iI σ) 0 [some (.int x0)] [] σ (some (fX6_aboveOf x0)) := by
  unfold fX6_aboveOf
  refine Cp.iload_n (i := 0) X dX6_aboveOf_0 rfl rfl ?_
  refine Cp.iconst (v := 3) X dX6_aboveOf_1 rfl ?_
  refine Cp.icmp_neT X 9 dX6_aboveOf_2 (by decide) (fun c_2 => ?_) (fun c_2 => ?_)
  · refine Cp.iload_n (i := 0) X dX6_aboveOf_9 rfl rfl ?_
    refine Cp.iconst (v := 4) X dX6_aboveOf_10 rfl ?_
    refine Cp.icmp_neT X 18 dX6_aboveOf_11 (by decide) (fun c_11 => ?_) (fun c_11 => ?_)
    · refine Cp.iload_n (i := 0) X dX6_aboveOf_18 rfl rfl ?_
      refine Cp.bipush (v := 6) X dX6_aboveOf_19 rfl ?_
      refine Cp.icmp_neT X 28 dX6_aboveOf_21 (by decide) (fun c_21 => ?_) (fun c_21 => ?_)
      · refine Cp.iconst (v := 0) X dX6_aboveOf_28 rfl ?_
        exact Cp.iret X dX6_aboveOf_29 rfl
      · refine Cp.iconst (v := 1) X dX6_aboveOf_24 rfl ?_
        refine Cp.goto X 29 dX6_aboveOf_25 (by decide) ?_
        exact Cp.iret X dX6_aboveOf_29 rfl
    · refine Cp.iconst (v := 3) X dX6_aboveOf_14 rfl ?_
      refine Cp.goto X 29 dX6_aboveOf_15 (by decide) ?_
      exact Cp.iret X dX6_aboveOf_29 rfl
  · refine Cp.iconst (v := 2) X dX6_aboveOf_5 rfl ?_
    refine Cp.goto X 29 dX6_aboveOf_6 (by decide) ?_
    exact Cp.iret X dX6_aboveOf_29 rfl
theorem kX6_aboveOf {l : Launch} {w : WE} (hok : OkW w shR)   (x0 : Int32) (σ : Mem) : Ctr l w shR yX6_aboveOf cX6_aboveOf 1 (some .int) 0 [.int x0] σ ((iI σ) (fX6_aboveOf x0)) := Ctr.of [some (.int x0)] (by decide) hok rfl (Nat.le_of_ble_eq_true rfl) (fun M _ X => pX6_aboveOf X   x0 σ _ rfl)
def fX6_isUnder_19 (x1 : Int32) (x2 : Int32) : Option Bool :=
  (if x2 = x1 then (some true) else (some false))
def fX6_isUnder_2 (x1 : Int32) (k2 : Int32 → Option Bool) (x2 : Int32) : Option Bool :=
  (if x2 = 0 then (fX6_isUnder_19 x1 x2) else (if x2 = x1 then (fX6_isUnder_19 x1 x2) else (pb (fX6_aboveOf x2 : Int32) fun x2_15 => (k2 x2_15))))
def fX6_isUnder (x0 : Int32) (x1 : Int32) : Option Bool :=
  (lw1 (fX6_isUnder_2 x1) FU x0)
set_option maxRecDepth 20000 in
theorem pX6_isUnder_19 {M : MC} {w : WE} (X : Cx M w shR cX6_isUnder 3 RX6 (some .boolean) 1)   (x1 : Int32) (x2 : Int32)  (σ : Mem)  : Cp M w shR 3 (iB σ) 19 [none, some (.int x1), some (.int x2)] [] σ (fX6_isUnder_19 x1 x2) := by
  unfold fX6_isUnder_19
  refine Cp.iload_n (i := 2) X dX6_isUnder_19 rfl rfl ?_
  refine Cp.iload_n (i := 1) X dX6_isUnder_20 rfl rfl ?_
  refine Cp.icmp_ne X 28 dX6_isUnder_21 (by decide) (fun c_21 => ?_) (fun c_21 => ?_)
  · refine Cp.iconst (v := 0) X dX6_isUnder_28 rfl ?_
    exact Cp.bret (v := false) X dX6_isUnder_29 rfl
  · refine Cp.iconst (v := 1) X dX6_isUnder_24 rfl ?_
    refine Cp.goto X 29 dX6_isUnder_25 (by decide) ?_
    exact Cp.bret (v := true) X dX6_isUnder_29 rfl
set_option maxRecDepth 20000 in
theorem pX6_isUnder_2 {M : MC} {w : WE} (X : Cx M w shR cX6_isUnder 3 RX6 (some .boolean) 1)   (x1 : Int32)  (σ : Mem)  : ∀ (n : Nat) (x2 : Int32), Cp M w shR 3 (iB σ) 2 [none, some (.int x1), some (.int x2)] [] σ (lw1 (fX6_isUnder_2 x1) n x2) :=
  lw1_i (P := fun x2 b => Cp M w shR 3 (iB σ) 2 [none, some (.int x1), some (.int x2)] [] σ b) (fun _ => Cp.non) (fun k2 hk2 x2 => by
  unfold fX6_isUnder_2
  refine Cp.iload_n (i := 2) X dX6_isUnder_2 rfl rfl ?_
  refine Cp.if_eq X 19 dX6_isUnder_3 (by decide) (fun c_3 => ?_) (fun c_3 => ?_)
  · exact pX6_isUnder_19 X x1 x2 σ
  · refine Cp.iload_n (i := 2) X dX6_isUnder_6 rfl rfl ?_
    refine Cp.iload_n (i := 1) X dX6_isUnder_7 rfl rfl ?_
    refine Cp.icmp_eq X 19 dX6_isUnder_8 (by decide) (fun c_8 => ?_) (fun c_8 => ?_)
    · exact pX6_isUnder_19 X x1 x2 σ
    · refine Cp.iload_n (i := 2) X dX6_isUnder_11 rfl rfl ?_
      refine Cp.cSIT [] X [.int x2] csX6_aboveOf (kX6_aboveOf X.ok x2 σ) wmX6_58 rfl rfl dX6_isUnder_12 rfl (Nat.le_of_ble_eq_true rfl) ?_
      refine Cp.nameI (fun x2_15 => ?_)
      refine Cp.istore_n (i := 2) X dX6_isUnder_15 rfl (Nat.le_of_ble_eq_true rfl) rfl ?_
      refine Cp.goto X 2 dX6_isUnder_16 (by decide) ?_
      exact hk2 x2_15)
set_option maxRecDepth 20000 in
theorem pX6_isUnder {M : MC} {w : WE} (X : Cx M w shR cX6_isUnder 3 RX6 (some .boolean) 1)   (x0 : Int32) (x1 : Int32) (σ : Mem) : Cp M w shR 3 (iB σ) 0 [some (.int x0), some (.int x1), none] [] σ (fX6_isUnder x0 x1) := by
  unfold fX6_isUnder
  refine Cp.iload_n (i := 0) X dX6_isUnder_0 rfl rfl ?_
  refine Cp.istore_n (i := 2) X dX6_isUnder_1 rfl (Nat.le_of_ble_eq_true rfl) rfl ?_
  refine Cp.mask [false, true, true] ?_
  exact pX6_isUnder_2 X x1 σ FU x0
theorem kX6_isUnder {l : Launch} {w : WE} (hok : OkW w shR)   (x0 : Int32) (x1 : Int32) (σ : Mem) : ∀ v, fX6_isUnder x0 x1 = some v → Ctr l w shR yX6_isUnder cX6_isUnder 3 (some .boolean) 1 [.int x0, .int x1] σ ((iB σ) v) := fun v hv => Ctr.of [some (.int x0), some (.int x1), none] (by decide) hok rfl (Nat.le_of_ble_eq_true rfl) (fun M _ X => pX6_isUnder X   x0 x1 σ v hv)
def fX6_as (x1 : Int32) (x2 : Int32) (σ : Mem) : Option (Int32 × Mem) :=
  (if fX6_isSpot x1 = true then (if fX6_isKind x2 = true then (gd (inB (63 + x1) 73 = true) (pb (σ 1 (63 + x1).toNatClampNeg : Int32) fun x3_29 => (if 0 ≤ x3_29 then ((fX6_its x3_29 0 σ).bind fun v_43 => ((fX6_isUnder v_43 x2).bind fun v_47 => (if v_47 = true then (some (x3_29, σ)) else (bnd2 (fX6_finds 2 σ) fun v_59 s_59 => (some (v_59, s_59)))))) else (bnd2 (fX6_finds 5 σ) fun v_36 s_36 => (some (v_36, s_36)))))) else (bnd2 (fX6_finds 0 σ) fun v_16 s_16 => (some (v_16, s_16)))) else (bnd2 (fX6_finds 0 σ) fun v_16 s_16 => (some (v_16, s_16))))
set_option maxRecDepth 20000 in
theorem pX6_as {M : MC} {w : WE} (X : Cx M w shR cX6_as 4 RX6 (some .int) 2)   (x1 : Int32) (x2 : Int32) (σ : Mem) : Cp M w shR 4 iIM 0 [some (.ref (wad w 0)), some (.int x1), some (.int x2), none] [] σ (fX6_as x1 x2 σ) := by
  unfold fX6_as
  refine Cp.iload_n (i := 1) X dX6_as_0 rfl rfl ?_
  refine Cp.cSBT [] X [.int x1] csX6_isSpot (kX6_isSpot X.ok x1 σ) wmX6_310 rfl rfl dX6_as_1 rfl (Nat.le_of_ble_eq_true rfl) ?_
  refine Cp.if_eqB X 14 dX6_as_4 (by decide) (fun c_4 => ?_) (fun c_4 => ?_)
  · refine Cp.aload_n (i := 0) X dX6_as_14 rfl rfl ?_
    refine Cp.iconst (v := 0) X dX6_as_15 rfl ?_
    refine Cp.cVIM [] X [.int 0] cvX6_finds (kX6_finds X.ok 0 σ) sr_0 rfl rfl wmX6_103 rfl rfl dX6_as_16 rfl (Nat.le_of_ble_eq_true rfl) (fun v_16 s_16 => ?_)
    exact Cp.iret X dX6_as_19 rfl
  · refine Cp.iload_n (i := 2) X dX6_as_7 rfl rfl ?_
    refine Cp.cSBT [] X [.int x2] csX6_isKind (kX6_isKind X.ok x2 σ) wmX6_96 rfl rfl dX6_as_8 rfl (Nat.le_of_ble_eq_true rfl) ?_
    refine Cp.if_neB X 20 dX6_as_11 (by decide) (fun c_11 => ?_) (fun c_11 => ?_)
    · refine Cp.aload_n (i := 0) X dX6_as_20 rfl rfl ?_
      refine gfX6_9 X 1 sr_0 rfl dX6_as_21 ?_
      refine Cp.bipush (v := 63) X dX6_as_24 rfl ?_
      refine Cp.iload_n (i := 1) X dX6_as_26 rfl rfl ?_
      refine Cp.iadd X dX6_as_27 ?_
      refine Cp.iald X sr_1 dX6_as_28 ?_
      refine Cp.nameI (fun x3_29 => ?_)
      refine Cp.istore_n (i := 3) X dX6_as_29 rfl (Nat.le_of_ble_eq_true rfl) rfl ?_
      refine Cp.iload_n (i := 3) X dX6_as_30 rfl rfl ?_
      refine Cp.if_ge X 40 dX6_as_31 (by decide) (fun c_31 => ?_) (fun c_31 => ?_)
      · refine Cp.aload_n (i := 0) X dX6_as_40 rfl rfl ?_
        refine Cp.iload_n (i := 3) X dX6_as_41 rfl rfl ?_
        refine Cp.iconst (v := 0) X dX6_as_42 rfl ?_
        refine Cp.cVI [] X [.int x3_29, .int 0] cvX6_its (kX6_its X.ok x3_29 0 σ) sr_0 rfl rfl wmX6_64 rfl rfl dX6_as_43 rfl (Nat.le_of_ble_eq_true rfl) (fun v_43 => ?_)
        refine Cp.iload_n (i := 2) X dX6_as_46 rfl rfl ?_
        refine Cp.cSB [] X [.int v_43, .int x2] csX6_isUnder (kX6_isUnder X.ok v_43 x2 σ) wmX6_313 rfl rfl dX6_as_47 rfl (Nat.le_of_ble_eq_true rfl) (fun v_47 => ?_)
        refine Cp.if_eqB X 57 dX6_as_50 (by decide) (fun c_50 => ?_) (fun c_50 => ?_)
        · refine Cp.aload_n (i := 0) X dX6_as_57 rfl rfl ?_
          refine Cp.iconst (v := 2) X dX6_as_58 rfl ?_
          refine Cp.cVIM [] X [.int 2] cvX6_finds (kX6_finds X.ok 2 σ) sr_0 rfl rfl wmX6_103 rfl rfl dX6_as_59 rfl (Nat.le_of_ble_eq_true rfl) (fun v_59 s_59 => ?_)
          exact Cp.iret X dX6_as_62 rfl
        · refine Cp.iload_n (i := 3) X dX6_as_53 rfl rfl ?_
          refine Cp.goto X 62 dX6_as_54 (by decide) ?_
          exact Cp.iret X dX6_as_62 rfl
      · refine Cp.aload_n (i := 0) X dX6_as_34 rfl rfl ?_
        refine Cp.iconst (v := 5) X dX6_as_35 rfl ?_
        refine Cp.cVIM [] X [.int 5] cvX6_finds (kX6_finds X.ok 5 σ) sr_0 rfl rfl wmX6_103 rfl rfl dX6_as_36 rfl (Nat.le_of_ble_eq_true rfl) (fun v_36 s_36 => ?_)
        exact Cp.iret X dX6_as_39 rfl
    · refine Cp.aload_n (i := 0) X dX6_as_14 rfl rfl ?_
      refine Cp.iconst (v := 0) X dX6_as_15 rfl ?_
      refine Cp.cVIM [] X [.int 0] cvX6_finds (kX6_finds X.ok 0 σ) sr_0 rfl rfl wmX6_103 rfl rfl dX6_as_16 rfl (Nat.le_of_ble_eq_true rfl) (fun v_16 s_16 => ?_)
      exact Cp.iret X dX6_as_19 rfl
theorem kX6_as {l : Launch} {w : WE} (hok : OkW w shR)   (x1 : Int32) (x2 : Int32) (σ : Mem) : ∀ v, fX6_as x1 x2 σ = some v → Ctr l w shR yX6_as cX6_as 4 (some .int) 2 [.ref (wad w 0), .int x1, .int x2] σ (iIM v) := fun v hv => Ctr.of [some (.ref (wad w 0)), some (.int x1), some (.int x2), none] (by decide) hok rfl (Nat.le_of_ble_eq_true rfl) (fun M _ X => pX6_as X   x1 x2 σ v hv)
def fX6_sheet_95 (x1 : Int32) (k95 : Int32 → Mem → Option (Int32 × Mem)) (x5 : Int32) (σ : Mem) : Option (Int32 × Mem) :=
  (if 40 ≤ x5 then (gd (inB x1 4 = true) (some (σ 9 x1.toNatClampNeg, σ))) else (gd (inB ((40 * x1) + x5) 160 = true) (pb (up2 σ 10 ((40 * x1) + x5).toNatClampNeg 0 : Mem) fun s_114 => (k95 (x5 + 1) s_114))))
def fX6_sheet_27 (x1 : Int32) (x2 : Int32) (x3 : Int32) (t0 : Int32) (σ : Mem) : Option (Int32 × Mem) :=
  (if fX6_isSheet x1 = true then (if t0 = 0 then (bnd2 (fX6_finds 0 σ) fun v_43 s_43 => (some (v_43, s_43))) else (if 0 ≤ x3 then (if x3 ≤ 40 then (gd (inB x1 4 = true) (pb (up2 σ 8 x1.toNatClampNeg x2 : Mem) fun s_76 => (if x2 = 0 then (gd (inB x1 4 = true) (pb (up2 s_76 9 x1.toNatClampNeg 0 : Mem) fun s_91 => (lw2 (fX6_sheet_95 x1) FU 0 s_91))) else (gd (inB x1 4 = true) (pb (up2 s_76 9 x1.toNatClampNeg x3 : Mem) fun s_91 => (lw2 (fX6_sheet_95 x1) FU 0 s_91)))))) else (bnd2 (fX6_finds 0 σ) fun v_66 s_66 => (some (v_66, s_66)))) else (bnd2 (fX6_finds 6 σ) fun v_54 s_54 => (some (v_54, s_54))))) else (bnd2 (fX6_finds 0 σ) fun v_43 s_43 => (some (v_43, s_43))))
def fX6_sheet_22 (x1 : Int32) (x2 : Int32) (x3 : Int32) (σ : Mem) : Option (Int32 × Mem) :=
  (fX6_sheet_27 x1 x2 x3 1 σ)
def fX6_sheet (x1 : Int32) (x2 : Int32) (x3 : Int32) (σ : Mem) : Option (Int32 × Mem) :=
  (if x2 = 0 then (fX6_sheet_22 x1 x2 x3 σ) else (if x2 = 8 then (fX6_sheet_22 x1 x2 x3 σ) else (if x2 = 16 then (fX6_sheet_22 x1 x2 x3 σ) else (if x2 = 32 then (fX6_sheet_22 x1 x2 x3 σ) else (fX6_sheet_27 x1 x2 x3 0 σ)))))
set_option maxRecDepth 20000 in
theorem pX6_sheet_95 {M : MC} {w : WE} (X : Cx M w shR cX6_sheet 6 RX6 (some .int) 2)   (x1 : Int32)    : ∀ (n : Nat) (x5 : Int32) (σ : Mem), Cp M w shR 6 iIM 95 [some (.ref (wad w 0)), some (.int x1), none, none, none, some (.int x5)] [] σ (lw2 (fX6_sheet_95 x1) n x5 σ) :=
  lw2_i (P := fun x5 σ b => Cp M w shR 6 iIM 95 [some (.ref (wad w 0)), some (.int x1), none, none, none, some (.int x5)] [] σ b) (fun _ _ => Cp.non) (fun k95 hk95 x5 σ => by
  unfold fX6_sheet_95
  refine Cp.iload X dX6_sheet_95 rfl ?_
  refine Cp.bipush (v := 40) X dX6_sheet_97 rfl ?_
  refine Cp.icmp_ge X 121 dX6_sheet_99 (by decide) (fun c_99 => ?_) (fun c_99 => ?_)
  · refine Cp.aload_n (i := 0) X dX6_sheet_121 rfl rfl ?_
    refine gfX6_34 X 9 sr_0 rfl dX6_sheet_122 ?_
    refine Cp.iload_n (i := 1) X dX6_sheet_125 rfl rfl ?_
    refine Cp.iald X sr_9 dX6_sheet_126 ?_
    exact Cp.iret X dX6_sheet_127 rfl
  · refine Cp.aload_n (i := 0) X dX6_sheet_102 rfl rfl ?_
    refine gfX6_37 X 10 sr_0 rfl dX6_sheet_103 ?_
    refine Cp.bipush (v := 40) X dX6_sheet_106 rfl ?_
    refine Cp.iload_n (i := 1) X dX6_sheet_108 rfl rfl ?_
    refine Cp.imul X dX6_sheet_109 ?_
    refine Cp.iload X dX6_sheet_110 rfl ?_
    refine Cp.iadd X dX6_sheet_112 ?_
    refine Cp.iconst (v := 0) X dX6_sheet_113 rfl ?_
    refine Cp.iast X sr_10 dX6_sheet_114 ?_
    refine Cp.nameM (fun s_114 => ?_)
    refine Cp.iinc (v := x5 + 1) X dX6_sheet_115 rfl rfl (Nat.le_of_ble_eq_true rfl) rfl ?_
    refine Cp.goto X 95 dX6_sheet_118 (by decide) ?_
    exact hk95 (x5 + 1) s_114)
set_option maxRecDepth 20000 in
theorem pX6_sheet_27 {M : MC} {w : WE} (X : Cx M w shR cX6_sheet 6 RX6 (some .int) 2)   (x1 : Int32) (x2 : Int32) (x3 : Int32) (t0 : Int32)  (σ : Mem)  : Cp M w shR 6 iIM 27 [some (.ref (wad w 0)), some (.int x1), some (.int x2), some (.int x3), none, none] [.int t0] σ (fX6_sheet_27 x1 x2 x3 t0 σ) := by
  unfold fX6_sheet_27
  refine Cp.istore X dX6_sheet_27 (Nat.le_of_ble_eq_true rfl) rfl ?_
  refine Cp.iload_n (i := 1) X dX6_sheet_29 rfl rfl ?_
  refine Cp.cSBT [] X [.int x1] csX6_isSheet (kX6_isSheet X.ok x1 σ) wmX6_318 rfl rfl dX6_sheet_30 rfl (Nat.le_of_ble_eq_true rfl) ?_
  refine Cp.if_eqB X 41 dX6_sheet_33 (by decide) (fun c_33 => ?_) (fun c_33 => ?_)
  · refine Cp.aload_n (i := 0) X dX6_sheet_41 rfl rfl ?_
    refine Cp.iconst (v := 0) X dX6_sheet_42 rfl ?_
    refine Cp.cVIM [] X [.int 0] cvX6_finds (kX6_finds X.ok 0 σ) sr_0 rfl rfl wmX6_103 rfl rfl dX6_sheet_43 rfl (Nat.le_of_ble_eq_true rfl) (fun v_43 s_43 => ?_)
    exact Cp.iret X dX6_sheet_46 rfl
  · refine Cp.iload X dX6_sheet_36 rfl ?_
    refine Cp.if_ne X 47 dX6_sheet_38 (by decide) (fun c_38 => ?_) (fun c_38 => ?_)
    · refine Cp.iload_n (i := 3) X dX6_sheet_47 rfl rfl ?_
      refine Cp.if_ge X 58 dX6_sheet_48 (by decide) (fun c_48 => ?_) (fun c_48 => ?_)
      · refine Cp.iload_n (i := 3) X dX6_sheet_58 rfl rfl ?_
        refine Cp.bipush (v := 40) X dX6_sheet_59 rfl ?_
        refine Cp.icmp_le X 70 dX6_sheet_61 (by decide) (fun c_61 => ?_) (fun c_61 => ?_)
        · refine Cp.aload_n (i := 0) X dX6_sheet_70 rfl rfl ?_
          refine gfX6_31 X 8 sr_0 rfl dX6_sheet_71 ?_
          refine Cp.iload_n (i := 1) X dX6_sheet_74 rfl rfl ?_
          refine Cp.iload_n (i := 2) X dX6_sheet_75 rfl rfl ?_
          refine Cp.iast X sr_8 dX6_sheet_76 ?_
          refine Cp.nameM (fun s_76 => ?_)
          refine Cp.aload_n (i := 0) X dX6_sheet_77 rfl rfl ?_
          refine gfX6_34 X 9 sr_0 rfl dX6_sheet_78 ?_
          refine Cp.iload_n (i := 1) X dX6_sheet_81 rfl rfl ?_
          refine Cp.iload_n (i := 2) X dX6_sheet_82 rfl rfl ?_
          refine Cp.if_ne X 90 dX6_sheet_83 (by decide) (fun c_83 => ?_) (fun c_83 => ?_)
          · refine Cp.iload_n (i := 3) X dX6_sheet_90 rfl rfl ?_
            refine Cp.iast X sr_9 dX6_sheet_91 ?_
            refine Cp.nameM (fun s_91 => ?_)
            refine Cp.iconst (v := 0) X dX6_sheet_92 rfl ?_
            refine Cp.istore X dX6_sheet_93 (Nat.le_of_ble_eq_true rfl) rfl ?_
            refine Cp.mask [true, true, false, false, false, true] ?_
            exact pX6_sheet_95 X x1 FU 0 s_91
          · refine Cp.iconst (v := 0) X dX6_sheet_86 rfl ?_
            refine Cp.goto X 91 dX6_sheet_87 (by decide) ?_
            refine Cp.iast X sr_9 dX6_sheet_91 ?_
            refine Cp.nameM (fun s_91 => ?_)
            refine Cp.iconst (v := 0) X dX6_sheet_92 rfl ?_
            refine Cp.istore X dX6_sheet_93 (Nat.le_of_ble_eq_true rfl) rfl ?_
            refine Cp.mask [true, true, false, false, false, true] ?_
            exact pX6_sheet_95 X x1 FU 0 s_91
        · refine Cp.aload_n (i := 0) X dX6_sheet_64 rfl rfl ?_
          refine Cp.iconst (v := 0) X dX6_sheet_65 rfl ?_
          refine Cp.cVIM [] X [.int 0] cvX6_finds (kX6_finds X.ok 0 σ) sr_0 rfl rfl wmX6_103 rfl rfl dX6_sheet_66 rfl (Nat.le_of_ble_eq_true rfl) (fun v_66 s_66 => ?_)
          exact Cp.iret X dX6_sheet_69 rfl
      · refine Cp.aload_n (i := 0) X dX6_sheet_51 rfl rfl ?_
        refine Cp.bipush (v := 6) X dX6_sheet_52 rfl ?_
        refine Cp.cVIM [] X [.int 6] cvX6_finds (kX6_finds X.ok 6 σ) sr_0 rfl rfl wmX6_103 rfl rfl dX6_sheet_54 rfl (Nat.le_of_ble_eq_true rfl) (fun v_54 s_54 => ?_)
        exact Cp.iret X dX6_sheet_57 rfl
    · refine Cp.aload_n (i := 0) X dX6_sheet_41 rfl rfl ?_
      refine Cp.iconst (v := 0) X dX6_sheet_42 rfl ?_
      refine Cp.cVIM [] X [.int 0] cvX6_finds (kX6_finds X.ok 0 σ) sr_0 rfl rfl wmX6_103 rfl rfl dX6_sheet_43 rfl (Nat.le_of_ble_eq_true rfl) (fun v_43 s_43 => ?_)
      exact Cp.iret X dX6_sheet_46 rfl
set_option maxRecDepth 20000 in
theorem pX6_sheet_22 {M : MC} {w : WE} (X : Cx M w shR cX6_sheet 6 RX6 (some .int) 2)   (x1 : Int32) (x2 : Int32) (x3 : Int32)  (σ : Mem)  : Cp M w shR 6 iIM 22 [some (.ref (wad w 0)), some (.int x1), some (.int x2), some (.int x3), none, none] [] σ (fX6_sheet_22 x1 x2 x3 σ) := by
  unfold fX6_sheet_22
  refine Cp.iconst (v := 1) X dX6_sheet_22 rfl ?_
  refine Cp.goto X 27 dX6_sheet_23 (by decide) ?_
  exact pX6_sheet_27 X x1 x2 x3 1 σ
set_option maxRecDepth 20000 in
theorem pX6_sheet {M : MC} {w : WE} (X : Cx M w shR cX6_sheet 6 RX6 (some .int) 2)   (x1 : Int32) (x2 : Int32) (x3 : Int32) (σ : Mem) : Cp M w shR 6 iIM 0 [some (.ref (wad w 0)), some (.int x1), some (.int x2), some (.int x3), none, none] [] σ (fX6_sheet x1 x2 x3 σ) := by
  unfold fX6_sheet
  refine Cp.iload_n (i := 2) X dX6_sheet_0 rfl rfl ?_
  refine Cp.if_eq X 22 dX6_sheet_1 (by decide) (fun c_1 => ?_) (fun c_1 => ?_)
  · exact pX6_sheet_22 X x1 x2 x3 σ
  · refine Cp.iload_n (i := 2) X dX6_sheet_4 rfl rfl ?_
    refine Cp.bipush (v := 8) X dX6_sheet_5 rfl ?_
    refine Cp.icmp_eq X 22 dX6_sheet_7 (by decide) (fun c_7 => ?_) (fun c_7 => ?_)
    · exact pX6_sheet_22 X x1 x2 x3 σ
    · refine Cp.iload_n (i := 2) X dX6_sheet_10 rfl rfl ?_
      refine Cp.bipush (v := 16) X dX6_sheet_11 rfl ?_
      refine Cp.icmp_eq X 22 dX6_sheet_13 (by decide) (fun c_13 => ?_) (fun c_13 => ?_)
      · exact pX6_sheet_22 X x1 x2 x3 σ
      · refine Cp.iload_n (i := 2) X dX6_sheet_16 rfl rfl ?_
        refine Cp.bipush (v := 32) X dX6_sheet_17 rfl ?_
        refine Cp.icmp_ne X 26 dX6_sheet_19 (by decide) (fun c_19 => ?_) (fun c_19 => ?_)
        · refine Cp.iconst (v := 0) X dX6_sheet_26 rfl ?_
          exact pX6_sheet_27 X x1 x2 x3 0 σ
        · exact pX6_sheet_22 X x1 x2 x3 σ
theorem kX6_sheet {l : Launch} {w : WE} (hok : OkW w shR)   (x1 : Int32) (x2 : Int32) (x3 : Int32) (σ : Mem) : ∀ v, fX6_sheet x1 x2 x3 σ = some v → Ctr l w shR yX6_sheet cX6_sheet 6 (some .int) 2 [.ref (wad w 0), .int x1, .int x2, .int x3] σ (iIM v) := fun v hv => Ctr.of [some (.ref (wad w 0)), some (.int x1), some (.int x2), some (.int x3), none, none] (by decide) hok rfl (Nat.le_of_ble_eq_true rfl) (fun M _ X => pX6_sheet X   x1 x2 x3 σ v hv)
def fX6_write (x1 : Int32) (x2 : Int32) (x3 : Int32) (σ : Mem) : Option (Int32 × Mem) :=
  ((fX6_lacks x1 σ).bind fun v_2 => (if v_2 < 0 then (gd (inB x1 4 = true) (if fX6_in ((x2 : Int32).toInt64) 0 (((σ 9 x1.toNatClampNeg) - 1 : Int32).toInt64) = true then (gd (inB x1 4 = true) (if (σ 8 x1.toNatClampNeg) = 8 then (gd (inB ((40 * x1) + x2) 160 = true) (pb (up2 σ 10 ((40 * x1) + x2).toNatClampNeg ((x3 : Int32).toInt8.toInt32) : Mem) fun s_86 => (some (1, s_86)))) else (gd (inB x1 4 = true) (if (σ 8 x1.toNatClampNeg) = 16 then (gd (inB ((40 * x1) + x2) 160 = true) (pb (up2 σ 10 ((40 * x1) + x2).toNatClampNeg ((x3 : Int32).toInt16.toInt32) : Mem) fun s_86 => (some (1, s_86)))) else (gd (inB ((40 * x1) + x2) 160 = true) (pb (up2 σ 10 ((40 * x1) + x2).toNatClampNeg x3 : Mem) fun s_86 => (some (1, s_86)))))))) else (bnd2 (fX6_finds 0 σ) fun v_39 s_39 => (some (v_39, s_39))))) else (bnd2 (fX6_finds v_2 σ) fun v_15 s_15 => (some (v_15, s_15)))))
set_option maxRecDepth 20000 in
theorem pX6_write {M : MC} {w : WE} (X : Cx M w shR cX6_write 5 RX6 (some .int) 3)   (x1 : Int32) (x2 : Int32) (x3 : Int32) (σ : Mem) : Cp M w shR 5 iIM 0 [some (.ref (wad w 0)), some (.int x1), some (.int x2), some (.int x3), none] [] σ (fX6_write x1 x2 x3 σ) := by
  unfold fX6_write
  refine Cp.aload_n (i := 0) X dX6_write_0 rfl rfl ?_
  refine Cp.iload_n (i := 1) X dX6_write_1 rfl rfl ?_
  refine Cp.cVI [] X [.int x1] cvX6_lacks (kX6_lacks X.ok x1 σ) sr_0 rfl rfl wmX6_204 rfl rfl dX6_write_2 rfl (Nat.le_of_ble_eq_true rfl) (fun v_2 => ?_)
  refine Cp.istore X dX6_write_5 (Nat.le_of_ble_eq_true rfl) rfl ?_
  refine Cp.iload X dX6_write_7 rfl ?_
  refine Cp.if_lt X 19 dX6_write_9 (by decide) (fun c_9 => ?_) (fun c_9 => ?_)
  · refine Cp.iload_n (i := 2) X dX6_write_19 rfl rfl ?_
    refine Cp.i2l X dX6_write_20 ?_
    refine Cp.lconst (v := 0) X dX6_write_21 rfl ?_
    refine Cp.aload_n (i := 0) X dX6_write_22 rfl rfl ?_
    refine gfX6_34 X 9 sr_0 rfl dX6_write_23 ?_
    refine Cp.iload_n (i := 1) X dX6_write_26 rfl rfl ?_
    refine Cp.iald X sr_9 dX6_write_27 ?_
    refine Cp.iconst (v := 1) X dX6_write_28 rfl ?_
    refine Cp.isub X dX6_write_29 ?_
    refine Cp.i2l X dX6_write_30 ?_
    refine Cp.cSBT [] X [.long ((x2 : Int32).toInt64), .long 0, .long (((σ 9 x1.toNatClampNeg) - 1 : Int32).toInt64)] csX6_in (kX6_in X.ok ((x2 : Int32).toInt64) 0 (((σ 9 x1.toNatClampNeg) - 1 : Int32).toInt64) σ) wmX6_48 rfl rfl dX6_write_31 rfl (Nat.le_of_ble_eq_true rfl) ?_
    refine Cp.if_neB X 43 dX6_write_34 (by decide) (fun c_34 => ?_) (fun c_34 => ?_)
    · refine Cp.aload_n (i := 0) X dX6_write_43 rfl rfl ?_
      refine gfX6_37 X 10 sr_0 rfl dX6_write_44 ?_
      refine Cp.bipush (v := 40) X dX6_write_47 rfl ?_
      refine Cp.iload_n (i := 1) X dX6_write_49 rfl rfl ?_
      refine Cp.imul X dX6_write_50 ?_
      refine Cp.iload_n (i := 2) X dX6_write_51 rfl rfl ?_
      refine Cp.iadd X dX6_write_52 ?_
      refine Cp.aload_n (i := 0) X dX6_write_53 rfl rfl ?_
      refine gfX6_31 X 8 sr_0 rfl dX6_write_54 ?_
      refine Cp.iload_n (i := 1) X dX6_write_57 rfl rfl ?_
      refine Cp.iald X sr_8 dX6_write_58 ?_
      refine Cp.bipush (v := 8) X dX6_write_59 rfl ?_
      refine Cp.icmp_ne X 69 dX6_write_61 (by decide) (fun c_61 => ?_) (fun c_61 => ?_)
      · refine Cp.aload_n (i := 0) X dX6_write_69 rfl rfl ?_
        refine gfX6_31 X 8 sr_0 rfl dX6_write_70 ?_
        refine Cp.iload_n (i := 1) X dX6_write_73 rfl rfl ?_
        refine Cp.iald X sr_8 dX6_write_74 ?_
        refine Cp.bipush (v := 16) X dX6_write_75 rfl ?_
        refine Cp.icmp_ne X 85 dX6_write_77 (by decide) (fun c_77 => ?_) (fun c_77 => ?_)
        · refine Cp.iload_n (i := 3) X dX6_write_85 rfl rfl ?_
          refine Cp.iast X sr_10 dX6_write_86 ?_
          refine Cp.nameM (fun s_86 => ?_)
          refine Cp.iconst (v := 1) X dX6_write_87 rfl ?_
          exact Cp.iret X dX6_write_88 rfl
        · refine Cp.iload_n (i := 3) X dX6_write_80 rfl rfl ?_
          refine Cp.i2s X dX6_write_81 ?_
          refine Cp.goto X 86 dX6_write_82 (by decide) ?_
          refine Cp.iast X sr_10 dX6_write_86 ?_
          refine Cp.nameM (fun s_86 => ?_)
          refine Cp.iconst (v := 1) X dX6_write_87 rfl ?_
          exact Cp.iret X dX6_write_88 rfl
      · refine Cp.iload_n (i := 3) X dX6_write_64 rfl rfl ?_
        refine Cp.i2b X dX6_write_65 ?_
        refine Cp.goto X 86 dX6_write_66 (by decide) ?_
        refine Cp.iast X sr_10 dX6_write_86 ?_
        refine Cp.nameM (fun s_86 => ?_)
        refine Cp.iconst (v := 1) X dX6_write_87 rfl ?_
        exact Cp.iret X dX6_write_88 rfl
    · refine Cp.aload_n (i := 0) X dX6_write_37 rfl rfl ?_
      refine Cp.iconst (v := 0) X dX6_write_38 rfl ?_
      refine Cp.cVIM [] X [.int 0] cvX6_finds (kX6_finds X.ok 0 σ) sr_0 rfl rfl wmX6_103 rfl rfl dX6_write_39 rfl (Nat.le_of_ble_eq_true rfl) (fun v_39 s_39 => ?_)
      exact Cp.iret X dX6_write_42 rfl
  · refine Cp.aload_n (i := 0) X dX6_write_12 rfl rfl ?_
    refine Cp.iload X dX6_write_13 rfl ?_
    refine Cp.cVIM [] X [.int v_2] cvX6_finds (kX6_finds X.ok v_2 σ) sr_0 rfl rfl wmX6_103 rfl rfl dX6_write_15 rfl (Nat.le_of_ble_eq_true rfl) (fun v_15 s_15 => ?_)
    exact Cp.iret X dX6_write_18 rfl
theorem kX6_write {l : Launch} {w : WE} (hok : OkW w shR)   (x1 : Int32) (x2 : Int32) (x3 : Int32) (σ : Mem) : ∀ v, fX6_write x1 x2 x3 σ = some v → Ctr l w shR yX6_write cX6_write 5 (some .int) 3 [.ref (wad w 0), .int x1, .int x2, .int x3] σ (iIM v) := fun v hv => Ctr.of [some (.ref (wad w 0)), some (.int x1), some (.int x2), some (.int x3), none] (by decide) hok rfl (Nat.le_of_ble_eq_true rfl) (fun M _ X => pX6_write X   x1 x2 x3 σ v hv)
def fX6_copy_172 (x3 : Int32) (x4 : Int32) (x5 : Int32) (k172 : Int32 → Mem → Option (Int32 × Mem)) (x7 : Int32) (σ : Mem) : Option (Int32 × Mem) :=
  (if x5 ≤ x7 then (some (x5, σ)) else (gd (inB x7 40 = true) (gd (inB (((40 * x3) + x4) + x7) 160 = true) (pb (up2 σ 10 (((40 * x3) + x4) + x7).toNatClampNeg (σ 11 x7.toNatClampNeg) : Mem) fun s_200 => (k172 (x7 + 1) s_200)))))
def fX6_copy_135 (x1 : Int32) (x2 : Int32) (x3 : Int32) (x4 : Int32) (x5 : Int32) (k135 : Int32 → Mem → Option (Int32 × Mem)) (x7 : Int32) (σ : Mem) : Option (Int32 × Mem) :=
  (if x5 ≤ x7 then (lw2 (fX6_copy_172 x3 x4 x5) FU 0 σ) else (gd (inB (((40 * x1) + x2) + x7) 160 = true) (gd (inB x7 40 = true) (pb (up2 σ 11 x7.toNatClampNeg (σ 10 (((40 * x1) + x2) + x7).toNatClampNeg) : Mem) fun s_162 => (k135 (x7 + 1) s_162)))))
def fX6_copy_119 (x1 : Int32) (x2 : Int32) (x3 : Int32) (x4 : Int32) (x5 : Int32) (t0 : Int32) (σ : Mem) : Option (Int32 × Mem) :=
  (if t0 = 0 then (bnd2 (fX6_finds 0 σ) fun v_128 s_128 => (some (v_128, s_128))) else (lw2 (fX6_copy_135 x1 x2 x3 x4 x5) FU 0 σ))
def fX6_copy_118 (x1 : Int32) (x2 : Int32) (x3 : Int32) (x4 : Int32) (x5 : Int32) (σ : Mem) : Option (Int32 × Mem) :=
  (fX6_copy_119 x1 x2 x3 x4 x5 0 σ)
def fX6_copy (x1 : Int32) (x2 : Int32) (x3 : Int32) (x4 : Int32) (x5 : Int32) (σ : Mem) : Option (Int32 × Mem) :=
  (if fX6_isSheet x1 = true then (if fX6_isSheet x3 = true then (gd (inB x1 4 = true) (if (σ 8 x1.toNatClampNeg) = 0 then (bnd2 (fX6_finds 5 σ) fun v_40 s_40 => (some (v_40, s_40))) else (gd (inB x3 4 = true) (if (σ 8 x3.toNatClampNeg) = 0 then (bnd2 (fX6_finds 5 σ) fun v_40 s_40 => (some (v_40, s_40))) else (gd (inB x1 4 = true) (gd (inB x3 4 = true) (if (σ 8 x1.toNatClampNeg) = (σ 8 x3.toNatClampNeg) then (if x5 < 0 then (fX6_copy_118 x1 x2 x3 x4 x5 σ) else (if x2 < 0 then (fX6_copy_118 x1 x2 x3 x4 x5 σ) else (if x4 < 0 then (fX6_copy_118 x1 x2 x3 x4 x5 σ) else (gd (inB x1 4 = true) (if 0 < (lg_cmp (((x2 : Int32).toInt64) + ((x5 : Int32).toInt64)) ((σ 9 x1.toNatClampNeg : Int32).toInt64)) then (fX6_copy_118 x1 x2 x3 x4 x5 σ) else (gd (inB x3 4 = true) (if 0 < (lg_cmp (((x4 : Int32).toInt64) + ((x5 : Int32).toInt64)) ((σ 9 x3.toNatClampNeg : Int32).toInt64)) then (fX6_copy_118 x1 x2 x3 x4 x5 σ) else (fX6_copy_119 x1 x2 x3 x4 x5 1 σ)))))))) else (bnd2 (fX6_finds 2 σ) fun v_61 s_61 => (some (v_61, s_61)))))))))) else (bnd2 (fX6_finds 0 σ) fun v_16 s_16 => (some (v_16, s_16)))) else (bnd2 (fX6_finds 0 σ) fun v_16 s_16 => (some (v_16, s_16))))
set_option maxRecDepth 20000 in
theorem pX6_copy_172 {M : MC} {w : WE} (X : Cx M w shR cX6_copy 8 RX6 (some .int) 2)   (x3 : Int32) (x4 : Int32) (x5 : Int32)    : ∀ (n : Nat) (x7 : Int32) (σ : Mem), Cp M w shR 8 iIM 172 [some (.ref (wad w 0)), none, none, some (.int x3), some (.int x4), some (.int x5), none, some (.int x7)] [] σ (lw2 (fX6_copy_172 x3 x4 x5) n x7 σ) :=
  lw2_i (P := fun x7 σ b => Cp M w shR 8 iIM 172 [some (.ref (wad w 0)), none, none, some (.int x3), some (.int x4), some (.int x5), none, some (.int x7)] [] σ b) (fun _ _ => Cp.non) (fun k172 hk172 x7 σ => by
  unfold fX6_copy_172
  refine Cp.iload X dX6_copy_172 rfl ?_
  refine Cp.iload X dX6_copy_174 rfl ?_
  refine Cp.icmp_ge X 207 dX6_copy_176 (by decide) (fun c_176 => ?_) (fun c_176 => ?_)
  · refine Cp.iload X dX6_copy_207 rfl ?_
    exact Cp.iret X dX6_copy_209 rfl
  · refine Cp.aload_n (i := 0) X dX6_copy_179 rfl rfl ?_
    refine gfX6_37 X 10 sr_0 rfl dX6_copy_180 ?_
    refine Cp.bipush (v := 40) X dX6_copy_183 rfl ?_
    refine Cp.iload_n (i := 3) X dX6_copy_185 rfl rfl ?_
    refine Cp.imul X dX6_copy_186 ?_
    refine Cp.iload X dX6_copy_187 rfl ?_
    refine Cp.iadd X dX6_copy_189 ?_
    refine Cp.iload X dX6_copy_190 rfl ?_
    refine Cp.iadd X dX6_copy_192 ?_
    refine Cp.aload_n (i := 0) X dX6_copy_193 rfl rfl ?_
    refine gfX6_40 X 11 sr_0 rfl dX6_copy_194 ?_
    refine Cp.iload X dX6_copy_197 rfl ?_
    refine Cp.iald X sr_11 dX6_copy_199 ?_
    refine Cp.iast X sr_10 dX6_copy_200 ?_
    refine Cp.nameM (fun s_200 => ?_)
    refine Cp.iinc (v := x7 + 1) X dX6_copy_201 rfl rfl (Nat.le_of_ble_eq_true rfl) rfl ?_
    refine Cp.goto X 172 dX6_copy_204 (by decide) ?_
    exact hk172 (x7 + 1) s_200)
set_option maxRecDepth 20000 in
theorem pX6_copy_135 {M : MC} {w : WE} (X : Cx M w shR cX6_copy 8 RX6 (some .int) 2)   (x1 : Int32) (x2 : Int32) (x3 : Int32) (x4 : Int32) (x5 : Int32)    : ∀ (n : Nat) (x7 : Int32) (σ : Mem), Cp M w shR 8 iIM 135 [some (.ref (wad w 0)), some (.int x1), some (.int x2), some (.int x3), some (.int x4), some (.int x5), none, some (.int x7)] [] σ (lw2 (fX6_copy_135 x1 x2 x3 x4 x5) n x7 σ) :=
  lw2_i (P := fun x7 σ b => Cp M w shR 8 iIM 135 [some (.ref (wad w 0)), some (.int x1), some (.int x2), some (.int x3), some (.int x4), some (.int x5), none, some (.int x7)] [] σ b) (fun _ _ => Cp.non) (fun k135 hk135 x7 σ => by
  unfold fX6_copy_135
  refine Cp.iload X dX6_copy_135 rfl ?_
  refine Cp.iload X dX6_copy_137 rfl ?_
  refine Cp.icmp_ge X 169 dX6_copy_139 (by decide) (fun c_139 => ?_) (fun c_139 => ?_)
  · refine Cp.iconst (v := 0) X dX6_copy_169 rfl ?_
    refine Cp.istore X dX6_copy_170 (Nat.le_of_ble_eq_true rfl) rfl ?_
    refine Cp.mask [true, false, false, true, true, true, false, true] ?_
    exact pX6_copy_172 X x3 x4 x5 FU 0 σ
  · refine Cp.aload_n (i := 0) X dX6_copy_142 rfl rfl ?_
    refine gfX6_40 X 11 sr_0 rfl dX6_copy_143 ?_
    refine Cp.iload X dX6_copy_146 rfl ?_
    refine Cp.aload_n (i := 0) X dX6_copy_148 rfl rfl ?_
    refine gfX6_37 X 10 sr_0 rfl dX6_copy_149 ?_
    refine Cp.bipush (v := 40) X dX6_copy_152 rfl ?_
    refine Cp.iload_n (i := 1) X dX6_copy_154 rfl rfl ?_
    refine Cp.imul X dX6_copy_155 ?_
    refine Cp.iload_n (i := 2) X dX6_copy_156 rfl rfl ?_
    refine Cp.iadd X dX6_copy_157 ?_
    refine Cp.iload X dX6_copy_158 rfl ?_
    refine Cp.iadd X dX6_copy_160 ?_
    refine Cp.iald X sr_10 dX6_copy_161 ?_
    refine Cp.iast X sr_11 dX6_copy_162 ?_
    refine Cp.nameM (fun s_162 => ?_)
    refine Cp.iinc (v := x7 + 1) X dX6_copy_163 rfl rfl (Nat.le_of_ble_eq_true rfl) rfl ?_
    refine Cp.goto X 135 dX6_copy_166 (by decide) ?_
    exact hk135 (x7 + 1) s_162)
set_option maxRecDepth 20000 in
theorem pX6_copy_119 {M : MC} {w : WE} (X : Cx M w shR cX6_copy 8 RX6 (some .int) 2)   (x1 : Int32) (x2 : Int32) (x3 : Int32) (x4 : Int32) (x5 : Int32) (t0 : Int32)  (σ : Mem)  : Cp M w shR 8 iIM 119 [some (.ref (wad w 0)), some (.int x1), some (.int x2), some (.int x3), some (.int x4), some (.int x5), none, none] [.int t0] σ (fX6_copy_119 x1 x2 x3 x4 x5 t0 σ) := by
  unfold fX6_copy_119
  refine Cp.istore X dX6_copy_119 (Nat.le_of_ble_eq_true rfl) rfl ?_
  refine Cp.iload X dX6_copy_121 rfl ?_
  refine Cp.if_ne X 132 dX6_copy_123 (by decide) (fun c_123 => ?_) (fun c_123 => ?_)
  · refine Cp.iconst (v := 0) X dX6_copy_132 rfl ?_
    refine Cp.istore X dX6_copy_133 (Nat.le_of_ble_eq_true rfl) rfl ?_
    refine Cp.mask [true, true, true, true, true, true, false, true] ?_
    exact pX6_copy_135 X x1 x2 x3 x4 x5 FU 0 σ
  · refine Cp.aload_n (i := 0) X dX6_copy_126 rfl rfl ?_
    refine Cp.iconst (v := 0) X dX6_copy_127 rfl ?_
    refine Cp.cVIM [] X [.int 0] cvX6_finds (kX6_finds X.ok 0 σ) sr_0 rfl rfl wmX6_103 rfl rfl dX6_copy_128 rfl (Nat.le_of_ble_eq_true rfl) (fun v_128 s_128 => ?_)
    exact Cp.iret X dX6_copy_131 rfl
set_option maxRecDepth 20000 in
theorem pX6_copy_118 {M : MC} {w : WE} (X : Cx M w shR cX6_copy 8 RX6 (some .int) 2)   (x1 : Int32) (x2 : Int32) (x3 : Int32) (x4 : Int32) (x5 : Int32)  (σ : Mem)  : Cp M w shR 8 iIM 118 [some (.ref (wad w 0)), some (.int x1), some (.int x2), some (.int x3), some (.int x4), some (.int x5), none, none] [] σ (fX6_copy_118 x1 x2 x3 x4 x5 σ) := by
  unfold fX6_copy_118
  refine Cp.iconst (v := 0) X dX6_copy_118 rfl ?_
  exact pX6_copy_119 X x1 x2 x3 x4 x5 0 σ
set_option maxRecDepth 20000 in
theorem pX6_copy {M : MC} {w : WE} (X : Cx M w shR cX6_copy 8 RX6 (some .int) 2)   (x1 : Int32) (x2 : Int32) (x3 : Int32) (x4 : Int32) (x5 : Int32) (σ : Mem) : Cp M w shR 8 iIM 0 [some (.ref (wad w 0)), some (.int x1), some (.int x2), some (.int x3), some (.int x4), some (.int x5), none, none] [] σ (fX6_copy x1 x2 x3 x4 x5 σ) := by
  unfold fX6_copy
  refine Cp.iload_n (i := 1) X dX6_copy_0 rfl rfl ?_
  refine Cp.cSBT [] X [.int x1] csX6_isSheet (kX6_isSheet X.ok x1 σ) wmX6_318 rfl rfl dX6_copy_1 rfl (Nat.le_of_ble_eq_true rfl) ?_
  refine Cp.if_eqB X 14 dX6_copy_4 (by decide) (fun c_4 => ?_) (fun c_4 => ?_)
  · refine Cp.aload_n (i := 0) X dX6_copy_14 rfl rfl ?_
    refine Cp.iconst (v := 0) X dX6_copy_15 rfl ?_
    refine Cp.cVIM [] X [.int 0] cvX6_finds (kX6_finds X.ok 0 σ) sr_0 rfl rfl wmX6_103 rfl rfl dX6_copy_16 rfl (Nat.le_of_ble_eq_true rfl) (fun v_16 s_16 => ?_)
    exact Cp.iret X dX6_copy_19 rfl
  · refine Cp.iload_n (i := 3) X dX6_copy_7 rfl rfl ?_
    refine Cp.cSBT [] X [.int x3] csX6_isSheet (kX6_isSheet X.ok x3 σ) wmX6_318 rfl rfl dX6_copy_8 rfl (Nat.le_of_ble_eq_true rfl) ?_
    refine Cp.if_neB X 20 dX6_copy_11 (by decide) (fun c_11 => ?_) (fun c_11 => ?_)
    · refine Cp.aload_n (i := 0) X dX6_copy_20 rfl rfl ?_
      refine gfX6_31 X 8 sr_0 rfl dX6_copy_21 ?_
      refine Cp.iload_n (i := 1) X dX6_copy_24 rfl rfl ?_
      refine Cp.iald X sr_8 dX6_copy_25 ?_
      refine Cp.if_eq X 38 dX6_copy_26 (by decide) (fun c_26 => ?_) (fun c_26 => ?_)
      · refine Cp.aload_n (i := 0) X dX6_copy_38 rfl rfl ?_
        refine Cp.iconst (v := 5) X dX6_copy_39 rfl ?_
        refine Cp.cVIM [] X [.int 5] cvX6_finds (kX6_finds X.ok 5 σ) sr_0 rfl rfl wmX6_103 rfl rfl dX6_copy_40 rfl (Nat.le_of_ble_eq_true rfl) (fun v_40 s_40 => ?_)
        exact Cp.iret X dX6_copy_43 rfl
      · refine Cp.aload_n (i := 0) X dX6_copy_29 rfl rfl ?_
        refine gfX6_31 X 8 sr_0 rfl dX6_copy_30 ?_
        refine Cp.iload_n (i := 3) X dX6_copy_33 rfl rfl ?_
        refine Cp.iald X sr_8 dX6_copy_34 ?_
        refine Cp.if_ne X 44 dX6_copy_35 (by decide) (fun c_35 => ?_) (fun c_35 => ?_)
        · refine Cp.aload_n (i := 0) X dX6_copy_44 rfl rfl ?_
          refine gfX6_31 X 8 sr_0 rfl dX6_copy_45 ?_
          refine Cp.iload_n (i := 1) X dX6_copy_48 rfl rfl ?_
          refine Cp.iald X sr_8 dX6_copy_49 ?_
          refine Cp.aload_n (i := 0) X dX6_copy_50 rfl rfl ?_
          refine gfX6_31 X 8 sr_0 rfl dX6_copy_51 ?_
          refine Cp.iload_n (i := 3) X dX6_copy_54 rfl rfl ?_
          refine Cp.iald X sr_8 dX6_copy_55 ?_
          refine Cp.icmp_eq X 65 dX6_copy_56 (by decide) (fun c_56 => ?_) (fun c_56 => ?_)
          · refine Cp.iload X dX6_copy_65 rfl ?_
            refine Cp.if_lt X 118 dX6_copy_67 (by decide) (fun c_67 => ?_) (fun c_67 => ?_)
            · exact pX6_copy_118 X x1 x2 x3 x4 x5 σ
            · refine Cp.iload_n (i := 2) X dX6_copy_70 rfl rfl ?_
              refine Cp.if_lt X 118 dX6_copy_71 (by decide) (fun c_71 => ?_) (fun c_71 => ?_)
              · exact pX6_copy_118 X x1 x2 x3 x4 x5 σ
              · refine Cp.iload X dX6_copy_74 rfl ?_
                refine Cp.if_lt X 118 dX6_copy_76 (by decide) (fun c_76 => ?_) (fun c_76 => ?_)
                · exact pX6_copy_118 X x1 x2 x3 x4 x5 σ
                · refine Cp.iload_n (i := 2) X dX6_copy_79 rfl rfl ?_
                  refine Cp.i2l X dX6_copy_80 ?_
                  refine Cp.iload X dX6_copy_81 rfl ?_
                  refine Cp.i2l X dX6_copy_83 ?_
                  refine Cp.ladd X dX6_copy_84 ?_
                  refine Cp.aload_n (i := 0) X dX6_copy_85 rfl rfl ?_
                  refine gfX6_34 X 9 sr_0 rfl dX6_copy_86 ?_
                  refine Cp.iload_n (i := 1) X dX6_copy_89 rfl rfl ?_
                  refine Cp.iald X sr_9 dX6_copy_90 ?_
                  refine Cp.i2l X dX6_copy_91 ?_
                  refine Cp.lcmp X dX6_copy_92 ?_
                  refine Cp.if_gt X 118 dX6_copy_93 (by decide) (fun c_93 => ?_) (fun c_93 => ?_)
                  · exact pX6_copy_118 X x1 x2 x3 x4 x5 σ
                  · refine Cp.iload X dX6_copy_96 rfl ?_
                    refine Cp.i2l X dX6_copy_98 ?_
                    refine Cp.iload X dX6_copy_99 rfl ?_
                    refine Cp.i2l X dX6_copy_101 ?_
                    refine Cp.ladd X dX6_copy_102 ?_
                    refine Cp.aload_n (i := 0) X dX6_copy_103 rfl rfl ?_
                    refine gfX6_34 X 9 sr_0 rfl dX6_copy_104 ?_
                    refine Cp.iload_n (i := 3) X dX6_copy_107 rfl rfl ?_
                    refine Cp.iald X sr_9 dX6_copy_108 ?_
                    refine Cp.i2l X dX6_copy_109 ?_
                    refine Cp.lcmp X dX6_copy_110 ?_
                    refine Cp.if_gt X 118 dX6_copy_111 (by decide) (fun c_111 => ?_) (fun c_111 => ?_)
                    · exact pX6_copy_118 X x1 x2 x3 x4 x5 σ
                    · refine Cp.iconst (v := 1) X dX6_copy_114 rfl ?_
                      refine Cp.goto X 119 dX6_copy_115 (by decide) ?_
                      exact pX6_copy_119 X x1 x2 x3 x4 x5 1 σ
          · refine Cp.aload_n (i := 0) X dX6_copy_59 rfl rfl ?_
            refine Cp.iconst (v := 2) X dX6_copy_60 rfl ?_
            refine Cp.cVIM [] X [.int 2] cvX6_finds (kX6_finds X.ok 2 σ) sr_0 rfl rfl wmX6_103 rfl rfl dX6_copy_61 rfl (Nat.le_of_ble_eq_true rfl) (fun v_61 s_61 => ?_)
            exact Cp.iret X dX6_copy_64 rfl
        · refine Cp.aload_n (i := 0) X dX6_copy_38 rfl rfl ?_
          refine Cp.iconst (v := 5) X dX6_copy_39 rfl ?_
          refine Cp.cVIM [] X [.int 5] cvX6_finds (kX6_finds X.ok 5 σ) sr_0 rfl rfl wmX6_103 rfl rfl dX6_copy_40 rfl (Nat.le_of_ble_eq_true rfl) (fun v_40 s_40 => ?_)
          exact Cp.iret X dX6_copy_43 rfl
    · refine Cp.aload_n (i := 0) X dX6_copy_14 rfl rfl ?_
      refine Cp.iconst (v := 0) X dX6_copy_15 rfl ?_
      refine Cp.cVIM [] X [.int 0] cvX6_finds (kX6_finds X.ok 0 σ) sr_0 rfl rfl wmX6_103 rfl rfl dX6_copy_16 rfl (Nat.le_of_ble_eq_true rfl) (fun v_16 s_16 => ?_)
      exact Cp.iret X dX6_copy_19 rfl
theorem kX6_copy {l : Launch} {w : WE} (hok : OkW w shR)   (x1 : Int32) (x2 : Int32) (x3 : Int32) (x4 : Int32) (x5 : Int32) (σ : Mem) : ∀ v, fX6_copy x1 x2 x3 x4 x5 σ = some v → Ctr l w shR yX6_copy cX6_copy 8 (some .int) 2 [.ref (wad w 0), .int x1, .int x2, .int x3, .int x4, .int x5] σ (iIM v) := fun v hv => Ctr.of [some (.ref (wad w 0)), some (.int x1), some (.int x2), some (.int x3), some (.int x4), some (.int x5), none, none] (by decide) hok rfl (Nat.le_of_ble_eq_true rfl) (fun M _ X => pX6_copy X   x1 x2 x3 x4 x5 σ v hv)
def fX6_load_18 (x1 : Int32) (k18 : Int32 → Mem → Option (Int32 × Mem)) (x3 : Int32) (σ : Mem) : Option (Int32 × Mem) :=
  (gd (inB x1 4 = true) (if (σ 9 x1.toNatClampNeg) ≤ x3 then (some (x3, σ)) else (if (σ 1 5) ≤ x3 then (some (x3, σ)) else (gd (inB ((40 * x1) + x3) 160 = true) (if fX6_isSeat (σ 10 ((40 * x1) + x3).toNatClampNeg) = true then (gd (inB ((40 * x1) + x3) 160 = true) ((fX6_sets x3 1 (σ 10 ((40 * x1) + x3).toNatClampNeg) σ).bind fun s_69 => (k18 (x3 + 1) s_69))) else (some (x3, σ)))))))
def fX6_load (x1 : Int32) (σ : Mem) : Option (Int32 × Mem) :=
  ((fX6_lacks x1 σ).bind fun v_2 => (if v_2 < 0 then (lw2 (fX6_load_18 x1) FU 0 σ) else (bnd2 (fX6_finds v_2 σ) fun v_12 s_12 => (some (v_12, s_12)))))
set_option maxRecDepth 20000 in
theorem pX6_load_18 {M : MC} {w : WE} (X : Cx M w shR cX6_load 4 RX6 (some .int) 3)   (x1 : Int32)    : ∀ (n : Nat) (x3 : Int32) (σ : Mem), Cp M w shR 4 iIM 18 [some (.ref (wad w 0)), some (.int x1), none, some (.int x3)] [] σ (lw2 (fX6_load_18 x1) n x3 σ) :=
  lw2_i (P := fun x3 σ b => Cp M w shR 4 iIM 18 [some (.ref (wad w 0)), some (.int x1), none, some (.int x3)] [] σ b) (fun _ _ => Cp.non) (fun k18 hk18 x3 σ => by
  unfold fX6_load_18
  refine Cp.iload_n (i := 3) X dX6_load_18 rfl rfl ?_
  refine Cp.aload_n (i := 0) X dX6_load_19 rfl rfl ?_
  refine gfX6_34 X 9 sr_0 rfl dX6_load_20 ?_
  refine Cp.iload_n (i := 1) X dX6_load_23 rfl rfl ?_
  refine Cp.iald X sr_9 dX6_load_24 ?_
  refine Cp.icmp_ge X 78 dX6_load_25 (by decide) (fun c_25 => ?_) (fun c_25 => ?_)
  · refine Cp.iload_n (i := 3) X dX6_load_78 rfl rfl ?_
    exact Cp.iret X dX6_load_79 rfl
  · refine Cp.iload_n (i := 3) X dX6_load_28 rfl rfl ?_
    refine Cp.aload_n (i := 0) X dX6_load_29 rfl rfl ?_
    refine gfX6_9 X 1 sr_0 rfl dX6_load_30 ?_
    refine Cp.iconst (v := 5) X dX6_load_33 rfl ?_
    refine Cp.ialdc (j := 5) X sr_1 (by decide) (by decide) dX6_load_34 ?_
    refine Cp.icmp_ge X 78 dX6_load_35 (by decide) (fun c_35 => ?_) (fun c_35 => ?_)
    · refine Cp.iload_n (i := 3) X dX6_load_78 rfl rfl ?_
      exact Cp.iret X dX6_load_79 rfl
    · refine Cp.aload_n (i := 0) X dX6_load_38 rfl rfl ?_
      refine gfX6_37 X 10 sr_0 rfl dX6_load_39 ?_
      refine Cp.bipush (v := 40) X dX6_load_42 rfl ?_
      refine Cp.iload_n (i := 1) X dX6_load_44 rfl rfl ?_
      refine Cp.imul X dX6_load_45 ?_
      refine Cp.iload_n (i := 3) X dX6_load_46 rfl rfl ?_
      refine Cp.iadd X dX6_load_47 ?_
      refine Cp.iald X sr_10 dX6_load_48 ?_
      refine Cp.cSBT [] X [.int (σ 10 ((40 * x1) + x3).toNatClampNeg)] csX6_isSeat (kX6_isSeat X.ok (σ 10 ((40 * x1) + x3).toNatClampNeg) σ) wmX6_100 rfl rfl dX6_load_49 rfl (Nat.le_of_ble_eq_true rfl) ?_
      refine Cp.if_eqB X 78 dX6_load_52 (by decide) (fun c_52 => ?_) (fun c_52 => ?_)
      · refine Cp.iload_n (i := 3) X dX6_load_78 rfl rfl ?_
        exact Cp.iret X dX6_load_79 rfl
      · refine Cp.aload_n (i := 0) X dX6_load_55 rfl rfl ?_
        refine Cp.iload_n (i := 3) X dX6_load_56 rfl rfl ?_
        refine Cp.iconst (v := 1) X dX6_load_57 rfl ?_
        refine Cp.aload_n (i := 0) X dX6_load_58 rfl rfl ?_
        refine gfX6_37 X 10 sr_0 rfl dX6_load_59 ?_
        refine Cp.bipush (v := 40) X dX6_load_62 rfl ?_
        refine Cp.iload_n (i := 1) X dX6_load_64 rfl rfl ?_
        refine Cp.imul X dX6_load_65 ?_
        refine Cp.iload_n (i := 3) X dX6_load_66 rfl rfl ?_
        refine Cp.iadd X dX6_load_67 ?_
        refine Cp.iald X sr_10 dX6_load_68 ?_
        refine Cp.cVV [] X [.int x3, .int 1, .int (σ 10 ((40 * x1) + x3).toNatClampNeg)] cvX6_sets (kX6_sets X.ok x3 1 (σ 10 ((40 * x1) + x3).toNatClampNeg) σ) sr_0 rfl rfl wmX6_92 rfl rfl dX6_load_69 rfl (Nat.le_of_ble_eq_true rfl) (fun s_69 => ?_)
        refine Cp.iinc (v := x3 + 1) X dX6_load_72 rfl rfl (Nat.le_of_ble_eq_true rfl) rfl ?_
        refine Cp.goto X 18 dX6_load_75 (by decide) ?_
        exact hk18 (x3 + 1) s_69)
set_option maxRecDepth 20000 in
theorem pX6_load {M : MC} {w : WE} (X : Cx M w shR cX6_load 4 RX6 (some .int) 3)   (x1 : Int32) (σ : Mem) : Cp M w shR 4 iIM 0 [some (.ref (wad w 0)), some (.int x1), none, none] [] σ (fX6_load x1 σ) := by
  unfold fX6_load
  refine Cp.aload_n (i := 0) X dX6_load_0 rfl rfl ?_
  refine Cp.iload_n (i := 1) X dX6_load_1 rfl rfl ?_
  refine Cp.cVI [] X [.int x1] cvX6_lacks (kX6_lacks X.ok x1 σ) sr_0 rfl rfl wmX6_204 rfl rfl dX6_load_2 rfl (Nat.le_of_ble_eq_true rfl) (fun v_2 => ?_)
  refine Cp.istore_n (i := 2) X dX6_load_5 rfl (Nat.le_of_ble_eq_true rfl) rfl ?_
  refine Cp.iload_n (i := 2) X dX6_load_6 rfl rfl ?_
  refine Cp.if_lt X 16 dX6_load_7 (by decide) (fun c_7 => ?_) (fun c_7 => ?_)
  · refine Cp.iconst (v := 0) X dX6_load_16 rfl ?_
    refine Cp.istore_n (i := 3) X dX6_load_17 rfl (Nat.le_of_ble_eq_true rfl) rfl ?_
    refine Cp.mask [true, true, false, true] ?_
    exact pX6_load_18 X x1 FU 0 σ
  · refine Cp.aload_n (i := 0) X dX6_load_10 rfl rfl ?_
    refine Cp.iload_n (i := 2) X dX6_load_11 rfl rfl ?_
    refine Cp.cVIM [] X [.int v_2] cvX6_finds (kX6_finds X.ok v_2 σ) sr_0 rfl rfl wmX6_103 rfl rfl dX6_load_12 rfl (Nat.le_of_ble_eq_true rfl) (fun v_12 s_12 => ?_)
    exact Cp.iret X dX6_load_15 rfl
theorem kX6_load {l : Launch} {w : WE} (hok : OkW w shR)   (x1 : Int32) (σ : Mem) : ∀ v, fX6_load x1 σ = some v → Ctr l w shR yX6_load cX6_load 4 (some .int) 3 [.ref (wad w 0), .int x1] σ (iIM v) := fun v hv => Ctr.of [some (.ref (wad w 0)), some (.int x1), none, none] (by decide) hok rfl (Nat.le_of_ble_eq_true rfl) (fun M _ X => pX6_load X   x1 σ v hv)
def fX6_goesOn_37 (x1 : Int32) (x2 : Int32) (x3 : Int32) (σ : Mem) (k37 : Int32 → Int32 → Option Bool) (x4 : Int32) (x5 : Int32) : Option Bool :=
  (if x2 ≤ x5 then (if x4 = 0 then (some false) else (if x2 = 0 then (some true) else (gd (inB (((40 * x1) + x2) - 1) 160 = true) (gd (inB (σ 10 (((40 * x1) + x2) - 1).toNatClampNeg) 8 = true) (gd (inB x3 8 = true) (if (σ 5 x3.toNatClampNeg) < (σ 5 (σ 10 (((40 * x1) + x2) - 1).toNatClampNeg).toNatClampNeg) then (some false) else (some true))))))) else (if x4 = 0 then (k37 0 (x5 + 1)) else (gd (inB ((40 * x1) + x5) 160 = true) (if (σ 10 ((40 * x1) + x5).toNatClampNeg) = x3 then (k37 0 (x5 + 1)) else (k37 1 (x5 + 1))))))
def fX6_goesOn (x1 : Int32) (x2 : Int32) (σ : Mem) : Option Bool :=
  (gd (inB ((40 * x1) + x2) 160 = true) (pb (σ 10 ((40 * x1) + x2).toNatClampNeg : Int32) fun x3_11 => (if fX6_isPerson x3_11 σ = true then (gd (inB x3_11 8 = true) (if 0 ≤ (σ 5 x3_11.toNatClampNeg) then (lw2 (fX6_goesOn_37 x1 x2 x3_11 σ) FU 1 0) else (some false))) else (some false))))
set_option maxRecDepth 20000 in
theorem pX6_goesOn_37 {M : MC} {w : WE} (X : Cx M w shR cX6_goesOn 6 RX6 (some .boolean) 2)   (x1 : Int32) (x2 : Int32) (x3 : Int32)  (σ : Mem)  : ∀ (n : Nat) (x4 : Int32) (x5 : Int32), Cp M w shR 6 (iB σ) 37 [some (.ref (wad w 0)), some (.int x1), some (.int x2), some (.int x3), some (.int x4), some (.int x5)] [] σ (lw2 (fX6_goesOn_37 x1 x2 x3 σ) n x4 x5) :=
  lw2_i (P := fun x4 x5 b => Cp M w shR 6 (iB σ) 37 [some (.ref (wad w 0)), some (.int x1), some (.int x2), some (.int x3), some (.int x4), some (.int x5)] [] σ b) (fun _ _ => Cp.non) (fun k37 hk37 x4 x5 => by
  unfold fX6_goesOn_37
  refine Cp.iload X dX6_goesOn_37 rfl ?_
  refine Cp.iload_n (i := 2) X dX6_goesOn_39 rfl rfl ?_
  refine Cp.icmp_ge X 77 dX6_goesOn_40 (by decide) (fun c_40 => ?_) (fun c_40 => ?_)
  · refine Cp.iload X dX6_goesOn_77 rfl ?_
    refine Cp.if_eq X 117 dX6_goesOn_79 (by decide) (fun c_79 => ?_) (fun c_79 => ?_)
    · refine Cp.iconst (v := 0) X dX6_goesOn_117 rfl ?_
      exact Cp.bret (v := false) X dX6_goesOn_118 rfl
    · refine Cp.iload_n (i := 2) X dX6_goesOn_82 rfl rfl ?_
      refine Cp.if_eq X 113 dX6_goesOn_83 (by decide) (fun c_83 => ?_) (fun c_83 => ?_)
      · refine Cp.iconst (v := 1) X dX6_goesOn_113 rfl ?_
        refine Cp.goto X 118 dX6_goesOn_114 (by decide) ?_
        exact Cp.bret (v := true) X dX6_goesOn_118 rfl
      · refine Cp.aload_n (i := 0) X dX6_goesOn_86 rfl rfl ?_
        refine gfX6_22 X 5 sr_0 rfl dX6_goesOn_87 ?_
        refine Cp.aload_n (i := 0) X dX6_goesOn_90 rfl rfl ?_
        refine gfX6_37 X 10 sr_0 rfl dX6_goesOn_91 ?_
        refine Cp.bipush (v := 40) X dX6_goesOn_94 rfl ?_
        refine Cp.iload_n (i := 1) X dX6_goesOn_96 rfl rfl ?_
        refine Cp.imul X dX6_goesOn_97 ?_
        refine Cp.iload_n (i := 2) X dX6_goesOn_98 rfl rfl ?_
        refine Cp.iadd X dX6_goesOn_99 ?_
        refine Cp.iconst (v := 1) X dX6_goesOn_100 rfl ?_
        refine Cp.isub X dX6_goesOn_101 ?_
        refine Cp.iald X sr_10 dX6_goesOn_102 ?_
        refine Cp.iald X sr_5 dX6_goesOn_103 ?_
        refine Cp.aload_n (i := 0) X dX6_goesOn_104 rfl rfl ?_
        refine gfX6_22 X 5 sr_0 rfl dX6_goesOn_105 ?_
        refine Cp.iload_n (i := 3) X dX6_goesOn_108 rfl rfl ?_
        refine Cp.iald X sr_5 dX6_goesOn_109 ?_
        refine Cp.icmp_gt X 117 dX6_goesOn_110 (by decide) (fun c_110 => ?_) (fun c_110 => ?_)
        · refine Cp.iconst (v := 0) X dX6_goesOn_117 rfl ?_
          exact Cp.bret (v := false) X dX6_goesOn_118 rfl
        · refine Cp.iconst (v := 1) X dX6_goesOn_113 rfl ?_
          refine Cp.goto X 118 dX6_goesOn_114 (by decide) ?_
          exact Cp.bret (v := true) X dX6_goesOn_118 rfl
  · refine Cp.iload X dX6_goesOn_43 rfl ?_
    refine Cp.if_eq X 68 dX6_goesOn_45 (by decide) (fun c_45 => ?_) (fun c_45 => ?_)
    · refine Cp.iconst (v := 0) X dX6_goesOn_68 rfl ?_
      refine Cp.istore X dX6_goesOn_69 (Nat.le_of_ble_eq_true rfl) rfl ?_
      refine Cp.iinc (v := x5 + 1) X dX6_goesOn_71 rfl rfl (Nat.le_of_ble_eq_true rfl) rfl ?_
      refine Cp.goto X 37 dX6_goesOn_74 (by decide) ?_
      exact hk37 0 (x5 + 1)
    · refine Cp.aload_n (i := 0) X dX6_goesOn_48 rfl rfl ?_
      refine gfX6_37 X 10 sr_0 rfl dX6_goesOn_49 ?_
      refine Cp.bipush (v := 40) X dX6_goesOn_52 rfl ?_
      refine Cp.iload_n (i := 1) X dX6_goesOn_54 rfl rfl ?_
      refine Cp.imul X dX6_goesOn_55 ?_
      refine Cp.iload X dX6_goesOn_56 rfl ?_
      refine Cp.iadd X dX6_goesOn_58 ?_
      refine Cp.iald X sr_10 dX6_goesOn_59 ?_
      refine Cp.iload_n (i := 3) X dX6_goesOn_60 rfl rfl ?_
      refine Cp.icmp_eq X 68 dX6_goesOn_61 (by decide) (fun c_61 => ?_) (fun c_61 => ?_)
      · refine Cp.iconst (v := 0) X dX6_goesOn_68 rfl ?_
        refine Cp.istore X dX6_goesOn_69 (Nat.le_of_ble_eq_true rfl) rfl ?_
        refine Cp.iinc (v := x5 + 1) X dX6_goesOn_71 rfl rfl (Nat.le_of_ble_eq_true rfl) rfl ?_
        refine Cp.goto X 37 dX6_goesOn_74 (by decide) ?_
        exact hk37 0 (x5 + 1)
      · refine Cp.iconst (v := 1) X dX6_goesOn_64 rfl ?_
        refine Cp.goto X 69 dX6_goesOn_65 (by decide) ?_
        refine Cp.istore X dX6_goesOn_69 (Nat.le_of_ble_eq_true rfl) rfl ?_
        refine Cp.iinc (v := x5 + 1) X dX6_goesOn_71 rfl rfl (Nat.le_of_ble_eq_true rfl) rfl ?_
        refine Cp.goto X 37 dX6_goesOn_74 (by decide) ?_
        exact hk37 1 (x5 + 1))
set_option maxRecDepth 20000 in
theorem pX6_goesOn {M : MC} {w : WE} (X : Cx M w shR cX6_goesOn 6 RX6 (some .boolean) 2)   (x1 : Int32) (x2 : Int32) (σ : Mem) : Cp M w shR 6 (iB σ) 0 [some (.ref (wad w 0)), some (.int x1), some (.int x2), none, none, none] [] σ (fX6_goesOn x1 x2 σ) := by
  unfold fX6_goesOn
  refine Cp.aload_n (i := 0) X dX6_goesOn_0 rfl rfl ?_
  refine gfX6_37 X 10 sr_0 rfl dX6_goesOn_1 ?_
  refine Cp.bipush (v := 40) X dX6_goesOn_4 rfl ?_
  refine Cp.iload_n (i := 1) X dX6_goesOn_6 rfl rfl ?_
  refine Cp.imul X dX6_goesOn_7 ?_
  refine Cp.iload_n (i := 2) X dX6_goesOn_8 rfl rfl ?_
  refine Cp.iadd X dX6_goesOn_9 ?_
  refine Cp.iald X sr_10 dX6_goesOn_10 ?_
  refine Cp.nameI (fun x3_11 => ?_)
  refine Cp.istore_n (i := 3) X dX6_goesOn_11 rfl (Nat.le_of_ble_eq_true rfl) rfl ?_
  refine Cp.aload_n (i := 0) X dX6_goesOn_12 rfl rfl ?_
  refine Cp.iload_n (i := 3) X dX6_goesOn_13 rfl rfl ?_
  refine Cp.cVBT [] X [.int x3_11] cvX6_isPerson (kX6_isPerson X.ok x3_11 σ) sr_0 rfl rfl wmX6_109 rfl rfl dX6_goesOn_14 rfl (Nat.le_of_ble_eq_true rfl) ?_
  refine Cp.if_eqB X 29 dX6_goesOn_17 (by decide) (fun c_17 => ?_) (fun c_17 => ?_)
  · refine Cp.iconst (v := 0) X dX6_goesOn_29 rfl ?_
    exact Cp.bret (v := false) X dX6_goesOn_30 rfl
  · refine Cp.aload_n (i := 0) X dX6_goesOn_20 rfl rfl ?_
    refine gfX6_22 X 5 sr_0 rfl dX6_goesOn_21 ?_
    refine Cp.iload_n (i := 3) X dX6_goesOn_24 rfl rfl ?_
    refine Cp.iald X sr_5 dX6_goesOn_25 ?_
    refine Cp.if_ge X 31 dX6_goesOn_26 (by decide) (fun c_26 => ?_) (fun c_26 => ?_)
    · refine Cp.iconst (v := 1) X dX6_goesOn_31 rfl ?_
      refine Cp.istore X dX6_goesOn_32 (Nat.le_of_ble_eq_true rfl) rfl ?_
      refine Cp.iconst (v := 0) X dX6_goesOn_34 rfl ?_
      refine Cp.istore X dX6_goesOn_35 (Nat.le_of_ble_eq_true rfl) rfl ?_
      exact pX6_goesOn_37 X x1 x2 x3_11 σ FU 1 0
    · refine Cp.iconst (v := 0) X dX6_goesOn_29 rfl ?_
      exact Cp.bret (v := false) X dX6_goesOn_30 rfl
theorem kX6_goesOn {l : Launch} {w : WE} (hok : OkW w shR)   (x1 : Int32) (x2 : Int32) (σ : Mem) : ∀ v, fX6_goesOn x1 x2 σ = some v → Ctr l w shR yX6_goesOn cX6_goesOn 6 (some .boolean) 2 [.ref (wad w 0), .int x1, .int x2] σ ((iB σ) v) := fun v hv => Ctr.of [some (.ref (wad w 0)), some (.int x1), some (.int x2), none, none, none] (by decide) hok rfl (Nat.le_of_ble_eq_true rfl) (fun M _ X => pX6_goesOn X   x1 x2 σ v hv)
def fX6_judge_68 (x1 : Int32) (x4 : Int32) (σ : Mem) : Option (Int32 × Mem) :=
  (gd (inB x1 4 = true) (if x4 = (σ 9 x1.toNatClampNeg) then (some (0, σ)) else (some (x4 + 1, σ))))
def fX6_judge_41 (x1 : Int32) (σ : Mem) (k41 : Int32 → Option (Int32 × Mem)) (x4 : Int32) : Option (Int32 × Mem) :=
  (gd (inB x1 4 = true) (if (σ 9 x1.toNatClampNeg) ≤ x4 then (fX6_judge_68 x1 x4 σ) else ((fX6_goesOn x1 x4 σ).bind fun v_56 => (if v_56 = true then (k41 (x4 + 1)) else (fX6_judge_68 x1 x4 σ)))))
def fX6_judge (x1 : Int32) (σ : Mem) : Option (Int32 × Mem) :=
  ((fX6_lacks x1 σ).bind fun v_2 => (if v_2 < 0 then (if (σ 1 6) = 0 then (bnd2 (fX6_finds 4 σ) fun v_28 s_28 => (some (v_28, s_28))) else (bnd2 (fX6_laughAt_ 0 σ) fun v_34 s_34 => (lw1 (fX6_judge_41 x1 s_34) FU 0))) else (bnd2 (fX6_finds v_2 σ) fun v_12 s_12 => (some (v_12, s_12)))))
set_option maxRecDepth 20000 in
theorem pX6_judge_68 {M : MC} {w : WE} (X : Cx M w shR cX6_judge 5 RX6 (some .int) 5)   (x1 : Int32) (x4 : Int32)  (σ : Mem)  : Cp M w shR 5 iIM 68 [some (.ref (wad w 0)), some (.int x1), none, none, some (.int x4)] [] σ (fX6_judge_68 x1 x4 σ) := by
  unfold fX6_judge_68
  refine Cp.iload X dX6_judge_68 rfl ?_
  refine Cp.aload_n (i := 0) X dX6_judge_70 rfl rfl ?_
  refine gfX6_34 X 9 sr_0 rfl dX6_judge_71 ?_
  refine Cp.iload_n (i := 1) X dX6_judge_74 rfl rfl ?_
  refine Cp.iald X sr_9 dX6_judge_75 ?_
  refine Cp.icmp_ne X 83 dX6_judge_76 (by decide) (fun c_76 => ?_) (fun c_76 => ?_)
  · refine Cp.iload X dX6_judge_83 rfl ?_
    refine Cp.iconst (v := 1) X dX6_judge_85 rfl ?_
    refine Cp.iadd X dX6_judge_86 ?_
    exact Cp.iret X dX6_judge_87 rfl
  · refine Cp.iconst (v := 0) X dX6_judge_79 rfl ?_
    refine Cp.goto X 87 dX6_judge_80 (by decide) ?_
    exact Cp.iret X dX6_judge_87 rfl
set_option maxRecDepth 20000 in
theorem pX6_judge_41 {M : MC} {w : WE} (X : Cx M w shR cX6_judge 5 RX6 (some .int) 5)   (x1 : Int32)  (σ : Mem)  : ∀ (n : Nat) (x4 : Int32), Cp M w shR 5 iIM 41 [some (.ref (wad w 0)), some (.int x1), none, none, some (.int x4)] [] σ (lw1 (fX6_judge_41 x1 σ) n x4) :=
  lw1_i (P := fun x4 b => Cp M w shR 5 iIM 41 [some (.ref (wad w 0)), some (.int x1), none, none, some (.int x4)] [] σ b) (fun _ => Cp.non) (fun k41 hk41 x4 => by
  unfold fX6_judge_41
  refine Cp.iload X dX6_judge_41 rfl ?_
  refine Cp.aload_n (i := 0) X dX6_judge_43 rfl rfl ?_
  refine gfX6_34 X 9 sr_0 rfl dX6_judge_44 ?_
  refine Cp.iload_n (i := 1) X dX6_judge_47 rfl rfl ?_
  refine Cp.iald X sr_9 dX6_judge_48 ?_
  refine Cp.icmp_ge X 68 dX6_judge_49 (by decide) (fun c_49 => ?_) (fun c_49 => ?_)
  · exact pX6_judge_68 X x1 x4 σ
  · refine Cp.aload_n (i := 0) X dX6_judge_52 rfl rfl ?_
    refine Cp.iload_n (i := 1) X dX6_judge_53 rfl rfl ?_
    refine Cp.iload X dX6_judge_54 rfl ?_
    refine Cp.cVB [] X [.int x1, .int x4] cvX6_goesOn (kX6_goesOn X.ok x1 x4 σ) sr_0 rfl rfl wmX6_321 rfl rfl dX6_judge_56 rfl (Nat.le_of_ble_eq_true rfl) (fun v_56 => ?_)
    refine Cp.if_eqB X 68 dX6_judge_59 (by decide) (fun c_59 => ?_) (fun c_59 => ?_)
    · exact pX6_judge_68 X x1 x4 σ
    · refine Cp.iinc (v := x4 + 1) X dX6_judge_62 rfl rfl (Nat.le_of_ble_eq_true rfl) rfl ?_
      refine Cp.goto X 41 dX6_judge_65 (by decide) ?_
      exact hk41 (x4 + 1))
set_option maxRecDepth 20000 in
theorem pX6_judge {M : MC} {w : WE} (X : Cx M w shR cX6_judge 5 RX6 (some .int) 5)   (x1 : Int32) (σ : Mem) : Cp M w shR 5 iIM 0 [some (.ref (wad w 0)), some (.int x1), none, none, none] [] σ (fX6_judge x1 σ) := by
  unfold fX6_judge
  refine Cp.aload_n (i := 0) X dX6_judge_0 rfl rfl ?_
  refine Cp.iload_n (i := 1) X dX6_judge_1 rfl rfl ?_
  refine Cp.cVI [] X [.int x1] cvX6_lacks (kX6_lacks X.ok x1 σ) sr_0 rfl rfl wmX6_204 rfl rfl dX6_judge_2 rfl (Nat.le_of_ble_eq_true rfl) (fun v_2 => ?_)
  refine Cp.istore_n (i := 2) X dX6_judge_5 rfl (Nat.le_of_ble_eq_true rfl) rfl ?_
  refine Cp.iload_n (i := 2) X dX6_judge_6 rfl rfl ?_
  refine Cp.if_lt X 16 dX6_judge_7 (by decide) (fun c_7 => ?_) (fun c_7 => ?_)
  · refine Cp.aload_n (i := 0) X dX6_judge_16 rfl rfl ?_
    refine gfX6_9 X 1 sr_0 rfl dX6_judge_17 ?_
    refine Cp.bipush (v := 6) X dX6_judge_20 rfl ?_
    refine Cp.ialdc (j := 6) X sr_1 (by decide) (by decide) dX6_judge_22 ?_
    refine Cp.if_ne X 32 dX6_judge_23 (by decide) (fun c_23 => ?_) (fun c_23 => ?_)
    · refine Cp.aload_n (i := 0) X dX6_judge_32 rfl rfl ?_
      refine Cp.iconst (v := 0) X dX6_judge_33 rfl ?_
      refine Cp.cVIM [] X [.int 0] cvX6_laughAt_ (kX6_laughAt_ X.ok 0 σ) sr_0 rfl rfl wmX6_178 rfl rfl dX6_judge_34 rfl (Nat.le_of_ble_eq_true rfl) (fun v_34 s_34 => ?_)
      refine Cp.istore_n (i := 3) X dX6_judge_37 rfl (Nat.le_of_ble_eq_true rfl) rfl ?_
      refine Cp.iconst (v := 0) X dX6_judge_38 rfl ?_
      refine Cp.istore X dX6_judge_39 (Nat.le_of_ble_eq_true rfl) rfl ?_
      refine Cp.mask [true, true, false, false, true] ?_
      exact pX6_judge_41 X x1 s_34 FU 0
    · refine Cp.aload_n (i := 0) X dX6_judge_26 rfl rfl ?_
      refine Cp.iconst (v := 4) X dX6_judge_27 rfl ?_
      refine Cp.cVIM [] X [.int 4] cvX6_finds (kX6_finds X.ok 4 σ) sr_0 rfl rfl wmX6_103 rfl rfl dX6_judge_28 rfl (Nat.le_of_ble_eq_true rfl) (fun v_28 s_28 => ?_)
      exact Cp.iret X dX6_judge_31 rfl
  · refine Cp.aload_n (i := 0) X dX6_judge_10 rfl rfl ?_
    refine Cp.iload_n (i := 2) X dX6_judge_11 rfl rfl ?_
    refine Cp.cVIM [] X [.int v_2] cvX6_finds (kX6_finds X.ok v_2 σ) sr_0 rfl rfl wmX6_103 rfl rfl dX6_judge_12 rfl (Nat.le_of_ble_eq_true rfl) (fun v_12 s_12 => ?_)
    exact Cp.iret X dX6_judge_15 rfl
theorem kX6_judge {l : Launch} {w : WE} (hok : OkW w shR)   (x1 : Int32) (σ : Mem) : ∀ v, fX6_judge x1 σ = some v → Ctr l w shR yX6_judge cX6_judge 5 (some .int) 5 [.ref (wad w 0), .int x1] σ (iIM v) := fun v hv => Ctr.of [some (.ref (wad w 0)), some (.int x1), none, none, none] (by decide) hok rfl (Nat.le_of_ble_eq_true rfl) (fun M _ X => pX6_judge X   x1 σ v hv)
def fX6_image  (σ : Mem) : Option (Int32 × Mem) :=
  ((fX6_become 1 2 σ).bind fun s_8 => (pb (up2 s_8 0 3 1 : Mem) fun s_13 => (some (1, s_13))))
set_option maxRecDepth 20000 in
theorem pX6_image {M : MC} {w : WE} (X : Cx M w shR cX6_image 1 RX6 (some .int) 1)    (σ : Mem) : Cp M w shR 1 iIM 0 [some (.ref (wad w 0))] [] σ (fX6_image σ) := by
  unfold fX6_image
  refine Cp.aload_n (i := 0) X dX6_image_0 rfl rfl ?_
  refine gfX6_9 X 1 sr_0 rfl dX6_image_1 ?_
  refine Cp.aload_n (i := 0) X dX6_image_4 rfl rfl ?_
  refine gfX6_13 X 2 sr_0 rfl dX6_image_5 ?_
  refine Cp.cSV [] X [.ref (wad w 1), .ref (wad w 2)] csX6_become (kX6_become X.ok 1 2 sr_1 sr_2 σ) wmX6_44 rfl rfl dX6_image_8 rfl (Nat.le_of_ble_eq_true rfl) (fun s_8 => ?_)
  refine Cp.aload_n (i := 0) X dX6_image_11 rfl rfl ?_
  refine Cp.iconst (v := 1) X dX6_image_12 rfl ?_
  refine pfcX6_324 X sr_0 rfl (by decide) dX6_image_13 ?_
  refine Cp.nameM (fun s_13 => ?_)
  refine Cp.iconst (v := 1) X dX6_image_16 rfl ?_
  exact Cp.iret X dX6_image_17 rfl
theorem kX6_image {l : Launch} {w : WE} (hok : OkW w shR)    (σ : Mem) : ∀ v, fX6_image σ = some v → Ctr l w shR yX6_image cX6_image 1 (some .int) 1 [.ref (wad w 0)] σ (iIM v) := fun v hv => Ctr.of [some (.ref (wad w 0))] (by decide) hok rfl (Nat.le_of_ble_eq_true rfl) (fun M _ X => pX6_image X    σ v hv)
def fX6_undo  (σ : Mem) : Option (Int32 × Mem) :=
  (if (σ 0 3) = 0 then (bnd2 (fX6_finds 3 σ) fun v_9 s_9 => (some (v_9, s_9))) else ((fX6_become 2 1 σ).bind fun s_21 => (some (s_21 1 3, s_21))))
set_option maxRecDepth 20000 in
theorem pX6_undo {M : MC} {w : WE} (X : Cx M w shR cX6_undo 1 RX6 (some .int) 1)    (σ : Mem) : Cp M w shR 1 iIM 0 [some (.ref (wad w 0))] [] σ (fX6_undo σ) := by
  unfold fX6_undo
  refine Cp.aload_n (i := 0) X dX6_undo_0 rfl rfl ?_
  refine gfX6_324 X sr_0 rfl dX6_undo_1 ?_
  refine Cp.if_ne X 13 dX6_undo_4 (by decide) (fun c_4 => ?_) (fun c_4 => ?_)
  · refine Cp.aload_n (i := 0) X dX6_undo_13 rfl rfl ?_
    refine gfX6_13 X 2 sr_0 rfl dX6_undo_14 ?_
    refine Cp.aload_n (i := 0) X dX6_undo_17 rfl rfl ?_
    refine gfX6_9 X 1 sr_0 rfl dX6_undo_18 ?_
    refine Cp.cSV [] X [.ref (wad w 2), .ref (wad w 1)] csX6_become (kX6_become X.ok 2 1 sr_2 sr_1 σ) wmX6_44 rfl rfl dX6_undo_21 rfl (Nat.le_of_ble_eq_true rfl) (fun s_21 => ?_)
    refine Cp.aload_n (i := 0) X dX6_undo_24 rfl rfl ?_
    refine gfX6_9 X 1 sr_0 rfl dX6_undo_25 ?_
    refine Cp.iconst (v := 3) X dX6_undo_28 rfl ?_
    refine Cp.ialdc (j := 3) X sr_1 (by decide) (by decide) dX6_undo_29 ?_
    exact Cp.iret X dX6_undo_30 rfl
  · refine Cp.aload_n (i := 0) X dX6_undo_7 rfl rfl ?_
    refine Cp.iconst (v := 3) X dX6_undo_8 rfl ?_
    refine Cp.cVIM [] X [.int 3] cvX6_finds (kX6_finds X.ok 3 σ) sr_0 rfl rfl wmX6_103 rfl rfl dX6_undo_9 rfl (Nat.le_of_ble_eq_true rfl) (fun v_9 s_9 => ?_)
    exact Cp.iret X dX6_undo_12 rfl
theorem kX6_undo {l : Launch} {w : WE} (hok : OkW w shR)    (σ : Mem) : ∀ v, fX6_undo σ = some v → Ctr l w shR yX6_undo cX6_undo 1 (some .int) 1 [.ref (wad w 0)] σ (iIM v) := fun v hv => Ctr.of [some (.ref (wad w 0))] (by decide) hok rfl (Nat.le_of_ble_eq_true rfl) (fun M _ X => pX6_undo X    σ v hv)
def fX6_tear  (σ : Mem) : Option (Int32 × Mem) :=
  (if (σ 0 3) = 0 then (pb (up2 σ 0 3 0 : Mem) fun s_15 => (some (0, s_15))) else (pb (up2 σ 0 3 0 : Mem) fun s_15 => (some (1, s_15))))
set_option maxRecDepth 20000 in
theorem pX6_tear {M : MC} {w : WE} (X : Cx M w shR cX6_tear 2 RX6 (some .int) 0)    (σ : Mem) : Cp M w shR 2 iIM 0 [some (.ref (wad w 0)), none] [] σ (fX6_tear σ) := by
  unfold fX6_tear
  refine Cp.aload_n (i := 0) X dX6_tear_0 rfl rfl ?_
  refine gfX6_324 X sr_0 rfl dX6_tear_1 ?_
  refine Cp.if_eq X 11 dX6_tear_4 (by decide) (fun c_4 => ?_) (fun c_4 => ?_)
  · refine Cp.iconst (v := 0) X dX6_tear_11 rfl ?_
    refine Cp.istore_n (i := 1) X dX6_tear_12 rfl (Nat.le_of_ble_eq_true rfl) rfl ?_
    refine Cp.aload_n (i := 0) X dX6_tear_13 rfl rfl ?_
    refine Cp.iconst (v := 0) X dX6_tear_14 rfl ?_
    refine pfcX6_324 X sr_0 rfl (by decide) dX6_tear_15 ?_
    refine Cp.nameM (fun s_15 => ?_)
    refine Cp.iload_n (i := 1) X dX6_tear_18 rfl rfl ?_
    exact Cp.iret X dX6_tear_19 rfl
  · refine Cp.iconst (v := 1) X dX6_tear_7 rfl ?_
    refine Cp.goto X 12 dX6_tear_8 (by decide) ?_
    refine Cp.istore_n (i := 1) X dX6_tear_12 rfl (Nat.le_of_ble_eq_true rfl) rfl ?_
    refine Cp.aload_n (i := 0) X dX6_tear_13 rfl rfl ?_
    refine Cp.iconst (v := 0) X dX6_tear_14 rfl ?_
    refine pfcX6_324 X sr_0 rfl (by decide) dX6_tear_15 ?_
    refine Cp.nameM (fun s_15 => ?_)
    refine Cp.iload_n (i := 1) X dX6_tear_18 rfl rfl ?_
    exact Cp.iret X dX6_tear_19 rfl
theorem kX6_tear {l : Launch} {w : WE} (hok : OkW w shR)    (σ : Mem) : ∀ v, fX6_tear σ = some v → Ctr l w shR yX6_tear cX6_tear 2 (some .int) 0 [.ref (wad w 0)] σ (iIM v) := fun v hv => Ctr.of [some (.ref (wad w 0)), none] (by decide) hok rfl (Nat.le_of_ble_eq_true rfl) (fun M _ X => pX6_tear X    σ v hv)
def fX6_held_4 (σ : Mem) (k4 : Int32 → Int32 → Option Int32) (x1 : Int32) (x2 : Int32) : Option Int32 :=
  (if 10 ≤ x2 then (some x1) else (gd (inB (63 + x2) 73 = true) (if 0 ≤ (σ 1 (63 + x2).toNatClampNeg) then (pb (x1 + 1 : Int32) fun x1_29 => (k4 x1_29 (x2 + 1))) else (pb (x1 + 0 : Int32) fun x1_29 => (k4 x1_29 (x2 + 1))))))
def fX6_held  (σ : Mem) : Option Int32 :=
  (lw2 (fX6_held_4 σ) FU 0 0)
set_option maxRecDepth 20000 in
theorem pX6_held_4 {M : MC} {w : WE} (X : Cx M w shR cX6_held 3 RX6 (some .int) 0)     (σ : Mem)  : ∀ (n : Nat) (x1 : Int32) (x2 : Int32), Cp M w shR 3 (iI σ) 4 [some (.ref (wad w 0)), some (.int x1), some (.int x2)] [] σ (lw2 (fX6_held_4 σ) n x1 x2) :=
  lw2_i (P := fun x1 x2 b => Cp M w shR 3 (iI σ) 4 [some (.ref (wad w 0)), some (.int x1), some (.int x2)] [] σ b) (fun _ _ => Cp.non) (fun k4 hk4 x1 x2 => by
  unfold fX6_held_4
  refine Cp.iload_n (i := 2) X dX6_held_4 rfl rfl ?_
  refine Cp.bipush (v := 10) X dX6_held_5 rfl ?_
  refine Cp.icmp_ge X 36 dX6_held_7 (by decide) (fun c_7 => ?_) (fun c_7 => ?_)
  · refine Cp.iload_n (i := 1) X dX6_held_36 rfl rfl ?_
    exact Cp.iret X dX6_held_37 rfl
  · refine Cp.iload_n (i := 1) X dX6_held_10 rfl rfl ?_
    refine Cp.aload_n (i := 0) X dX6_held_11 rfl rfl ?_
    refine gfX6_9 X 1 sr_0 rfl dX6_held_12 ?_
    refine Cp.bipush (v := 63) X dX6_held_15 rfl ?_
    refine Cp.iload_n (i := 2) X dX6_held_17 rfl rfl ?_
    refine Cp.iadd X dX6_held_18 ?_
    refine Cp.iald X sr_1 dX6_held_19 ?_
    refine Cp.if_ge X 27 dX6_held_20 (by decide) (fun c_20 => ?_) (fun c_20 => ?_)
    · refine Cp.iconst (v := 1) X dX6_held_27 rfl ?_
      refine Cp.iadd X dX6_held_28 ?_
      refine Cp.nameI (fun x1_29 => ?_)
      refine Cp.istore_n (i := 1) X dX6_held_29 rfl (Nat.le_of_ble_eq_true rfl) rfl ?_
      refine Cp.iinc (v := x2 + 1) X dX6_held_30 rfl rfl (Nat.le_of_ble_eq_true rfl) rfl ?_
      refine Cp.goto X 4 dX6_held_33 (by decide) ?_
      exact hk4 x1_29 (x2 + 1)
    · refine Cp.iconst (v := 0) X dX6_held_23 rfl ?_
      refine Cp.goto X 28 dX6_held_24 (by decide) ?_
      refine Cp.iadd X dX6_held_28 ?_
      refine Cp.nameI (fun x1_29 => ?_)
      refine Cp.istore_n (i := 1) X dX6_held_29 rfl (Nat.le_of_ble_eq_true rfl) rfl ?_
      refine Cp.iinc (v := x2 + 1) X dX6_held_30 rfl rfl (Nat.le_of_ble_eq_true rfl) rfl ?_
      refine Cp.goto X 4 dX6_held_33 (by decide) ?_
      exact hk4 x1_29 (x2 + 1))
set_option maxRecDepth 20000 in
theorem pX6_held {M : MC} {w : WE} (X : Cx M w shR cX6_held 3 RX6 (some .int) 0)    (σ : Mem) : Cp M w shR 3 (iI σ) 0 [some (.ref (wad w 0)), none, none] [] σ (fX6_held σ) := by
  unfold fX6_held
  refine Cp.iconst (v := 0) X dX6_held_0 rfl ?_
  refine Cp.istore_n (i := 1) X dX6_held_1 rfl (Nat.le_of_ble_eq_true rfl) rfl ?_
  refine Cp.iconst (v := 0) X dX6_held_2 rfl ?_
  refine Cp.istore_n (i := 2) X dX6_held_3 rfl (Nat.le_of_ble_eq_true rfl) rfl ?_
  exact pX6_held_4 X σ FU 0 0
theorem kX6_held {l : Launch} {w : WE} (hok : OkW w shR)    (σ : Mem) : ∀ v, fX6_held σ = some v → Ctr l w shR yX6_held cX6_held 3 (some .int) 0 [.ref (wad w 0)] σ ((iI σ) v) := fun v hv => Ctr.of [some (.ref (wad w 0)), none, none] (by decide) hok rfl (Nat.le_of_ble_eq_true rfl) (fun M _ X => pX6_held X    σ v hv)
def fX6_count (x1 : Int32) (σ : Mem) : Option (Int32 × Mem) :=
  (if x1 = 0 then (some (σ 1 3, σ)) else (if x1 = 1 then (some (σ 1 5, σ)) else (if x1 = 2 then (some (σ 1 6, σ)) else (if x1 = 3 then (some (σ 1 2, σ)) else (if x1 = 4 then ((fX6_sumOf 4 σ).bind fun v_79 => (some (v_79, σ))) else (if x1 = 5 then (some (σ 0 10, σ)) else (if x1 = 6 then (some (σ 1 4, σ)) else (if x1 = 7 then ((fX6_held σ).bind fun v_96 => (some (v_96, σ))) else (bnd2 (fX6_finds 0 σ) fun v_102 s_102 => (some (v_102, s_102)))))))))))
set_option maxRecDepth 20000 in
theorem pX6_count {M : MC} {w : WE} (X : Cx M w shR cX6_count 2 RX6 (some .int) 2)   (x1 : Int32) (σ : Mem) : Cp M w shR 2 iIM 0 [some (.ref (wad w 0)), some (.int x1)] [] σ (fX6_count x1 σ) := by
  unfold fX6_count
  refine Cp.iload_n (i := 1) X dX6_count_0 rfl rfl ?_
  refine Cp.ite (fun c_1 => ?_) (fun n_1_0 => ?_)
  · refine Cp.tswI X 0 48 c_1 dX6_count_1 (by decide) (by decide) rfl (by decide) ?_
    refine Cp.aload_n (i := 0) X dX6_count_48 rfl rfl ?_
    refine gfX6_9 X 1 sr_0 rfl dX6_count_49 ?_
    refine Cp.iconst (v := 3) X dX6_count_52 rfl ?_
    refine Cp.ialdc (j := 3) X sr_1 (by decide) (by decide) dX6_count_53 ?_
    exact Cp.iret X dX6_count_54 rfl
  refine Cp.ite (fun c_1 => ?_) (fun n_1_1 => ?_)
  · refine Cp.tswI X 1 55 c_1 dX6_count_1 (by decide) (by decide) rfl (by decide) ?_
    refine Cp.aload_n (i := 0) X dX6_count_55 rfl rfl ?_
    refine gfX6_9 X 1 sr_0 rfl dX6_count_56 ?_
    refine Cp.iconst (v := 5) X dX6_count_59 rfl ?_
    refine Cp.ialdc (j := 5) X sr_1 (by decide) (by decide) dX6_count_60 ?_
    exact Cp.iret X dX6_count_61 rfl
  refine Cp.ite (fun c_1 => ?_) (fun n_1_2 => ?_)
  · refine Cp.tswI X 2 62 c_1 dX6_count_1 (by decide) (by decide) rfl (by decide) ?_
    refine Cp.aload_n (i := 0) X dX6_count_62 rfl rfl ?_
    refine gfX6_9 X 1 sr_0 rfl dX6_count_63 ?_
    refine Cp.bipush (v := 6) X dX6_count_66 rfl ?_
    refine Cp.ialdc (j := 6) X sr_1 (by decide) (by decide) dX6_count_68 ?_
    exact Cp.iret X dX6_count_69 rfl
  refine Cp.ite (fun c_1 => ?_) (fun n_1_3 => ?_)
  · refine Cp.tswI X 3 70 c_1 dX6_count_1 (by decide) (by decide) rfl (by decide) ?_
    refine Cp.aload_n (i := 0) X dX6_count_70 rfl rfl ?_
    refine gfX6_9 X 1 sr_0 rfl dX6_count_71 ?_
    refine Cp.iconst (v := 2) X dX6_count_74 rfl ?_
    refine Cp.ialdc (j := 2) X sr_1 (by decide) (by decide) dX6_count_75 ?_
    exact Cp.iret X dX6_count_76 rfl
  refine Cp.ite (fun c_1 => ?_) (fun n_1_4 => ?_)
  · refine Cp.tswI X 4 77 c_1 dX6_count_1 (by decide) (by decide) rfl (by decide) ?_
    refine Cp.aload_n (i := 0) X dX6_count_77 rfl rfl ?_
    refine Cp.iconst (v := 4) X dX6_count_78 rfl ?_
    refine Cp.cVI [] X [.int 4] cvX6_sumOf (kX6_sumOf X.ok 4 σ) sr_0 rfl rfl wmX6_172 rfl rfl dX6_count_79 rfl (Nat.le_of_ble_eq_true rfl) (fun v_79 => ?_)
    exact Cp.iret X dX6_count_82 rfl
  refine Cp.ite (fun c_1 => ?_) (fun n_1_5 => ?_)
  · refine Cp.tswI X 5 83 c_1 dX6_count_1 (by decide) (by decide) rfl (by decide) ?_
    refine Cp.aload_n (i := 0) X dX6_count_83 rfl rfl ?_
    refine gfX6_221 X sr_0 rfl dX6_count_84 ?_
    exact Cp.iret X dX6_count_87 rfl
  refine Cp.ite (fun c_1 => ?_) (fun n_1_6 => ?_)
  · refine Cp.tswI X 6 88 c_1 dX6_count_1 (by decide) (by decide) rfl (by decide) ?_
    refine Cp.aload_n (i := 0) X dX6_count_88 rfl rfl ?_
    refine gfX6_9 X 1 sr_0 rfl dX6_count_89 ?_
    refine Cp.iconst (v := 4) X dX6_count_92 rfl ?_
    refine Cp.ialdc (j := 4) X sr_1 (by decide) (by decide) dX6_count_93 ?_
    exact Cp.iret X dX6_count_94 rfl
  refine Cp.ite (fun c_1 => ?_) (fun n_1_7 => ?_)
  · refine Cp.tswI X 7 95 c_1 dX6_count_1 (by decide) (by decide) rfl (by decide) ?_
    refine Cp.aload_n (i := 0) X dX6_count_95 rfl rfl ?_
    refine Cp.cVI [] X [] cvX6_held (kX6_held X.ok σ) sr_0 rfl rfl wmX6_327 rfl rfl dX6_count_96 rfl (Nat.le_of_ble_eq_true rfl) (fun v_96 => ?_)
    exact Cp.iret X dX6_count_99 rfl
  have m_1_0 := lv_neT (a := 0) n_1_0 (by decide)
  have m_1_1 := lv_neT (a := 1) n_1_1 (by decide)
  have m_1_2 := lv_neT (a := 2) n_1_2 (by decide)
  have m_1_3 := lv_neT (a := 3) n_1_3 (by decide)
  have m_1_4 := lv_neT (a := 4) n_1_4 (by decide)
  have m_1_5 := lv_neT (a := 5) n_1_5 (by decide)
  have m_1_6 := lv_neT (a := 6) n_1_6 (by decide)
  have m_1_7 := lv_neT (a := 7) n_1_7 (by decide)
  refine Cp.tswD X 100 (by omega) dX6_count_1 (by decide) ?_
  refine Cp.aload_n (i := 0) X dX6_count_100 rfl rfl ?_
  refine Cp.iconst (v := 0) X dX6_count_101 rfl ?_
  refine Cp.cVIM [] X [.int 0] cvX6_finds (kX6_finds X.ok 0 σ) sr_0 rfl rfl wmX6_103 rfl rfl dX6_count_102 rfl (Nat.le_of_ble_eq_true rfl) (fun v_102 s_102 => ?_)
  exact Cp.iret X dX6_count_105 rfl
theorem kX6_count {l : Launch} {w : WE} (hok : OkW w shR)   (x1 : Int32) (σ : Mem) : ∀ v, fX6_count x1 σ = some v → Ctr l w shR yX6_count cX6_count 2 (some .int) 2 [.ref (wad w 0), .int x1] σ (iIM v) := fun v hv => Ctr.of [some (.ref (wad w 0)), some (.int x1)] (by decide) hok rfl (Nat.le_of_ble_eq_true rfl) (fun M _ X => pX6_count X   x1 σ v hv)
def fX6_status_24 (x1 : Int32) (σ : Mem) (k24 : Int32 → Int32 → Option (Int32 × Mem)) (x2 : Int32) (x3 : Int32) : Option (Int32 × Mem) :=
  (if 7 ≤ x3 then (some (x2, σ)) else (if x1 < 0 then (gd (inB x3 7 = true) (pb (x2 + (σ 4 x3.toNatClampNeg) : Int32) fun x2_51 => (k24 x2_51 (x3 + 1)))) else (if x1 = x3 then (gd (inB x3 7 = true) (pb (x2 + (σ 4 x3.toNatClampNeg) : Int32) fun x2_51 => (k24 x2_51 (x3 + 1)))) else (pb (x2 + 0 : Int32) fun x2_51 => (k24 x2_51 (x3 + 1))))))
def fX6_status (x1 : Int32) (σ : Mem) : Option (Int32 × Mem) :=
  (if fX6_in ((x1 : Int32).toInt64) (-1) 6 = true then (lw2 (fX6_status_24 x1 σ) FU 0 0) else (bnd2 (fX6_finds 0 σ) fun v_16 s_16 => (some (v_16, s_16))))
set_option maxRecDepth 20000 in
theorem pX6_status_24 {M : MC} {w : WE} (X : Cx M w shR cX6_status 4 RX6 (some .int) 1)   (x1 : Int32)  (σ : Mem)  : ∀ (n : Nat) (x2 : Int32) (x3 : Int32), Cp M w shR 4 iIM 24 [some (.ref (wad w 0)), some (.int x1), some (.int x2), some (.int x3)] [] σ (lw2 (fX6_status_24 x1 σ) n x2 x3) :=
  lw2_i (P := fun x2 x3 b => Cp M w shR 4 iIM 24 [some (.ref (wad w 0)), some (.int x1), some (.int x2), some (.int x3)] [] σ b) (fun _ _ => Cp.non) (fun k24 hk24 x2 x3 => by
  unfold fX6_status_24
  refine Cp.iload_n (i := 3) X dX6_status_24 rfl rfl ?_
  refine Cp.bipush (v := 7) X dX6_status_25 rfl ?_
  refine Cp.icmp_ge X 58 dX6_status_27 (by decide) (fun c_27 => ?_) (fun c_27 => ?_)
  · refine Cp.iload_n (i := 2) X dX6_status_58 rfl rfl ?_
    exact Cp.iret X dX6_status_59 rfl
  · refine Cp.iload_n (i := 2) X dX6_status_30 rfl rfl ?_
    refine Cp.iload_n (i := 1) X dX6_status_31 rfl rfl ?_
    refine Cp.if_lt X 40 dX6_status_32 (by decide) (fun c_32 => ?_) (fun c_32 => ?_)
    · refine Cp.aload_n (i := 0) X dX6_status_40 rfl rfl ?_
      refine gfX6_19 X 4 sr_0 rfl dX6_status_41 ?_
      refine Cp.iload_n (i := 3) X dX6_status_44 rfl rfl ?_
      refine Cp.iald X sr_4 dX6_status_45 ?_
      refine Cp.goto X 50 dX6_status_46 (by decide) ?_
      refine Cp.iadd X dX6_status_50 ?_
      refine Cp.nameI (fun x2_51 => ?_)
      refine Cp.istore_n (i := 2) X dX6_status_51 rfl (Nat.le_of_ble_eq_true rfl) rfl ?_
      refine Cp.iinc (v := x3 + 1) X dX6_status_52 rfl rfl (Nat.le_of_ble_eq_true rfl) rfl ?_
      refine Cp.goto X 24 dX6_status_55 (by decide) ?_
      exact hk24 x2_51 (x3 + 1)
    · refine Cp.iload_n (i := 1) X dX6_status_35 rfl rfl ?_
      refine Cp.iload_n (i := 3) X dX6_status_36 rfl rfl ?_
      refine Cp.icmp_ne X 49 dX6_status_37 (by decide) (fun c_37 => ?_) (fun c_37 => ?_)
      · refine Cp.iconst (v := 0) X dX6_status_49 rfl ?_
        refine Cp.iadd X dX6_status_50 ?_
        refine Cp.nameI (fun x2_51 => ?_)
        refine Cp.istore_n (i := 2) X dX6_status_51 rfl (Nat.le_of_ble_eq_true rfl) rfl ?_
        refine Cp.iinc (v := x3 + 1) X dX6_status_52 rfl rfl (Nat.le_of_ble_eq_true rfl) rfl ?_
        refine Cp.goto X 24 dX6_status_55 (by decide) ?_
        exact hk24 x2_51 (x3 + 1)
      · refine Cp.aload_n (i := 0) X dX6_status_40 rfl rfl ?_
        refine gfX6_19 X 4 sr_0 rfl dX6_status_41 ?_
        refine Cp.iload_n (i := 3) X dX6_status_44 rfl rfl ?_
        refine Cp.iald X sr_4 dX6_status_45 ?_
        refine Cp.goto X 50 dX6_status_46 (by decide) ?_
        refine Cp.iadd X dX6_status_50 ?_
        refine Cp.nameI (fun x2_51 => ?_)
        refine Cp.istore_n (i := 2) X dX6_status_51 rfl (Nat.le_of_ble_eq_true rfl) rfl ?_
        refine Cp.iinc (v := x3 + 1) X dX6_status_52 rfl rfl (Nat.le_of_ble_eq_true rfl) rfl ?_
        refine Cp.goto X 24 dX6_status_55 (by decide) ?_
        exact hk24 x2_51 (x3 + 1))
set_option maxRecDepth 20000 in
theorem pX6_status {M : MC} {w : WE} (X : Cx M w shR cX6_status 4 RX6 (some .int) 1)   (x1 : Int32) (σ : Mem) : Cp M w shR 4 iIM 0 [some (.ref (wad w 0)), some (.int x1), none, none] [] σ (fX6_status x1 σ) := by
  unfold fX6_status
  refine Cp.iload_n (i := 1) X dX6_status_0 rfl rfl ?_
  refine Cp.i2l X dX6_status_1 ?_
  refine Cp.ldc2 (v := (-1)) X wcX6_330 dX6_status_2 ?_
  refine Cp.ldc2 (v := 6) X wcX6_62 dX6_status_5 ?_
  refine Cp.cSBT [] X [.long ((x1 : Int32).toInt64), .long (-1), .long 6] csX6_in (kX6_in X.ok ((x1 : Int32).toInt64) (-1) 6 σ) wmX6_48 rfl rfl dX6_status_8 rfl (Nat.le_of_ble_eq_true rfl) ?_
  refine Cp.if_neB X 20 dX6_status_11 (by decide) (fun c_11 => ?_) (fun c_11 => ?_)
  · refine Cp.iconst (v := 0) X dX6_status_20 rfl ?_
    refine Cp.istore_n (i := 2) X dX6_status_21 rfl (Nat.le_of_ble_eq_true rfl) rfl ?_
    refine Cp.iconst (v := 0) X dX6_status_22 rfl ?_
    refine Cp.istore_n (i := 3) X dX6_status_23 rfl (Nat.le_of_ble_eq_true rfl) rfl ?_
    exact pX6_status_24 X x1 σ FU 0 0
  · refine Cp.aload_n (i := 0) X dX6_status_14 rfl rfl ?_
    refine Cp.iconst (v := 0) X dX6_status_15 rfl ?_
    refine Cp.cVIM [] X [.int 0] cvX6_finds (kX6_finds X.ok 0 σ) sr_0 rfl rfl wmX6_103 rfl rfl dX6_status_16 rfl (Nat.le_of_ble_eq_true rfl) (fun v_16 s_16 => ?_)
    exact Cp.iret X dX6_status_19 rfl
theorem kX6_status {l : Launch} {w : WE} (hok : OkW w shR)   (x1 : Int32) (σ : Mem) : ∀ v, fX6_status x1 σ = some v → Ctr l w shR yX6_status cX6_status 4 (some .int) 1 [.ref (wad w 0), .int x1] σ (iIM v) := fun v hv => Ctr.of [some (.ref (wad w 0)), some (.int x1), none, none] (by decide) hok rfl (Nat.le_of_ble_eq_true rfl) (fun M _ X => pX6_status X   x1 σ v hv)
