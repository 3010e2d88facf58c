
/-! THE CLAIM OUT OF ONE WALK OF THE LAW'S BODY. Your part is whole_start (and what it stands on); all else here is the same for every law, but numbers. -/
def R_law : String := "LaughTaxLaw"
def lw_P (b : Addr) (xs : List Int32) (args : Array Value) (s : State) : Prop := args = #[.ref b] ∧ s.IntsAt b xs ∧ xs.length ≤ 3072 ∧ (Jvm.Cond.and given_1 narrow_1).before args s = true
def lw_Q (_ : Array Value) (s : State) (o : Outcome) (t : State) : Prop := o = .returned (some (.int 1)) ∧ Framed s o t [] 600000 7302250
def lw_Z (below : List Frame) (a : Array Value) (s : State) : State → Prop := fun t => ∃ o, t.status = .running ∧ Ended t below o ∧ lw_Q a s o t
/-- the law's own end, with 1 on the stack, nothing written that was there before, its room as the claim has it -/
theorem lw_ret {p : Program} {l : Launch} {e : Env} {s : State} {m : MethodId} {below : List Frame} {meth : Method} {c : Code} {b : Nat} (hx : p.tables.exec = Jvm.exec) (hb : c.code = code) (hr : meth.sig.returnType = ret) (hlocks : meth.locks = false) {pc : Nat} {H : Heap} {ls : Array Slot} (hdg : decode code pc = .ok (.ireturn, 1)) : W p l e room_1 s m #[Value.ref b] below meth c H [] 600000 7302250 (lw_Z below #[Value.ref b] s) (F0 m pc ls [.int 1]) := by
  intro T hT X
  obtain ⟨fs, hret, hrun, hended, hW, hframe⟩ := X.leave (v := some (.int 1)) (hlocks := hlocks) (fun h => by rw [hr] at h; cases h)
  have hmeth' : T.vm.method? m = some meth := X.method'
  refine ⟨T.setFrames fs, ?_, .returned (some (.int 1)), hrun, hended, rfl, ⟨_, rfl⟩, hW, hframe⟩
  jvm_step X.here [X.here.top, hx, hb, hdg, hmeth', hr, ret, narrow_b1]
  (try refine ⟨rfl, ?_⟩); (try refine ⟨rfl, ?_⟩)
  first | (intro acts; rw [hret _ acts rfl rfl rfl]) | rw [hret _ _ rfl rfl rfl]
  exact Steps.refl _
/-- what holds at the law's entry: the machine, the code, the tables' words (any of lw_tbl by 'hts w (by decide +kernel)'), the script of L ints xs at the cell b, what the Statement gives of the start (any of its parts by flat_of_before) -/
def lw_At (p : Program) (s : State) (m : MethodId) (meth : Method) (c : Code) (b L : Nat) (xs : Nat → Int32) : Prop :=
  p.tables.exec = Jvm.exec ∧ c.code = code ∧ meth.sig.returnType = ret ∧ c.maxLocals = 4 ∧ s.vm.findClass R_law = some m.cls ∧ (∀ w ∈ lw_tbl, w.before #[Value.ref b] s = true) ∧ va_X b L xs s s.heap ∧ b < s.heap.size ∧ meth.locks = false ∧ (Jvm.Cond.and given_1 narrow_1).before #[Value.ref b] s = true

abbrev LB : Type := va_G × (ClassId × ClassId × ClassId) × (Nat → Nat) × (Nat → Nat) × Nat × (Nat → Nat) × (Nat → Nat) × Nat
abbrev la0 (b : LB) : Nat := b.2.2.2.2.1
abbrev lA (b : LB) : Nat → Prop := fun q => la0 b ≤ q
def bC (b : LB) (rest : va_W) : WE := (b.1, b.2.1, b.2.2.1, b.2.2.2.2.1, rest, b.2.2.2.2.2)
def bR (b : LB) (rest : va_W) : WE := (b.1, b.2.1, b.2.2.2.1, b.2.2.2.2.1, rest, b.2.2.2.2.2)
def lC (b : LB) (σ : Mem) : va_W := wM (bC b []) shC σ
def lR (b : LB) (σ : Mem) : va_W := wM (bR b []) shR σ
abbrev wCc (b : LB) (σr : Mem) : WE := bC b (lR b σr)
abbrev wRr (b : LB) (σc : Mem) : WE := bR b (lC b σc)
theorem ent_co {w w' : WE} (h0 : wad w = wad w') (h1 : w.2.1 = w'.2.1) (s : Shp) (row : Nat → Int32) : ent w s row = ent w' s row := by
  obtain ⟨D, c, ad, a0, rest, z⟩ := w
  obtain ⟨D', c', ad', a0', rest', z'⟩ := w'
  cases h0
  cases h1
  match s with
  | .inl (0, n, _) => rfl
  | .inl (1, n, _) => rfl
  | .inl (_ + 2, n, _) => rfl
  | .inr (ci, fs) => rfl
theorem wM_co {w w' : WE} (h0 : wad w = wad w') (h1 : w.2.1 = w'.2.1) (sh : List Shp) (σ : Mem) : wM w sh σ = wM w' sh σ := by
  unfold wM
  congr 1
  funext k s
  rw [ent_co h0 h1, h0]
theorem lC_M (b : LB) (rest : va_W) (σ : Mem) : wM (bC b rest) shC σ = lC b σ := wM_co (w := bC b rest) (w' := bC b []) rfl rfl shC σ
theorem lR_M (b : LB) (rest : va_W) (σ : Mem) : wM (bR b rest) shR σ = lR b σ := wM_co (w := bR b rest) (w' := bR b []) rfl rfl shR σ
theorem wrest_bC (b : LB) (r : va_W) : wrest (bC b r) = r := rfl
theorem wrest_bR (b : LB) (r : va_W) : wrest (bR b r) = r := rfl
theorem lC_W (b : LB) (σc σr : Mem) : Wl (wCc b σr) shC σc = lC b σc ++ lR b σr := by
  unfold Wl
  rw [lC_M]
  exact congrArg (fun r => lC b σc ++ r) (wrest_bC b (lR b σr))
theorem lR_W (b : LB) (σc σr : Mem) : Wl (wRr b σc) shR σr = lR b σr ++ lC b σc := by
  unfold Wl
  rw [lR_M]
  exact congrArg (fun r => lR b σr ++ r) (wrest_bR b (lC b σc))
theorem Wd_C {b : LB} {σc σr : Mem} {H : Heap} : Wd (wCc b σr) shC σc H ↔ va_P b.1 vwCl (lC b σc ++ lR b σr) H := by
  unfold Wd
  rw [lC_W]
  exact Iff.rfl
theorem Wd_R {b : LB} {σc σr : Mem} {H : Heap} : Wd (wRr b σc) shR σr H ↔ va_P b.1 vwCl (lR b σr ++ lC b σc) H := by
  unfold Wd
  rw [lR_W]
  exact Iff.rfl
theorem Ext_C {b : LB} {r r' : va_W} {U : State} {H : Heap} (h : Ext (bC b r) U H) : Ext (bC b r') U H := h
theorem Ext_R {b : LB} {r r' : va_W} {U : State} {H : Heap} (h : Ext (bC b r) U H) : Ext (bR b r') U H := h
def Lx (M : MC) (b : LB) (sb L : Nat) (xs : Nat → Int32) : Prop :=
  (mp M).tables.exec = Jvm.exec ∧ (mc M).code = cL_law ∧ (mc M).maxLocals = 4 ∧ (mS M).vm.findClass RL = some (mm M).cls ∧ (∀ x ∈ TB, x.before (ma M) (mS M) = true) ∧ va_K b.1 vwCl (tysW (bC b [])) (mS M) ∧ va_D (lA b) (lC b (fun _ _ => 0) ++ lR b (fun _ _ => 0)) ∧ la0 b = (mS M).heap.size ∧ Ext (bC b []) (mS M) (mS M).heap ∧ mR M = room_1 ∧ va_X sb L xs (mS M) (mS M).heap ∧ sb < la0 b
section
variable {M : MC} {b : LB} {sb L : Nat} {xs : Nat → Int32}
theorem Lx.x (X : Lx M b sb L xs) : (mp M).tables.exec = Jvm.exec := X.1
theorem Lx.cb (X : Lx M b sb L xs) : (mc M).code = cL_law := X.2.1
theorem Lx.ml (X : Lx M b sb L xs) : (mc M).maxLocals = 4 := X.2.2.1
theorem Lx.o (X : Lx M b sb L xs) : (mS M).vm.findClass RL = some (mm M).cls := X.2.2.2.1
theorem Lx.t (X : Lx M b sb L xs) : ∀ x ∈ TB, x.before (ma M) (mS M) = true := X.2.2.2.2.1
theorem Lx.k (X : Lx M b sb L xs) : va_K b.1 vwCl (tysW (bC b [])) (mS M) := X.2.2.2.2.2.1
theorem Lx.d (X : Lx M b sb L xs) : va_D (lA b) (lC b (fun _ _ => 0) ++ lR b (fun _ _ => 0)) := X.2.2.2.2.2.2.1
theorem Lx.a0 (X : Lx M b sb L xs) : la0 b = (mS M).heap.size := X.2.2.2.2.2.2.2.1
theorem Lx.e (X : Lx M b sb L xs) : Ext (bC b []) (mS M) (mS M).heap := X.2.2.2.2.2.2.2.2.1
theorem Lx.rm (X : Lx M b sb L xs) : mR M = room_1 := X.2.2.2.2.2.2.2.2.2.1
theorem Lx.X (X : Lx M b sb L xs) : va_X sb L xs (mS M) (mS M).heap := X.2.2.2.2.2.2.2.2.2.2.1
theorem Lx.sl (X : Lx M b sb L xs) : sb < la0 b := X.2.2.2.2.2.2.2.2.2.2.2
/-- the addresses, whatever the memory holds -/
theorem lDD {A : Nat → Prop} (h : va_D A (lC b (fun _ _ => 0) ++ lR b (fun _ _ => 0))) (σc σr : Mem) : va_D A (lC b σc ++ lR b σr) := by
  rw [← lC_W] at h
  have h2 : va_D A (Wl (wCc b (fun _ _ => 0)) shC σc) := wM_D h
  rw [lC_W] at h2
  have h3 : va_D A (lR b (fun _ _ => 0) ++ lC b σc) := va_D_perm List.perm_append_comm h2
  rw [← lR_W] at h3
  have h4 : va_D A (Wl (wRr b σc) shR σr) := wM_D h3
  rw [lR_W] at h4
  exact va_D_perm List.perm_append_comm h4
theorem Lx.okC (X : Lx M b sb L xs) (σr : Mem) : OkW (wCc b σr) shC := by
  unfold OkW
  rw [lC_W]
  exact lDD X.d (fun _ _ => 0) σr
theorem Lx.okR (X : Lx M b sb L xs) (σc : Mem) : OkW (wRr b σc) shR := by
  unfold OkW
  rw [lR_W]
  exact va_D_perm List.perm_append_comm (lDD X.d σc (fun _ _ => 0))
end
def Lj (M : MC) (b : LB) (Q : State → Prop) (nc ns : Nat) (pc : Nat) (lv : List (Option Value)) (st : List Value) (σc σr : Mem) : Prop :=
  ∀ (ls : Array Slot) (H : Heap) (locs : List Loc), lvH ls 4 lv → va_P b.1 vwCl (lC b σc ++ lR b σr) H → va_S (lA b) (mS M).heap H locs → W (mp M) (ml M) (me M) (mR M) (mS M) (mm M) (ma M) (mb M) (mt M) (mc M) H locs nc ns Q (F0 (mm M) pc ls st)
section
variable {M : MC} {b : LB} {sb L : Nat} {xs : Nat → Int32} {Q : State → Prop} {nc ns pc : Nat} {lv : List (Option Value)} {st : List Value} {σc σr : Mem}
theorem Lj.aload_n (X : Lx M b sb L xs) {n : Fin 4} {i x : Nat} (hd : decode cL_law pc = .ok (.aload_n n, 1)) (hi : (n : Nat) = i) (hv : lv[i]? = some (some (.ref x))) (k : Lj M b Q nc ns (pc + 1) lv (.ref x :: st) σc σr) : Lj M b Q nc ns pc lv st σc σr := fun ls H locs hl hP hS => lv_aload_n X.x X.cb hd hi (hl.at hv) (k ls H locs hl hP hS)
theorem Lj.iload_n (X : Lx M b sb L xs) {n : Fin 4} {i : Nat} {x : Int32} (hd : decode cL_law pc = .ok (.iload_n n, 1)) (hi : (n : Nat) = i) (hv : lv[i]? = some (some (.int x))) (k : Lj M b Q nc ns (pc + 1) lv (.int x :: st) σc σr) : Lj M b Q nc ns pc lv st σc σr := fun ls H locs hl hP hS => lv_iload_n X.x X.cb hd hi (hl.at hv) (k ls H locs hl hP hS)
theorem Lj.iconst (X : Lx M b sb L xs) {n : Int} {v : Int32} (hd : decode cL_law pc = .ok (.iconst n, 1)) (hv : Int32.ofInt n = v) (k : Lj M b Q nc ns (pc + 1) lv (.int v :: st) σc σr) : Lj M b Q nc ns pc lv st σc σr := fun ls H locs hl hP hS => lv_iconst X.x X.cb hd hv (k ls H locs hl hP hS)
theorem Lj.bipush (X : Lx M b sb L xs) {n : Int} {v : Int32} (hd : decode cL_law pc = .ok (.bipush n, 2)) (hv : (Int8.ofInt n).toInt32 = v) (k : Lj M b Q nc ns (pc + 2) lv (.int v :: st) σc σr) : Lj M b Q nc ns pc lv st σc σr := fun ls H locs hl hP hS => lv_bipush X.x X.cb hd hv (k ls H locs hl hP hS)
theorem Lj.iadd (X : Lx M b sb L xs) {x y : Int32} (hd : decode cL_law pc = .ok (.iadd, 1)) (k : Lj M b Q nc ns (pc + 1) lv (.int (x + y) :: st) σc σr) : Lj M b Q nc ns pc lv (.int y :: .int x :: st) σc σr := fun ls H locs hl hP hS => lv_iadd X.x X.cb hd (k ls H locs hl hP hS)
theorem Lj.isub (X : Lx M b sb L xs) {x y : Int32} (hd : decode cL_law pc = .ok (.isub, 1)) (k : Lj M b Q nc ns (pc + 1) lv (.int (x - y) :: st) σc σr) : Lj M b Q nc ns pc lv (.int y :: .int x :: st) σc σr := fun ls H locs hl hP hS => lv_isub X.x X.cb hd (k ls H locs hl hP hS)
theorem Lj.iand (X : Lx M b sb L xs) {x y : Int32} (hd : decode cL_law pc = .ok (.iand, 1)) (k : Lj M b Q nc ns (pc + 1) lv (.int (x &&& y) :: st) σc σr) : Lj M b Q nc ns pc lv (.int y :: .int x :: st) σc σr := fun ls H locs hl hP hS => lv_iand X.x X.cb hd (k ls H locs hl hP hS)
theorem Lj.goto (X : Lx M b sb L xs) {off : Int} (tgt : Nat) (hd : decode cL_law pc = .ok (.goto off, 3)) (ht : (pc : Int) + off = (tgt : Int)) (k : Lj M b Q nc ns tgt lv st σc σr) : Lj M b Q nc ns pc lv st σc σr := fun ls H locs hl hP hS => lv_goto X.x X.cb hd ht (k ls H locs hl hP hS)
theorem Lj.iinc (X : Lx M b sb L xs) {i : Nat} {n : Int} {x v : Int32} (hd : decode cL_law pc = .ok (.iinc i n, 3)) (hx : lv[i]? = some (some (.int x))) (hv : x + Int32.ofInt n = v) (hn : i < 4) (hno : lvNo lv i = true) (k : Lj M b Q nc ns (pc + 3) (lv.set i (some (.int v))) st σc σr) : Lj M b Q nc ns pc lv st σc σr := fun ls H locs hl hP hS => by
  obtain ⟨kk, hk⟩ := lvl_pos hx
  exact lv_iinc X.x X.cb hd hl hk hv hn rfl (fun ls' h => k ls' H locs (lvH.set1 hno h) hP hS)
theorem Lj.slen (X : Lx M b sb L xs) (hd : decode cL_law pc = .ok (.arraylength, 1)) (k : Lj M b Q nc ns (pc + 1) lv (.int (Int32.ofNat L) :: st) σc σr) : Lj M b Q nc ns pc lv (.ref sb :: st) σc σr := fun ls H locs hl hP hS => va_slen X.x X.cb X.X (by rw [← X.a0]; exact X.sl) (Nat.not_le.mpr X.sl) hS hd (k ls H locs hl hP hS)
theorem Lj.sld (X : Lx M b sb L xs) {i : Int32} (j : Nat) (hi : i = nI j) (hj : j < L) (hL : L ≤ 3072) (hd : decode cL_law pc = .ok (.iaload, 1)) (k : Lj M b Q nc ns (pc + 1) lv (.int (xs j) :: st) σc σr) : Lj M b Q nc ns pc lv (.int i :: .ref sb :: st) σc σr := fun ls H locs hl hP hS => by
  have h := va_sld (i := i) X.x X.cb X.X (by rw [← X.a0]; exact X.sl) (Nat.not_le.mpr X.sl) hS (by rw [hi]; exact vp_in_nI hj (by omega)) hd (rest := st) (ls := ls) (l := ml M) (e := me M) (R := mR M) (below := mb M) (meth := mt M) (m := mm M) (cells := nc) (slots := ns) (Q := Q) (pc := pc) (args := ma M)
  refine h ?_
  rw [hi, nI_clamp (by omega)]
  exact k ls H locs hl hP hS
theorem Lj.arg (X : Lx M b sb L xs) {x3 : Int32} {nn : Int} {kc : Int32} (i kn : Nat) (hx : x3 = nI i) (hk : Int32.ofInt nn = kc) (hkn : kc = nI kn) (hj : i + kn < L) (hL : L ≤ 3072) (h0 : lv[0]? = some (some (.ref sb))) (h3 : lv[3]? = some (some (.int x3))) (d0 : decode cL_law pc = .ok (.aload_n 0, 1)) (d1 : decode cL_law (pc + 1) = .ok (.iload_n 3, 1)) (d2 : decode cL_law (pc + 2) = .ok (.iconst nn, 1)) (d3 : decode cL_law (pc + 3) = .ok (.iadd, 1)) (d4 : decode cL_law (pc + 4) = .ok (.iaload, 1)) (k : Lj M b Q nc ns (pc + 5) lv (.int (xs (i + kn)) :: st) σc σr) : Lj M b Q nc ns pc lv st σc σr :=
  Lj.aload_n (i := 0) X d0 rfl h0 (Lj.iload_n (i := 3) X d1 rfl h3 (Lj.iconst X d2 hk (Lj.iadd X d3 (Lj.sld X (i + kn) (by rw [hx, hkn, nI_add]) hj hL d4 k))))
theorem Lj.eqI (X : Lx M b sb L xs) {x : Int32} {off : Int} (tgt : Nat) (hd : decode cL_law pc = .ok (.if_icmp .eq off, 3)) (ht : (pc : Int) + off = (tgt : Int)) (k : Lj M b Q nc ns tgt lv st σc σr) : Lj M b Q nc ns pc lv (.int x :: .int x :: st) σc σr := fun ls H locs hl hP hS => lv_icmp_eq X.x X.cb hd ht (fun _ => k ls H locs hl hP hS) (fun h => absurd rfl h)
theorem lg_cmp_self (x : Int64) : lg_cmp x x = 0 := by
  unfold lg_cmp
  simp
theorem Lj.eqL (X : Lx M b sb L xs) {x : Int64} {off : Int} (tgt : Nat) (hd0 : decode cL_law pc = .ok (.lcmp, 1)) (hd : decode cL_law (pc + 1) = .ok (.ifCond .eq off, 3)) (ht : ((pc + 1 : Nat) : Int) + off = (tgt : Int)) (k : Lj M b Q nc ns tgt lv st σc σr) : Lj M b Q nc ns pc lv (.long x :: .long x :: st) σc σr := fun ls H locs hl hP hS => by
  refine W.lcmp X.x X.cb hd0 ?_
  rw [lg_cmp_self]
  exact lv_if_eq X.x X.cb hd ht (fun _ => k ls H locs hl hP hS) (fun h => absurd rfl h)
theorem Lj.gt (X : Lx M b sb L xs) {x y : Int32} {off : Int} (tgt : Nat) (hd : decode cL_law pc = .ok (.if_icmp .gt off, 3)) (ht : (pc : Int) + off = (tgt : Int)) (kt : y < x → Lj M b Q nc ns tgt lv st σc σr) (kf : ¬ y < x → Lj M b Q nc ns (pc + 3) lv st σc σr) : Lj M b Q nc ns pc lv (.int y :: .int x :: st) σc σr := fun ls H locs hl hP hS => lv_icmp_gt X.x X.cb hd ht (fun h => kt h ls H locs hl hP hS) (fun h => kf h ls H locs hl hP hS)
theorem Lj.tswI (X : Lx M b sb L xs) {x : Int32} {dflt lo hi off : Int} {offs : Array Int} {len : Nat} (v : Int32) (tgt : Nat) (h : x = v) (hd : decode cL_law pc = .ok (.tableswitch dflt lo hi offs, len)) (h1 : ¬ v.toInt < lo) (h2 : ¬ hi < v.toInt) (ho : offs[(v.toInt - lo).toNat]? = some off) (ht : (pc : Int) + off = (tgt : Int)) (k : Lj M b Q nc ns tgt lv st σc σr) : Lj M b Q nc ns pc lv (.int x :: st) σc σr := fun ls H locs hl hP hS => by
  subst h
  exact lv_tableIn X.x X.cb hd h1 h2 ho ht (k ls H locs hl hP hS)
theorem Lj.tswD (X : Lx M b sb L xs) {x : Int32} {dflt lo hi : Int} {offs : Array Int} {len : Nat} (tgt : Nat) (h : x.toInt < lo ∨ hi < x.toInt) (hd : decode cL_law pc = .ok (.tableswitch dflt lo hi offs, len)) (ht : (pc : Int) + dflt = (tgt : Int)) (k : Lj M b Q nc ns tgt lv st σc σr) : Lj M b Q nc ns pc lv (.int x :: st) σc σr := fun ls H locs hl hP hS => lv_tableOut X.x X.cb hd h ht (k ls H locs hl hP hS)
/-- behind a call from the law -/
theorem lqM {H : Heap} {locs : List Loc} {w : WE} {sh : List Shp} {ls : Array Slot} {st0 rest : List Value} {a : Array Value} {z : Option Value × Mem} (hr : va_Run (mp M) (ml M) (me M) (mR M) (mS M) (mm M) (ma M) (mb M) (mt M) (mc M) H locs nc ns 0 0 (F0 (mm M) pc ls st0) rest (QcM w sh z a) (AA w)) (hS : va_S (AA w) (mS M).heap H locs)
    (kk : ∀ (H1 : Heap) (locs1 : List Loc), Wd w sh z.2 H1 → va_S (AA w) (mS M).heap H1 locs1 → W (mp M) (ml M) (me M) (mR M) (mS M) (mm M) (ma M) (mb M) (mt M) (mc M) H1 locs1 nc ns Q (F0 (mm M) (pc + 3) ls (z.1.toList ++ rest))) : W (mp M) (ml M) (me M) (mR M) (mS M) (mm M) (ma M) (mb M) (mt M) (mc M) H locs nc ns Q (F0 (mm M) pc ls st0) := by
  intro T hT XT
  obtain ⟨v, st₀, t, T', Ls, h0, X', hL, e1, e2, ⟨hv, hP1, hz, hk⟩, stp⟩ := hr T hT XT
  cases hv
  rw [h0] at hz hk
  obtain ⟨t2, a1, b1⟩ := kk T'.heap (locs ++ Ls) (by rw [e1]; exact hP1)
    ⟨Nat.le_trans hS.1 (by rw [e1]; exact hz), fun q h1 h2 => by rw [e1, hk q (Nat.lt_of_lt_of_le h1 hS.1) h2]; exact hS.2.1 q h1 h2, fun q hq => by
      rcases List.mem_append.mp hq with h | h
      · exact hS.2.2 q h
      · exact hL q h⟩ T' rfl X'
  exact ⟨t2, stp t2 a1, b1⟩
def fitL (d' nL' : Nat) : Bool := decide (d' + 1 ≤ 13) && decide (8 + (nL' + 11) + 36 * d' ≤ 480)
theorem Lx.warm (X : Lx M b sb L xs) {y : MethodName} {cc' : ByteArray} {nL' : Nat} {ret' : Option FieldType} (hc : Cond.code y cc' nL' ret' ∈ TB) : ∀ x ∈ (Cond.code y cc' nL' ret' :: TB), ∀ (a' : Array Value) (U : State), (mS M).WarmedH U.vm → x.before a' U = true := fun x hx a' U hW => by
  have hx2 : x ∈ TB := by
    rcases List.mem_cons.mp hx with rfl | h
    · exact hc
    · exact h
  exact tb_warm X.t hW x hx2
theorem Lj.callC (X : Lx M b sb L xs) {y : MethodName} {cc' : ByteArray} {nL' n index d' : Nat} {ret' : Option FieldType} {v : Value} {τ : Mem} {stk : List Value} (As : List Value) (hy : y.cls = RX5) (hC : CalV y cc' nL' ret' n) (hk : Ctr (ml M) (wCc b σr) shC y cc' nL' ret' d' (.ref (b.2.2.1 0) :: As) σc (some v, τ)) (hl : Cond.methodLink RL index y ∈ TB) (hf : fitL d' nL' = true) (hn : As.length = n) (hd : decode cL_law pc = .ok (.invokevirtual index, 3)) (hc : nc ≤ 600000) (hs : ns ≤ 7302250) (hstk : stk = As.reverse ++ .ref (b.2.2.1 0) :: st) (hsum : (st.map fun v => v.category).sum ≤ 8) (kk : Lj M b Q nc ns (pc + 3) lv (v :: st) τ σr) : Lj M b Q nc ns pc lv stk σc σr := fun ls H locs hlv hP0 hS => by
  subst hstk
  have hP : Wd (wCc b σr) shC σc H := Wd_C.mpr hP0
  have hf' : d' + 1 ≤ 13 ∧ 8 + (nL' + 11) + 36 * d' ≤ 480 := by simpa [fitL] using hf
  refine lqM (w := wCc b σr) (sh := shC) (va_runV (C := y.cls) (As := As) (rest := st) ⟨X.x, X.cb, X.ml, X.o, X.t⟩ hk ⟨⟨rfl, rfl, by rw [X.rm]; exact hf'.1, by rw [X.rm]; exact hf'.2, X.warm hC.1.1, List.mem_cons_self, X.t _ hC.1.1, X.t _ hC.1.2.1, ⟨hC.1.2.2.1, hC.1.2.2.2.1⟩, hC.1.len, X.t _ hl⟩, X.t _ hC.2.1, X.t _ hC.2.2⟩ ⟨PcM.blind, ?_, fun U hU hW => ?_⟩ rfl hn hlv.1 rfl (lv_room hsum) hd (by rw [X.rm]; exact ⟨hc, hs⟩)) hS (fun H1 locs1 hP1 hS1 => kk ls H1 locs1 hlv (Wd_C.mp hP1) hS1)
  · have h := va_recv X.k hP (ci := 4) (q := (RX5, TX5, 8)) rfl (wM_at (w := wCc b σr) (σ := σc) sc_0)
    rw [hy]
    exact h
  · refine ⟨rfl, by rw [hU]; exact hP, va_K.moved hW.alike X.k, by rw [hU]; show la0 b ≤ _; rw [X.a0]; exact hS.1, ?_⟩
    rw [hU]
    exact Ext.warm hW (Ext.kept (Ext_C (r' := lR b σr) X.e) hS.2.1)
theorem Lj.callR (X : Lx M b sb L xs) {y : MethodName} {cc' : ByteArray} {nL' n index d' : Nat} {ret' : Option FieldType} {v : Value} {τ : Mem} {stk : List Value} (As : List Value) (hy : y.cls = RX6) (hC : CalV y cc' nL' ret' n) (hk : Ctr (ml M) (wRr b σc) shR y cc' nL' ret' d' (.ref (b.2.2.2.1 0) :: As) σr (some v, τ)) (hl : Cond.methodLink RL index y ∈ TB) (hf : fitL d' nL' = true) (hn : As.length = n) (hd : decode cL_law pc = .ok (.invokevirtual index, 3)) (hc : nc ≤ 600000) (hs : ns ≤ 7302250) (hstk : stk = As.reverse ++ .ref (b.2.2.2.1 0) :: st) (hsum : (st.map fun v => v.category).sum ≤ 8) (kk : Lj M b Q nc ns (pc + 3) lv (v :: st) σc τ) : Lj M b Q nc ns pc lv stk σc σr := fun ls H locs hlv hP0 hS => by
  subst hstk
  have hP : Wd (wRr b σc) shR σr H := Wd_R.mpr (va_P_perm List.perm_append_comm hP0)
  have hf' : d' + 1 ≤ 13 ∧ 8 + (nL' + 11) + 36 * d' ≤ 480 := by simpa [fitL] using hf
  refine lqM (w := wRr b σc) (sh := shR) (va_runV (C := y.cls) (As := As) (rest := st) ⟨X.x, X.cb, X.ml, X.o, X.t⟩ hk ⟨⟨rfl, rfl, by rw [X.rm]; exact hf'.1, by rw [X.rm]; exact hf'.2, X.warm hC.1.1, List.mem_cons_self, X.t _ hC.1.1, X.t _ hC.1.2.1, ⟨hC.1.2.2.1, hC.1.2.2.2.1⟩, hC.1.len, X.t _ hl⟩, X.t _ hC.2.1, X.t _ hC.2.2⟩ ⟨PcM.blind, ?_, fun U hU hW => ?_⟩ rfl hn hlv.1 rfl (lv_room hsum) hd (by rw [X.rm]; exact ⟨hc, hs⟩)) hS (fun H1 locs1 hP1 hS1 => kk ls H1 locs1 hlv (va_P_perm List.perm_append_comm (Wd_R.mp hP1)) hS1)
  · have h := va_recv X.k hP (ci := 5) (q := (RX6, TX6, 18)) rfl (wM_at (w := wRr b σc) (σ := σr) sr_0)
    rw [hy]
    exact h
  · refine ⟨rfl, by rw [hU]; exact hP, va_K.moved hW.alike X.k, by rw [hU]; show la0 b ≤ _; rw [X.a0]; exact hS.1, ?_⟩
    rw [hU]
    exact Ext.warm hW (Ext.kept (Ext_R (r' := lC b σc) X.e) hS.2.1)
end
/-- a step of both, answering alike -/
def StI (Inv : Mem → Mem → Prop) (f g : Mem → Option (Int32 × Mem)) : Prop := ∀ σc σr, Inv σc σr → ∃ v τc τr, f σc = some (v, τc) ∧ g σr = some (v, τr) ∧ Inv τc τr
def StL (Inv : Mem → Mem → Prop) (f g : Mem → Option (Int64 × Mem)) : Prop := ∀ σc σr, Inv σc σr → ∃ v τc τr, f σc = some (v, τc) ∧ g σr = some (v, τr) ∧ Inv τc τr
set_option maxRecDepth 20000 in
theorem lc0 {M : MC} {b : LB} {sb L : Nat} {xs : Nat → Int32} {Q : State → Prop} {nc ns : Nat} {σc σr : Mem} {Inv : Mem → Mem → Prop} (X : Lx M b sb L xs) (hL : L ≤ 3072) (hnc : nc ≤ 600000) (hns : ns ≤ 7302250) (h0 : ∀ a1 a2 : Int32, StI Inv (fX5_person a1 a2) (fX6_person a1 a2)) (x3 : Int32) (i : Nat) (hx3 : x3 = nI i) (hi : i + 6 ≤ L) (hI : Inv σc σr) (kk : ∀ τc τr, Inv τc τr → Lj M b Q nc ns 1632 [some (.ref sb), some (.ref (b.2.2.1 0)), some (.ref (b.2.2.2.1 0)), some (.int x3)] [] τc τr) : Lj M b Q nc ns 244 [some (.ref sb), some (.ref (b.2.2.1 0)), some (.ref (b.2.2.2.1 0)), some (.int x3)] [] σc σr := by
  obtain ⟨v, τc, τr, e1, e2, hI⟩ := h0 (xs (i + 1)) (xs (i + 2)) σc σr hI
  refine Lj.aload_n (i := 1) X dL_law_244 rfl rfl ?_
  refine Lj.arg X i 1 hx3 rfl rfl (by omega) hL rfl rfl dL_law_245 dL_law_246 dL_law_247 dL_law_248 dL_law_249 ?_
  refine Lj.arg X i 2 hx3 rfl rfl (by omega) hL rfl rfl dL_law_250 dL_law_251 dL_law_252 dL_law_253 dL_law_254 ?_
  refine Lj.callC (v := .int v) (τ := τc) (st := []) X [.int (xs (i + 1)), .int (xs (i + 2))] rfl cvX5_person (kX5_person (X.okC σr) (xs (i + 1)) (xs (i + 2)) σc _ e1) wmL_13 rfl rfl dL_law_255 hnc hns rfl (Nat.le_of_ble_eq_true rfl) ?_
  refine Lj.aload_n (i := 2) X dL_law_258 rfl rfl ?_
  refine Lj.arg X i 1 hx3 rfl rfl (by omega) hL rfl rfl dL_law_259 dL_law_260 dL_law_261 dL_law_262 dL_law_263 ?_
  refine Lj.arg X i 2 hx3 rfl rfl (by omega) hL rfl rfl dL_law_264 dL_law_265 dL_law_266 dL_law_267 dL_law_268 ?_
  refine Lj.callR (v := .int v) (τ := τr) (st := [.int v]) X [.int (xs (i + 1)), .int (xs (i + 2))] rfl cvX6_person (kX6_person (X.okR τc) (xs (i + 1)) (xs (i + 2)) σr _ e2) wmL_17 rfl rfl dL_law_269 hnc hns rfl (Nat.le_of_ble_eq_true rfl) ?_
  refine Lj.eqI X 1632 dL_law_272 (by decide) ?_
  exact kk τc τr hI
set_option maxRecDepth 20000 in
theorem lc1 {M : MC} {b : LB} {sb L : Nat} {xs : Nat → Int32} {Q : State → Prop} {nc ns : Nat} {σc σr : Mem} {Inv : Mem → Mem → Prop} (X : Lx M b sb L xs) (hL : L ≤ 3072) (hnc : nc ≤ 600000) (hns : ns ≤ 7302250) (h1 : ∀ a1 a2 : Int32, StI Inv (fX5_of a1 a2) (fX6_of a1 a2)) (x3 : Int32) (i : Nat) (hx3 : x3 = nI i) (hi : i + 6 ≤ L) (hI : Inv σc σr) (kk : ∀ τc τr, Inv τc τr → Lj M b Q nc ns 1632 [some (.ref sb), some (.ref (b.2.2.1 0)), some (.ref (b.2.2.2.1 0)), some (.int x3)] [] τc τr) : Lj M b Q nc ns 277 [some (.ref sb), some (.ref (b.2.2.1 0)), some (.ref (b.2.2.2.1 0)), some (.int x3)] [] σc σr := by
  obtain ⟨v, τc, τr, e1, e2, hI⟩ := h1 (xs (i + 1)) (xs (i + 2)) σc σr hI
  refine Lj.aload_n (i := 1) X dL_law_277 rfl rfl ?_
  refine Lj.arg X i 1 hx3 rfl rfl (by omega) hL rfl rfl dL_law_278 dL_law_279 dL_law_280 dL_law_281 dL_law_282 ?_
  refine Lj.arg X i 2 hx3 rfl rfl (by omega) hL rfl rfl dL_law_283 dL_law_284 dL_law_285 dL_law_286 dL_law_287 ?_
  refine Lj.callC (v := .int v) (τ := τc) (st := []) X [.int (xs (i + 1)), .int (xs (i + 2))] rfl cvX5_of (kX5_of (X.okC σr) (xs (i + 1)) (xs (i + 2)) σc _ e1) wmL_18 rfl rfl dL_law_288 hnc hns rfl (Nat.le_of_ble_eq_true rfl) ?_
  refine Lj.aload_n (i := 2) X dL_law_291 rfl rfl ?_
  refine Lj.arg X i 1 hx3 rfl rfl (by omega) hL rfl rfl dL_law_292 dL_law_293 dL_law_294 dL_law_295 dL_law_296 ?_
  refine Lj.arg X i 2 hx3 rfl rfl (by omega) hL rfl rfl dL_law_297 dL_law_298 dL_law_299 dL_law_300 dL_law_301 ?_
  refine Lj.callR (v := .int v) (τ := τr) (st := [.int v]) X [.int (xs (i + 1)), .int (xs (i + 2))] rfl cvX6_of (kX6_of (X.okR τc) (xs (i + 1)) (xs (i + 2)) σr _ e2) wmL_21 rfl rfl dL_law_302 hnc hns rfl (Nat.le_of_ble_eq_true rfl) ?_
  refine Lj.eqI X 1632 dL_law_305 (by decide) ?_
  exact kk τc τr hI
set_option maxRecDepth 20000 in
theorem lc2 {M : MC} {b : LB} {sb L : Nat} {xs : Nat → Int32} {Q : State → Prop} {nc ns : Nat} {σc σr : Mem} {Inv : Mem → Mem → Prop} (X : Lx M b sb L xs) (hL : L ≤ 3072) (hnc : nc ≤ 600000) (hns : ns ≤ 7302250) (h2 : ∀ a1 a2 a3 : Int32, StI Inv (fX5_change a1 a2 a3) (fX6_change a1 a2 a3)) (x3 : Int32) (i : Nat) (hx3 : x3 = nI i) (hi : i + 6 ≤ L) (hI : Inv σc σr) (kk : ∀ τc τr, Inv τc τr → Lj M b Q nc ns 1632 [some (.ref sb), some (.ref (b.2.2.1 0)), some (.ref (b.2.2.2.1 0)), some (.int x3)] [] τc τr) : Lj M b Q nc ns 310 [some (.ref sb), some (.ref (b.2.2.1 0)), some (.ref (b.2.2.2.1 0)), some (.int x3)] [] σc σr := by
  obtain ⟨v, τc, τr, e1, e2, hI⟩ := h2 (xs (i + 1)) (xs (i + 2)) (xs (i + 3)) σc σr hI
  refine Lj.aload_n (i := 1) X dL_law_310 rfl rfl ?_
  refine Lj.arg X i 1 hx3 rfl rfl (by omega) hL rfl rfl dL_law_311 dL_law_312 dL_law_313 dL_law_314 dL_law_315 ?_
  refine Lj.arg X i 2 hx3 rfl rfl (by omega) hL rfl rfl dL_law_316 dL_law_317 dL_law_318 dL_law_319 dL_law_320 ?_
  refine Lj.arg X i 3 hx3 rfl rfl (by omega) hL rfl rfl dL_law_321 dL_law_322 dL_law_323 dL_law_324 dL_law_325 ?_
  refine Lj.callC (v := .int v) (τ := τc) (st := []) X [.int (xs (i + 1)), .int (xs (i + 2)), .int (xs (i + 3))] rfl cvX5_change (kX5_change (X.okC σr) (xs (i + 1)) (xs (i + 2)) (xs (i + 3)) σc _ e1) wmL_22 rfl rfl dL_law_326 hnc hns rfl (Nat.le_of_ble_eq_true rfl) ?_
  refine Lj.aload_n (i := 2) X dL_law_329 rfl rfl ?_
  refine Lj.arg X i 1 hx3 rfl rfl (by omega) hL rfl rfl dL_law_330 dL_law_331 dL_law_332 dL_law_333 dL_law_334 ?_
  refine Lj.arg X i 2 hx3 rfl rfl (by omega) hL rfl rfl dL_law_335 dL_law_336 dL_law_337 dL_law_338 dL_law_339 ?_
  refine Lj.arg X i 3 hx3 rfl rfl (by omega) hL rfl rfl dL_law_340 dL_law_341 dL_law_342 dL_law_343 dL_law_344 ?_
  refine Lj.callR (v := .int v) (τ := τr) (st := [.int v]) X [.int (xs (i + 1)), .int (xs (i + 2)), .int (xs (i + 3))] rfl cvX6_change (kX6_change (X.okR τc) (xs (i + 1)) (xs (i + 2)) (xs (i + 3)) σr _ e2) wmL_26 rfl rfl dL_law_345 hnc hns rfl (Nat.le_of_ble_eq_true rfl) ?_
  refine Lj.eqI X 1632 dL_law_348 (by decide) ?_
  exact kk τc τr hI
set_option maxRecDepth 20000 in
theorem lc3 {M : MC} {b : LB} {sb L : Nat} {xs : Nat → Int32} {Q : State → Prop} {nc ns : Nat} {σc σr : Mem} {Inv : Mem → Mem → Prop} (X : Lx M b sb L xs) (hL : L ≤ 3072) (hnc : nc ≤ 600000) (hns : ns ≤ 7302250) (h3 : ∀ a1 a2 : Int32, StI Inv (fX5_joke a1 a2) (fX6_joke a1 a2)) (x3 : Int32) (i : Nat) (hx3 : x3 = nI i) (hi : i + 6 ≤ L) (hI : Inv σc σr) (kk : ∀ τc τr, Inv τc τr → Lj M b Q nc ns 1632 [some (.ref sb), some (.ref (b.2.2.1 0)), some (.ref (b.2.2.2.1 0)), some (.int x3)] [] τc τr) : Lj M b Q nc ns 353 [some (.ref sb), some (.ref (b.2.2.1 0)), some (.ref (b.2.2.2.1 0)), some (.int x3)] [] σc σr := by
  obtain ⟨v, τc, τr, e1, e2, hI⟩ := h3 (xs (i + 1)) (xs (i + 2)) σc σr hI
  refine Lj.aload_n (i := 1) X dL_law_353 rfl rfl ?_
  refine Lj.arg X i 1 hx3 rfl rfl (by omega) hL rfl rfl dL_law_354 dL_law_355 dL_law_356 dL_law_357 dL_law_358 ?_
  refine Lj.arg X i 2 hx3 rfl rfl (by omega) hL rfl rfl dL_law_359 dL_law_360 dL_law_361 dL_law_362 dL_law_363 ?_
  refine Lj.callC (v := .int v) (τ := τc) (st := []) X [.int (xs (i + 1)), .int (xs (i + 2))] rfl cvX5_joke (kX5_joke (X.okC σr) (xs (i + 1)) (xs (i + 2)) σc _ e1) wmL_27 rfl rfl dL_law_364 hnc hns rfl (Nat.le_of_ble_eq_true rfl) ?_
  refine Lj.aload_n (i := 2) X dL_law_367 rfl rfl ?_
  refine Lj.arg X i 1 hx3 rfl rfl (by omega) hL rfl rfl dL_law_368 dL_law_369 dL_law_370 dL_law_371 dL_law_372 ?_
  refine Lj.arg X i 2 hx3 rfl rfl (by omega) hL rfl rfl dL_law_373 dL_law_374 dL_law_375 dL_law_376 dL_law_377 ?_
  refine Lj.callR (v := .int v) (τ := τr) (st := [.int v]) X [.int (xs (i + 1)), .int (xs (i + 2))] rfl cvX6_joke (kX6_joke (X.okR τc) (xs (i + 1)) (xs (i + 2)) σr _ e2) wmL_30 rfl rfl dL_law_378 hnc hns rfl (Nat.le_of_ble_eq_true rfl) ?_
  refine Lj.eqI X 1632 dL_law_381 (by decide) ?_
  exact kk τc τr hI
set_option maxRecDepth 20000 in
theorem lc4 {M : MC} {b : LB} {sb L : Nat} {xs : Nat → Int32} {Q : State → Prop} {nc ns : Nat} {σc σr : Mem} {Inv : Mem → Mem → Prop} (X : Lx M b sb L xs) (hL : L ≤ 3072) (hnc : nc ≤ 600000) (hns : ns ≤ 7302250) (h4 : ∀ a1 a2 : Int32, StI Inv (fX5_jokeOf a1 a2) (fX6_jokeOf a1 a2)) (x3 : Int32) (i : Nat) (hx3 : x3 = nI i) (hi : i + 6 ≤ L) (hI : Inv σc σr) (kk : ∀ τc τr, Inv τc τr → Lj M b Q nc ns 1632 [some (.ref sb), some (.ref (b.2.2.1 0)), some (.ref (b.2.2.2.1 0)), some (.int x3)] [] τc τr) : Lj M b Q nc ns 386 [some (.ref sb), some (.ref (b.2.2.1 0)), some (.ref (b.2.2.2.1 0)), some (.int x3)] [] σc σr := by
  obtain ⟨v, τc, τr, e1, e2, hI⟩ := h4 (xs (i + 1)) (xs (i + 2)) σc σr hI
  refine Lj.aload_n (i := 1) X dL_law_386 rfl rfl ?_
  refine Lj.arg X i 1 hx3 rfl rfl (by omega) hL rfl rfl dL_law_387 dL_law_388 dL_law_389 dL_law_390 dL_law_391 ?_
  refine Lj.arg X i 2 hx3 rfl rfl (by omega) hL rfl rfl dL_law_392 dL_law_393 dL_law_394 dL_law_395 dL_law_396 ?_
  refine Lj.callC (v := .int v) (τ := τc) (st := []) X [.int (xs (i + 1)), .int (xs (i + 2))] rfl cvX5_jokeOf (kX5_jokeOf (X.okC σr) (xs (i + 1)) (xs (i + 2)) σc _ e1) wmL_31 rfl rfl dL_law_397 hnc hns rfl (Nat.le_of_ble_eq_true rfl) ?_
  refine Lj.aload_n (i := 2) X dL_law_400 rfl rfl ?_
  refine Lj.arg X i 1 hx3 rfl rfl (by omega) hL rfl rfl dL_law_401 dL_law_402 dL_law_403 dL_law_404 dL_law_405 ?_
  refine Lj.arg X i 2 hx3 rfl rfl (by omega) hL rfl rfl dL_law_406 dL_law_407 dL_law_408 dL_law_409 dL_law_410 ?_
  refine Lj.callR (v := .int v) (τ := τr) (st := [.int v]) X [.int (xs (i + 1)), .int (xs (i + 2))] rfl cvX6_jokeOf (kX6_jokeOf (X.okR τc) (xs (i + 1)) (xs (i + 2)) σr _ e2) wmL_34 rfl rfl dL_law_411 hnc hns rfl (Nat.le_of_ble_eq_true rfl) ?_
  refine Lj.eqI X 1632 dL_law_414 (by decide) ?_
  exact kk τc τr hI
set_option maxRecDepth 20000 in
theorem lc5 {M : MC} {b : LB} {sb L : Nat} {xs : Nat → Int32} {Q : State → Prop} {nc ns : Nat} {σc σr : Mem} {Inv : Mem → Mem → Prop} (X : Lx M b sb L xs) (hL : L ≤ 3072) (hnc : nc ≤ 600000) (hns : ns ≤ 7302250) (h5 : ∀ a1 a2 : Int32, StI Inv (fX5_law a1 a2) (fX6_law a1 a2)) (x3 : Int32) (i : Nat) (hx3 : x3 = nI i) (hi : i + 6 ≤ L) (hI : Inv σc σr) (kk : ∀ τc τr, Inv τc τr → Lj M b Q nc ns 1632 [some (.ref sb), some (.ref (b.2.2.1 0)), some (.ref (b.2.2.2.1 0)), some (.int x3)] [] τc τr) : Lj M b Q nc ns 419 [some (.ref sb), some (.ref (b.2.2.1 0)), some (.ref (b.2.2.2.1 0)), some (.int x3)] [] σc σr := by
  obtain ⟨v, τc, τr, e1, e2, hI⟩ := h5 (xs (i + 1)) (xs (i + 2)) σc σr hI
  refine Lj.aload_n (i := 1) X dL_law_419 rfl rfl ?_
  refine Lj.arg X i 1 hx3 rfl rfl (by omega) hL rfl rfl dL_law_420 dL_law_421 dL_law_422 dL_law_423 dL_law_424 ?_
  refine Lj.arg X i 2 hx3 rfl rfl (by omega) hL rfl rfl dL_law_425 dL_law_426 dL_law_427 dL_law_428 dL_law_429 ?_
  refine Lj.callC (v := .int v) (τ := τc) (st := []) X [.int (xs (i + 1)), .int (xs (i + 2))] rfl cvX5_law (kX5_law (X.okC σr) (xs (i + 1)) (xs (i + 2)) σc _ e1) wmL_35 rfl rfl dL_law_430 hnc hns rfl (Nat.le_of_ble_eq_true rfl) ?_
  refine Lj.aload_n (i := 2) X dL_law_433 rfl rfl ?_
  refine Lj.arg X i 1 hx3 rfl rfl (by omega) hL rfl rfl dL_law_434 dL_law_435 dL_law_436 dL_law_437 dL_law_438 ?_
  refine Lj.arg X i 2 hx3 rfl rfl (by omega) hL rfl rfl dL_law_439 dL_law_440 dL_law_441 dL_law_442 dL_law_443 ?_
  refine Lj.callR (v := .int v) (τ := τr) (st := [.int v]) X [.int (xs (i + 1)), .int (xs (i + 2))] rfl cvX6_law (kX6_law (X.okR τc) (xs (i + 1)) (xs (i + 2)) σr _ e2) wmL_38 rfl rfl dL_law_444 hnc hns rfl (Nat.le_of_ble_eq_true rfl) ?_
  refine Lj.eqI X 1632 dL_law_447 (by decide) ?_
  exact kk τc τr hI
set_option maxRecDepth 20000 in
theorem lc6 {M : MC} {b : LB} {sb L : Nat} {xs : Nat → Int32} {Q : State → Prop} {nc ns : Nat} {σc σr : Mem} {Inv : Mem → Mem → Prop} (X : Lx M b sb L xs) (hL : L ≤ 3072) (hnc : nc ≤ 600000) (hns : ns ≤ 7302250) (h6 : ∀ a1 a2 a3 : Int32, StI Inv (fX5_strength a1 a2 a3) (fX6_strength a1 a2 a3)) (x3 : Int32) (i : Nat) (hx3 : x3 = nI i) (hi : i + 6 ≤ L) (hI : Inv σc σr) (kk : ∀ τc τr, Inv τc τr → Lj M b Q nc ns 1632 [some (.ref sb), some (.ref (b.2.2.1 0)), some (.ref (b.2.2.2.1 0)), some (.int x3)] [] τc τr) : Lj M b Q nc ns 452 [some (.ref sb), some (.ref (b.2.2.1 0)), some (.ref (b.2.2.2.1 0)), some (.int x3)] [] σc σr := by
  obtain ⟨v, τc, τr, e1, e2, hI⟩ := h6 (xs (i + 1)) (xs (i + 2)) (xs (i + 3)) σc σr hI
  refine Lj.aload_n (i := 1) X dL_law_452 rfl rfl ?_
  refine Lj.arg X i 1 hx3 rfl rfl (by omega) hL rfl rfl dL_law_453 dL_law_454 dL_law_455 dL_law_456 dL_law_457 ?_
  refine Lj.arg X i 2 hx3 rfl rfl (by omega) hL rfl rfl dL_law_458 dL_law_459 dL_law_460 dL_law_461 dL_law_462 ?_
  refine Lj.arg X i 3 hx3 rfl rfl (by omega) hL rfl rfl dL_law_463 dL_law_464 dL_law_465 dL_law_466 dL_law_467 ?_
  refine Lj.callC (v := .int v) (τ := τc) (st := []) X [.int (xs (i + 1)), .int (xs (i + 2)), .int (xs (i + 3))] rfl cvX5_strength (kX5_strength (X.okC σr) (xs (i + 1)) (xs (i + 2)) (xs (i + 3)) σc _ e1) wmL_39 rfl rfl dL_law_468 hnc hns rfl (Nat.le_of_ble_eq_true rfl) ?_
  refine Lj.aload_n (i := 2) X dL_law_471 rfl rfl ?_
  refine Lj.arg X i 1 hx3 rfl rfl (by omega) hL rfl rfl dL_law_472 dL_law_473 dL_law_474 dL_law_475 dL_law_476 ?_
  refine Lj.arg X i 2 hx3 rfl rfl (by omega) hL rfl rfl dL_law_477 dL_law_478 dL_law_479 dL_law_480 dL_law_481 ?_
  refine Lj.arg X i 3 hx3 rfl rfl (by omega) hL rfl rfl dL_law_482 dL_law_483 dL_law_484 dL_law_485 dL_law_486 ?_
  refine Lj.callR (v := .int v) (τ := τr) (st := [.int v]) X [.int (xs (i + 1)), .int (xs (i + 2)), .int (xs (i + 3))] rfl cvX6_strength (kX6_strength (X.okR τc) (xs (i + 1)) (xs (i + 2)) (xs (i + 3)) σr _ e2) wmL_42 rfl rfl dL_law_487 hnc hns rfl (Nat.le_of_ble_eq_true rfl) ?_
  refine Lj.eqI X 1632 dL_law_490 (by decide) ?_
  exact kk τc τr hI
set_option maxRecDepth 20000 in
theorem lc7 {M : MC} {b : LB} {sb L : Nat} {xs : Nat → Int32} {Q : State → Prop} {nc ns : Nat} {σc σr : Mem} {Inv : Mem → Mem → Prop} (X : Lx M b sb L xs) (hL : L ≤ 3072) (hnc : nc ≤ 600000) (hns : ns ≤ 7302250) (h7 : ∀ a1 : Int32, StI Inv (fX5_tell a1) (fX6_tell a1)) (x3 : Int32) (i : Nat) (hx3 : x3 = nI i) (hi : i + 6 ≤ L) (hI : Inv σc σr) (kk : ∀ τc τr, Inv τc τr → Lj M b Q nc ns 1632 [some (.ref sb), some (.ref (b.2.2.1 0)), some (.ref (b.2.2.2.1 0)), some (.int x3)] [] τc τr) : Lj M b Q nc ns 495 [some (.ref sb), some (.ref (b.2.2.1 0)), some (.ref (b.2.2.2.1 0)), some (.int x3)] [] σc σr := by
  obtain ⟨v, τc, τr, e1, e2, hI⟩ := h7 (xs (i + 1)) σc σr hI
  refine Lj.aload_n (i := 1) X dL_law_495 rfl rfl ?_
  refine Lj.arg X i 1 hx3 rfl rfl (by omega) hL rfl rfl dL_law_496 dL_law_497 dL_law_498 dL_law_499 dL_law_500 ?_
  refine Lj.callC (v := .int v) (τ := τc) (st := []) X [.int (xs (i + 1))] rfl cvX5_tell (kX5_tell (X.okC σr) (xs (i + 1)) σc _ e1) wmL_43 rfl rfl dL_law_501 hnc hns rfl (Nat.le_of_ble_eq_true rfl) ?_
  refine Lj.aload_n (i := 2) X dL_law_504 rfl rfl ?_
  refine Lj.arg X i 1 hx3 rfl rfl (by omega) hL rfl rfl dL_law_505 dL_law_506 dL_law_507 dL_law_508 dL_law_509 ?_
  refine Lj.callR (v := .int v) (τ := τr) (st := [.int v]) X [.int (xs (i + 1))] rfl cvX6_tell (kX6_tell (X.okR τc) (xs (i + 1)) σr _ e2) wmL_47 rfl rfl dL_law_510 hnc hns rfl (Nat.le_of_ble_eq_true rfl) ?_
  refine Lj.eqI X 1632 dL_law_513 (by decide) ?_
  exact kk τc τr hI
set_option maxRecDepth 20000 in
theorem lc8 {M : MC} {b : LB} {sb L : Nat} {xs : Nat → Int32} {Q : State → Prop} {nc ns : Nat} {σc σr : Mem} {Inv : Mem → Mem → Prop} (X : Lx M b sb L xs) (hL : L ≤ 3072) (hnc : nc ≤ 600000) (hns : ns ≤ 7302250) (h8 : ∀ a1 a2 : Int32, StI Inv (fX5_evening a1 a2) (fX6_evening a1 a2)) (x3 : Int32) (i : Nat) (hx3 : x3 = nI i) (hi : i + 6 ≤ L) (hI : Inv σc σr) (kk : ∀ τc τr, Inv τc τr → Lj M b Q nc ns 1632 [some (.ref sb), some (.ref (b.2.2.1 0)), some (.ref (b.2.2.2.1 0)), some (.int x3)] [] τc τr) : Lj M b Q nc ns 518 [some (.ref sb), some (.ref (b.2.2.1 0)), some (.ref (b.2.2.2.1 0)), some (.int x3)] [] σc σr := by
  obtain ⟨v, τc, τr, e1, e2, hI⟩ := h8 (xs (i + 1)) (xs (i + 2)) σc σr hI
  refine Lj.aload_n (i := 1) X dL_law_518 rfl rfl ?_
  refine Lj.arg X i 1 hx3 rfl rfl (by omega) hL rfl rfl dL_law_519 dL_law_520 dL_law_521 dL_law_522 dL_law_523 ?_
  refine Lj.arg X i 2 hx3 rfl rfl (by omega) hL rfl rfl dL_law_524 dL_law_525 dL_law_526 dL_law_527 dL_law_528 ?_
  refine Lj.callC (v := .int v) (τ := τc) (st := []) X [.int (xs (i + 1)), .int (xs (i + 2))] rfl cvX5_evening (kX5_evening (X.okC σr) (xs (i + 1)) (xs (i + 2)) σc _ e1) wmL_48 rfl rfl dL_law_529 hnc hns rfl (Nat.le_of_ble_eq_true rfl) ?_
  refine Lj.aload_n (i := 2) X dL_law_532 rfl rfl ?_
  refine Lj.arg X i 1 hx3 rfl rfl (by omega) hL rfl rfl dL_law_533 dL_law_534 dL_law_535 dL_law_536 dL_law_537 ?_
  refine Lj.arg X i 2 hx3 rfl rfl (by omega) hL rfl rfl dL_law_538 dL_law_539 dL_law_540 dL_law_541 dL_law_542 ?_
  refine Lj.callR (v := .int v) (τ := τr) (st := [.int v]) X [.int (xs (i + 1)), .int (xs (i + 2))] rfl cvX6_evening (kX6_evening (X.okR τc) (xs (i + 1)) (xs (i + 2)) σr _ e2) wmL_51 rfl rfl dL_law_543 hnc hns rfl (Nat.le_of_ble_eq_true rfl) ?_
  refine Lj.eqI X 1632 dL_law_546 (by decide) ?_
  exact kk τc τr hI
set_option maxRecDepth 20000 in
theorem lc9 {M : MC} {b : LB} {sb L : Nat} {xs : Nat → Int32} {Q : State → Prop} {nc ns : Nat} {σc σr : Mem} {Inv : Mem → Mem → Prop} (X : Lx M b sb L xs) (hL : L ≤ 3072) (hnc : nc ≤ 600000) (hns : ns ≤ 7302250) (h9 : ∀ a1 : Int32, StI Inv (fX5_now a1) (fX6_now a1)) (x3 : Int32) (i : Nat) (hx3 : x3 = nI i) (hi : i + 6 ≤ L) (hI : Inv σc σr) (kk : ∀ τc τr, Inv τc τr → Lj M b Q nc ns 1632 [some (.ref sb), some (.ref (b.2.2.1 0)), some (.ref (b.2.2.2.1 0)), some (.int x3)] [] τc τr) : Lj M b Q nc ns 551 [some (.ref sb), some (.ref (b.2.2.1 0)), some (.ref (b.2.2.2.1 0)), some (.int x3)] [] σc σr := by
  obtain ⟨v, τc, τr, e1, e2, hI⟩ := h9 (xs (i + 1)) σc σr hI
  refine Lj.aload_n (i := 1) X dL_law_551 rfl rfl ?_
  refine Lj.arg X i 1 hx3 rfl rfl (by omega) hL rfl rfl dL_law_552 dL_law_553 dL_law_554 dL_law_555 dL_law_556 ?_
  refine Lj.callC (v := .int v) (τ := τc) (st := []) X [.int (xs (i + 1))] rfl cvX5_now (kX5_now (X.okC σr) (xs (i + 1)) σc _ e1) wmL_52 rfl rfl dL_law_557 hnc hns rfl (Nat.le_of_ble_eq_true rfl) ?_
  refine Lj.aload_n (i := 2) X dL_law_560 rfl rfl ?_
  refine Lj.arg X i 1 hx3 rfl rfl (by omega) hL rfl rfl dL_law_561 dL_law_562 dL_law_563 dL_law_564 dL_law_565 ?_
  refine Lj.callR (v := .int v) (τ := τr) (st := [.int v]) X [.int (xs (i + 1))] rfl cvX6_now (kX6_now (X.okR τc) (xs (i + 1)) σr _ e2) wmL_55 rfl rfl dL_law_566 hnc hns rfl (Nat.le_of_ble_eq_true rfl) ?_
  refine Lj.eqI X 1632 dL_law_569 (by decide) ?_
  exact kk τc τr hI
set_option maxRecDepth 20000 in
theorem lc10 {M : MC} {b : LB} {sb L : Nat} {xs : Nat → Int32} {Q : State → Prop} {nc ns : Nat} {σc σr : Mem} {Inv : Mem → Mem → Prop} (X : Lx M b sb L xs) (hL : L ≤ 3072) (hnc : nc ≤ 600000) (hns : ns ≤ 7302250) (h10 : ∀ a1 : Int32, StI Inv (fX5_relief a1) (fX6_relief a1)) (x3 : Int32) (i : Nat) (hx3 : x3 = nI i) (hi : i + 6 ≤ L) (hI : Inv σc σr) (kk : ∀ τc τr, Inv τc τr → Lj M b Q nc ns 1632 [some (.ref sb), some (.ref (b.2.2.1 0)), some (.ref (b.2.2.2.1 0)), some (.int x3)] [] τc τr) : Lj M b Q nc ns 574 [some (.ref sb), some (.ref (b.2.2.1 0)), some (.ref (b.2.2.2.1 0)), some (.int x3)] [] σc σr := by
  obtain ⟨v, τc, τr, e1, e2, hI⟩ := h10 (xs (i + 1)) σc σr hI
  refine Lj.aload_n (i := 1) X dL_law_574 rfl rfl ?_
  refine Lj.arg X i 1 hx3 rfl rfl (by omega) hL rfl rfl dL_law_575 dL_law_576 dL_law_577 dL_law_578 dL_law_579 ?_
  refine Lj.callC (v := .int v) (τ := τc) (st := []) X [.int (xs (i + 1))] rfl cvX5_relief (kX5_relief (X.okC σr) (xs (i + 1)) σc _ e1) wmL_56 rfl rfl dL_law_580 hnc hns rfl (Nat.le_of_ble_eq_true rfl) ?_
  refine Lj.aload_n (i := 2) X dL_law_583 rfl rfl ?_
  refine Lj.arg X i 1 hx3 rfl rfl (by omega) hL rfl rfl dL_law_584 dL_law_585 dL_law_586 dL_law_587 dL_law_588 ?_
  refine Lj.callR (v := .int v) (τ := τr) (st := [.int v]) X [.int (xs (i + 1))] rfl cvX6_relief (kX6_relief (X.okR τc) (xs (i + 1)) σr _ e2) wmL_59 rfl rfl dL_law_589 hnc hns rfl (Nat.le_of_ble_eq_true rfl) ?_
  refine Lj.eqI X 1632 dL_law_592 (by decide) ?_
  exact kk τc τr hI
set_option maxRecDepth 20000 in
theorem lc11 {M : MC} {b : LB} {sb L : Nat} {xs : Nat → Int32} {Q : State → Prop} {nc ns : Nat} {σc σr : Mem} {Inv : Mem → Mem → Prop} (X : Lx M b sb L xs) (hL : L ≤ 3072) (hnc : nc ≤ 600000) (hns : ns ≤ 7302250) (h11 : ∀ a1 a2 : Int32, StI Inv (fX5_laugh a1 a2) (fX6_laugh a1 a2)) (x3 : Int32) (i : Nat) (hx3 : x3 = nI i) (hi : i + 6 ≤ L) (hI : Inv σc σr) (kk : ∀ τc τr, Inv τc τr → Lj M b Q nc ns 1632 [some (.ref sb), some (.ref (b.2.2.1 0)), some (.ref (b.2.2.2.1 0)), some (.int x3)] [] τc τr) : Lj M b Q nc ns 597 [some (.ref sb), some (.ref (b.2.2.1 0)), some (.ref (b.2.2.2.1 0)), some (.int x3)] [] σc σr := by
  obtain ⟨v, τc, τr, e1, e2, hI⟩ := h11 (xs (i + 1)) (xs (i + 2)) σc σr hI
  refine Lj.aload_n (i := 1) X dL_law_597 rfl rfl ?_
  refine Lj.arg X i 1 hx3 rfl rfl (by omega) hL rfl rfl dL_law_598 dL_law_599 dL_law_600 dL_law_601 dL_law_602 ?_
  refine Lj.arg X i 2 hx3 rfl rfl (by omega) hL rfl rfl dL_law_603 dL_law_604 dL_law_605 dL_law_606 dL_law_607 ?_
  refine Lj.callC (v := .int v) (τ := τc) (st := []) X [.int (xs (i + 1)), .int (xs (i + 2))] rfl cvX5_laugh (kX5_laugh (X.okC σr) (xs (i + 1)) (xs (i + 2)) σc _ e1) wmL_60 rfl rfl dL_law_608 hnc hns rfl (Nat.le_of_ble_eq_true rfl) ?_
  refine Lj.aload_n (i := 2) X dL_law_611 rfl rfl ?_
  refine Lj.arg X i 1 hx3 rfl rfl (by omega) hL rfl rfl dL_law_612 dL_law_613 dL_law_614 dL_law_615 dL_law_616 ?_
  refine Lj.arg X i 2 hx3 rfl rfl (by omega) hL rfl rfl dL_law_617 dL_law_618 dL_law_619 dL_law_620 dL_law_621 ?_
  refine Lj.callR (v := .int v) (τ := τr) (st := [.int v]) X [.int (xs (i + 1)), .int (xs (i + 2))] rfl cvX6_laugh (kX6_laugh (X.okR τc) (xs (i + 1)) (xs (i + 2)) σr _ e2) wmL_63 rfl rfl dL_law_622 hnc hns rfl (Nat.le_of_ble_eq_true rfl) ?_
  refine Lj.eqI X 1632 dL_law_625 (by decide) ?_
  exact kk τc τr hI
set_option maxRecDepth 20000 in
theorem lc12 {M : MC} {b : LB} {sb L : Nat} {xs : Nat → Int32} {Q : State → Prop} {nc ns : Nat} {σc σr : Mem} {Inv : Mem → Mem → Prop} (X : Lx M b sb L xs) (hL : L ≤ 3072) (hnc : nc ≤ 600000) (hns : ns ≤ 7302250) (h12 : ∀ a1 : Int32, StI Inv (fX5_rounds a1) (fX6_rounds a1)) (x3 : Int32) (i : Nat) (hx3 : x3 = nI i) (hi : i + 6 ≤ L) (hI : Inv σc σr) (kk : ∀ τc τr, Inv τc τr → Lj M b Q nc ns 1632 [some (.ref sb), some (.ref (b.2.2.1 0)), some (.ref (b.2.2.2.1 0)), some (.int x3)] [] τc τr) : Lj M b Q nc ns 630 [some (.ref sb), some (.ref (b.2.2.1 0)), some (.ref (b.2.2.2.1 0)), some (.int x3)] [] σc σr := by
  obtain ⟨v, τc, τr, e1, e2, hI⟩ := h12 (xs (i + 1)) σc σr hI
  refine Lj.aload_n (i := 1) X dL_law_630 rfl rfl ?_
  refine Lj.arg X i 1 hx3 rfl rfl (by omega) hL rfl rfl dL_law_631 dL_law_632 dL_law_633 dL_law_634 dL_law_635 ?_
  refine Lj.callC (v := .int v) (τ := τc) (st := []) X [.int (xs (i + 1))] rfl cvX5_rounds (kX5_rounds (X.okC σr) (xs (i + 1)) σc _ e1) wmL_64 rfl rfl dL_law_636 hnc hns rfl (Nat.le_of_ble_eq_true rfl) ?_
  refine Lj.aload_n (i := 2) X dL_law_639 rfl rfl ?_
  refine Lj.arg X i 1 hx3 rfl rfl (by omega) hL rfl rfl dL_law_640 dL_law_641 dL_law_642 dL_law_643 dL_law_644 ?_
  refine Lj.callR (v := .int v) (τ := τr) (st := [.int v]) X [.int (xs (i + 1))] rfl cvX6_rounds (kX6_rounds (X.okR τc) (xs (i + 1)) σr _ e2) wmL_67 rfl rfl dL_law_645 hnc hns rfl (Nat.le_of_ble_eq_true rfl) ?_
  refine Lj.eqI X 1632 dL_law_648 (by decide) ?_
  exact kk τc τr hI
set_option maxRecDepth 20000 in
theorem lc13 {M : MC} {b : LB} {sb L : Nat} {xs : Nat → Int32} {Q : State → Prop} {nc ns : Nat} {σc σr : Mem} {Inv : Mem → Mem → Prop} (X : Lx M b sb L xs) (hL : L ≤ 3072) (hnc : nc ≤ 600000) (hns : ns ≤ 7302250) (h13 : ∀ a1 : Int32, StI Inv (fX5_raised a1) (fX6_raised a1)) (x3 : Int32) (i : Nat) (hx3 : x3 = nI i) (hi : i + 6 ≤ L) (hI : Inv σc σr) (kk : ∀ τc τr, Inv τc τr → Lj M b Q nc ns 1632 [some (.ref sb), some (.ref (b.2.2.1 0)), some (.ref (b.2.2.2.1 0)), some (.int x3)] [] τc τr) : Lj M b Q nc ns 653 [some (.ref sb), some (.ref (b.2.2.1 0)), some (.ref (b.2.2.2.1 0)), some (.int x3)] [] σc σr := by
  obtain ⟨v, τc, τr, e1, e2, hI⟩ := h13 (xs (i + 1)) σc σr hI
  refine Lj.aload_n (i := 1) X dL_law_653 rfl rfl ?_
  refine Lj.arg X i 1 hx3 rfl rfl (by omega) hL rfl rfl dL_law_654 dL_law_655 dL_law_656 dL_law_657 dL_law_658 ?_
  refine Lj.callC (v := .int v) (τ := τc) (st := []) X [.int (xs (i + 1))] rfl cvX5_raised (kX5_raised (X.okC σr) (xs (i + 1)) σc _ e1) wmL_68 rfl rfl dL_law_659 hnc hns rfl (Nat.le_of_ble_eq_true rfl) ?_
  refine Lj.aload_n (i := 2) X dL_law_662 rfl rfl ?_
  refine Lj.arg X i 1 hx3 rfl rfl (by omega) hL rfl rfl dL_law_663 dL_law_664 dL_law_665 dL_law_666 dL_law_667 ?_
  refine Lj.callR (v := .int v) (τ := τr) (st := [.int v]) X [.int (xs (i + 1))] rfl cvX6_raised (kX6_raised (X.okR τc) (xs (i + 1)) σr _ e2) wmL_71 rfl rfl dL_law_668 hnc hns rfl (Nat.le_of_ble_eq_true rfl) ?_
  refine Lj.eqI X 1632 dL_law_671 (by decide) ?_
  exact kk τc τr hI
set_option maxRecDepth 20000 in
theorem lc14 {M : MC} {b : LB} {sb L : Nat} {xs : Nat → Int32} {Q : State → Prop} {nc ns : Nat} {σc σr : Mem} {Inv : Mem → Mem → Prop} (X : Lx M b sb L xs) (hL : L ≤ 3072) (hnc : nc ≤ 600000) (hns : ns ≤ 7302250) (h14 : ∀ a1 a2 : Int32, StI Inv (fX5_ahead a1 a2) (fX6_ahead a1 a2)) (x3 : Int32) (i : Nat) (hx3 : x3 = nI i) (hi : i + 6 ≤ L) (hI : Inv σc σr) (kk : ∀ τc τr, Inv τc τr → Lj M b Q nc ns 1632 [some (.ref sb), some (.ref (b.2.2.1 0)), some (.ref (b.2.2.2.1 0)), some (.int x3)] [] τc τr) : Lj M b Q nc ns 676 [some (.ref sb), some (.ref (b.2.2.1 0)), some (.ref (b.2.2.2.1 0)), some (.int x3)] [] σc σr := by
  obtain ⟨v, τc, τr, e1, e2, hI⟩ := h14 (xs (i + 1)) (xs (i + 2)) σc σr hI
  refine Lj.aload_n (i := 1) X dL_law_676 rfl rfl ?_
  refine Lj.arg X i 1 hx3 rfl rfl (by omega) hL rfl rfl dL_law_677 dL_law_678 dL_law_679 dL_law_680 dL_law_681 ?_
  refine Lj.arg X i 2 hx3 rfl rfl (by omega) hL rfl rfl dL_law_682 dL_law_683 dL_law_684 dL_law_685 dL_law_686 ?_
  refine Lj.callC (v := .int v) (τ := τc) (st := []) X [.int (xs (i + 1)), .int (xs (i + 2))] rfl cvX5_ahead (kX5_ahead (X.okC σr) (xs (i + 1)) (xs (i + 2)) σc _ e1) wmL_72 rfl rfl dL_law_687 hnc hns rfl (Nat.le_of_ble_eq_true rfl) ?_
  refine Lj.aload_n (i := 2) X dL_law_690 rfl rfl ?_
  refine Lj.arg X i 1 hx3 rfl rfl (by omega) hL rfl rfl dL_law_691 dL_law_692 dL_law_693 dL_law_694 dL_law_695 ?_
  refine Lj.arg X i 2 hx3 rfl rfl (by omega) hL rfl rfl dL_law_696 dL_law_697 dL_law_698 dL_law_699 dL_law_700 ?_
  refine Lj.callR (v := .int v) (τ := τr) (st := [.int v]) X [.int (xs (i + 1)), .int (xs (i + 2))] rfl cvX6_ahead (kX6_ahead (X.okR τc) (xs (i + 1)) (xs (i + 2)) σr _ e2) wmL_75 rfl rfl dL_law_701 hnc hns rfl (Nat.le_of_ble_eq_true rfl) ?_
  refine Lj.eqI X 1632 dL_law_704 (by decide) ?_
  exact kk τc τr hI
set_option maxRecDepth 20000 in
theorem lc15 {M : MC} {b : LB} {sb L : Nat} {xs : Nat → Int32} {Q : State → Prop} {nc ns : Nat} {σc σr : Mem} {Inv : Mem → Mem → Prop} (X : Lx M b sb L xs) (hL : L ≤ 3072) (hnc : nc ≤ 600000) (hns : ns ≤ 7302250) (h15 : ∀ a1 : Int32, StI Inv (fX5_stale a1) (fX6_stale a1)) (x3 : Int32) (i : Nat) (hx3 : x3 = nI i) (hi : i + 6 ≤ L) (hI : Inv σc σr) (kk : ∀ τc τr, Inv τc τr → Lj M b Q nc ns 1632 [some (.ref sb), some (.ref (b.2.2.1 0)), some (.ref (b.2.2.2.1 0)), some (.int x3)] [] τc τr) : Lj M b Q nc ns 709 [some (.ref sb), some (.ref (b.2.2.1 0)), some (.ref (b.2.2.2.1 0)), some (.int x3)] [] σc σr := by
  obtain ⟨v, τc, τr, e1, e2, hI⟩ := h15 (xs (i + 1)) σc σr hI
  refine Lj.aload_n (i := 1) X dL_law_709 rfl rfl ?_
  refine Lj.arg X i 1 hx3 rfl rfl (by omega) hL rfl rfl dL_law_710 dL_law_711 dL_law_712 dL_law_713 dL_law_714 ?_
  refine Lj.callC (v := .int v) (τ := τc) (st := []) X [.int (xs (i + 1))] rfl cvX5_stale (kX5_stale (X.okC σr) (xs (i + 1)) σc _ e1) wmL_76 rfl rfl dL_law_715 hnc hns rfl (Nat.le_of_ble_eq_true rfl) ?_
  refine Lj.aload_n (i := 2) X dL_law_718 rfl rfl ?_
  refine Lj.arg X i 1 hx3 rfl rfl (by omega) hL rfl rfl dL_law_719 dL_law_720 dL_law_721 dL_law_722 dL_law_723 ?_
  refine Lj.callR (v := .int v) (τ := τr) (st := [.int v]) X [.int (xs (i + 1))] rfl cvX6_stale (kX6_stale (X.okR τc) (xs (i + 1)) σr _ e2) wmL_79 rfl rfl dL_law_724 hnc hns rfl (Nat.le_of_ble_eq_true rfl) ?_
  refine Lj.eqI X 1632 dL_law_727 (by decide) ?_
  exact kk τc τr hI
set_option maxRecDepth 20000 in
theorem lc16 {M : MC} {b : LB} {sb L : Nat} {xs : Nat → Int32} {Q : State → Prop} {nc ns : Nat} {σc σr : Mem} {Inv : Mem → Mem → Prop} (X : Lx M b sb L xs) (hL : L ≤ 3072) (hnc : nc ≤ 600000) (hns : ns ≤ 7302250) (h16 : ∀ a1 a2 : Int32, StI Inv (fX5_broke a1 a2) (fX6_broke a1 a2)) (x3 : Int32) (i : Nat) (hx3 : x3 = nI i) (hi : i + 6 ≤ L) (hI : Inv σc σr) (kk : ∀ τc τr, Inv τc τr → Lj M b Q nc ns 1632 [some (.ref sb), some (.ref (b.2.2.1 0)), some (.ref (b.2.2.2.1 0)), some (.int x3)] [] τc τr) : Lj M b Q nc ns 732 [some (.ref sb), some (.ref (b.2.2.1 0)), some (.ref (b.2.2.2.1 0)), some (.int x3)] [] σc σr := by
  obtain ⟨v, τc, τr, e1, e2, hI⟩ := h16 (xs (i + 1)) (xs (i + 2)) σc σr hI
  refine Lj.aload_n (i := 1) X dL_law_732 rfl rfl ?_
  refine Lj.arg X i 1 hx3 rfl rfl (by omega) hL rfl rfl dL_law_733 dL_law_734 dL_law_735 dL_law_736 dL_law_737 ?_
  refine Lj.arg X i 2 hx3 rfl rfl (by omega) hL rfl rfl dL_law_738 dL_law_739 dL_law_740 dL_law_741 dL_law_742 ?_
  refine Lj.callC (v := .int v) (τ := τc) (st := []) X [.int (xs (i + 1)), .int (xs (i + 2))] rfl cvX5_broke (kX5_broke (X.okC σr) (xs (i + 1)) (xs (i + 2)) σc _ e1) wmL_80 rfl rfl dL_law_743 hnc hns rfl (Nat.le_of_ble_eq_true rfl) ?_
  refine Lj.aload_n (i := 2) X dL_law_746 rfl rfl ?_
  refine Lj.arg X i 1 hx3 rfl rfl (by omega) hL rfl rfl dL_law_747 dL_law_748 dL_law_749 dL_law_750 dL_law_751 ?_
  refine Lj.arg X i 2 hx3 rfl rfl (by omega) hL rfl rfl dL_law_752 dL_law_753 dL_law_754 dL_law_755 dL_law_756 ?_
  refine Lj.callR (v := .int v) (τ := τr) (st := [.int v]) X [.int (xs (i + 1)), .int (xs (i + 2))] rfl cvX6_broke (kX6_broke (X.okR τc) (xs (i + 1)) (xs (i + 2)) σr _ e2) wmL_83 rfl rfl dL_law_757 hnc hns rfl (Nat.le_of_ble_eq_true rfl) ?_
  refine Lj.eqI X 1632 dL_law_760 (by decide) ?_
  exact kk τc τr hI
set_option maxRecDepth 20000 in
theorem lc17 {M : MC} {b : LB} {sb L : Nat} {xs : Nat → Int32} {Q : State → Prop} {nc ns : Nat} {σc σr : Mem} {Inv : Mem → Mem → Prop} (X : Lx M b sb L xs) (hL : L ≤ 3072) (hnc : nc ≤ 600000) (hns : ns ≤ 7302250) (h17 : ∀ a1 : Int32, StI Inv (fX5_caught a1) (fX6_caught a1)) (x3 : Int32) (i : Nat) (hx3 : x3 = nI i) (hi : i + 6 ≤ L) (hI : Inv σc σr) (kk : ∀ τc τr, Inv τc τr → Lj M b Q nc ns 1632 [some (.ref sb), some (.ref (b.2.2.1 0)), some (.ref (b.2.2.2.1 0)), some (.int x3)] [] τc τr) : Lj M b Q nc ns 765 [some (.ref sb), some (.ref (b.2.2.1 0)), some (.ref (b.2.2.2.1 0)), some (.int x3)] [] σc σr := by
  obtain ⟨v, τc, τr, e1, e2, hI⟩ := h17 (xs (i + 1)) σc σr hI
  refine Lj.aload_n (i := 1) X dL_law_765 rfl rfl ?_
  refine Lj.arg X i 1 hx3 rfl rfl (by omega) hL rfl rfl dL_law_766 dL_law_767 dL_law_768 dL_law_769 dL_law_770 ?_
  refine Lj.callC (v := .int v) (τ := τc) (st := []) X [.int (xs (i + 1))] rfl cvX5_caught (kX5_caught (X.okC σr) (xs (i + 1)) σc _ e1) wmL_84 rfl rfl dL_law_771 hnc hns rfl (Nat.le_of_ble_eq_true rfl) ?_
  refine Lj.aload_n (i := 2) X dL_law_774 rfl rfl ?_
  refine Lj.arg X i 1 hx3 rfl rfl (by omega) hL rfl rfl dL_law_775 dL_law_776 dL_law_777 dL_law_778 dL_law_779 ?_
  refine Lj.callR (v := .int v) (τ := τr) (st := [.int v]) X [.int (xs (i + 1))] rfl cvX6_caught (kX6_caught (X.okR τc) (xs (i + 1)) σr _ e2) wmL_87 rfl rfl dL_law_780 hnc hns rfl (Nat.le_of_ble_eq_true rfl) ?_
  refine Lj.eqI X 1632 dL_law_783 (by decide) ?_
  exact kk τc τr hI
set_option maxRecDepth 20000 in
theorem lc18 {M : MC} {b : LB} {sb L : Nat} {xs : Nat → Int32} {Q : State → Prop} {nc ns : Nat} {σc σr : Mem} {Inv : Mem → Mem → Prop} (X : Lx M b sb L xs) (hL : L ≤ 3072) (hnc : nc ≤ 600000) (hns : ns ≤ 7302250) (h18 : StI Inv (fX5_starter) (fX6_starter)) (x3 : Int32) (i : Nat) (hx3 : x3 = nI i) (hi : i + 6 ≤ L) (hI : Inv σc σr) (kk : ∀ τc τr, Inv τc τr → Lj M b Q nc ns 1632 [some (.ref sb), some (.ref (b.2.2.1 0)), some (.ref (b.2.2.2.1 0)), some (.int x3)] [] τc τr) : Lj M b Q nc ns 788 [some (.ref sb), some (.ref (b.2.2.1 0)), some (.ref (b.2.2.2.1 0)), some (.int x3)] [] σc σr := by
  obtain ⟨v, τc, τr, e1, e2, hI⟩ := h18  σc σr hI
  refine Lj.aload_n (i := 1) X dL_law_788 rfl rfl ?_
  refine Lj.callC (v := .int v) (τ := τc) (st := []) X [] rfl cvX5_starter (kX5_starter (X.okC σr)  σc _ e1) wmL_88 rfl rfl dL_law_789 hnc hns rfl (Nat.le_of_ble_eq_true rfl) ?_
  refine Lj.aload_n (i := 2) X dL_law_792 rfl rfl ?_
  refine Lj.callR (v := .int v) (τ := τr) (st := [.int v]) X [] rfl cvX6_starter (kX6_starter (X.okR τc)  σr _ e2) wmL_92 rfl rfl dL_law_793 hnc hns rfl (Nat.le_of_ble_eq_true rfl) ?_
  refine Lj.eqI X 1632 dL_law_796 (by decide) ?_
  exact kk τc τr hI
set_option maxRecDepth 20000 in
theorem lc19 {M : MC} {b : LB} {sb L : Nat} {xs : Nat → Int32} {Q : State → Prop} {nc ns : Nat} {σc σr : Mem} {Inv : Mem → Mem → Prop} (X : Lx M b sb L xs) (hL : L ≤ 3072) (hnc : nc ≤ 600000) (hns : ns ≤ 7302250) (h19 : StI Inv (fX5_fewest) (fX6_fewest)) (x3 : Int32) (i : Nat) (hx3 : x3 = nI i) (hi : i + 6 ≤ L) (hI : Inv σc σr) (kk : ∀ τc τr, Inv τc τr → Lj M b Q nc ns 1632 [some (.ref sb), some (.ref (b.2.2.1 0)), some (.ref (b.2.2.2.1 0)), some (.int x3)] [] τc τr) : Lj M b Q nc ns 801 [some (.ref sb), some (.ref (b.2.2.1 0)), some (.ref (b.2.2.2.1 0)), some (.int x3)] [] σc σr := by
  obtain ⟨v, τc, τr, e1, e2, hI⟩ := h19  σc σr hI
  refine Lj.aload_n (i := 1) X dL_law_801 rfl rfl ?_
  refine Lj.callC (v := .int v) (τ := τc) (st := []) X [] rfl cvX5_fewest (kX5_fewest (X.okC σr)  σc _ e1) wmL_93 rfl rfl dL_law_802 hnc hns rfl (Nat.le_of_ble_eq_true rfl) ?_
  refine Lj.aload_n (i := 2) X dL_law_805 rfl rfl ?_
  refine Lj.callR (v := .int v) (τ := τr) (st := [.int v]) X [] rfl cvX6_fewest (kX6_fewest (X.okR τc)  σr _ e2) wmL_96 rfl rfl dL_law_806 hnc hns rfl (Nat.le_of_ble_eq_true rfl) ?_
  refine Lj.eqI X 1632 dL_law_809 (by decide) ?_
  exact kk τc τr hI
set_option maxRecDepth 20000 in
theorem lc20 {M : MC} {b : LB} {sb L : Nat} {xs : Nat → Int32} {Q : State → Prop} {nc ns : Nat} {σc σr : Mem} {Inv : Mem → Mem → Prop} (X : Lx M b sb L xs) (hL : L ≤ 3072) (hnc : nc ≤ 600000) (hns : ns ≤ 7302250) (h20 : ∀ a1 a2 : Int32, StI Inv (fX5_away a1 a2) (fX6_away a1 a2)) (x3 : Int32) (i : Nat) (hx3 : x3 = nI i) (hi : i + 6 ≤ L) (hI : Inv σc σr) (kk : ∀ τc τr, Inv τc τr → Lj M b Q nc ns 1632 [some (.ref sb), some (.ref (b.2.2.1 0)), some (.ref (b.2.2.2.1 0)), some (.int x3)] [] τc τr) : Lj M b Q nc ns 814 [some (.ref sb), some (.ref (b.2.2.1 0)), some (.ref (b.2.2.2.1 0)), some (.int x3)] [] σc σr := by
  obtain ⟨v, τc, τr, e1, e2, hI⟩ := h20 (xs (i + 1)) (xs (i + 2)) σc σr hI
  refine Lj.aload_n (i := 1) X dL_law_814 rfl rfl ?_
  refine Lj.arg X i 1 hx3 rfl rfl (by omega) hL rfl rfl dL_law_815 dL_law_816 dL_law_817 dL_law_818 dL_law_819 ?_
  refine Lj.arg X i 2 hx3 rfl rfl (by omega) hL rfl rfl dL_law_820 dL_law_821 dL_law_822 dL_law_823 dL_law_824 ?_
  refine Lj.callC (v := .int v) (τ := τc) (st := []) X [.int (xs (i + 1)), .int (xs (i + 2))] rfl cvX5_away (kX5_away (X.okC σr) (xs (i + 1)) (xs (i + 2)) σc _ e1) wmL_97 rfl rfl dL_law_825 hnc hns rfl (Nat.le_of_ble_eq_true rfl) ?_
  refine Lj.aload_n (i := 2) X dL_law_828 rfl rfl ?_
  refine Lj.arg X i 1 hx3 rfl rfl (by omega) hL rfl rfl dL_law_829 dL_law_830 dL_law_831 dL_law_832 dL_law_833 ?_
  refine Lj.arg X i 2 hx3 rfl rfl (by omega) hL rfl rfl dL_law_834 dL_law_835 dL_law_836 dL_law_837 dL_law_838 ?_
  refine Lj.callR (v := .int v) (τ := τr) (st := [.int v]) X [.int (xs (i + 1)), .int (xs (i + 2))] rfl cvX6_away (kX6_away (X.okR τc) (xs (i + 1)) (xs (i + 2)) σr _ e2) wmL_100 rfl rfl dL_law_839 hnc hns rfl (Nat.le_of_ble_eq_true rfl) ?_
  refine Lj.eqI X 1632 dL_law_842 (by decide) ?_
  exact kk τc τr hI
set_option maxRecDepth 20000 in
theorem lc21 {M : MC} {b : LB} {sb L : Nat} {xs : Nat → Int32} {Q : State → Prop} {nc ns : Nat} {σc σr : Mem} {Inv : Mem → Mem → Prop} (X : Lx M b sb L xs) (hL : L ≤ 3072) (hnc : nc ≤ 600000) (hns : ns ≤ 7302250) (h21 : ∀ a1 a2 : Int32, StI Inv (fX5_seatFor a1 a2) (fX6_seatFor a1 a2)) (x3 : Int32) (i : Nat) (hx3 : x3 = nI i) (hi : i + 6 ≤ L) (hI : Inv σc σr) (kk : ∀ τc τr, Inv τc τr → Lj M b Q nc ns 1632 [some (.ref sb), some (.ref (b.2.2.1 0)), some (.ref (b.2.2.2.1 0)), some (.int x3)] [] τc τr) : Lj M b Q nc ns 847 [some (.ref sb), some (.ref (b.2.2.1 0)), some (.ref (b.2.2.2.1 0)), some (.int x3)] [] σc σr := by
  obtain ⟨v, τc, τr, e1, e2, hI⟩ := h21 (xs (i + 1)) (xs (i + 2)) σc σr hI
  refine Lj.aload_n (i := 1) X dL_law_847 rfl rfl ?_
  refine Lj.arg X i 1 hx3 rfl rfl (by omega) hL rfl rfl dL_law_848 dL_law_849 dL_law_850 dL_law_851 dL_law_852 ?_
  refine Lj.arg X i 2 hx3 rfl rfl (by omega) hL rfl rfl dL_law_853 dL_law_854 dL_law_855 dL_law_856 dL_law_857 ?_
  refine Lj.callC (v := .int v) (τ := τc) (st := []) X [.int (xs (i + 1)), .int (xs (i + 2))] rfl cvX5_seatFor (kX5_seatFor (X.okC σr) (xs (i + 1)) (xs (i + 2)) σc _ e1) wmL_101 rfl rfl dL_law_858 hnc hns rfl (Nat.le_of_ble_eq_true rfl) ?_
  refine Lj.aload_n (i := 2) X dL_law_861 rfl rfl ?_
  refine Lj.arg X i 1 hx3 rfl rfl (by omega) hL rfl rfl dL_law_862 dL_law_863 dL_law_864 dL_law_865 dL_law_866 ?_
  refine Lj.arg X i 2 hx3 rfl rfl (by omega) hL rfl rfl dL_law_867 dL_law_868 dL_law_869 dL_law_870 dL_law_871 ?_
  refine Lj.callR (v := .int v) (τ := τr) (st := [.int v]) X [.int (xs (i + 1)), .int (xs (i + 2))] rfl cvX6_seatFor (kX6_seatFor (X.okR τc) (xs (i + 1)) (xs (i + 2)) σr _ e2) wmL_104 rfl rfl dL_law_872 hnc hns rfl (Nat.le_of_ble_eq_true rfl) ?_
  refine Lj.eqI X 1632 dL_law_875 (by decide) ?_
  exact kk τc τr hI
set_option maxRecDepth 20000 in
theorem lc22 {M : MC} {b : LB} {sb L : Nat} {xs : Nat → Int32} {Q : State → Prop} {nc ns : Nat} {σc σr : Mem} {Inv : Mem → Mem → Prop} (X : Lx M b sb L xs) (hL : L ≤ 3072) (hnc : nc ≤ 600000) (hns : ns ≤ 7302250) (h22 : ∀ a1 a2 : Int32, StI Inv (fX5_kindFor a1 a2) (fX6_kindFor a1 a2)) (x3 : Int32) (i : Nat) (hx3 : x3 = nI i) (hi : i + 6 ≤ L) (hI : Inv σc σr) (kk : ∀ τc τr, Inv τc τr → Lj M b Q nc ns 1632 [some (.ref sb), some (.ref (b.2.2.1 0)), some (.ref (b.2.2.2.1 0)), some (.int x3)] [] τc τr) : Lj M b Q nc ns 880 [some (.ref sb), some (.ref (b.2.2.1 0)), some (.ref (b.2.2.2.1 0)), some (.int x3)] [] σc σr := by
  obtain ⟨v, τc, τr, e1, e2, hI⟩ := h22 (xs (i + 1)) (xs (i + 2)) σc σr hI
  refine Lj.aload_n (i := 1) X dL_law_880 rfl rfl ?_
  refine Lj.arg X i 1 hx3 rfl rfl (by omega) hL rfl rfl dL_law_881 dL_law_882 dL_law_883 dL_law_884 dL_law_885 ?_
  refine Lj.arg X i 2 hx3 rfl rfl (by omega) hL rfl rfl dL_law_886 dL_law_887 dL_law_888 dL_law_889 dL_law_890 ?_
  refine Lj.callC (v := .int v) (τ := τc) (st := []) X [.int (xs (i + 1)), .int (xs (i + 2))] rfl cvX5_kindFor (kX5_kindFor (X.okC σr) (xs (i + 1)) (xs (i + 2)) σc _ e1) wmL_105 rfl rfl dL_law_891 hnc hns rfl (Nat.le_of_ble_eq_true rfl) ?_
  refine Lj.aload_n (i := 2) X dL_law_894 rfl rfl ?_
  refine Lj.arg X i 1 hx3 rfl rfl (by omega) hL rfl rfl dL_law_895 dL_law_896 dL_law_897 dL_law_898 dL_law_899 ?_
  refine Lj.arg X i 2 hx3 rfl rfl (by omega) hL rfl rfl dL_law_900 dL_law_901 dL_law_902 dL_law_903 dL_law_904 ?_
  refine Lj.callR (v := .int v) (τ := τr) (st := [.int v]) X [.int (xs (i + 1)), .int (xs (i + 2))] rfl cvX6_kindFor (kX6_kindFor (X.okR τc) (xs (i + 1)) (xs (i + 2)) σr _ e2) wmL_108 rfl rfl dL_law_905 hnc hns rfl (Nat.le_of_ble_eq_true rfl) ?_
  refine Lj.eqI X 1632 dL_law_908 (by decide) ?_
  exact kk τc τr hI
set_option maxRecDepth 20000 in
theorem lc23 {M : MC} {b : LB} {sb L : Nat} {xs : Nat → Int32} {Q : State → Prop} {nc ns : Nat} {σc σr : Mem} {Inv : Mem → Mem → Prop} (X : Lx M b sb L xs) (hL : L ≤ 3072) (hnc : nc ≤ 600000) (hns : ns ≤ 7302250) (h23 : ∀ a1 : Int32, StI Inv (fX5_reachFor a1) (fX6_reachFor a1)) (x3 : Int32) (i : Nat) (hx3 : x3 = nI i) (hi : i + 6 ≤ L) (hI : Inv σc σr) (kk : ∀ τc τr, Inv τc τr → Lj M b Q nc ns 1632 [some (.ref sb), some (.ref (b.2.2.1 0)), some (.ref (b.2.2.2.1 0)), some (.int x3)] [] τc τr) : Lj M b Q nc ns 913 [some (.ref sb), some (.ref (b.2.2.1 0)), some (.ref (b.2.2.2.1 0)), some (.int x3)] [] σc σr := by
  obtain ⟨v, τc, τr, e1, e2, hI⟩ := h23 (xs (i + 1)) σc σr hI
  refine Lj.aload_n (i := 1) X dL_law_913 rfl rfl ?_
  refine Lj.arg X i 1 hx3 rfl rfl (by omega) hL rfl rfl dL_law_914 dL_law_915 dL_law_916 dL_law_917 dL_law_918 ?_
  refine Lj.callC (v := .int v) (τ := τc) (st := []) X [.int (xs (i + 1))] rfl cvX5_reachFor (kX5_reachFor (X.okC σr) (xs (i + 1)) σc _ e1) wmL_109 rfl rfl dL_law_919 hnc hns rfl (Nat.le_of_ble_eq_true rfl) ?_
  refine Lj.aload_n (i := 2) X dL_law_922 rfl rfl ?_
  refine Lj.arg X i 1 hx3 rfl rfl (by omega) hL rfl rfl dL_law_923 dL_law_924 dL_law_925 dL_law_926 dL_law_927 ?_
  refine Lj.callR (v := .int v) (τ := τr) (st := [.int v]) X [.int (xs (i + 1))] rfl cvX6_reachFor (kX6_reachFor (X.okR τc) (xs (i + 1)) σr _ e2) wmL_112 rfl rfl dL_law_928 hnc hns rfl (Nat.le_of_ble_eq_true rfl) ?_
  refine Lj.eqI X 1632 dL_law_931 (by decide) ?_
  exact kk τc τr hI
set_option maxRecDepth 20000 in
theorem lc24 {M : MC} {b : LB} {sb L : Nat} {xs : Nat → Int32} {Q : State → Prop} {nc ns : Nat} {σc σr : Mem} {Inv : Mem → Mem → Prop} (X : Lx M b sb L xs) (hL : L ≤ 3072) (hnc : nc ≤ 600000) (hns : ns ≤ 7302250) (h24 : ∀ a1 a2 : Int32, StI Inv (fX5_rateFor a1 a2) (fX6_rateFor a1 a2)) (x3 : Int32) (i : Nat) (hx3 : x3 = nI i) (hi : i + 6 ≤ L) (hI : Inv σc σr) (kk : ∀ τc τr, Inv τc τr → Lj M b Q nc ns 1632 [some (.ref sb), some (.ref (b.2.2.1 0)), some (.ref (b.2.2.2.1 0)), some (.int x3)] [] τc τr) : Lj M b Q nc ns 936 [some (.ref sb), some (.ref (b.2.2.1 0)), some (.ref (b.2.2.2.1 0)), some (.int x3)] [] σc σr := by
  obtain ⟨v, τc, τr, e1, e2, hI⟩ := h24 (xs (i + 1)) (xs (i + 2)) σc σr hI
  refine Lj.aload_n (i := 1) X dL_law_936 rfl rfl ?_
  refine Lj.arg X i 1 hx3 rfl rfl (by omega) hL rfl rfl dL_law_937 dL_law_938 dL_law_939 dL_law_940 dL_law_941 ?_
  refine Lj.arg X i 2 hx3 rfl rfl (by omega) hL rfl rfl dL_law_942 dL_law_943 dL_law_944 dL_law_945 dL_law_946 ?_
  refine Lj.callC (v := .int v) (τ := τc) (st := []) X [.int (xs (i + 1)), .int (xs (i + 2))] rfl cvX5_rateFor (kX5_rateFor (X.okC σr) (xs (i + 1)) (xs (i + 2)) σc _ e1) wmL_113 rfl rfl dL_law_947 hnc hns rfl (Nat.le_of_ble_eq_true rfl) ?_
  refine Lj.aload_n (i := 2) X dL_law_950 rfl rfl ?_
  refine Lj.arg X i 1 hx3 rfl rfl (by omega) hL rfl rfl dL_law_951 dL_law_952 dL_law_953 dL_law_954 dL_law_955 ?_
  refine Lj.arg X i 2 hx3 rfl rfl (by omega) hL rfl rfl dL_law_956 dL_law_957 dL_law_958 dL_law_959 dL_law_960 ?_
  refine Lj.callR (v := .int v) (τ := τr) (st := [.int v]) X [.int (xs (i + 1)), .int (xs (i + 2))] rfl cvX6_rateFor (kX6_rateFor (X.okR τc) (xs (i + 1)) (xs (i + 2)) σr _ e2) wmL_116 rfl rfl dL_law_961 hnc hns rfl (Nat.le_of_ble_eq_true rfl) ?_
  refine Lj.eqI X 1632 dL_law_964 (by decide) ?_
  exact kk τc τr hI
set_option maxRecDepth 20000 in
theorem lc25 {M : MC} {b : LB} {sb L : Nat} {xs : Nat → Int32} {Q : State → Prop} {nc ns : Nat} {σc σr : Mem} {Inv : Mem → Mem → Prop} (X : Lx M b sb L xs) (hL : L ≤ 3072) (hnc : nc ≤ 600000) (hns : ns ≤ 7302250) (h25 : ∀ a1 : Int32, StI Inv (fX5_best a1) (fX6_best a1)) (x3 : Int32) (i : Nat) (hx3 : x3 = nI i) (hi : i + 6 ≤ L) (hI : Inv σc σr) (kk : ∀ τc τr, Inv τc τr → Lj M b Q nc ns 1632 [some (.ref sb), some (.ref (b.2.2.1 0)), some (.ref (b.2.2.2.1 0)), some (.int x3)] [] τc τr) : Lj M b Q nc ns 969 [some (.ref sb), some (.ref (b.2.2.1 0)), some (.ref (b.2.2.2.1 0)), some (.int x3)] [] σc σr := by
  obtain ⟨v, τc, τr, e1, e2, hI⟩ := h25 (xs (i + 1)) σc σr hI
  refine Lj.aload_n (i := 1) X dL_law_969 rfl rfl ?_
  refine Lj.arg X i 1 hx3 rfl rfl (by omega) hL rfl rfl dL_law_970 dL_law_971 dL_law_972 dL_law_973 dL_law_974 ?_
  refine Lj.callC (v := .int v) (τ := τc) (st := []) X [.int (xs (i + 1))] rfl cvX5_best (kX5_best (X.okC σr) (xs (i + 1)) σc _ e1) wmL_117 rfl rfl dL_law_975 hnc hns rfl (Nat.le_of_ble_eq_true rfl) ?_
  refine Lj.aload_n (i := 2) X dL_law_978 rfl rfl ?_
  refine Lj.arg X i 1 hx3 rfl rfl (by omega) hL rfl rfl dL_law_979 dL_law_980 dL_law_981 dL_law_982 dL_law_983 ?_
  refine Lj.callR (v := .int v) (τ := τr) (st := [.int v]) X [.int (xs (i + 1))] rfl cvX6_best (kX6_best (X.okR τc) (xs (i + 1)) σr _ e2) wmL_120 rfl rfl dL_law_984 hnc hns rfl (Nat.le_of_ble_eq_true rfl) ?_
  refine Lj.eqI X 1632 dL_law_987 (by decide) ?_
  exact kk τc τr hI
set_option maxRecDepth 20000 in
theorem lc26 {M : MC} {b : LB} {sb L : Nat} {xs : Nat → Int32} {Q : State → Prop} {nc ns : Nat} {σc σr : Mem} {Inv : Mem → Mem → Prop} (X : Lx M b sb L xs) (hL : L ≤ 3072) (hnc : nc ≤ 600000) (hns : ns ≤ 7302250) (h26 : ∀ a1 : Int32, StI Inv (fX5_quiet a1) (fX6_quiet a1)) (x3 : Int32) (i : Nat) (hx3 : x3 = nI i) (hi : i + 6 ≤ L) (hI : Inv σc σr) (kk : ∀ τc τr, Inv τc τr → Lj M b Q nc ns 1632 [some (.ref sb), some (.ref (b.2.2.1 0)), some (.ref (b.2.2.2.1 0)), some (.int x3)] [] τc τr) : Lj M b Q nc ns 992 [some (.ref sb), some (.ref (b.2.2.1 0)), some (.ref (b.2.2.2.1 0)), some (.int x3)] [] σc σr := by
  obtain ⟨v, τc, τr, e1, e2, hI⟩ := h26 (xs (i + 1)) σc σr hI
  refine Lj.aload_n (i := 1) X dL_law_992 rfl rfl ?_
  refine Lj.arg X i 1 hx3 rfl rfl (by omega) hL rfl rfl dL_law_993 dL_law_994 dL_law_995 dL_law_996 dL_law_997 ?_
  refine Lj.callC (v := .int v) (τ := τc) (st := []) X [.int (xs (i + 1))] rfl cvX5_quiet (kX5_quiet (X.okC σr) (xs (i + 1)) σc _ e1) wmL_121 rfl rfl dL_law_998 hnc hns rfl (Nat.le_of_ble_eq_true rfl) ?_
  refine Lj.aload_n (i := 2) X dL_law_1001 rfl rfl ?_
  refine Lj.arg X i 1 hx3 rfl rfl (by omega) hL rfl rfl dL_law_1002 dL_law_1003 dL_law_1004 dL_law_1005 dL_law_1006 ?_
  refine Lj.callR (v := .int v) (τ := τr) (st := [.int v]) X [.int (xs (i + 1))] rfl cvX6_quiet (kX6_quiet (X.okR τc) (xs (i + 1)) σr _ e2) wmL_124 rfl rfl dL_law_1007 hnc hns rfl (Nat.le_of_ble_eq_true rfl) ?_
  refine Lj.eqI X 1632 dL_law_1010 (by decide) ?_
  exact kk τc τr hI
set_option maxRecDepth 20000 in
theorem lc27 {M : MC} {b : LB} {sb L : Nat} {xs : Nat → Int32} {Q : State → Prop} {nc ns : Nat} {σc σr : Mem} {Inv : Mem → Mem → Prop} (X : Lx M b sb L xs) (hL : L ≤ 3072) (hnc : nc ≤ 600000) (hns : ns ≤ 7302250) (h27 : ∀ a1 : Int32, StI Inv (fX5_safe a1) (fX6_safe a1)) (x3 : Int32) (i : Nat) (hx3 : x3 = nI i) (hi : i + 6 ≤ L) (hI : Inv σc σr) (kk : ∀ τc τr, Inv τc τr → Lj M b Q nc ns 1632 [some (.ref sb), some (.ref (b.2.2.1 0)), some (.ref (b.2.2.2.1 0)), some (.int x3)] [] τc τr) : Lj M b Q nc ns 1015 [some (.ref sb), some (.ref (b.2.2.1 0)), some (.ref (b.2.2.2.1 0)), some (.int x3)] [] σc σr := by
  obtain ⟨v, τc, τr, e1, e2, hI⟩ := h27 (xs (i + 1)) σc σr hI
  refine Lj.aload_n (i := 1) X dL_law_1015 rfl rfl ?_
  refine Lj.arg X i 1 hx3 rfl rfl (by omega) hL rfl rfl dL_law_1016 dL_law_1017 dL_law_1018 dL_law_1019 dL_law_1020 ?_
  refine Lj.callC (v := .int v) (τ := τc) (st := []) X [.int (xs (i + 1))] rfl cvX5_safe (kX5_safe (X.okC σr) (xs (i + 1)) σc _ e1) wmL_125 rfl rfl dL_law_1021 hnc hns rfl (Nat.le_of_ble_eq_true rfl) ?_
  refine Lj.aload_n (i := 2) X dL_law_1024 rfl rfl ?_
  refine Lj.arg X i 1 hx3 rfl rfl (by omega) hL rfl rfl dL_law_1025 dL_law_1026 dL_law_1027 dL_law_1028 dL_law_1029 ?_
  refine Lj.callR (v := .int v) (τ := τr) (st := [.int v]) X [.int (xs (i + 1))] rfl cvX6_safe (kX6_safe (X.okR τc) (xs (i + 1)) σr _ e2) wmL_128 rfl rfl dL_law_1030 hnc hns rfl (Nat.le_of_ble_eq_true rfl) ?_
  refine Lj.eqI X 1632 dL_law_1033 (by decide) ?_
  exact kk τc τr hI
set_option maxRecDepth 20000 in
theorem lc28 {M : MC} {b : LB} {sb L : Nat} {xs : Nat → Int32} {Q : State → Prop} {nc ns : Nat} {σc σr : Mem} {Inv : Mem → Mem → Prop} (X : Lx M b sb L xs) (hL : L ≤ 3072) (hnc : nc ≤ 600000) (hns : ns ≤ 7302250) (h28 : ∀ a1 a2 a3 : Int32, StI Inv (fX5_tastes a1 a2 a3) (fX6_tastes a1 a2 a3)) (x3 : Int32) (i : Nat) (hx3 : x3 = nI i) (hi : i + 6 ≤ L) (hI : Inv σc σr) (kk : ∀ τc τr, Inv τc τr → Lj M b Q nc ns 1632 [some (.ref sb), some (.ref (b.2.2.1 0)), some (.ref (b.2.2.2.1 0)), some (.int x3)] [] τc τr) : Lj M b Q nc ns 1038 [some (.ref sb), some (.ref (b.2.2.1 0)), some (.ref (b.2.2.2.1 0)), some (.int x3)] [] σc σr := by
  obtain ⟨v, τc, τr, e1, e2, hI⟩ := h28 (xs (i + 1)) (xs (i + 2)) (xs (i + 3)) σc σr hI
  refine Lj.aload_n (i := 1) X dL_law_1038 rfl rfl ?_
  refine Lj.arg X i 1 hx3 rfl rfl (by omega) hL rfl rfl dL_law_1039 dL_law_1040 dL_law_1041 dL_law_1042 dL_law_1043 ?_
  refine Lj.arg X i 2 hx3 rfl rfl (by omega) hL rfl rfl dL_law_1044 dL_law_1045 dL_law_1046 dL_law_1047 dL_law_1048 ?_
  refine Lj.arg X i 3 hx3 rfl rfl (by omega) hL rfl rfl dL_law_1049 dL_law_1050 dL_law_1051 dL_law_1052 dL_law_1053 ?_
  refine Lj.callC (v := .int v) (τ := τc) (st := []) X [.int (xs (i + 1)), .int (xs (i + 2)), .int (xs (i + 3))] rfl cvX5_tastes (kX5_tastes (X.okC σr) (xs (i + 1)) (xs (i + 2)) (xs (i + 3)) σc _ e1) wmL_129 rfl rfl dL_law_1054 hnc hns rfl (Nat.le_of_ble_eq_true rfl) ?_
  refine Lj.aload_n (i := 2) X dL_law_1057 rfl rfl ?_
  refine Lj.arg X i 1 hx3 rfl rfl (by omega) hL rfl rfl dL_law_1058 dL_law_1059 dL_law_1060 dL_law_1061 dL_law_1062 ?_
  refine Lj.arg X i 2 hx3 rfl rfl (by omega) hL rfl rfl dL_law_1063 dL_law_1064 dL_law_1065 dL_law_1066 dL_law_1067 ?_
  refine Lj.arg X i 3 hx3 rfl rfl (by omega) hL rfl rfl dL_law_1068 dL_law_1069 dL_law_1070 dL_law_1071 dL_law_1072 ?_
  refine Lj.callR (v := .int v) (τ := τr) (st := [.int v]) X [.int (xs (i + 1)), .int (xs (i + 2)), .int (xs (i + 3))] rfl cvX6_tastes (kX6_tastes (X.okR τc) (xs (i + 1)) (xs (i + 2)) (xs (i + 3)) σr _ e2) wmL_132 rfl rfl dL_law_1073 hnc hns rfl (Nat.le_of_ble_eq_true rfl) ?_
  refine Lj.eqI X 1632 dL_law_1076 (by decide) ?_
  exact kk τc τr hI
set_option maxRecDepth 20000 in
theorem lc29 {M : MC} {b : LB} {sb L : Nat} {xs : Nat → Int32} {Q : State → Prop} {nc ns : Nat} {σc σr : Mem} {Inv : Mem → Mem → Prop} (X : Lx M b sb L xs) (hL : L ≤ 3072) (hnc : nc ≤ 600000) (hns : ns ≤ 7302250) (h29 : ∀ a1 a2 a3 : Int32, StI Inv (fX5_taste a1 a2 a3) (fX6_taste a1 a2 a3)) (x3 : Int32) (i : Nat) (hx3 : x3 = nI i) (hi : i + 6 ≤ L) (hI : Inv σc σr) (kk : ∀ τc τr, Inv τc τr → Lj M b Q nc ns 1632 [some (.ref sb), some (.ref (b.2.2.1 0)), some (.ref (b.2.2.2.1 0)), some (.int x3)] [] τc τr) : Lj M b Q nc ns 1081 [some (.ref sb), some (.ref (b.2.2.1 0)), some (.ref (b.2.2.2.1 0)), some (.int x3)] [] σc σr := by
  obtain ⟨v, τc, τr, e1, e2, hI⟩ := h29 (xs (i + 1)) (xs (i + 2)) (xs (i + 3)) σc σr hI
  refine Lj.aload_n (i := 1) X dL_law_1081 rfl rfl ?_
  refine Lj.arg X i 1 hx3 rfl rfl (by omega) hL rfl rfl dL_law_1082 dL_law_1083 dL_law_1084 dL_law_1085 dL_law_1086 ?_
  refine Lj.arg X i 2 hx3 rfl rfl (by omega) hL rfl rfl dL_law_1087 dL_law_1088 dL_law_1089 dL_law_1090 dL_law_1091 ?_
  refine Lj.arg X i 3 hx3 rfl rfl (by omega) hL rfl rfl dL_law_1092 dL_law_1093 dL_law_1094 dL_law_1095 dL_law_1096 ?_
  refine Lj.callC (v := .int v) (τ := τc) (st := []) X [.int (xs (i + 1)), .int (xs (i + 2)), .int (xs (i + 3))] rfl cvX5_taste (kX5_taste (X.okC σr) (xs (i + 1)) (xs (i + 2)) (xs (i + 3)) σc _ e1) wmL_133 rfl rfl dL_law_1097 hnc hns rfl (Nat.le_of_ble_eq_true rfl) ?_
  refine Lj.aload_n (i := 2) X dL_law_1100 rfl rfl ?_
  refine Lj.arg X i 1 hx3 rfl rfl (by omega) hL rfl rfl dL_law_1101 dL_law_1102 dL_law_1103 dL_law_1104 dL_law_1105 ?_
  refine Lj.arg X i 2 hx3 rfl rfl (by omega) hL rfl rfl dL_law_1106 dL_law_1107 dL_law_1108 dL_law_1109 dL_law_1110 ?_
  refine Lj.arg X i 3 hx3 rfl rfl (by omega) hL rfl rfl dL_law_1111 dL_law_1112 dL_law_1113 dL_law_1114 dL_law_1115 ?_
  refine Lj.callR (v := .int v) (τ := τr) (st := [.int v]) X [.int (xs (i + 1)), .int (xs (i + 2)), .int (xs (i + 3))] rfl cvX6_taste (kX6_taste (X.okR τc) (xs (i + 1)) (xs (i + 2)) (xs (i + 3)) σr _ e2) wmL_136 rfl rfl dL_law_1116 hnc hns rfl (Nat.le_of_ble_eq_true rfl) ?_
  refine Lj.eqI X 1632 dL_law_1119 (by decide) ?_
  exact kk τc τr hI
set_option maxRecDepth 20000 in
theorem lc30 {M : MC} {b : LB} {sb L : Nat} {xs : Nat → Int32} {Q : State → Prop} {nc ns : Nat} {σc σr : Mem} {Inv : Mem → Mem → Prop} (X : Lx M b sb L xs) (hL : L ≤ 3072) (hnc : nc ≤ 600000) (hns : ns ≤ 7302250) (h30 : ∀ a1 : Int32, StI Inv (fX5_which a1) (fX6_which a1)) (x3 : Int32) (i : Nat) (hx3 : x3 = nI i) (hi : i + 6 ≤ L) (hI : Inv σc σr) (kk : ∀ τc τr, Inv τc τr → Lj M b Q nc ns 1632 [some (.ref sb), some (.ref (b.2.2.1 0)), some (.ref (b.2.2.2.1 0)), some (.int x3)] [] τc τr) : Lj M b Q nc ns 1124 [some (.ref sb), some (.ref (b.2.2.1 0)), some (.ref (b.2.2.2.1 0)), some (.int x3)] [] σc σr := by
  obtain ⟨v, τc, τr, e1, e2, hI⟩ := h30 (xs (i + 1)) σc σr hI
  refine Lj.aload_n (i := 1) X dL_law_1124 rfl rfl ?_
  refine Lj.arg X i 1 hx3 rfl rfl (by omega) hL rfl rfl dL_law_1125 dL_law_1126 dL_law_1127 dL_law_1128 dL_law_1129 ?_
  refine Lj.callC (v := .int v) (τ := τc) (st := []) X [.int (xs (i + 1))] rfl cvX5_which (kX5_which (X.okC σr) (xs (i + 1)) σc _ e1) wmL_137 rfl rfl dL_law_1130 hnc hns rfl (Nat.le_of_ble_eq_true rfl) ?_
  refine Lj.aload_n (i := 2) X dL_law_1133 rfl rfl ?_
  refine Lj.arg X i 1 hx3 rfl rfl (by omega) hL rfl rfl dL_law_1134 dL_law_1135 dL_law_1136 dL_law_1137 dL_law_1138 ?_
  refine Lj.callR (v := .int v) (τ := τr) (st := [.int v]) X [.int (xs (i + 1))] rfl cvX6_which (kX6_which (X.okR τc) (xs (i + 1)) σr _ e2) wmL_140 rfl rfl dL_law_1139 hnc hns rfl (Nat.le_of_ble_eq_true rfl) ?_
  refine Lj.eqI X 1632 dL_law_1142 (by decide) ?_
  exact kk τc τr hI
set_option maxRecDepth 20000 in
theorem lc31 {M : MC} {b : LB} {sb L : Nat} {xs : Nat → Int32} {Q : State → Prop} {nc ns : Nat} {σc σr : Mem} {Inv : Mem → Mem → Prop} (X : Lx M b sb L xs) (hL : L ≤ 3072) (hnc : nc ≤ 600000) (hns : ns ≤ 7302250) (h31 : ∀ a1 : Int32, StI Inv (fX5_shows a1) (fX6_shows a1)) (x3 : Int32) (i : Nat) (hx3 : x3 = nI i) (hi : i + 6 ≤ L) (hI : Inv σc σr) (kk : ∀ τc τr, Inv τc τr → Lj M b Q nc ns 1632 [some (.ref sb), some (.ref (b.2.2.1 0)), some (.ref (b.2.2.2.1 0)), some (.int x3)] [] τc τr) : Lj M b Q nc ns 1147 [some (.ref sb), some (.ref (b.2.2.1 0)), some (.ref (b.2.2.2.1 0)), some (.int x3)] [] σc σr := by
  obtain ⟨v, τc, τr, e1, e2, hI⟩ := h31 (xs (i + 1)) σc σr hI
  refine Lj.aload_n (i := 1) X dL_law_1147 rfl rfl ?_
  refine Lj.arg X i 1 hx3 rfl rfl (by omega) hL rfl rfl dL_law_1148 dL_law_1149 dL_law_1150 dL_law_1151 dL_law_1152 ?_
  refine Lj.callC (v := .int v) (τ := τc) (st := []) X [.int (xs (i + 1))] rfl cvX5_shows (kX5_shows (X.okC σr) (xs (i + 1)) σc _ e1) wmL_141 rfl rfl dL_law_1153 hnc hns rfl (Nat.le_of_ble_eq_true rfl) ?_
  refine Lj.aload_n (i := 2) X dL_law_1156 rfl rfl ?_
  refine Lj.arg X i 1 hx3 rfl rfl (by omega) hL rfl rfl dL_law_1157 dL_law_1158 dL_law_1159 dL_law_1160 dL_law_1161 ?_
  refine Lj.callR (v := .int v) (τ := τr) (st := [.int v]) X [.int (xs (i + 1))] rfl cvX6_shows (kX6_shows (X.okR τc) (xs (i + 1)) σr _ e2) wmL_144 rfl rfl dL_law_1162 hnc hns rfl (Nat.le_of_ble_eq_true rfl) ?_
  refine Lj.eqI X 1632 dL_law_1165 (by decide) ?_
  exact kk τc τr hI
set_option maxRecDepth 20000 in
theorem lc32 {M : MC} {b : LB} {sb L : Nat} {xs : Nat → Int32} {Q : State → Prop} {nc ns : Nat} {σc σr : Mem} {Inv : Mem → Mem → Prop} (X : Lx M b sb L xs) (hL : L ≤ 3072) (hnc : nc ≤ 600000) (hns : ns ≤ 7302250) (h32 : ∀ a1 a2 : Int32, StL Inv (fX5_odds a1 a2) (fX6_odds a1 a2)) (x3 : Int32) (i : Nat) (hx3 : x3 = nI i) (hi : i + 6 ≤ L) (hI : Inv σc σr) (kk : ∀ τc τr, Inv τc τr → Lj M b Q nc ns 1632 [some (.ref sb), some (.ref (b.2.2.1 0)), some (.ref (b.2.2.2.1 0)), some (.int x3)] [] τc τr) : Lj M b Q nc ns 1170 [some (.ref sb), some (.ref (b.2.2.1 0)), some (.ref (b.2.2.2.1 0)), some (.int x3)] [] σc σr := by
  obtain ⟨v, τc, τr, e1, e2, hI⟩ := h32 (xs (i + 1)) (xs (i + 2)) σc σr hI
  refine Lj.aload_n (i := 1) X dL_law_1170 rfl rfl ?_
  refine Lj.arg X i 1 hx3 rfl rfl (by omega) hL rfl rfl dL_law_1171 dL_law_1172 dL_law_1173 dL_law_1174 dL_law_1175 ?_
  refine Lj.arg X i 2 hx3 rfl rfl (by omega) hL rfl rfl dL_law_1176 dL_law_1177 dL_law_1178 dL_law_1179 dL_law_1180 ?_
  refine Lj.callC (v := .long v) (τ := τc) (st := []) X [.int (xs (i + 1)), .int (xs (i + 2))] rfl cvX5_odds (kX5_odds (X.okC σr) (xs (i + 1)) (xs (i + 2)) σc _ e1) wmL_145 rfl rfl dL_law_1181 hnc hns rfl (Nat.le_of_ble_eq_true rfl) ?_
  refine Lj.aload_n (i := 2) X dL_law_1184 rfl rfl ?_
  refine Lj.arg X i 1 hx3 rfl rfl (by omega) hL rfl rfl dL_law_1185 dL_law_1186 dL_law_1187 dL_law_1188 dL_law_1189 ?_
  refine Lj.arg X i 2 hx3 rfl rfl (by omega) hL rfl rfl dL_law_1190 dL_law_1191 dL_law_1192 dL_law_1193 dL_law_1194 ?_
  refine Lj.callR (v := .long v) (τ := τr) (st := [.long v]) X [.int (xs (i + 1)), .int (xs (i + 2))] rfl cvX6_odds (kX6_odds (X.okR τc) (xs (i + 1)) (xs (i + 2)) σr _ e2) wmL_149 rfl rfl dL_law_1195 hnc hns rfl (Nat.le_of_ble_eq_true rfl) ?_
  refine Lj.eqL X 1632 dL_law_1198 dL_law_1199 (by decide) ?_
  exact kk τc τr hI
set_option maxRecDepth 20000 in
theorem lc33 {M : MC} {b : LB} {sb L : Nat} {xs : Nat → Int32} {Q : State → Prop} {nc ns : Nat} {σc σr : Mem} {Inv : Mem → Mem → Prop} (X : Lx M b sb L xs) (hL : L ≤ 3072) (hnc : nc ≤ 600000) (hns : ns ≤ 7302250) (h33 : ∀ a1 : Int32, StI Inv (fX5_seed a1) (fX6_seed a1)) (x3 : Int32) (i : Nat) (hx3 : x3 = nI i) (hi : i + 6 ≤ L) (hI : Inv σc σr) (kk : ∀ τc τr, Inv τc τr → Lj M b Q nc ns 1632 [some (.ref sb), some (.ref (b.2.2.1 0)), some (.ref (b.2.2.2.1 0)), some (.int x3)] [] τc τr) : Lj M b Q nc ns 1204 [some (.ref sb), some (.ref (b.2.2.1 0)), some (.ref (b.2.2.2.1 0)), some (.int x3)] [] σc σr := by
  obtain ⟨v, τc, τr, e1, e2, hI⟩ := h33 (xs (i + 1)) σc σr hI
  refine Lj.aload_n (i := 1) X dL_law_1204 rfl rfl ?_
  refine Lj.arg X i 1 hx3 rfl rfl (by omega) hL rfl rfl dL_law_1205 dL_law_1206 dL_law_1207 dL_law_1208 dL_law_1209 ?_
  refine Lj.callC (v := .int v) (τ := τc) (st := []) X [.int (xs (i + 1))] rfl cvX5_seed (kX5_seed (X.okC σr) (xs (i + 1)) σc _ e1) wmL_150 rfl rfl dL_law_1210 hnc hns rfl (Nat.le_of_ble_eq_true rfl) ?_
  refine Lj.aload_n (i := 2) X dL_law_1213 rfl rfl ?_
  refine Lj.arg X i 1 hx3 rfl rfl (by omega) hL rfl rfl dL_law_1214 dL_law_1215 dL_law_1216 dL_law_1217 dL_law_1218 ?_
  refine Lj.callR (v := .int v) (τ := τr) (st := [.int v]) X [.int (xs (i + 1))] rfl cvX6_seed (kX6_seed (X.okR τc) (xs (i + 1)) σr _ e2) wmL_153 rfl rfl dL_law_1219 hnc hns rfl (Nat.le_of_ble_eq_true rfl) ?_
  refine Lj.eqI X 1632 dL_law_1222 (by decide) ?_
  exact kk τc τr hI
set_option maxRecDepth 20000 in
theorem lc34 {M : MC} {b : LB} {sb L : Nat} {xs : Nat → Int32} {Q : State → Prop} {nc ns : Nat} {σc σr : Mem} {Inv : Mem → Mem → Prop} (X : Lx M b sb L xs) (hL : L ≤ 3072) (hnc : nc ≤ 600000) (hns : ns ≤ 7302250) (h34 : ∀ a1 a2 : Int32, StI Inv (fX5_feed a1 a2) (fX6_feed a1 a2)) (x3 : Int32) (i : Nat) (hx3 : x3 = nI i) (hi : i + 6 ≤ L) (hI : Inv σc σr) (kk : ∀ τc τr, Inv τc τr → Lj M b Q nc ns 1632 [some (.ref sb), some (.ref (b.2.2.1 0)), some (.ref (b.2.2.2.1 0)), some (.int x3)] [] τc τr) : Lj M b Q nc ns 1227 [some (.ref sb), some (.ref (b.2.2.1 0)), some (.ref (b.2.2.2.1 0)), some (.int x3)] [] σc σr := by
  obtain ⟨v, τc, τr, e1, e2, hI⟩ := h34 (xs (i + 1)) (xs (i + 2)) σc σr hI
  refine Lj.aload_n (i := 1) X dL_law_1227 rfl rfl ?_
  refine Lj.arg X i 1 hx3 rfl rfl (by omega) hL rfl rfl dL_law_1228 dL_law_1229 dL_law_1230 dL_law_1231 dL_law_1232 ?_
  refine Lj.arg X i 2 hx3 rfl rfl (by omega) hL rfl rfl dL_law_1233 dL_law_1234 dL_law_1235 dL_law_1236 dL_law_1237 ?_
  refine Lj.callC (v := .int v) (τ := τc) (st := []) X [.int (xs (i + 1)), .int (xs (i + 2))] rfl cvX5_feed (kX5_feed (X.okC σr) (xs (i + 1)) (xs (i + 2)) σc _ e1) wmL_154 rfl rfl dL_law_1238 hnc hns rfl (Nat.le_of_ble_eq_true rfl) ?_
  refine Lj.aload_n (i := 2) X dL_law_1241 rfl rfl ?_
  refine Lj.arg X i 1 hx3 rfl rfl (by omega) hL rfl rfl dL_law_1242 dL_law_1243 dL_law_1244 dL_law_1245 dL_law_1246 ?_
  refine Lj.arg X i 2 hx3 rfl rfl (by omega) hL rfl rfl dL_law_1247 dL_law_1248 dL_law_1249 dL_law_1250 dL_law_1251 ?_
  refine Lj.callR (v := .int v) (τ := τr) (st := [.int v]) X [.int (xs (i + 1)), .int (xs (i + 2))] rfl cvX6_feed (kX6_feed (X.okR τc) (xs (i + 1)) (xs (i + 2)) σr _ e2) wmL_157 rfl rfl dL_law_1252 hnc hns rfl (Nat.le_of_ble_eq_true rfl) ?_
  refine Lj.eqI X 1632 dL_law_1255 (by decide) ?_
  exact kk τc τr hI
set_option maxRecDepth 20000 in
theorem lc35 {M : MC} {b : LB} {sb L : Nat} {xs : Nat → Int32} {Q : State → Prop} {nc ns : Nat} {σc σr : Mem} {Inv : Mem → Mem → Prop} (X : Lx M b sb L xs) (hL : L ≤ 3072) (hnc : nc ≤ 600000) (hns : ns ≤ 7302250) (h35 : StI Inv (fX5_wipe) (fX6_wipe)) (x3 : Int32) (i : Nat) (hx3 : x3 = nI i) (hi : i + 6 ≤ L) (hI : Inv σc σr) (kk : ∀ τc τr, Inv τc τr → Lj M b Q nc ns 1632 [some (.ref sb), some (.ref (b.2.2.1 0)), some (.ref (b.2.2.2.1 0)), some (.int x3)] [] τc τr) : Lj M b Q nc ns 1260 [some (.ref sb), some (.ref (b.2.2.1 0)), some (.ref (b.2.2.2.1 0)), some (.int x3)] [] σc σr := by
  obtain ⟨v, τc, τr, e1, e2, hI⟩ := h35  σc σr hI
  refine Lj.aload_n (i := 1) X dL_law_1260 rfl rfl ?_
  refine Lj.callC (v := .int v) (τ := τc) (st := []) X [] rfl cvX5_wipe (kX5_wipe (X.okC σr)  σc _ e1) wmL_158 rfl rfl dL_law_1261 hnc hns rfl (Nat.le_of_ble_eq_true rfl) ?_
  refine Lj.aload_n (i := 2) X dL_law_1264 rfl rfl ?_
  refine Lj.callR (v := .int v) (τ := τr) (st := [.int v]) X [] rfl cvX6_wipe (kX6_wipe (X.okR τc)  σr _ e2) wmL_161 rfl rfl dL_law_1265 hnc hns rfl (Nat.le_of_ble_eq_true rfl) ?_
  refine Lj.eqI X 1632 dL_law_1268 (by decide) ?_
  exact kk τc τr hI
set_option maxRecDepth 20000 in
theorem lc36 {M : MC} {b : LB} {sb L : Nat} {xs : Nat → Int32} {Q : State → Prop} {nc ns : Nat} {σc σr : Mem} {Inv : Mem → Mem → Prop} (X : Lx M b sb L xs) (hL : L ≤ 3072) (hnc : nc ≤ 600000) (hns : ns ≤ 7302250) (h36 : StI Inv (fX5_text) (fX6_text)) (x3 : Int32) (i : Nat) (hx3 : x3 = nI i) (hi : i + 6 ≤ L) (hI : Inv σc σr) (kk : ∀ τc τr, Inv τc τr → Lj M b Q nc ns 1632 [some (.ref sb), some (.ref (b.2.2.1 0)), some (.ref (b.2.2.2.1 0)), some (.int x3)] [] τc τr) : Lj M b Q nc ns 1273 [some (.ref sb), some (.ref (b.2.2.1 0)), some (.ref (b.2.2.2.1 0)), some (.int x3)] [] σc σr := by
  obtain ⟨v, τc, τr, e1, e2, hI⟩ := h36  σc σr hI
  refine Lj.aload_n (i := 1) X dL_law_1273 rfl rfl ?_
  refine Lj.callC (v := .int v) (τ := τc) (st := []) X [] rfl cvX5_text (kX5_text (X.okC σr)  σc _ e1) wmL_162 rfl rfl dL_law_1274 hnc hns rfl (Nat.le_of_ble_eq_true rfl) ?_
  refine Lj.aload_n (i := 2) X dL_law_1277 rfl rfl ?_
  refine Lj.callR (v := .int v) (τ := τr) (st := [.int v]) X [] rfl cvX6_text (kX6_text (X.okR τc)  σr _ e2) wmL_165 rfl rfl dL_law_1278 hnc hns rfl (Nat.le_of_ble_eq_true rfl) ?_
  refine Lj.eqI X 1632 dL_law_1281 (by decide) ?_
  exact kk τc τr hI
set_option maxRecDepth 20000 in
theorem lc37 {M : MC} {b : LB} {sb L : Nat} {xs : Nat → Int32} {Q : State → Prop} {nc ns : Nat} {σc σr : Mem} {Inv : Mem → Mem → Prop} (X : Lx M b sb L xs) (hL : L ≤ 3072) (hnc : nc ≤ 600000) (hns : ns ≤ 7302250) (h37 : ∀ a1 a2 : Int32, StI Inv (fX5_hold a1 a2) (fX6_hold a1 a2)) (x3 : Int32) (i : Nat) (hx3 : x3 = nI i) (hi : i + 6 ≤ L) (hI : Inv σc σr) (kk : ∀ τc τr, Inv τc τr → Lj M b Q nc ns 1632 [some (.ref sb), some (.ref (b.2.2.1 0)), some (.ref (b.2.2.2.1 0)), some (.int x3)] [] τc τr) : Lj M b Q nc ns 1286 [some (.ref sb), some (.ref (b.2.2.1 0)), some (.ref (b.2.2.2.1 0)), some (.int x3)] [] σc σr := by
  obtain ⟨v, τc, τr, e1, e2, hI⟩ := h37 (xs (i + 1)) (xs (i + 2)) σc σr hI
  refine Lj.aload_n (i := 1) X dL_law_1286 rfl rfl ?_
  refine Lj.arg X i 1 hx3 rfl rfl (by omega) hL rfl rfl dL_law_1287 dL_law_1288 dL_law_1289 dL_law_1290 dL_law_1291 ?_
  refine Lj.arg X i 2 hx3 rfl rfl (by omega) hL rfl rfl dL_law_1292 dL_law_1293 dL_law_1294 dL_law_1295 dL_law_1296 ?_
  refine Lj.callC (v := .int v) (τ := τc) (st := []) X [.int (xs (i + 1)), .int (xs (i + 2))] rfl cvX5_hold (kX5_hold (X.okC σr) (xs (i + 1)) (xs (i + 2)) σc _ e1) wmL_166 rfl rfl dL_law_1297 hnc hns rfl (Nat.le_of_ble_eq_true rfl) ?_
  refine Lj.aload_n (i := 2) X dL_law_1300 rfl rfl ?_
  refine Lj.arg X i 1 hx3 rfl rfl (by omega) hL rfl rfl dL_law_1301 dL_law_1302 dL_law_1303 dL_law_1304 dL_law_1305 ?_
  refine Lj.arg X i 2 hx3 rfl rfl (by omega) hL rfl rfl dL_law_1306 dL_law_1307 dL_law_1308 dL_law_1309 dL_law_1310 ?_
  refine Lj.callR (v := .int v) (τ := τr) (st := [.int v]) X [.int (xs (i + 1)), .int (xs (i + 2))] rfl cvX6_hold (kX6_hold (X.okR τc) (xs (i + 1)) (xs (i + 2)) σr _ e2) wmL_169 rfl rfl dL_law_1311 hnc hns rfl (Nat.le_of_ble_eq_true rfl) ?_
  refine Lj.eqI X 1632 dL_law_1314 (by decide) ?_
  exact kk τc τr hI
set_option maxRecDepth 20000 in
theorem lc38 {M : MC} {b : LB} {sb L : Nat} {xs : Nat → Int32} {Q : State → Prop} {nc ns : Nat} {σc σr : Mem} {Inv : Mem → Mem → Prop} (X : Lx M b sb L xs) (hL : L ≤ 3072) (hnc : nc ≤ 600000) (hns : ns ≤ 7302250) (h38 : ∀ a1 a2 : Int32, StI Inv (fX5_as a1 a2) (fX6_as a1 a2)) (x3 : Int32) (i : Nat) (hx3 : x3 = nI i) (hi : i + 6 ≤ L) (hI : Inv σc σr) (kk : ∀ τc τr, Inv τc τr → Lj M b Q nc ns 1632 [some (.ref sb), some (.ref (b.2.2.1 0)), some (.ref (b.2.2.2.1 0)), some (.int x3)] [] τc τr) : Lj M b Q nc ns 1319 [some (.ref sb), some (.ref (b.2.2.1 0)), some (.ref (b.2.2.2.1 0)), some (.int x3)] [] σc σr := by
  obtain ⟨v, τc, τr, e1, e2, hI⟩ := h38 (xs (i + 1)) (xs (i + 2)) σc σr hI
  refine Lj.aload_n (i := 1) X dL_law_1319 rfl rfl ?_
  refine Lj.arg X i 1 hx3 rfl rfl (by omega) hL rfl rfl dL_law_1320 dL_law_1321 dL_law_1322 dL_law_1323 dL_law_1324 ?_
  refine Lj.arg X i 2 hx3 rfl rfl (by omega) hL rfl rfl dL_law_1325 dL_law_1326 dL_law_1327 dL_law_1328 dL_law_1329 ?_
  refine Lj.callC (v := .int v) (τ := τc) (st := []) X [.int (xs (i + 1)), .int (xs (i + 2))] rfl cvX5_as (kX5_as (X.okC σr) (xs (i + 1)) (xs (i + 2)) σc _ e1) wmL_170 rfl rfl dL_law_1330 hnc hns rfl (Nat.le_of_ble_eq_true rfl) ?_
  refine Lj.aload_n (i := 2) X dL_law_1333 rfl rfl ?_
  refine Lj.arg X i 1 hx3 rfl rfl (by omega) hL rfl rfl dL_law_1334 dL_law_1335 dL_law_1336 dL_law_1337 dL_law_1338 ?_
  refine Lj.arg X i 2 hx3 rfl rfl (by omega) hL rfl rfl dL_law_1339 dL_law_1340 dL_law_1341 dL_law_1342 dL_law_1343 ?_
  refine Lj.callR (v := .int v) (τ := τr) (st := [.int v]) X [.int (xs (i + 1)), .int (xs (i + 2))] rfl cvX6_as (kX6_as (X.okR τc) (xs (i + 1)) (xs (i + 2)) σr _ e2) wmL_173 rfl rfl dL_law_1344 hnc hns rfl (Nat.le_of_ble_eq_true rfl) ?_
  refine Lj.eqI X 1632 dL_law_1347 (by decide) ?_
  exact kk τc τr hI
set_option maxRecDepth 20000 in
theorem lc39 {M : MC} {b : LB} {sb L : Nat} {xs : Nat → Int32} {Q : State → Prop} {nc ns : Nat} {σc σr : Mem} {Inv : Mem → Mem → Prop} (X : Lx M b sb L xs) (hL : L ≤ 3072) (hnc : nc ≤ 600000) (hns : ns ≤ 7302250) (h39 : ∀ a1 a2 a3 : Int32, StI Inv (fX5_sheet a1 a2 a3) (fX6_sheet a1 a2 a3)) (x3 : Int32) (i : Nat) (hx3 : x3 = nI i) (hi : i + 6 ≤ L) (hI : Inv σc σr) (kk : ∀ τc τr, Inv τc τr → Lj M b Q nc ns 1632 [some (.ref sb), some (.ref (b.2.2.1 0)), some (.ref (b.2.2.2.1 0)), some (.int x3)] [] τc τr) : Lj M b Q nc ns 1352 [some (.ref sb), some (.ref (b.2.2.1 0)), some (.ref (b.2.2.2.1 0)), some (.int x3)] [] σc σr := by
  obtain ⟨v, τc, τr, e1, e2, hI⟩ := h39 (xs (i + 1)) (xs (i + 2)) (xs (i + 3)) σc σr hI
  refine Lj.aload_n (i := 1) X dL_law_1352 rfl rfl ?_
  refine Lj.arg X i 1 hx3 rfl rfl (by omega) hL rfl rfl dL_law_1353 dL_law_1354 dL_law_1355 dL_law_1356 dL_law_1357 ?_
  refine Lj.arg X i 2 hx3 rfl rfl (by omega) hL rfl rfl dL_law_1358 dL_law_1359 dL_law_1360 dL_law_1361 dL_law_1362 ?_
  refine Lj.arg X i 3 hx3 rfl rfl (by omega) hL rfl rfl dL_law_1363 dL_law_1364 dL_law_1365 dL_law_1366 dL_law_1367 ?_
  refine Lj.callC (v := .int v) (τ := τc) (st := []) X [.int (xs (i + 1)), .int (xs (i + 2)), .int (xs (i + 3))] rfl cvX5_sheet (kX5_sheet (X.okC σr) (xs (i + 1)) (xs (i + 2)) (xs (i + 3)) σc _ e1) wmL_174 rfl rfl dL_law_1368 hnc hns rfl (Nat.le_of_ble_eq_true rfl) ?_
  refine Lj.aload_n (i := 2) X dL_law_1371 rfl rfl ?_
  refine Lj.arg X i 1 hx3 rfl rfl (by omega) hL rfl rfl dL_law_1372 dL_law_1373 dL_law_1374 dL_law_1375 dL_law_1376 ?_
  refine Lj.arg X i 2 hx3 rfl rfl (by omega) hL rfl rfl dL_law_1377 dL_law_1378 dL_law_1379 dL_law_1380 dL_law_1381 ?_
  refine Lj.arg X i 3 hx3 rfl rfl (by omega) hL rfl rfl dL_law_1382 dL_law_1383 dL_law_1384 dL_law_1385 dL_law_1386 ?_
  refine Lj.callR (v := .int v) (τ := τr) (st := [.int v]) X [.int (xs (i + 1)), .int (xs (i + 2)), .int (xs (i + 3))] rfl cvX6_sheet (kX6_sheet (X.okR τc) (xs (i + 1)) (xs (i + 2)) (xs (i + 3)) σr _ e2) wmL_177 rfl rfl dL_law_1387 hnc hns rfl (Nat.le_of_ble_eq_true rfl) ?_
  refine Lj.eqI X 1632 dL_law_1390 (by decide) ?_
  exact kk τc τr hI
set_option maxRecDepth 20000 in
theorem lc40 {M : MC} {b : LB} {sb L : Nat} {xs : Nat → Int32} {Q : State → Prop} {nc ns : Nat} {σc σr : Mem} {Inv : Mem → Mem → Prop} (X : Lx M b sb L xs) (hL : L ≤ 3072) (hnc : nc ≤ 600000) (hns : ns ≤ 7302250) (h40 : ∀ a1 a2 a3 : Int32, StI Inv (fX5_write a1 a2 a3) (fX6_write a1 a2 a3)) (x3 : Int32) (i : Nat) (hx3 : x3 = nI i) (hi : i + 6 ≤ L) (hI : Inv σc σr) (kk : ∀ τc τr, Inv τc τr → Lj M b Q nc ns 1632 [some (.ref sb), some (.ref (b.2.2.1 0)), some (.ref (b.2.2.2.1 0)), some (.int x3)] [] τc τr) : Lj M b Q nc ns 1395 [some (.ref sb), some (.ref (b.2.2.1 0)), some (.ref (b.2.2.2.1 0)), some (.int x3)] [] σc σr := by
  obtain ⟨v, τc, τr, e1, e2, hI⟩ := h40 (xs (i + 1)) (xs (i + 2)) (xs (i + 3)) σc σr hI
  refine Lj.aload_n (i := 1) X dL_law_1395 rfl rfl ?_
  refine Lj.arg X i 1 hx3 rfl rfl (by omega) hL rfl rfl dL_law_1396 dL_law_1397 dL_law_1398 dL_law_1399 dL_law_1400 ?_
  refine Lj.arg X i 2 hx3 rfl rfl (by omega) hL rfl rfl dL_law_1401 dL_law_1402 dL_law_1403 dL_law_1404 dL_law_1405 ?_
  refine Lj.arg X i 3 hx3 rfl rfl (by omega) hL rfl rfl dL_law_1406 dL_law_1407 dL_law_1408 dL_law_1409 dL_law_1410 ?_
  refine Lj.callC (v := .int v) (τ := τc) (st := []) X [.int (xs (i + 1)), .int (xs (i + 2)), .int (xs (i + 3))] rfl cvX5_write (kX5_write (X.okC σr) (xs (i + 1)) (xs (i + 2)) (xs (i + 3)) σc _ e1) wmL_178 rfl rfl dL_law_1411 hnc hns rfl (Nat.le_of_ble_eq_true rfl) ?_
  refine Lj.aload_n (i := 2) X dL_law_1414 rfl rfl ?_
  refine Lj.arg X i 1 hx3 rfl rfl (by omega) hL rfl rfl dL_law_1415 dL_law_1416 dL_law_1417 dL_law_1418 dL_law_1419 ?_
  refine Lj.arg X i 2 hx3 rfl rfl (by omega) hL rfl rfl dL_law_1420 dL_law_1421 dL_law_1422 dL_law_1423 dL_law_1424 ?_
  refine Lj.arg X i 3 hx3 rfl rfl (by omega) hL rfl rfl dL_law_1425 dL_law_1426 dL_law_1427 dL_law_1428 dL_law_1429 ?_
  refine Lj.callR (v := .int v) (τ := τr) (st := [.int v]) X [.int (xs (i + 1)), .int (xs (i + 2)), .int (xs (i + 3))] rfl cvX6_write (kX6_write (X.okR τc) (xs (i + 1)) (xs (i + 2)) (xs (i + 3)) σr _ e2) wmL_181 rfl rfl dL_law_1430 hnc hns rfl (Nat.le_of_ble_eq_true rfl) ?_
  refine Lj.eqI X 1632 dL_law_1433 (by decide) ?_
  exact kk τc τr hI
set_option maxRecDepth 20000 in
theorem lc41 {M : MC} {b : LB} {sb L : Nat} {xs : Nat → Int32} {Q : State → Prop} {nc ns : Nat} {σc σr : Mem} {Inv : Mem → Mem → Prop} (X : Lx M b sb L xs) (hL : L ≤ 3072) (hnc : nc ≤ 600000) (hns : ns ≤ 7302250) (h41 : ∀ a1 a2 a3 a4 a5 : Int32, StI Inv (fX5_copy a1 a2 a3 a4 a5) (fX6_copy a1 a2 a3 a4 a5)) (x3 : Int32) (i : Nat) (hx3 : x3 = nI i) (hi : i + 6 ≤ L) (hI : Inv σc σr) (kk : ∀ τc τr, Inv τc τr → Lj M b Q nc ns 1632 [some (.ref sb), some (.ref (b.2.2.1 0)), some (.ref (b.2.2.2.1 0)), some (.int x3)] [] τc τr) : Lj M b Q nc ns 1438 [some (.ref sb), some (.ref (b.2.2.1 0)), some (.ref (b.2.2.2.1 0)), some (.int x3)] [] σc σr := by
  obtain ⟨v, τc, τr, e1, e2, hI⟩ := h41 (xs (i + 1)) (xs (i + 2)) (xs (i + 3)) (xs (i + 4)) (xs (i + 5)) σc σr hI
  refine Lj.aload_n (i := 1) X dL_law_1438 rfl rfl ?_
  refine Lj.arg X i 1 hx3 rfl rfl (by omega) hL rfl rfl dL_law_1439 dL_law_1440 dL_law_1441 dL_law_1442 dL_law_1443 ?_
  refine Lj.arg X i 2 hx3 rfl rfl (by omega) hL rfl rfl dL_law_1444 dL_law_1445 dL_law_1446 dL_law_1447 dL_law_1448 ?_
  refine Lj.arg X i 3 hx3 rfl rfl (by omega) hL rfl rfl dL_law_1449 dL_law_1450 dL_law_1451 dL_law_1452 dL_law_1453 ?_
  refine Lj.arg X i 4 hx3 rfl rfl (by omega) hL rfl rfl dL_law_1454 dL_law_1455 dL_law_1456 dL_law_1457 dL_law_1458 ?_
  refine Lj.arg X i 5 hx3 rfl rfl (by omega) hL rfl rfl dL_law_1459 dL_law_1460 dL_law_1461 dL_law_1462 dL_law_1463 ?_
  refine Lj.callC (v := .int v) (τ := τc) (st := []) X [.int (xs (i + 1)), .int (xs (i + 2)), .int (xs (i + 3)), .int (xs (i + 4)), .int (xs (i + 5))] rfl cvX5_copy (kX5_copy (X.okC σr) (xs (i + 1)) (xs (i + 2)) (xs (i + 3)) (xs (i + 4)) (xs (i + 5)) σc _ e1) wmL_182 rfl rfl dL_law_1464 hnc hns rfl (Nat.le_of_ble_eq_true rfl) ?_
  refine Lj.aload_n (i := 2) X dL_law_1467 rfl rfl ?_
  refine Lj.arg X i 1 hx3 rfl rfl (by omega) hL rfl rfl dL_law_1468 dL_law_1469 dL_law_1470 dL_law_1471 dL_law_1472 ?_
  refine Lj.arg X i 2 hx3 rfl rfl (by omega) hL rfl rfl dL_law_1473 dL_law_1474 dL_law_1475 dL_law_1476 dL_law_1477 ?_
  refine Lj.arg X i 3 hx3 rfl rfl (by omega) hL rfl rfl dL_law_1478 dL_law_1479 dL_law_1480 dL_law_1481 dL_law_1482 ?_
  refine Lj.arg X i 4 hx3 rfl rfl (by omega) hL rfl rfl dL_law_1483 dL_law_1484 dL_law_1485 dL_law_1486 dL_law_1487 ?_
  refine Lj.arg X i 5 hx3 rfl rfl (by omega) hL rfl rfl dL_law_1488 dL_law_1489 dL_law_1490 dL_law_1491 dL_law_1492 ?_
  refine Lj.callR (v := .int v) (τ := τr) (st := [.int v]) X [.int (xs (i + 1)), .int (xs (i + 2)), .int (xs (i + 3)), .int (xs (i + 4)), .int (xs (i + 5))] rfl cvX6_copy (kX6_copy (X.okR τc) (xs (i + 1)) (xs (i + 2)) (xs (i + 3)) (xs (i + 4)) (xs (i + 5)) σr _ e2) wmL_186 rfl rfl dL_law_1493 hnc hns rfl (Nat.le_of_ble_eq_true rfl) ?_
  refine Lj.eqI X 1632 dL_law_1496 (by decide) ?_
  exact kk τc τr hI
set_option maxRecDepth 20000 in
theorem lc42 {M : MC} {b : LB} {sb L : Nat} {xs : Nat → Int32} {Q : State → Prop} {nc ns : Nat} {σc σr : Mem} {Inv : Mem → Mem → Prop} (X : Lx M b sb L xs) (hL : L ≤ 3072) (hnc : nc ≤ 600000) (hns : ns ≤ 7302250) (h42 : ∀ a1 : Int32, StI Inv (fX5_load a1) (fX6_load a1)) (x3 : Int32) (i : Nat) (hx3 : x3 = nI i) (hi : i + 6 ≤ L) (hI : Inv σc σr) (kk : ∀ τc τr, Inv τc τr → Lj M b Q nc ns 1632 [some (.ref sb), some (.ref (b.2.2.1 0)), some (.ref (b.2.2.2.1 0)), some (.int x3)] [] τc τr) : Lj M b Q nc ns 1501 [some (.ref sb), some (.ref (b.2.2.1 0)), some (.ref (b.2.2.2.1 0)), some (.int x3)] [] σc σr := by
  obtain ⟨v, τc, τr, e1, e2, hI⟩ := h42 (xs (i + 1)) σc σr hI
  refine Lj.aload_n (i := 1) X dL_law_1501 rfl rfl ?_
  refine Lj.arg X i 1 hx3 rfl rfl (by omega) hL rfl rfl dL_law_1502 dL_law_1503 dL_law_1504 dL_law_1505 dL_law_1506 ?_
  refine Lj.callC (v := .int v) (τ := τc) (st := []) X [.int (xs (i + 1))] rfl cvX5_load (kX5_load (X.okC σr) (xs (i + 1)) σc _ e1) wmL_187 rfl rfl dL_law_1507 hnc hns rfl (Nat.le_of_ble_eq_true rfl) ?_
  refine Lj.aload_n (i := 2) X dL_law_1510 rfl rfl ?_
  refine Lj.arg X i 1 hx3 rfl rfl (by omega) hL rfl rfl dL_law_1511 dL_law_1512 dL_law_1513 dL_law_1514 dL_law_1515 ?_
  refine Lj.callR (v := .int v) (τ := τr) (st := [.int v]) X [.int (xs (i + 1))] rfl cvX6_load (kX6_load (X.okR τc) (xs (i + 1)) σr _ e2) wmL_190 rfl rfl dL_law_1516 hnc hns rfl (Nat.le_of_ble_eq_true rfl) ?_
  refine Lj.eqI X 1632 dL_law_1519 (by decide) ?_
  exact kk τc τr hI
set_option maxRecDepth 20000 in
theorem lc43 {M : MC} {b : LB} {sb L : Nat} {xs : Nat → Int32} {Q : State → Prop} {nc ns : Nat} {σc σr : Mem} {Inv : Mem → Mem → Prop} (X : Lx M b sb L xs) (hL : L ≤ 3072) (hnc : nc ≤ 600000) (hns : ns ≤ 7302250) (h43 : ∀ a1 : Int32, StI Inv (fX5_judge a1) (fX6_judge a1)) (x3 : Int32) (i : Nat) (hx3 : x3 = nI i) (hi : i + 6 ≤ L) (hI : Inv σc σr) (kk : ∀ τc τr, Inv τc τr → Lj M b Q nc ns 1632 [some (.ref sb), some (.ref (b.2.2.1 0)), some (.ref (b.2.2.2.1 0)), some (.int x3)] [] τc τr) : Lj M b Q nc ns 1524 [some (.ref sb), some (.ref (b.2.2.1 0)), some (.ref (b.2.2.2.1 0)), some (.int x3)] [] σc σr := by
  obtain ⟨v, τc, τr, e1, e2, hI⟩ := h43 (xs (i + 1)) σc σr hI
  refine Lj.aload_n (i := 1) X dL_law_1524 rfl rfl ?_
  refine Lj.arg X i 1 hx3 rfl rfl (by omega) hL rfl rfl dL_law_1525 dL_law_1526 dL_law_1527 dL_law_1528 dL_law_1529 ?_
  refine Lj.callC (v := .int v) (τ := τc) (st := []) X [.int (xs (i + 1))] rfl cvX5_judge (kX5_judge (X.okC σr) (xs (i + 1)) σc _ e1) wmL_191 rfl rfl dL_law_1530 hnc hns rfl (Nat.le_of_ble_eq_true rfl) ?_
  refine Lj.aload_n (i := 2) X dL_law_1533 rfl rfl ?_
  refine Lj.arg X i 1 hx3 rfl rfl (by omega) hL rfl rfl dL_law_1534 dL_law_1535 dL_law_1536 dL_law_1537 dL_law_1538 ?_
  refine Lj.callR (v := .int v) (τ := τr) (st := [.int v]) X [.int (xs (i + 1))] rfl cvX6_judge (kX6_judge (X.okR τc) (xs (i + 1)) σr _ e2) wmL_194 rfl rfl dL_law_1539 hnc hns rfl (Nat.le_of_ble_eq_true rfl) ?_
  refine Lj.eqI X 1632 dL_law_1542 (by decide) ?_
  exact kk τc τr hI
set_option maxRecDepth 20000 in
theorem lc44 {M : MC} {b : LB} {sb L : Nat} {xs : Nat → Int32} {Q : State → Prop} {nc ns : Nat} {σc σr : Mem} {Inv : Mem → Mem → Prop} (X : Lx M b sb L xs) (hL : L ≤ 3072) (hnc : nc ≤ 600000) (hns : ns ≤ 7302250) (h44 : StI Inv (fX5_image) (fX6_image)) (x3 : Int32) (i : Nat) (hx3 : x3 = nI i) (hi : i + 6 ≤ L) (hI : Inv σc σr) (kk : ∀ τc τr, Inv τc τr → Lj M b Q nc ns 1632 [some (.ref sb), some (.ref (b.2.2.1 0)), some (.ref (b.2.2.2.1 0)), some (.int x3)] [] τc τr) : Lj M b Q nc ns 1547 [some (.ref sb), some (.ref (b.2.2.1 0)), some (.ref (b.2.2.2.1 0)), some (.int x3)] [] σc σr := by
  obtain ⟨v, τc, τr, e1, e2, hI⟩ := h44  σc σr hI
  refine Lj.aload_n (i := 1) X dL_law_1547 rfl rfl ?_
  refine Lj.callC (v := .int v) (τ := τc) (st := []) X [] rfl cvX5_image (kX5_image (X.okC σr)  σc _ e1) wmL_195 rfl rfl dL_law_1548 hnc hns rfl (Nat.le_of_ble_eq_true rfl) ?_
  refine Lj.aload_n (i := 2) X dL_law_1551 rfl rfl ?_
  refine Lj.callR (v := .int v) (τ := τr) (st := [.int v]) X [] rfl cvX6_image (kX6_image (X.okR τc)  σr _ e2) wmL_198 rfl rfl dL_law_1552 hnc hns rfl (Nat.le_of_ble_eq_true rfl) ?_
  refine Lj.eqI X 1632 dL_law_1555 (by decide) ?_
  exact kk τc τr hI
set_option maxRecDepth 20000 in
theorem lc45 {M : MC} {b : LB} {sb L : Nat} {xs : Nat → Int32} {Q : State → Prop} {nc ns : Nat} {σc σr : Mem} {Inv : Mem → Mem → Prop} (X : Lx M b sb L xs) (hL : L ≤ 3072) (hnc : nc ≤ 600000) (hns : ns ≤ 7302250) (h45 : StI Inv (fX5_undo) (fX6_undo)) (x3 : Int32) (i : Nat) (hx3 : x3 = nI i) (hi : i + 6 ≤ L) (hI : Inv σc σr) (kk : ∀ τc τr, Inv τc τr → Lj M b Q nc ns 1632 [some (.ref sb), some (.ref (b.2.2.1 0)), some (.ref (b.2.2.2.1 0)), some (.int x3)] [] τc τr) : Lj M b Q nc ns 1560 [some (.ref sb), some (.ref (b.2.2.1 0)), some (.ref (b.2.2.2.1 0)), some (.int x3)] [] σc σr := by
  obtain ⟨v, τc, τr, e1, e2, hI⟩ := h45  σc σr hI
  refine Lj.aload_n (i := 1) X dL_law_1560 rfl rfl ?_
  refine Lj.callC (v := .int v) (τ := τc) (st := []) X [] rfl cvX5_undo (kX5_undo (X.okC σr)  σc _ e1) wmL_199 rfl rfl dL_law_1561 hnc hns rfl (Nat.le_of_ble_eq_true rfl) ?_
  refine Lj.aload_n (i := 2) X dL_law_1564 rfl rfl ?_
  refine Lj.callR (v := .int v) (τ := τr) (st := [.int v]) X [] rfl cvX6_undo (kX6_undo (X.okR τc)  σr _ e2) wmL_202 rfl rfl dL_law_1565 hnc hns rfl (Nat.le_of_ble_eq_true rfl) ?_
  refine Lj.eqI X 1632 dL_law_1568 (by decide) ?_
  exact kk τc τr hI
set_option maxRecDepth 20000 in
theorem lc46 {M : MC} {b : LB} {sb L : Nat} {xs : Nat → Int32} {Q : State → Prop} {nc ns : Nat} {σc σr : Mem} {Inv : Mem → Mem → Prop} (X : Lx M b sb L xs) (hL : L ≤ 3072) (hnc : nc ≤ 600000) (hns : ns ≤ 7302250) (h46 : StI Inv (fX5_tear) (fX6_tear)) (x3 : Int32) (i : Nat) (hx3 : x3 = nI i) (hi : i + 6 ≤ L) (hI : Inv σc σr) (kk : ∀ τc τr, Inv τc τr → Lj M b Q nc ns 1632 [some (.ref sb), some (.ref (b.2.2.1 0)), some (.ref (b.2.2.2.1 0)), some (.int x3)] [] τc τr) : Lj M b Q nc ns 1573 [some (.ref sb), some (.ref (b.2.2.1 0)), some (.ref (b.2.2.2.1 0)), some (.int x3)] [] σc σr := by
  obtain ⟨v, τc, τr, e1, e2, hI⟩ := h46  σc σr hI
  refine Lj.aload_n (i := 1) X dL_law_1573 rfl rfl ?_
  refine Lj.callC (v := .int v) (τ := τc) (st := []) X [] rfl cvX5_tear (kX5_tear (X.okC σr)  σc _ e1) wmL_203 rfl rfl dL_law_1574 hnc hns rfl (Nat.le_of_ble_eq_true rfl) ?_
  refine Lj.aload_n (i := 2) X dL_law_1577 rfl rfl ?_
  refine Lj.callR (v := .int v) (τ := τr) (st := [.int v]) X [] rfl cvX6_tear (kX6_tear (X.okR τc)  σr _ e2) wmL_206 rfl rfl dL_law_1578 hnc hns rfl (Nat.le_of_ble_eq_true rfl) ?_
  refine Lj.eqI X 1632 dL_law_1581 (by decide) ?_
  exact kk τc τr hI
set_option maxRecDepth 20000 in
theorem lc47 {M : MC} {b : LB} {sb L : Nat} {xs : Nat → Int32} {Q : State → Prop} {nc ns : Nat} {σc σr : Mem} {Inv : Mem → Mem → Prop} (X : Lx M b sb L xs) (hL : L ≤ 3072) (hnc : nc ≤ 600000) (hns : ns ≤ 7302250) (h47 : ∀ a1 : Int32, StI Inv (fX5_count a1) (fX6_count a1)) (x3 : Int32) (i : Nat) (hx3 : x3 = nI i) (hi : i + 6 ≤ L) (hI : Inv σc σr) (kk : ∀ τc τr, Inv τc τr → Lj M b Q nc ns 1632 [some (.ref sb), some (.ref (b.2.2.1 0)), some (.ref (b.2.2.2.1 0)), some (.int x3)] [] τc τr) : Lj M b Q nc ns 1586 [some (.ref sb), some (.ref (b.2.2.1 0)), some (.ref (b.2.2.2.1 0)), some (.int x3)] [] σc σr := by
  obtain ⟨v, τc, τr, e1, e2, hI⟩ := h47 (xs (i + 1)) σc σr hI
  refine Lj.aload_n (i := 1) X dL_law_1586 rfl rfl ?_
  refine Lj.arg X i 1 hx3 rfl rfl (by omega) hL rfl rfl dL_law_1587 dL_law_1588 dL_law_1589 dL_law_1590 dL_law_1591 ?_
  refine Lj.callC (v := .int v) (τ := τc) (st := []) X [.int (xs (i + 1))] rfl cvX5_count (kX5_count (X.okC σr) (xs (i + 1)) σc _ e1) wmL_207 rfl rfl dL_law_1592 hnc hns rfl (Nat.le_of_ble_eq_true rfl) ?_
  refine Lj.aload_n (i := 2) X dL_law_1595 rfl rfl ?_
  refine Lj.arg X i 1 hx3 rfl rfl (by omega) hL rfl rfl dL_law_1596 dL_law_1597 dL_law_1598 dL_law_1599 dL_law_1600 ?_
  refine Lj.callR (v := .int v) (τ := τr) (st := [.int v]) X [.int (xs (i + 1))] rfl cvX6_count (kX6_count (X.okR τc) (xs (i + 1)) σr _ e2) wmL_210 rfl rfl dL_law_1601 hnc hns rfl (Nat.le_of_ble_eq_true rfl) ?_
  refine Lj.eqI X 1632 dL_law_1604 (by decide) ?_
  exact kk τc τr hI
set_option maxRecDepth 20000 in
theorem lc48 {M : MC} {b : LB} {sb L : Nat} {xs : Nat → Int32} {Q : State → Prop} {nc ns : Nat} {σc σr : Mem} {Inv : Mem → Mem → Prop} (X : Lx M b sb L xs) (hL : L ≤ 3072) (hnc : nc ≤ 600000) (hns : ns ≤ 7302250) (h48 : ∀ a1 : Int32, StI Inv (fX5_status a1) (fX6_status a1)) (x3 : Int32) (i : Nat) (hx3 : x3 = nI i) (hi : i + 6 ≤ L) (hI : Inv σc σr) (kk : ∀ τc τr, Inv τc τr → Lj M b Q nc ns 1632 [some (.ref sb), some (.ref (b.2.2.1 0)), some (.ref (b.2.2.2.1 0)), some (.int x3)] [] τc τr) : Lj M b Q nc ns 1609 [some (.ref sb), some (.ref (b.2.2.1 0)), some (.ref (b.2.2.2.1 0)), some (.int x3)] [] σc σr := by
  obtain ⟨v, τc, τr, e1, e2, hI⟩ := h48 (xs (i + 1)) σc σr hI
  refine Lj.aload_n (i := 1) X dL_law_1609 rfl rfl ?_
  refine Lj.arg X i 1 hx3 rfl rfl (by omega) hL rfl rfl dL_law_1610 dL_law_1611 dL_law_1612 dL_law_1613 dL_law_1614 ?_
  refine Lj.callC (v := .int v) (τ := τc) (st := []) X [.int (xs (i + 1))] rfl cvX5_status (kX5_status (X.okC σr) (xs (i + 1)) σc _ e1) wmL_211 rfl rfl dL_law_1615 hnc hns rfl (Nat.le_of_ble_eq_true rfl) ?_
  refine Lj.aload_n (i := 2) X dL_law_1618 rfl rfl ?_
  refine Lj.arg X i 1 hx3 rfl rfl (by omega) hL rfl rfl dL_law_1619 dL_law_1620 dL_law_1621 dL_law_1622 dL_law_1623 ?_
  refine Lj.callR (v := .int v) (τ := τr) (st := [.int v]) X [.int (xs (i + 1))] rfl cvX6_status (kX6_status (X.okR τc) (xs (i + 1)) σr _ e2) wmL_214 rfl rfl dL_law_1624 hnc hns rfl (Nat.le_of_ble_eq_true rfl) ?_
  refine Lj.eqI X 1632 dL_law_1627 (by decide) ?_
  exact kk τc τr hI
