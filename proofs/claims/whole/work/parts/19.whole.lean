def m0C : Mem := fun k => if k = 1 then (fun j => if j = 10 then 1 else if j = 11 then 2 else if j = 14 then 1 else 0) else if k = 11 then (fun j => if j = 10 then 1 else if j = 11 then 2 else if j = 14 then 1 else 0) else if k = 21 then (fun j => if j = 10 then 1 else if j = 11 then 2 else if j = 14 then 1 else 0) else if k = 10 then sp0 else if k = 20 then sp0 else if k = 30 then sp0 else fun _ => 0
def m0R : Mem := fun k => if k = 1 then s0R else fun _ => 0
theorem wM_a0 {w : WE} {sh : List Shp} {σ : Mem} {k : Nat} {s : Shp} (h : sh[k]? = some s) : (wM w sh σ)[k]? = some (wad w k, ent w s (σ k)) := by
  rw [wM, List.getElem?_mapIdx, h]
  rfl
def taxV (w : WE) (f : Nat → Nat) : va_W := (taxW w f).set 36 (f 36, .inl (wO w, 4, .inr (.inr (.inr (.inr (fun j => some (f (37 + 2 * j))))))))
theorem arr_co {cA : ClassId} {n : Nat} {z z' : Nat → Value} (h : ∀ j, j < n → z j = z' j) : arrV cA n z = arrV cA n z' := by
  unfold arrV
  congr 1
  apply Array.ext
  · simp
  · intro i h1 h2
    simp
    exact h i (by simpa using h1)
theorem tax_P {D : va_G} {w : WE} {f : Nat → Nat} {E : va_W} {H : Heap} (h : va_P D vwCl (taxW w f ++ E) H) : va_P D vwCl (taxV w f ++ E) H := by
  have h36 : (taxW w f)[36]? = some (f 36, .inl (wO w, 4, .inr (.inr (.inr (.inr (va_up (va_up (va_up (va_up (fun _ => none) 0 (some (f 37))) 1 (some (f 39))) 2 (some (f 41))) 3 (some (f 43)))))))) := rfl
  have hlt : 36 < (taxW w f).length := (List.getElem?_eq_some_iff.mp h36).1
  have hc := h 36 _ (ap_at h36)
  rw [taxV, ← List.set_append_left _ _ hlt]
  intro k q hk
  by_cases hk36 : k = 36
  · subst hk36
    rw [List.getElem?_set_self (by rw [List.length_append]; omega)] at hk
    cases hk
    show H[f 36]? = some (vp_cell _ _)
    refine Eq.trans hc ?_
    rw [vp_cell_q, vp_cell_q]
    exact congrArg some (arr_co (fun j hj => by rcases (show j = 0 ∨ j = 1 ∨ j = 2 ∨ j = 3 by omega) with rfl | rfl | rfl | rfl <;> rfl))
  · rw [List.getElem?_set_ne (Ne.symm hk36)] at hk
    exact h k q hk
theorem tax_D {A : Nat → Prop} {w : WE} {f : Nat → Nat} {E : va_W} (h : va_D A (taxW w f ++ E)) : va_D A (taxV w f ++ E) := by
  have h36 : (taxW w f)[36]? = some (f 36, .inl (wO w, 4, .inr (.inr (.inr (.inr (va_up (va_up (va_up (va_up (fun _ => none) 0 (some (f 37))) 1 (some (f 39))) 2 (some (f 41))) 3 (some (f 43)))))))) := rfl
  have hlt : 36 < (taxW w f).length := (List.getElem?_eq_some_iff.mp h36).1
  rw [taxV, ← List.set_append_left _ _ hlt]
  exact h.set (ap_at h36)
theorem tax_0 (b : LB) (w : WE) (h : w.2.1 = b.2.1) : (taxV w b.2.2.1)[0]? = some (b.2.2.1 0, ent (bC b []) (.inr (4, [some 1, some 11, some 21, none, some 31, some 34, some 36, some 45])) (m0C 0)) := by
  obtain ⟨D, c, ad, a0, rest, z⟩ := w
  cases h
  rfl
theorem tax_1 (b : LB) (w : WE) (h : w.2.1 = b.2.1) : (taxV w b.2.2.1)[1]? = some (b.2.2.1 1, ent (bC b []) (.inr (0, [none, some (2), some (3), some (4), some (5), some (6), some (7), none, some (8), some (9), none, none, none, none, none, some (10)])) (m0C 1)) := by
  obtain ⟨D, c, ad, a0, rest, z⟩ := w
  cases h
  rfl
theorem tax_2 (b : LB) (w : WE) (h : w.2.1 = b.2.1) : (taxV w b.2.2.1)[2]? = some (b.2.2.1 2, ent (bC b []) (.inl (0, 8, 0)) (m0C 2)) := by
  obtain ⟨D, c, ad, a0, rest, z⟩ := w
  cases h
  rfl
theorem tax_3 (b : LB) (w : WE) (h : w.2.1 = b.2.1) : (taxV w b.2.2.1)[3]? = some (b.2.2.1 3, ent (bC b []) (.inl (0, 8, 0)) (m0C 3)) := by
  obtain ⟨D, c, ad, a0, rest, z⟩ := w
  cases h
  rfl
theorem tax_4 (b : LB) (w : WE) (h : w.2.1 = b.2.1) : (taxV w b.2.2.1)[4]? = some (b.2.2.1 4, ent (bC b []) (.inl (0, 8, 0)) (m0C 4)) := by
  obtain ⟨D, c, ad, a0, rest, z⟩ := w
  cases h
  rfl
theorem tax_5 (b : LB) (w : WE) (h : w.2.1 = b.2.1) : (taxV w b.2.2.1)[5]? = some (b.2.2.1 5, ent (bC b []) (.inl (0, 8, 0)) (m0C 5)) := by
  obtain ⟨D, c, ad, a0, rest, z⟩ := w
  cases h
  rfl
theorem tax_6 (b : LB) (w : WE) (h : w.2.1 = b.2.1) : (taxV w b.2.2.1)[6]? = some (b.2.2.1 6, ent (bC b []) (.inl (0, 8, 0)) (m0C 6)) := by
  obtain ⟨D, c, ad, a0, rest, z⟩ := w
  cases h
  rfl
theorem tax_7 (b : LB) (w : WE) (h : w.2.1 = b.2.1) : (taxV w b.2.2.1)[7]? = some (b.2.2.1 7, ent (bC b []) (.inl (0, 8, 0)) (m0C 7)) := by
  obtain ⟨D, c, ad, a0, rest, z⟩ := w
  cases h
  rfl
theorem tax_8 (b : LB) (w : WE) (h : w.2.1 = b.2.1) : (taxV w b.2.2.1)[8]? = some (b.2.2.1 8, ent (bC b []) (.inl (0, 8, 0)) (m0C 8)) := by
  obtain ⟨D, c, ad, a0, rest, z⟩ := w
  cases h
  rfl
theorem tax_9 (b : LB) (w : WE) (h : w.2.1 = b.2.1) : (taxV w b.2.2.1)[9]? = some (b.2.2.1 9, ent (bC b []) (.inl (0, 8, 0)) (m0C 9)) := by
  obtain ⟨D, c, ad, a0, rest, z⟩ := w
  cases h
  rfl
theorem tax_10 (b : LB) (w : WE) (h : w.2.1 = b.2.1) : (taxV w b.2.2.1)[10]? = some (b.2.2.1 10, ent (bC b []) (.inl (0, 10, 0)) (m0C 10)) := by
  obtain ⟨D, c, ad, a0, rest, z⟩ := w
  cases h
  rfl
theorem tax_11 (b : LB) (w : WE) (h : w.2.1 = b.2.1) : (taxV w b.2.2.1)[11]? = some (b.2.2.1 11, ent (bC b []) (.inr (0, [none, some (12), some (13), some (14), some (15), some (16), some (17), none, some (18), some (19), none, none, none, none, none, some (20)])) (m0C 11)) := by
  obtain ⟨D, c, ad, a0, rest, z⟩ := w
  cases h
  rfl
theorem tax_12 (b : LB) (w : WE) (h : w.2.1 = b.2.1) : (taxV w b.2.2.1)[12]? = some (b.2.2.1 12, ent (bC b []) (.inl (0, 8, 0)) (m0C 12)) := by
  obtain ⟨D, c, ad, a0, rest, z⟩ := w
  cases h
  rfl
theorem tax_13 (b : LB) (w : WE) (h : w.2.1 = b.2.1) : (taxV w b.2.2.1)[13]? = some (b.2.2.1 13, ent (bC b []) (.inl (0, 8, 0)) (m0C 13)) := by
  obtain ⟨D, c, ad, a0, rest, z⟩ := w
  cases h
  rfl
theorem tax_14 (b : LB) (w : WE) (h : w.2.1 = b.2.1) : (taxV w b.2.2.1)[14]? = some (b.2.2.1 14, ent (bC b []) (.inl (0, 8, 0)) (m0C 14)) := by
  obtain ⟨D, c, ad, a0, rest, z⟩ := w
  cases h
  rfl
theorem tax_15 (b : LB) (w : WE) (h : w.2.1 = b.2.1) : (taxV w b.2.2.1)[15]? = some (b.2.2.1 15, ent (bC b []) (.inl (0, 8, 0)) (m0C 15)) := by
  obtain ⟨D, c, ad, a0, rest, z⟩ := w
  cases h
  rfl
theorem tax_16 (b : LB) (w : WE) (h : w.2.1 = b.2.1) : (taxV w b.2.2.1)[16]? = some (b.2.2.1 16, ent (bC b []) (.inl (0, 8, 0)) (m0C 16)) := by
  obtain ⟨D, c, ad, a0, rest, z⟩ := w
  cases h
  rfl
theorem tax_17 (b : LB) (w : WE) (h : w.2.1 = b.2.1) : (taxV w b.2.2.1)[17]? = some (b.2.2.1 17, ent (bC b []) (.inl (0, 8, 0)) (m0C 17)) := by
  obtain ⟨D, c, ad, a0, rest, z⟩ := w
  cases h
  rfl
theorem tax_18 (b : LB) (w : WE) (h : w.2.1 = b.2.1) : (taxV w b.2.2.1)[18]? = some (b.2.2.1 18, ent (bC b []) (.inl (0, 8, 0)) (m0C 18)) := by
  obtain ⟨D, c, ad, a0, rest, z⟩ := w
  cases h
  rfl
theorem tax_19 (b : LB) (w : WE) (h : w.2.1 = b.2.1) : (taxV w b.2.2.1)[19]? = some (b.2.2.1 19, ent (bC b []) (.inl (0, 8, 0)) (m0C 19)) := by
  obtain ⟨D, c, ad, a0, rest, z⟩ := w
  cases h
  rfl
theorem tax_20 (b : LB) (w : WE) (h : w.2.1 = b.2.1) : (taxV w b.2.2.1)[20]? = some (b.2.2.1 20, ent (bC b []) (.inl (0, 10, 0)) (m0C 20)) := by
  obtain ⟨D, c, ad, a0, rest, z⟩ := w
  cases h
  rfl
theorem tax_21 (b : LB) (w : WE) (h : w.2.1 = b.2.1) : (taxV w b.2.2.1)[21]? = some (b.2.2.1 21, ent (bC b []) (.inr (0, [none, some (22), some (23), some (24), some (25), some (26), some (27), none, some (28), some (29), none, none, none, none, none, some (30)])) (m0C 21)) := by
  obtain ⟨D, c, ad, a0, rest, z⟩ := w
  cases h
  rfl
theorem tax_22 (b : LB) (w : WE) (h : w.2.1 = b.2.1) : (taxV w b.2.2.1)[22]? = some (b.2.2.1 22, ent (bC b []) (.inl (0, 8, 0)) (m0C 22)) := by
  obtain ⟨D, c, ad, a0, rest, z⟩ := w
  cases h
  rfl
theorem tax_23 (b : LB) (w : WE) (h : w.2.1 = b.2.1) : (taxV w b.2.2.1)[23]? = some (b.2.2.1 23, ent (bC b []) (.inl (0, 8, 0)) (m0C 23)) := by
  obtain ⟨D, c, ad, a0, rest, z⟩ := w
  cases h
  rfl
theorem tax_24 (b : LB) (w : WE) (h : w.2.1 = b.2.1) : (taxV w b.2.2.1)[24]? = some (b.2.2.1 24, ent (bC b []) (.inl (0, 8, 0)) (m0C 24)) := by
  obtain ⟨D, c, ad, a0, rest, z⟩ := w
  cases h
  rfl
theorem tax_25 (b : LB) (w : WE) (h : w.2.1 = b.2.1) : (taxV w b.2.2.1)[25]? = some (b.2.2.1 25, ent (bC b []) (.inl (0, 8, 0)) (m0C 25)) := by
  obtain ⟨D, c, ad, a0, rest, z⟩ := w
  cases h
  rfl
theorem tax_26 (b : LB) (w : WE) (h : w.2.1 = b.2.1) : (taxV w b.2.2.1)[26]? = some (b.2.2.1 26, ent (bC b []) (.inl (0, 8, 0)) (m0C 26)) := by
  obtain ⟨D, c, ad, a0, rest, z⟩ := w
  cases h
  rfl
theorem tax_27 (b : LB) (w : WE) (h : w.2.1 = b.2.1) : (taxV w b.2.2.1)[27]? = some (b.2.2.1 27, ent (bC b []) (.inl (0, 8, 0)) (m0C 27)) := by
  obtain ⟨D, c, ad, a0, rest, z⟩ := w
  cases h
  rfl
theorem tax_28 (b : LB) (w : WE) (h : w.2.1 = b.2.1) : (taxV w b.2.2.1)[28]? = some (b.2.2.1 28, ent (bC b []) (.inl (0, 8, 0)) (m0C 28)) := by
  obtain ⟨D, c, ad, a0, rest, z⟩ := w
  cases h
  rfl
theorem tax_29 (b : LB) (w : WE) (h : w.2.1 = b.2.1) : (taxV w b.2.2.1)[29]? = some (b.2.2.1 29, ent (bC b []) (.inl (0, 8, 0)) (m0C 29)) := by
  obtain ⟨D, c, ad, a0, rest, z⟩ := w
  cases h
  rfl
theorem tax_30 (b : LB) (w : WE) (h : w.2.1 = b.2.1) : (taxV w b.2.2.1)[30]? = some (b.2.2.1 30, ent (bC b []) (.inl (0, 10, 0)) (m0C 30)) := by
  obtain ⟨D, c, ad, a0, rest, z⟩ := w
  cases h
  rfl
theorem tax_31 (b : LB) (w : WE) (h : w.2.1 = b.2.1) : (taxV w b.2.2.1)[31]? = some (b.2.2.1 31, ent (bC b []) (.inr (3, [some 32, some 33, none])) (m0C 31)) := by
  obtain ⟨D, c, ad, a0, rest, z⟩ := w
  cases h
  rfl
theorem tax_32 (b : LB) (w : WE) (h : w.2.1 = b.2.1) : (taxV w b.2.2.1)[32]? = some (b.2.2.1 32, ent (bC b []) (.inl (0, 8, 0)) (m0C 32)) := by
  obtain ⟨D, c, ad, a0, rest, z⟩ := w
  cases h
  rfl
theorem tax_33 (b : LB) (w : WE) (h : w.2.1 = b.2.1) : (taxV w b.2.2.1)[33]? = some (b.2.2.1 33, ent (bC b []) (.inl (0, 8, 0)) (m0C 33)) := by
  obtain ⟨D, c, ad, a0, rest, z⟩ := w
  cases h
  rfl
theorem tax_34 (b : LB) (w : WE) (h : w.2.1 = b.2.1) : (taxV w b.2.2.1)[34]? = some (b.2.2.1 34, ent (bC b []) (.inr (2, [some 35, none, none, none, none, none, none])) (m0C 34)) := by
  obtain ⟨D, c, ad, a0, rest, z⟩ := w
  cases h
  rfl
theorem tax_35 (b : LB) (w : WE) (h : w.2.1 = b.2.1) : (taxV w b.2.2.1)[35]? = some (b.2.2.1 35, ent (bC b []) (.inl (1, 120, 0)) (m0C 35)) := by
  obtain ⟨D, c, ad, a0, rest, z⟩ := w
  cases h
  rfl
theorem tax_36 (b : LB) (w : WE) (h : w.2.1 = b.2.1) : (taxV w b.2.2.1)[36]? = some (b.2.2.1 36, ent (bC b []) (.inl (2, 4, 37)) (m0C 36)) := by
  obtain ⟨D, c, ad, a0, rest, z⟩ := w
  cases h
  rfl
theorem tax_37 (b : LB) (w : WE) (h : w.2.1 = b.2.1) : (taxV w b.2.2.1)[37]? = some (b.2.2.1 37, ent (bC b []) (.inr (1, [some 38, none, none])) (m0C 37)) := by
  obtain ⟨D, c, ad, a0, rest, z⟩ := w
  cases h
  rfl
theorem tax_38 (b : LB) (w : WE) (h : w.2.1 = b.2.1) : (taxV w b.2.2.1)[38]? = some (b.2.2.1 38, ent (bC b []) (.inl (0, 40, 0)) (m0C 38)) := by
  obtain ⟨D, c, ad, a0, rest, z⟩ := w
  cases h
  rfl
theorem tax_39 (b : LB) (w : WE) (h : w.2.1 = b.2.1) : (taxV w b.2.2.1)[39]? = some (b.2.2.1 39, ent (bC b []) (.inr (1, [some 40, none, none])) (m0C 39)) := by
  obtain ⟨D, c, ad, a0, rest, z⟩ := w
  cases h
  rfl
theorem tax_40 (b : LB) (w : WE) (h : w.2.1 = b.2.1) : (taxV w b.2.2.1)[40]? = some (b.2.2.1 40, ent (bC b []) (.inl (0, 40, 0)) (m0C 40)) := by
  obtain ⟨D, c, ad, a0, rest, z⟩ := w
  cases h
  rfl
theorem tax_41 (b : LB) (w : WE) (h : w.2.1 = b.2.1) : (taxV w b.2.2.1)[41]? = some (b.2.2.1 41, ent (bC b []) (.inr (1, [some 42, none, none])) (m0C 41)) := by
  obtain ⟨D, c, ad, a0, rest, z⟩ := w
  cases h
  rfl
theorem tax_42 (b : LB) (w : WE) (h : w.2.1 = b.2.1) : (taxV w b.2.2.1)[42]? = some (b.2.2.1 42, ent (bC b []) (.inl (0, 40, 0)) (m0C 42)) := by
  obtain ⟨D, c, ad, a0, rest, z⟩ := w
  cases h
  rfl
theorem tax_43 (b : LB) (w : WE) (h : w.2.1 = b.2.1) : (taxV w b.2.2.1)[43]? = some (b.2.2.1 43, ent (bC b []) (.inr (1, [some 44, none, none])) (m0C 43)) := by
  obtain ⟨D, c, ad, a0, rest, z⟩ := w
  cases h
  rfl
theorem tax_44 (b : LB) (w : WE) (h : w.2.1 = b.2.1) : (taxV w b.2.2.1)[44]? = some (b.2.2.1 44, ent (bC b []) (.inl (0, 40, 0)) (m0C 44)) := by
  obtain ⟨D, c, ad, a0, rest, z⟩ := w
  cases h
  rfl
theorem tax_45 (b : LB) (w : WE) (h : w.2.1 = b.2.1) : (taxV w b.2.2.1)[45]? = some (b.2.2.1 45, ent (bC b []) (.inl (0, 7, 0)) (m0C 45)) := by
  obtain ⟨D, c, ad, a0, rest, z⟩ := w
  cases h
  rfl
theorem tax_eq (b : LB) (w : WE) (h : w.2.1 = b.2.1) : taxV w b.2.2.1 = lC b m0C := by
  apply List.ext_getElem?
  intro i
  match i with
  | 0 => rw [tax_0 b w h]; exact (wM_a0 (w := bC b []) (σ := m0C) sc_0).symm
  | 1 => rw [tax_1 b w h]; exact (wM_a0 (w := bC b []) (σ := m0C) sc_1).symm
  | 2 => rw [tax_2 b w h]; exact (wM_a0 (w := bC b []) (σ := m0C) sc_2).symm
  | 3 => rw [tax_3 b w h]; exact (wM_a0 (w := bC b []) (σ := m0C) sc_3).symm
  | 4 => rw [tax_4 b w h]; exact (wM_a0 (w := bC b []) (σ := m0C) sc_4).symm
  | 5 => rw [tax_5 b w h]; exact (wM_a0 (w := bC b []) (σ := m0C) sc_5).symm
  | 6 => rw [tax_6 b w h]; exact (wM_a0 (w := bC b []) (σ := m0C) sc_6).symm
  | 7 => rw [tax_7 b w h]; exact (wM_a0 (w := bC b []) (σ := m0C) sc_7).symm
  | 8 => rw [tax_8 b w h]; exact (wM_a0 (w := bC b []) (σ := m0C) sc_8).symm
  | 9 => rw [tax_9 b w h]; exact (wM_a0 (w := bC b []) (σ := m0C) sc_9).symm
  | 10 => rw [tax_10 b w h]; exact (wM_a0 (w := bC b []) (σ := m0C) sc_10).symm
  | 11 => rw [tax_11 b w h]; exact (wM_a0 (w := bC b []) (σ := m0C) sc_11).symm
  | 12 => rw [tax_12 b w h]; exact (wM_a0 (w := bC b []) (σ := m0C) sc_12).symm
  | 13 => rw [tax_13 b w h]; exact (wM_a0 (w := bC b []) (σ := m0C) sc_13).symm
  | 14 => rw [tax_14 b w h]; exact (wM_a0 (w := bC b []) (σ := m0C) sc_14).symm
  | 15 => rw [tax_15 b w h]; exact (wM_a0 (w := bC b []) (σ := m0C) sc_15).symm
  | 16 => rw [tax_16 b w h]; exact (wM_a0 (w := bC b []) (σ := m0C) sc_16).symm
  | 17 => rw [tax_17 b w h]; exact (wM_a0 (w := bC b []) (σ := m0C) sc_17).symm
  | 18 => rw [tax_18 b w h]; exact (wM_a0 (w := bC b []) (σ := m0C) sc_18).symm
  | 19 => rw [tax_19 b w h]; exact (wM_a0 (w := bC b []) (σ := m0C) sc_19).symm
  | 20 => rw [tax_20 b w h]; exact (wM_a0 (w := bC b []) (σ := m0C) sc_20).symm
  | 21 => rw [tax_21 b w h]; exact (wM_a0 (w := bC b []) (σ := m0C) sc_21).symm
  | 22 => rw [tax_22 b w h]; exact (wM_a0 (w := bC b []) (σ := m0C) sc_22).symm
  | 23 => rw [tax_23 b w h]; exact (wM_a0 (w := bC b []) (σ := m0C) sc_23).symm
  | 24 => rw [tax_24 b w h]; exact (wM_a0 (w := bC b []) (σ := m0C) sc_24).symm
  | 25 => rw [tax_25 b w h]; exact (wM_a0 (w := bC b []) (σ := m0C) sc_25).symm
  | 26 => rw [tax_26 b w h]; exact (wM_a0 (w := bC b []) (σ := m0C) sc_26).symm
  | 27 => rw [tax_27 b w h]; exact (wM_a0 (w := bC b []) (σ := m0C) sc_27).symm
  | 28 => rw [tax_28 b w h]; exact (wM_a0 (w := bC b []) (σ := m0C) sc_28).symm
  | 29 => rw [tax_29 b w h]; exact (wM_a0 (w := bC b []) (σ := m0C) sc_29).symm
  | 30 => rw [tax_30 b w h]; exact (wM_a0 (w := bC b []) (σ := m0C) sc_30).symm
  | 31 => rw [tax_31 b w h]; exact (wM_a0 (w := bC b []) (σ := m0C) sc_31).symm
  | 32 => rw [tax_32 b w h]; exact (wM_a0 (w := bC b []) (σ := m0C) sc_32).symm
  | 33 => rw [tax_33 b w h]; exact (wM_a0 (w := bC b []) (σ := m0C) sc_33).symm
  | 34 => rw [tax_34 b w h]; exact (wM_a0 (w := bC b []) (σ := m0C) sc_34).symm
  | 35 => rw [tax_35 b w h]; exact (wM_a0 (w := bC b []) (σ := m0C) sc_35).symm
  | 36 => rw [tax_36 b w h]; exact (wM_a0 (w := bC b []) (σ := m0C) sc_36).symm
  | 37 => rw [tax_37 b w h]; exact (wM_a0 (w := bC b []) (σ := m0C) sc_37).symm
  | 38 => rw [tax_38 b w h]; exact (wM_a0 (w := bC b []) (σ := m0C) sc_38).symm
  | 39 => rw [tax_39 b w h]; exact (wM_a0 (w := bC b []) (σ := m0C) sc_39).symm
  | 40 => rw [tax_40 b w h]; exact (wM_a0 (w := bC b []) (σ := m0C) sc_40).symm
  | 41 => rw [tax_41 b w h]; exact (wM_a0 (w := bC b []) (σ := m0C) sc_41).symm
  | 42 => rw [tax_42 b w h]; exact (wM_a0 (w := bC b []) (σ := m0C) sc_42).symm
  | 43 => rw [tax_43 b w h]; exact (wM_a0 (w := bC b []) (σ := m0C) sc_43).symm
  | 44 => rw [tax_44 b w h]; exact (wM_a0 (w := bC b []) (σ := m0C) sc_44).symm
  | 45 => rw [tax_45 b w h]; exact (wM_a0 (w := bC b []) (σ := m0C) sc_45).symm
  | i + 46 =>
    rw [List.getElem?_eq_none (by show (taxV w b.2.2.1).length ≤ _; exact Nat.le_trans (Nat.le_of_eq (show (taxV w b.2.2.1).length = 46 from rfl)) (by omega)), List.getElem?_eq_none]
    show (wM (bC b []) shC m0C).length ≤ _
    rw [wM_len]
    exact Nat.le_trans (Nat.le_of_eq (show shC.length = 46 from rfl)) (by omega)
theorem model_0 (b : LB) (w : WE) (h : w.2.1 = b.2.1) : (modelW w b.2.2.2.1)[0]? = some (b.2.2.2.1 0, ent (bR b []) (.inr (5, [some 1, some 2, some 3, none, some 4, some 5, none, some 6, none, some 7, none, none, none, none, some 8, some 9, some 10, some 11])) (m0R 0)) := by
  obtain ⟨D, c, ad, a0, rest, z⟩ := w
  cases h
  rfl
theorem model_1 (b : LB) (w : WE) (h : w.2.1 = b.2.1) : (modelW w b.2.2.2.1)[1]? = some (b.2.2.2.1 1, ent (bR b []) (.inl (0, 73, 0)) (m0R 1)) := by
  obtain ⟨D, c, ad, a0, rest, z⟩ := w
  cases h
  rfl
theorem model_2 (b : LB) (w : WE) (h : w.2.1 = b.2.1) : (modelW w b.2.2.2.1)[2]? = some (b.2.2.2.1 2, ent (bR b []) (.inl (0, 73, 0)) (m0R 2)) := by
  obtain ⟨D, c, ad, a0, rest, z⟩ := w
  cases h
  rfl
theorem model_3 (b : LB) (w : WE) (h : w.2.1 = b.2.1) : (modelW w b.2.2.2.1)[3]? = some (b.2.2.2.1 3, ent (bR b []) (.inl (0, 73, 0)) (m0R 3)) := by
  obtain ⟨D, c, ad, a0, rest, z⟩ := w
  cases h
  rfl
theorem model_4 (b : LB) (w : WE) (h : w.2.1 = b.2.1) : (modelW w b.2.2.2.1)[4]? = some (b.2.2.2.1 4, ent (bR b []) (.inl (0, 7, 0)) (m0R 4)) := by
  obtain ⟨D, c, ad, a0, rest, z⟩ := w
  cases h
  rfl
theorem model_5 (b : LB) (w : WE) (h : w.2.1 = b.2.1) : (modelW w b.2.2.2.1)[5]? = some (b.2.2.2.1 5, ent (bR b []) (.inl (0, 8, 0)) (m0R 5)) := by
  obtain ⟨D, c, ad, a0, rest, z⟩ := w
  cases h
  rfl
theorem model_6 (b : LB) (w : WE) (h : w.2.1 = b.2.1) : (modelW w b.2.2.2.1)[6]? = some (b.2.2.2.1 6, ent (bR b []) (.inl (0, 8, 0)) (m0R 6)) := by
  obtain ⟨D, c, ad, a0, rest, z⟩ := w
  cases h
  rfl
theorem model_7 (b : LB) (w : WE) (h : w.2.1 = b.2.1) : (modelW w b.2.2.2.1)[7]? = some (b.2.2.2.1 7, ent (bR b []) (.inl (0, 120, 0)) (m0R 7)) := by
  obtain ⟨D, c, ad, a0, rest, z⟩ := w
  cases h
  rfl
theorem model_8 (b : LB) (w : WE) (h : w.2.1 = b.2.1) : (modelW w b.2.2.2.1)[8]? = some (b.2.2.2.1 8, ent (bR b []) (.inl (0, 4, 0)) (m0R 8)) := by
  obtain ⟨D, c, ad, a0, rest, z⟩ := w
  cases h
  rfl
theorem model_9 (b : LB) (w : WE) (h : w.2.1 = b.2.1) : (modelW w b.2.2.2.1)[9]? = some (b.2.2.2.1 9, ent (bR b []) (.inl (0, 4, 0)) (m0R 9)) := by
  obtain ⟨D, c, ad, a0, rest, z⟩ := w
  cases h
  rfl
theorem model_10 (b : LB) (w : WE) (h : w.2.1 = b.2.1) : (modelW w b.2.2.2.1)[10]? = some (b.2.2.2.1 10, ent (bR b []) (.inl (0, 160, 0)) (m0R 10)) := by
  obtain ⟨D, c, ad, a0, rest, z⟩ := w
  cases h
  rfl
theorem model_11 (b : LB) (w : WE) (h : w.2.1 = b.2.1) : (modelW w b.2.2.2.1)[11]? = some (b.2.2.2.1 11, ent (bR b []) (.inl (0, 40, 0)) (m0R 11)) := by
  obtain ⟨D, c, ad, a0, rest, z⟩ := w
  cases h
  rfl
theorem model_eq (b : LB) (w : WE) (h : w.2.1 = b.2.1) : modelW w b.2.2.2.1 = lR b m0R := by
  apply List.ext_getElem?
  intro i
  match i with
  | 0 => rw [model_0 b w h]; exact (wM_a0 (w := bR b []) (σ := m0R) sr_0).symm
  | 1 => rw [model_1 b w h]; exact (wM_a0 (w := bR b []) (σ := m0R) sr_1).symm
  | 2 => rw [model_2 b w h]; exact (wM_a0 (w := bR b []) (σ := m0R) sr_2).symm
  | 3 => rw [model_3 b w h]; exact (wM_a0 (w := bR b []) (σ := m0R) sr_3).symm
  | 4 => rw [model_4 b w h]; exact (wM_a0 (w := bR b []) (σ := m0R) sr_4).symm
  | 5 => rw [model_5 b w h]; exact (wM_a0 (w := bR b []) (σ := m0R) sr_5).symm
  | 6 => rw [model_6 b w h]; exact (wM_a0 (w := bR b []) (σ := m0R) sr_6).symm
  | 7 => rw [model_7 b w h]; exact (wM_a0 (w := bR b []) (σ := m0R) sr_7).symm
  | 8 => rw [model_8 b w h]; exact (wM_a0 (w := bR b []) (σ := m0R) sr_8).symm
  | 9 => rw [model_9 b w h]; exact (wM_a0 (w := bR b []) (σ := m0R) sr_9).symm
  | 10 => rw [model_10 b w h]; exact (wM_a0 (w := bR b []) (σ := m0R) sr_10).symm
  | 11 => rw [model_11 b w h]; exact (wM_a0 (w := bR b []) (σ := m0R) sr_11).symm
  | i + 12 =>
    rw [List.getElem?_eq_none (by show (modelW w b.2.2.2.1).length ≤ _; exact Nat.le_trans (Nat.le_of_eq (show (modelW w b.2.2.2.1).length = 12 from rfl)) (by omega)), List.getElem?_eq_none]
    show (wM (bR b []) shR m0R).length ≤ _
    rw [wM_len]
    exact Nat.le_trans (Nat.le_of_eq (show shR.length = 12 from rfl)) (by omega)
theorem lDE {b : LB} {A : Nat → Prop} {σ0 τ0 : Mem} (h : va_D A (lC b σ0 ++ lR b τ0)) (σc σr : Mem) : va_D A (lC b σc ++ lR b σr) := by
  rw [← lC_W] at h
  have h2 : va_D A (Wl (wCc b τ0) shC σc) := wM_D h
  rw [lC_W] at h2
  have h3 : va_D A (lR b τ0 ++ lC b σc) := va_D_perm List.perm_append_comm h2
  rw [← lR_W] at h3
  have h4 : va_D A (Wl (wRr b σc) shR σr) := wM_D h3
  rw [lR_W] at h4
  exact va_D_perm List.perm_append_comm h4
set_option maxRecDepth 20000 in
set_option maxHeartbeats 4000000 in
theorem whole_of {p : Program} {e : Env} {s : State} {m : MethodId} {below : List Frame} {meth : Method} {c : Code} (l : Launch) {sb L : Nat} {xs : Nat → Int32} (hL : L ≤ 3072) (C0 : lw_At p s m meth c sb L xs) {Inv : Mem → Mem → Prop} (h0 : ∀ a1 a2 : Int32, StI Inv (fX5_person a1 a2) (fX6_person a1 a2)) (h1 : ∀ a1 a2 : Int32, StI Inv (fX5_of a1 a2) (fX6_of a1 a2)) (h2 : ∀ a1 a2 a3 : Int32, StI Inv (fX5_change a1 a2 a3) (fX6_change a1 a2 a3)) (h3 : ∀ a1 a2 : Int32, StI Inv (fX5_joke a1 a2) (fX6_joke a1 a2)) (h4 : ∀ a1 a2 : Int32, StI Inv (fX5_jokeOf a1 a2) (fX6_jokeOf a1 a2)) (h5 : ∀ a1 a2 : Int32, StI Inv (fX5_law a1 a2) (fX6_law a1 a2)) (h6 : ∀ a1 a2 a3 : Int32, StI Inv (fX5_strength a1 a2 a3) (fX6_strength a1 a2 a3)) (h7 : ∀ a1 : Int32, StI Inv (fX5_tell a1) (fX6_tell a1)) (h8 : ∀ a1 a2 : Int32, StI Inv (fX5_evening a1 a2) (fX6_evening a1 a2)) (h9 : ∀ a1 : Int32, StI Inv (fX5_now a1) (fX6_now a1)) (h10 : ∀ a1 : Int32, StI Inv (fX5_relief a1) (fX6_relief a1)) (h11 : ∀ a1 a2 : Int32, StI Inv (fX5_laugh a1 a2) (fX6_laugh a1 a2)) (h12 : ∀ a1 : Int32, StI Inv (fX5_rounds a1) (fX6_rounds a1)) (h13 : ∀ a1 : Int32, StI Inv (fX5_raised a1) (fX6_raised a1)) (h14 : ∀ a1 a2 : Int32, StI Inv (fX5_ahead a1 a2) (fX6_ahead a1 a2)) (h15 : ∀ a1 : Int32, StI Inv (fX5_stale a1) (fX6_stale a1)) (h16 : ∀ a1 a2 : Int32, StI Inv (fX5_broke a1 a2) (fX6_broke a1 a2)) (h17 : ∀ a1 : Int32, StI Inv (fX5_caught a1) (fX6_caught a1)) (h18 : StI Inv (fX5_starter) (fX6_starter)) (h19 : StI Inv (fX5_fewest) (fX6_fewest)) (h20 : ∀ a1 a2 : Int32, StI Inv (fX5_away a1 a2) (fX6_away a1 a2)) (h21 : ∀ a1 a2 : Int32, StI Inv (fX5_seatFor a1 a2) (fX6_seatFor a1 a2)) (h22 : ∀ a1 a2 : Int32, StI Inv (fX5_kindFor a1 a2) (fX6_kindFor a1 a2)) (h23 : ∀ a1 : Int32, StI Inv (fX5_reachFor a1) (fX6_reachFor a1)) (h24 : ∀ a1 a2 : Int32, StI Inv (fX5_rateFor a1 a2) (fX6_rateFor a1 a2)) (h25 : ∀ a1 : Int32, StI Inv (fX5_best a1) (fX6_best a1)) (h26 : ∀ a1 : Int32, StI Inv (fX5_quiet a1) (fX6_quiet a1)) (h27 : ∀ a1 : Int32, StI Inv (fX5_safe a1) (fX6_safe a1)) (h28 : ∀ a1 a2 a3 : Int32, StI Inv (fX5_tastes a1 a2 a3) (fX6_tastes a1 a2 a3)) (h29 : ∀ a1 a2 a3 : Int32, StI Inv (fX5_taste a1 a2 a3) (fX6_taste a1 a2 a3)) (h30 : ∀ a1 : Int32, StI Inv (fX5_which a1) (fX6_which a1)) (h31 : ∀ a1 : Int32, StI Inv (fX5_shows a1) (fX6_shows a1)) (h32 : ∀ a1 a2 : Int32, StL Inv (fX5_odds a1 a2) (fX6_odds a1 a2)) (h33 : ∀ a1 : Int32, StI Inv (fX5_seed a1) (fX6_seed a1)) (h34 : ∀ a1 a2 : Int32, StI Inv (fX5_feed a1 a2) (fX6_feed a1 a2)) (h35 : StI Inv (fX5_wipe) (fX6_wipe)) (h36 : StI Inv (fX5_text) (fX6_text)) (h37 : ∀ a1 a2 : Int32, StI Inv (fX5_hold a1 a2) (fX6_hold a1 a2)) (h38 : ∀ a1 a2 : Int32, StI Inv (fX5_as a1 a2) (fX6_as a1 a2)) (h39 : ∀ a1 a2 a3 : Int32, StI Inv (fX5_sheet a1 a2 a3) (fX6_sheet a1 a2 a3)) (h40 : ∀ a1 a2 a3 : Int32, StI Inv (fX5_write a1 a2 a3) (fX6_write a1 a2 a3)) (h41 : ∀ a1 a2 a3 a4 a5 : Int32, StI Inv (fX5_copy a1 a2 a3 a4 a5) (fX6_copy a1 a2 a3 a4 a5)) (h42 : ∀ a1 : Int32, StI Inv (fX5_load a1) (fX6_load a1)) (h43 : ∀ a1 : Int32, StI Inv (fX5_judge a1) (fX6_judge a1)) (h44 : StI Inv (fX5_image) (fX6_image)) (h45 : StI Inv (fX5_undo) (fX6_undo)) (h46 : StI Inv (fX5_tear) (fX6_tear)) (h47 : ∀ a1 : Int32, StI Inv (fX5_count a1) (fX6_count a1)) (h48 : ∀ a1 : Int32, StI Inv (fX5_status a1) (fX6_status a1)) (hI0 : Inv m0C m0R) : W p l e room_1 s m #[Value.ref sb] below meth c s.heap [] 0 0 (lw_Z below #[Value.ref sb] s) (entryFrame m ([Value.ref sb] : List Value).toArray 4) := by
  obtain ⟨hx, hb, hr, hml, hown, hts, hX, hbl, hlocks, hgv⟩ := C0
  obtain ⟨adK, adV, tA, hE⟩ := ext_of hts hgv
  obtain ⟨D, cls, hK⟩ := kn_of hts
  have X : Ck (p, l, e, room_1, s, m, #[Value.ref sb], below, meth, c) (D, cls, fun _ => 0, s.heap.size, [], adK, adV, tA) cL_law 4 RL room_1 := ⟨hx, hb, hml, hown, tb_lw hts, hK, Nat.le_refl _, va_AO.of (hts _ ls_ao), rfl⟩
  have key : Sk (p, l, e, room_1, s, m, #[Value.ref sb], below, meth, c) (D, cls, fun _ => 0, s.heap.size, [], adK, adV, tA) 4 (lw_Z below #[Value.ref sb] s) 0 0 0 [some (.ref sb), none, none, none] [] [] [] := by
    refine Sk.new X clX5 [.null, .null, .null, .int 0, .null, .null, .null, .null] wkL_7 wiX5 wnX5 (by decide) dL_law_0 (Nat.le_of_ble_eq_true rfl) (Nat.le_of_ble_eq_true rfl) (fun q => ?_)
    refine Sk.dup X dL_law_3 rfl ?_
    refine Sk.ctor X (kX5_init l _) cbX5_init ciX5_init rfl wmL_9 rfl dL_law_4 (Nat.le_of_ble_eq_true rfl) (Nat.le_of_ble_eq_true rfl) (Nat.le_of_ble_eq_true rfl) (fun f hf => ?_)
    subst hf
    refine Sk.astore_n (i := 1) X dL_law_7 rfl (Nat.le_of_ble_eq_true rfl) rfl ?_
    refine Sk.new X clX6 [.null, .null, .null, .int 0, .null, .null, .int 0, .null, .int 0, .null, .int 0, .int 0, .int 0, .int 0, .null, .null, .null, .null] wkL_10 wiX6 wnX6 (by decide) dL_law_8 (Nat.le_of_ble_eq_true rfl) (Nat.le_of_ble_eq_true rfl) (fun q => ?_)
    refine Sk.dup X dL_law_11 rfl ?_
    refine Sk.ctor X (kX6_init l _) cbX6_init ciX6_init rfl wmL_12 rfl dL_law_12 (Nat.le_of_ble_eq_true rfl) (Nat.le_of_ble_eq_true rfl) (Nat.le_of_ble_eq_true rfl) (fun g hg => ?_)
    subst hg
    refine Sk.astore_n (i := 2) X dL_law_15 rfl (Nat.le_of_ble_eq_true rfl) rfl ?_
    refine Sk.iconst (v := 0) X dL_law_16 rfl ?_
    refine Sk.istore_n (i := 3) X dL_law_17 rfl (Nat.le_of_ble_eq_true rfl) rfl ?_
    intro ls H locs hlv hP hD hS
    rw [List.nil_append, List.append_nil] at hP hD
    have hP := tax_P hP
    have hD := tax_D hD
    rw [tax_eq (D, cls, f, g, s.heap.size, adK, adV, tA) _ rfl, model_eq (D, cls, f, g, s.heap.size, adK, adV, tA) _ rfl] at hP hD
    have XL : Lx (p, l, e, room_1, s, m, #[Value.ref sb], below, meth, c) (D, cls, f, g, s.heap.size, adK, adV, tA) sb L xs := ⟨hx, hb, hml, hown, tb_lw hts, hK, lDE hD _ _, rfl, hE D cls f [], rfl, hX, hbl⟩
    refine law_loop (Inv := Inv) XL hL (Nat.le_of_ble_eq_true rfl) (Nat.le_of_ble_eq_true rfl) h0 h1 h2 h3 h4 h5 h6 h7 h8 h9 h10 h11 h12 h13 h14 h15 h16 h17 h18 h19 h20 h21 h22 h23 h24 h25 h26 h27 h28 h29 h30 h31 h32 h33 h34 h35 h36 h37 h38 h39 h40 h41 h42 h43 h44 h45 h46 h47 h48 ?_ (L + 1) 0 0 m0C m0R (Nat.zero_le _) (by omega) rfl hI0 ls H locs hlv hP hS
    intro x3 σc σr
    refine Lj.iconst (v := 1) XL dL_law_1638 rfl ?_
    intro ls H locs hlv hP hS
    refine va_forget (fun q hq => hS.2.2 q hq) ?_
    refine W.widen (k := 600000) (n := 7302250) (Nat.le_of_ble_eq_true rfl) (Nat.le_of_ble_eq_true rfl) ?_
    exact lw_ret hx hb hr hlocks dL_law_1639
  have hl := lv_entry ([.ref sb]) (n := 4) (Nat.le_of_ble_eq_true rfl)
  rw [lg_entry_eq]
  exact key _ s.heap [] hl (fun k q h => by simp at h) ⟨fun i j p q h => by simp at h, fun k q h => by simp at h⟩ va_S.rf
