/-! the invariant at the start -/
theorem z_it : ∀ p, p < 8 → ∀ w, w < 5 → it (m0R 1) p w = 0 := by decide +kernel
theorem z_j : ∀ j, j < 8 → m0R 1 (7 + 2 * j) = 0 ∧ m0R 1 (7 + 2 * j + 1) = 0 := by decide +kernel
theorem z_k : ∀ k, k < 10 → m0R 1 (63 + k) = -1 := by decide +kernel
theorem z_cj : ∀ j, j < 8 → m0C (1 + 7) j = 0 ∧ m0C (1 + 8) j = 0 := by decide +kernel
theorem z_cp : ∀ p, p < 8 → m0C (1 + 1) p = 0 ∧ m0C (1 + 2) p = 0 ∧ m0C (1 + 3) p = 0 ∧ m0C (1 + 4) p = 0 ∧ m0C (1 + 5) p = 0 := by decide +kernel
theorem z_ck : ∀ k, k < 10 → m0C (1 + 9) k = -1 := by decide +kernel
theorem z_n : nP (m0R 1) = 0 := by decide +kernel
theorem rng_0 {x : Int32} (h : x = 0) (n : Nat) : rng x n := ⟨0, Nat.zero_le _, h⟩
theorem z_s : ∀ s, s < 4 → m0C (37 + 2 * s) 1 = 0 ∧ m0C (37 + 2 * s) 2 = 0 ∧ ∀ i, i < 40 → m0C (38 + 2 * s) i = 0 := by decide +kernel
theorem inv_0 : Inv m0C m0R := by
  refine ⟨⟨⟨⟨by decide +kernel, by decide +kernel, by decide +kernel, by decide +kernel, by decide +kernel, by decide +kernel⟩, fun j hj => ?_, fun p hp => ?_, fun k hk => ?_, fun p hp => ?_⟩, ⟨?_, ?_, fun p hp => ?_, fun j hj => ?_, ?_, ?_, ?_, fun k hk => Or.inl (z_k k hk)⟩, by decide +kernel, ?_⟩, ⟨by decide +kernel, Or.inl (by decide +kernel), fun z => ?_⟩, ⟨by decide +kernel, ?_, fun i hi => ⟨0, by decide, rfl, rfl⟩⟩, fun s hs => ?_, fun k hk => rfl⟩
  · rw [(z_cj j hj).1, (z_cj j hj).2, (z_j j hj).1, (z_j j hj).2]; exact ⟨rfl, rfl⟩
  · obtain ⟨c1, c2, c3, c4, c5⟩ := z_cp p hp
    rw [c1, c2, c3, c4, c5, z_it p hp 0 (by decide), z_it p hp 1 (by decide), z_it p hp 2 (by decide), z_it p hp 3 (by decide), z_it p hp 4 (by decide)]
    exact ⟨rfl, rfl, rfl, rfl, rfl⟩
  · rw [z_ck k hk, z_k k hk]
  · rw [z_n] at hp; omega
  · exact rng_0 (by decide +kernel) _
  · exact rng_0 (by decide +kernel) _
  · exact ⟨rng_0 (z_it p hp 0 (by decide)) _, rng_0 (z_it p hp 1 (by decide)) _, rng_0 (z_it p hp 2 (by decide)) _, rng_0 (z_it p hp 3 (by decide)) _, rng_0 (z_it p hp 4 (by decide)) _⟩
  · exact ⟨rng_0 (z_j j hj).1 _, rng_0 (z_j j hj).2 _⟩
  · exact ⟨1, by decide, by decide +kernel⟩
  · exact ⟨2, by decide, by decide +kernel⟩
  · exact rng_0 (by decide +kernel) _
  · exact rng_0 (by decide +kernel) _
  · exact absurd z (by decide +kernel)
  · exact rng_0 (by decide +kernel) _
  · obtain ⟨h1, h2, h3⟩ := z_s s hs
    exact ⟨h1, Or.inl rfl, h2, rng_0 rfl _, fun i hi => h3 i hi⟩
