/-! the invariant holds at the start -/
set_option maxRecDepth 100000 in
theorem pM2_z : ∀ k, k < 6 → mI pM2 276 k = 0 ∧ mI pM2 279 k = 0 := by decide +kernel
set_option maxRecDepth 100000 in
theorem pM2_s : mI pM2 3 1 = 0 ∧ mI pM2 277 1 = 0 ∧ mI pM2 3 6 = 0 ∧ mI pM2 277 7 = 0 ∧ mI pM2 3 7 = -1 ∧ mI pM2 277 8 = -1 ∧ mI pM2 3 18 = 1 ∧ mJ pM2 277 71 = 1 ∧ mI pM2 3 16 = 0 ∧ mI pM2 277 106 = 0 := by decide +kernel
set_option maxRecDepth 100000 in
theorem pM2_t : mI pM2 3 5 = 0 ∧ mI pM2 277 50 = 0 ∧ mI pM2 14 1 = 0 ∧ mI pM2 308 3 = 0 ∧ mI pM2 14 3 = 0 ∧ mI pM2 308 5 = 0 ∧ mI pM2 14 4 = 0 ∧ mI pM2 309 3 = 0 ∧ mI pM2 14 8 = 0 ∧ mI pM2 309 4 = 0 ∧ mI pM2 14 13 = 0 ∧ mI pM2 309 5 = 0 := by decide +kernel
set_option maxRecDepth 100000 in
theorem pM2_n : mI pM2 57 0 = 0 ∧ mI pM2 317 0 = 0 ∧ mI pM2 57 1 = 0 ∧ mI pM2 317 1 = 0 ∧ mI pM2 57 7 = 0 ∧ mI pM2 317 42 = 0 ∧ mI pM2 277 58 = 0 ∧ mI pM2 3 13 = 0 ∧ mI pM2 277 63 = 0 ∧ mI pM2 75 1 = 0 ∧ mI pM2 277 69 = 0 ∧ mI pM2 277 70 = 0 := by decide +kernel
theorem Inv_1 (L : Nat) (xs : Nat → Int32) (hL : L ≤ 3072) : Inv (pM1 L xs) := by
  have e : ∀ a, a ≠ 1 → mI (pM1 L xs) a = mI pM2 a := fun a h => (pM1_I L xs h).1
  obtain ⟨hN, hR⟩ := pM1_R L xs
  obtain ⟨s1, s2, s3, s4, s5, s6, s7, s8, s9, s10⟩ := pM2_s
  obtain ⟨t1, t2, t3, t4, t5, t6, t7, t8, t9, t10, t11, t12⟩ := pM2_t
  obtain ⟨n1, n2, n3, n4, n5, n6, n7, n8, n9, n10, n11, n12⟩ := pM2_n
  obtain ⟨m1, m2, m3, m4, m5⟩ := pM2_mut
  have ej : mJ (pM1 L xs) 277 = mJ pM2 277 := (pM1_I L xs (a := 277) (by decide)).2
  refine ⟨by rw [pM1_L]; exact hL, ⟨0, by decide, ?_, ?_, fun k hk => ⟨0, by decide, ?_, ?_⟩⟩, ⟨?_, ?_⟩, fun k hk => ?_, ⟨1, by decide, ?_, ?_⟩, ⟨0, by decide, ?_, ?_, fun k hk => absurd hk (Nat.not_lt_zero _)⟩, ⟨fun w hw => by rw [e 7 (by decide)], fun a ha => e a (by omega)⟩, 14, 0, 0, 0, 0, ?_, ?_, ?_, ?_⟩
  · rw [e 3 (by decide), s1]; rfl
  · rw [e 277 (by decide), s2]; rfl
  · exact zr_i_L_law (r := 278) (M := pM0 L xs) (Or.inr rfl) (fun j => rfl) k
  · exact zr_i_L_law (r := 4) (M := pM0 L xs) (Or.inl rfl) (fun j => rfl) k
  · rw [e 3 (by decide), e 277 (by decide), s3, s4]
  · rw [e 3 (by decide), e 277 (by decide), s5, s6]
  · rw [e 276 (by decide), e 279 (by decide), (pM2_z k hk).1, (pM2_z k hk).2]
  · rw [e 3 (by decide), s7]; rfl
  · rw [ej, s8]; rfl
  · rw [e 3 (by decide), s9]; rfl
  · rw [e 277 (by decide), s10]; rfl
  · refine ⟨Or.inl ⟨rfl, by rw [hR, m3]⟩, by rw [hR, m2], by rw [e 3 (by decide), e 277 (by decide), t1, t2], Or.inl (by rw [e 3 (by decide), t1]), by decide, by decide, by decide, by decide, by rw [e 14 (by decide), t3]; rfl, by rw [e 308 (by decide), t4]; rfl, ⟨0, by decide, by rw [e 14 (by decide), t5]; rfl, by rw [e 308 (by decide), t6]; rfl⟩, by rw [e 14 (by decide), t7]; rfl, by rw [e 309 (by decide), t8]; rfl, by rw [e 14 (by decide), t9]; rfl, by rw [e 309 (by decide), t10]; rfl, by rw [e 14 (by decide), t11]; rfl, by rw [e 309 (by decide), t12]; rfl, fun s hs => absurd hs (Nat.not_lt_zero _), fun s hs => absurd hs (Nat.not_lt_zero _), fun s hs => absurd hs (Nat.not_lt_zero _), Or.inl ⟨by rw [e 3 (by decide), t1], rfl, rfl, rfl, rfl⟩⟩
  · exact ⟨⟨0, 0, by decide, by decide, by rw [e 57 (by decide), n1]; rfl, by rw [e 317 (by decide), n2]; rfl, by rw [e 57 (by decide), n3]; rfl, by rw [e 317 (by decide), n4]; rfl, fun b hb => absurd hb (Nat.not_lt_zero _)⟩, ⟨0, by decide, by rw [e 57 (by decide), n5]; rfl, by rw [e 317 (by decide), n6]; rfl, fun b hb => absurd hb (Nat.not_lt_zero _)⟩, by rw [e 277 (by decide), n7]⟩
  · exact ⟨0, by decide, by rw [e 3 (by decide), n8]; rfl, by rw [e 277 (by decide), n9]; rfl, fun b hb => absurd hb (Nat.not_lt_zero _)⟩
  · refine ⟨0, 0, by decide, by decide, by rw [e 75 (by decide), n10]; rfl, by rw [e 277 (by decide), n11]; rfl, by rw [e 277 (by decide), n12]; rfl, ⟨fun i => i, fun i hi => ⟨hi, by rw [hR]; exact pM2_st i hi⟩, fun i j _ _ h => h⟩, fun b hb => absurd hb (Nat.not_lt_zero _)⟩
