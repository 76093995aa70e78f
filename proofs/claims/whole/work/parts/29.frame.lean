/-! what each part of the invariant looks at -/
theorem iTape_c {M M' : pm} (e1 : mI M' 3 1 = mI M 3 1) (e2 : mI M' 277 1 = mI M 277 1) (e3 : mI M' 4 = mI M 4) (e4 : mI M' 278 = mI M 278) (h : iTape M) : iTape M' := by
  unfold iTape at h ⊢
  rw [e1, e2, e3, e4]
  exact h
theorem iFlt_c {M M' : pm} (e1 : mI M' 3 6 = mI M 3 6) (e2 : mI M' 3 7 = mI M 3 7) (e3 : mI M' 277 7 = mI M 277 7) (e4 : mI M' 277 8 = mI M 277 8) (h : iFlt M) : iFlt M' := by
  unfold iFlt at h ⊢
  rw [e1, e2, e3, e4]
  exact h
theorem iRef_c {M M' : pm} (e1 : mI M' 276 = mI M 276) (e2 : mI M' 279 = mI M 279) (h : iRef M) : iRef M' := by
  unfold iRef at h ⊢
  rw [e1, e2]
  exact h
theorem iSeed_c {M M' : pm} (e1 : mI M' 3 18 = mI M 3 18) (e2 : mJ M' 277 71 = mJ M 277 71) (h : iSeed M) : iSeed M' := by
  unfold iSeed at h ⊢
  rw [e1, e2]
  exact h
theorem iPic_c {M M' : pm} (e1 : mI M' 3 16 = mI M 3 16) (e2 : mI M' 277 106 = mI M 277 106) (e3 : mI M' 275 = mI M 275) (e4 : mI M' 352 = mI M 352) (h : iPic M) : iPic M' := by
  unfold iPic at h ⊢
  rw [e1, e2, e3, e4]
  exact h
theorem iWrd_c {M M' : pm} (e1 : mI M' 7 = mI M 7) (e2 : ∀ a, (280 ≤ a ∧ a < 308) ∨ (326 ≤ a ∧ a < 349) → mI M' a = mI M a) (h : iWrd M) : iWrd M' := by
  refine ⟨fun w hw => by rw [e1]; exact h.1 w hw, fun a ha => by rw [e2 a ha]; exact h.2 a ha⟩
theorem stR_c {M M' : pm} {a : Nat} {g g' : Nat → Int32} {ns na : Nat} (e : ∀ b, a ≤ b → b < a + 9 → mI M' b = mI M b) (eg : g' = g) (h : stR M a g ns na) : stR M' a g' ns na := by
  unfold stR at h ⊢
  rw [eg, e a (by omega) (by omega), e (a + 1) (by omega) (by omega), e (a + 2) (by omega) (by omega), e (a + 3) (by omega) (by omega), e (a + 4) (by omega) (by omega), e (a + 5) (by omega) (by omega)]
  exact h
theorem ktR_c {M M' : pm} {a : Nat} {g g' : Nat → Int32} (e : ∀ b, a ≤ b → b < a + 9 → mI M' b = mI M b) (eg : g' = g) (h : ktR M a g) : ktR M' a g' := by
  unfold ktR at h ⊢
  rw [eg, e a (by omega) (by omega), e (a + 6) (by omega) (by omega), e (a + 7) (by omega) (by omega), e (a + 8) (by omega) (by omega)]
  exact h
theorem iNow_c {M M' : pm} {ns na : Nat} (e : ∀ b, 57 ≤ b → b < 66 → mI M' b = mI M b) (e2 : mI M' 317 = mI M 317) (e3 : mI M' 277 58 = mI M 277 58) (h : iNow M ns na) : iNow M' ns na :=
  ⟨stR_c (fun b h1 h2 => e b h1 (by omega)) e2 h.1, ktR_c (fun b h1 h2 => e b h1 (by omega)) e2 h.2.1, by rw [e3]; exact h.2.2⟩
theorem iSeen_c {M M' : pm} {na : Nat} (e : ∀ b, 258 ≤ b → b < 274 → mI M' b = mI M b) (e2 : mI M' 322 = mI M 322) (e3 : mI M' 3 13 = mI M 3 13) (e4 : mI M' 277 63 = mI M 277 63) (h : iSeen M na) : iSeen M' na := by
  obtain ⟨r, h1, h2, h3, h4⟩ := h
  refine ⟨r, h1, by rw [e3]; exact h2, by rw [e4]; exact h3, fun q hq => ?_⟩
  rw [e (258 + q) (by omega) (by omega), e2]
  exact h4 q hq
theorem iHist_c {M M' : pm} {ns na : Nat} (e : ∀ b, 77 ≤ b → b < 257 → mI M' b = mI M b) (e2 : mI M' 325 = mI M 325) (e3 : mI M' 75 1 = mI M 75 1) (e4 : mI M' 277 69 = mI M 277 69) (e5 : mI M' 277 70 = mI M 277 70) (er : mR M' 76 = mR M 76) (h : iHist M ns na) : iHist M' ns na := by
  obtain ⟨u, w, h1, h2, h3, h4, h5, ⟨σ, h6, h7⟩, h8⟩ := h
  refine ⟨u, w, h1, h2, by rw [e3]; exact h3, by rw [e4]; exact h4, by rw [e5]; exact h5, ⟨σ, fun i hi => by rw [er]; exact h6 i hi, h7⟩, fun j hj => ?_⟩
  have hs := h6 (u - 1 - j) (by omega)
  rw [er, e2]
  exact ⟨stR_c (fun b b1 b2 => e b (by omega) (by omega)) rfl (h8 j hj).1, ktR_c (fun b b1 b2 => e b (by omega) (by omega)) rfl (h8 j hj).2⟩
theorem iPrg_c {M M' : pm} {t p : Nat} (e : ∀ b, t ≤ b → b < t + 15 → mI M' b = mI M b) (e2 : mI M' 314 = mI M 314) (e3 : mI M' 315 = mI M 315) (e4 : mI M' 316 = mI M 316) (h : iPrg M t p) : iPrg M' t p := by
  unfold iPrg at h ⊢
  rw [e (t + 11) (by omega) (by omega), e (t + 12) (by omega) (by omega), e (t + 13) (by omega) (by omega), e2, e3, e4]
  exact h
theorem iSta_c {M M' : pm} {t ns na ne hr : Nat} (e : ∀ b, t ≤ b → b < t + 15 → mI M' b = mI M b) (e2 : ∀ b, 308 ≤ b → b < 317 → b ≠ 312 → mI M' b = mI M b) (ej : mJ M' 310 = mJ M 310) (e3 : mI M' 3 5 = mI M 3 5) (e4 : mI M' 277 50 = mI M 277 50) (er : mR M' 3 3 = mR M 3 3) (er2 : mR M' 3 4 = mR M 3 4) (h : iSta M t ns na ne hr) : iSta M' t ns na ne hr := by
  obtain ⟨h1, h2, h3, h4, h5, h6, h7, h8, h9, h10, h11, h12, h13, h14, h15, h16, h17, h18, h19, h20, h21⟩ := h
  unfold iSta
  rw [er, er2, e3, e4, ej, e t (by omega) (by omega), e (t + 1) (by omega) (by omega), e (t + 2) (by omega) (by omega), e (t + 3) (by omega) (by omega), e (t + 4) (by omega) (by omega), e (t + 8) (by omega) (by omega), e (t + 9) (by omega) (by omega), e2 308 (by omega) (by omega) (by decide), e2 309 (by omega) (by omega) (by decide), e2 311 (by omega) (by omega) (by decide), e2 313 (by omega) (by omega) (by decide)]
  refine ⟨h1, h2, h3, h4, h5, h6, h7, h8, h9, h10, h11, h12, h13, h14, h15, h16, h17, h18, h19, h20, ?_⟩
  rcases h21 with h21 | ⟨x1, x2, x3⟩
  · exact Or.inl h21
  · exact Or.inr ⟨x1, x2, fun p hp => iPrg_c e (e2 314 (by omega) (by omega) (by decide)) (e2 315 (by omega) (by omega) (by decide)) (e2 316 (by omega) (by omega) (by decide)) (x3 p hp)⟩
/-- rows that no part looks at may change: the machine's, the trial's, the readers', the reference's scratch -/
def scrA (a : Nat) : Prop := (44 ≤ a ∧ a < 57) ∨ (66 ≤ a ∧ a < 75) ∨ a = 274 ∨ (318 ≤ a ∧ a < 322) ∨ a = 323 ∨ a = 324 ∨ (349 ≤ a ∧ a < 352) ∨ a = 312
/-- single fields of the reference that no part looks at -/
def scrK (k : Nat) : Prop := (2 ≤ k ∧ k < 7) ∨ k = 38 ∨ k = 48 ∨ k = 49 ∨ k = 51 ∨ k = 54 ∨ k = 56 ∨ k = 57 ∨ k = 59 ∨ k = 62 ∨ k = 67 ∨ (96 ≤ k ∧ k < 106)
/-- all but scratch the same -/
def same (M M' : pm) : Prop := mL M' = mL M ∧ mR M' = mR M ∧ (∀ a, ¬ scrA a → a ≠ 277 → mI M' a = mI M a) ∧ (∀ k, ¬ scrK k → mI M' 277 k = mI M 277 k) ∧ mJ M' 310 = mJ M 310 ∧ mJ M' 277 71 = mJ M 277 71
theorem same.rf (M : pm) : same M M := ⟨rfl, rfl, fun _ _ _ => rfl, fun _ _ => rfl, rfl, rfl⟩
theorem same.tr {M M1 M2 : pm} (h : same M M1) (g : same M1 M2) : same M M2 := ⟨g.1.trans h.1, g.2.1.trans h.2.1, fun a h1 h2 => (g.2.2.1 a h1 h2).trans (h.2.2.1 a h1 h2), fun k hk => (g.2.2.2.1 k hk).trans (h.2.2.2.1 k hk), g.2.2.2.2.1.trans h.2.2.2.2.1, g.2.2.2.2.2.trans h.2.2.2.2.2⟩
theorem same.sc {M M' : pm} (h : same M M') : sc M M' := ⟨h.1, h.2.2.1 1 (by unfold scrA; omega) (by decide)⟩
theorem Inv_same {M M' : pm} (h : same M M') (hI : Inv M) : Inv M' := by
  obtain ⟨q1, q2, q3, q4, q5, q6⟩ := h
  obtain ⟨i1, i2, i3, i4, i5, i6, i7, t, ns, na, ne, hr, i8, i9, i10, i11⟩ := hI
  have r : ∀ a, ¬ scrA a → a ≠ 277 → mI M' a = mI M a := q3
  have k : ∀ j, ¬ scrK j → mI M' 277 j = mI M 277 j := q4
  have r3 := r 3 (by unfold scrA; omega) (by decide)
  have ht : t = 14 ∨ t = 29 := by rcases i8.1 with h | h <;> omega
  refine ⟨by rw [q1]; exact i1, iTape_c (by rw [r3]) (k 1 (by unfold scrK; omega)) (r 4 (by unfold scrA; omega) (by decide)) (r 278 (by unfold scrA; omega) (by decide)) i2, iFlt_c (by rw [r3]) (by rw [r3]) (k 7 (by unfold scrK; omega)) (k 8 (by unfold scrK; omega)) i3, iRef_c (r 276 (by unfold scrA; omega) (by decide)) (r 279 (by unfold scrA; omega) (by decide)) i4, iSeed_c (by rw [r3]) q6 i5, iPic_c (by rw [r3]) (k 106 (by unfold scrK; omega)) (r 275 (by unfold scrA; omega) (by decide)) (r 352 (by unfold scrA; omega) (by decide)) i6, iWrd_c (r 7 (by unfold scrA; omega) (by decide)) (fun a ha => r a (by unfold scrA; omega) (by omega)) i7, t, ns, na, ne, hr, iSta_c (fun b b1 b2 => r b (by unfold scrA; omega) (by omega)) (fun b b1 b2 b3 => ?_) q5 (by rw [r3]) (k 50 (by unfold scrK; omega)) (by rw [q2]) (by rw [q2]) i8, iNow_c (fun b b1 b2 => r b (by unfold scrA; omega) (by omega)) (r 317 (by unfold scrA; omega) (by decide)) (k 58 (by unfold scrK; omega)) i9, iSeen_c (fun b b1 b2 => r b (by unfold scrA; omega) (by omega)) (r 322 (by unfold scrA; omega) (by decide)) (by rw [r3]) (k 63 (by unfold scrK; omega)) i10, iHist_c (fun b b1 b2 => r b (by unfold scrA; omega) (by omega)) (r 325 (by unfold scrA; omega) (by decide)) (by rw [r 75 (by unfold scrA; omega) (by decide)]) (k 69 (by unfold scrK; omega)) (k 70 (by unfold scrK; omega)) (by rw [q2]) i11⟩
  exact r b (by unfold scrA; omega) (by omega)
