/-! octet, seed, end, song, kept; refusing -/
def SS (a k : Nat) : Prop := a = 7 ∨ (280 ≤ a ∧ a < 308) ∨ (326 ≤ a ∧ a < 349) ∨ (14 ≤ a ∧ a < 44) ∨ (308 ≤ a ∧ a < 318) ∨ (57 ≤ a ∧ a < 66) ∨ (258 ≤ a ∧ a < 274) ∨ a = 322 ∨ (77 ≤ a ∧ a < 257) ∨ a = 325 ∨ (a = 75 ∧ k = 1) ∨ (a = 3 ∧ (k = 5 ∨ k = 13)) ∨ (a = 277 ∧ (k = 50 ∨ k = 58 ∨ k = 63 ∨ k = 69 ∨ k = 70))
theorem Inv_upd {M M' : pm} (hL : mL M' = mL M) (hR : mR M' = mR M) (hJ : mJ M' 310 = mJ M 310) (hI : Inv M) (ht : iTape M') (hf : iFlt M') (hr : iRef M') (hs : iSeed M') (hp : iPic M') (e : ∀ a k, SS a k → mI M' a k = mI M a k) : Inv M' := by
  obtain ⟨i1, i2, i3, i4, i5, i6, i7, t, ns, na, ne, hh, i8, i9, i10, i11⟩ := hI
  have ht' : t = 14 ∨ t = 29 := by rcases i8.1 with h | h <;> omega
  refine ⟨by rw [hL]; exact i1, ht, hf, hr, hs, hp, iWrd_c (funext fun k => e _ _ (by unfold SS; omega)) (fun a ha => funext fun k => e _ _ (by unfold SS; omega)) i7, t, ns, na, ne, hh, iSta_c (fun b b1 b2 => funext fun k => e _ _ (by unfold SS; omega)) (fun b b1 b2 b3 => funext fun k => e _ _ (by unfold SS; omega)) hJ (e _ _ (by unfold SS; omega)) (e _ _ (by unfold SS; omega)) (by rw [hR]) (by rw [hR]) i8, iNow_c (fun b b1 b2 => funext fun k => e _ _ (by unfold SS; omega)) (funext fun k => e _ _ (by unfold SS; omega)) (e _ _ (by unfold SS; omega)) i9, iSeen_c (fun b b1 b2 => funext fun k => e _ _ (by unfold SS; omega)) (funext fun k => e _ _ (by unfold SS; omega)) (e _ _ (by unfold SS; omega)) (e _ _ (by unfold SS; omega)) i10, iHist_c (fun b b1 b2 => funext fun k => e _ _ (by unfold SS; omega)) (funext fun k => e _ _ (by unfold SS; omega)) (e _ _ (by unfold SS; omega)) (e _ _ (by unfold SS; omega)) (e _ _ (by unfold SS; omega)) (by rw [hR]) i11⟩
theorem rI {M : pm} {a k : Nat} {v : Int32} {b j : Nat} (h : ¬ (b = a ∧ j = k)) : mI (sI M a k v) b j = mI M b j := by rw [mI_sI, if_neg h]
theorem rIs (M : pm) (a k : Nat) (v : Int32) : mI (sI M a k v) a k = v := by rw [mI_sI, if_pos ⟨rfl, rfl⟩]
/-- one more refusal of kind j on both sides -/
theorem Inv_ref {M : pm} (hI : Inv M) {j : Nat} (hj : j < 6) : Inv (sI (sI M 276 j (mI M 276 j + 1)) 279 j (mI M 279 j + 1)) := by
  obtain ⟨i1, i2, i3, i4, i5, i6, -⟩ := id hI
  have e : ∀ a k, ¬ a = 276 → ¬ a = 279 → mI (sI (sI M 276 j (mI M 276 j + 1)) 279 j (mI M 279 j + 1)) a k = mI M a k := fun a k h1 h2 => by rw [rI (by omega), rI (by omega)]
  refine Inv_upd (M := M) rfl rfl rfl hI (iTape_c (e _ _ (by decide) (by decide)) (e _ _ (by decide) (by decide)) (funext fun k => e _ _ (by decide) (by decide)) (funext fun k => e _ _ (by decide) (by decide)) i2) (iFlt_c (e _ _ (by decide) (by decide)) (e _ _ (by decide) (by decide)) (e _ _ (by decide) (by decide)) (e _ _ (by decide) (by decide)) i3) (fun k hk => ?_) (iSeed_c (e _ _ (by decide) (by decide)) rfl i5) (iPic_c (e _ _ (by decide) (by decide)) (e _ _ (by decide) (by decide)) (funext fun k => e _ _ (by decide) (by decide)) (funext fun k => e _ _ (by decide) (by decide)) i6) (fun a k h => e a k (by unfold SS at h; omega) (by unfold SS at h; omega))
  by_cases hkj : k = j
  · subst hkj
    rw [rI (by omega), rIs, rIs, i4 k hk]
  · rw [rI (by omega), rI (by omega), rI (by omega), rI (by omega)]
    exact i4 k hk
theorem s_refuse {M : pm} {j : Nat} (hj : j < 6) {Q : pm → Prop} (k : Q (sI M 276 j (mI M 276 j + 1))) : w_X7_refuse (nI j) M Q := by
  have hv : vp_in (nI j) 6 := vp_in_nI hj (by decide)
  refine ⟨fun q => absurd q (nI_lt0 (by omega)), fun _ => ⟨fun q => absurd q (nI_ge hj (by decide)), fun _ => ⟨hv, hv, ?_⟩⟩⟩
  rw [nI_clamp (by omega)]
  exact k
theorem sc_sI {M : pm} {a k : Nat} {v : Int32} (h : a ≠ 1) : sc M (sI M a k v) := ⟨rfl, mI_off (Ne.symm h)⟩
theorem sc_tr {M M1 M2 : pm} (h : sc M M1) (g : sc M1 M2) : sc M M2 := ⟨g.1.trans h.1, g.2.trans h.2⟩
theorem p_octet {M : pm} (hI : Inv M) (x : Int32) : stp Inv (w_X7_octet x) (w_X8_octet x) M := by
  intro K hK
  obtain ⟨n, hn, h1, h2, h3⟩ := hI.2.2.2.2.2.1
  rcases ix3 x (n := n) (by omega) with h | ⟨h0, h⟩ | ⟨j, hj, rfl⟩
  · exact ⟨fun _ => hK _ _ (sc_rf M) fun Q hQ => ⟨fun _ => hQ M hI (sc_rf M), fun q => absurd h q⟩, fun q => absurd h q⟩
  · refine ⟨fun q => absurd q h0, fun _ => ⟨fun _ => hK _ _ (sc_rf M) fun Q hQ => ⟨fun q => absurd q h0, fun _ => ⟨fun _ => hQ M hI (sc_rf M), fun q => absurd (by rw [h2]; exact h) q⟩⟩, fun q => absurd (by rw [h1]; exact h) q⟩⟩
  · have hv : vp_in (nI j) 69 := vp_in_nI (by omega) (by decide)
    refine ⟨fun q => absurd q (nI_lt0 (by omega)), fun _ => ⟨fun q => absurd (by rw [← h1]; exact q) (nI_ge hj (by omega)), fun _ => ⟨fun q => absurd q (nI_ge (b := 69) (by omega) (by decide)), fun _ => ⟨hv, hK _ _ (sc_rf M) fun Q hQ => ?_⟩⟩⟩⟩
    refine ⟨fun q => absurd q (nI_lt0 (by omega)), fun _ => ⟨fun q => absurd (by rw [← h2]; exact q) (nI_ge hj (by omega)), fun _ => ⟨hv, ?_⟩⟩⟩
    rw [nI_clamp (by omega)] at hQ ⊢
    rw [h3 j hj] at hQ
    exact hQ M hI (sc_rf M)
theorem p_seed {M : pm} (hI : Inv M) (x : Int32) : stp Inv (w_X7_seed x) (w_X8_seed x) M := by
  intro K hK
  obtain ⟨i1, i2, i3, i4, i5, i6, -⟩ := id hI
  refine ⟨fun h => hK _ _ (sc_sI (by decide)) fun Q hQ => ⟨fun _ => ?_, fun q => absurd h q⟩, fun h => s_refuse (j := 5) (by decide) (hK _ _ (sc_sI (by decide)) fun Q hQ => ⟨fun q => absurd q h, fun _ => ?_⟩)⟩
  · have e : ∀ a k, ¬ (a = 3 ∧ k = 18) → mI (sJ (sI M 3 18 x) 277 71 x.toInt64) a k = mI M a k := fun a k q => rI q
    obtain ⟨n, hn, rfl⟩ : ∃ n : Nat, n < 2 ^ 31 ∧ x = nI n := nI_of (Int32.not_lt.mpr h)
    refine hQ _ (Inv_upd (M := M) rfl rfl ?_ hI (iTape_c (e _ _ (by decide)) (e _ _ (by decide)) (funext fun k => e _ _ (by omega)) (funext fun k => e _ _ (by omega)) i2) (iFlt_c (e _ _ (by decide)) (e _ _ (by decide)) (e _ _ (by decide)) (e _ _ (by decide)) i3) (iRef_c (funext fun k => e _ _ (by omega)) (funext fun k => e _ _ (by omega)) i4) ⟨n, hn, (show mI (sI M 3 18 (nI n)) 3 18 = _ from rIs _ _ _ _), ?_⟩ (iPic_c (e _ _ (by decide)) (e _ _ (by decide)) (funext fun k => e _ _ (by omega)) (funext fun k => e _ _ (by omega)) i6) (fun a k h => e a k (by unfold SS at h; omega))) ⟨rfl, rfl⟩
    · exact mJ_off (by decide)
    · rw [mJ_sJ, if_pos ⟨rfl, rfl⟩, nI_l hn]
  · have := Inv_ref hI (j := 5) (by decide)
    rw [show mI (sI M 276 5 (mI M 276 5 + 1)) 279 5 = mI M 279 5 from rI (by omega)]
    exact hQ _ this (sc_sI (by decide))
theorem p_end {M : pm} (hI : Inv M) (x : Int32) : stp Inv (w_X7_end x) (w_X8_end x) M := by
  intro K hK
  obtain ⟨i1, i2, i3, i4, i5, i6, -⟩ := id hI
  obtain ⟨n, hn, t1, t2, t3⟩ := i2
  have rf : ∀ Q : Int32 → pm → Prop, (∀ M2, Inv M2 → sc (sI M 276 0 (mI M 276 0 + 1)) M2 → Q 0 M2) → Q 0 (sI (sI M 276 0 (mI M 276 0 + 1)) 279 0 (mI (sI M 276 0 (mI M 276 0 + 1)) 279 0 + 1)) := fun Q hQ => by
    have := Inv_ref hI (j := 0) (by decide)
    rw [show mI (sI M 276 0 (mI M 276 0 + 1)) 279 0 = mI M 279 0 from rI (by omega)]
    exact hQ _ this (sc_sI (by decide))
  have r277 : mI (sI M 276 0 (mI M 276 0 + 1)) 277 1 = mI M 277 1 := rI (by omega)
  refine ⟨fun h => s_refuse (j := 0) (by decide) (hK _ _ (sc_sI (by decide)) fun Q hQ => ⟨fun _ => rf Q hQ, fun q => absurd h q⟩), fun h0 => ⟨fun h => hK _ _ (sc_sI (by decide)) fun Q hQ => ⟨fun q => absurd q h0, fun _ => ⟨fun _ => ?_, fun q => ?_⟩⟩, fun h => s_refuse (j := 0) (by decide) (hK _ _ (sc_sI (by decide)) fun Q hQ => ⟨fun q => absurd q h0, fun _ => ⟨fun q => ?_, fun _ => rf Q hQ⟩⟩)⟩⟩
  · have e : ∀ a k, ¬ (a = 3 ∧ k = 1) → ¬ (a = 277 ∧ k = 1) → mI (sI (sI M 3 1 x) 277 1 x) a k = mI M a k := fun a k q1 q2 => by rw [rI q2, rI q1]
    rw [t1] at h
    obtain ⟨j, hj, rfl⟩ : ∃ j : Nat, j ≤ n ∧ x = nI j := nI_of2 (nI_toInt (by omega)) h0 h
    refine hQ _ (Inv_upd (M := M) rfl rfl rfl hI ⟨j, by omega, by rw [rI (by omega), rIs], rIs _ _ _ _, fun k hk => ?_⟩ (iFlt_c (e _ _ (by decide) (by decide)) (e _ _ (by decide) (by decide)) (e _ _ (by decide) (by decide)) (e _ _ (by decide) (by decide)) i3) (iRef_c (funext fun k => e _ _ (by omega) (by omega)) (funext fun k => e _ _ (by omega) (by omega)) i4) (iSeed_c (e _ _ (by decide) (by decide)) rfl i5) (iPic_c (e _ _ (by decide) (by decide)) (e _ _ (by decide) (by decide)) (funext fun k => e _ _ (by omega) (by omega)) (funext fun k => e _ _ (by omega) (by omega)) i6) (fun a k h => e a k (by unfold SS at h; omega) (by unfold SS at h; omega))) (sc_sI (by decide))
    rw [e 278 k (by omega) (by omega), e 4 k (by omega) (by omega)]
    exact t3 k hk
  · rw [rI (by omega), t2, ← t1] at q
    exact absurd h q
  · rw [r277, t2, ← t1] at q
    exact absurd q h
