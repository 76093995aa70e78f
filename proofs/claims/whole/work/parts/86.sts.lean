/-! station -/
theorem iSta_f {M M' : pm} {t ns na ne hr : Nat} (e : ∀ b, t ≤ b → b < t + 15 → mI M' b = mI M b) (e8 : ∀ k, 3 ≤ k → mI M' 308 k = mI M 308 k) (e9 : ∀ k, 3 ≤ k → mI M' 309 k = mI M 309 k) (e11 : ∀ k, 12 ≤ k → mI M' 311 k = mI M 311 k) (e13 : ∀ k, 5 ≤ k → mI M' 313 k = mI M 313 k) (e14 : ∀ k, 3 ≤ k → mI M' 314 k = mI M 314 k) (e15 : ∀ k, 3 ≤ k → mI M' 315 k = mI M 315 k) (e16 : ∀ k, 1600 ≤ k → mI M' 316 k = mI M 316 k) (ej : ∀ k, 24 ≤ k → mJ M' 310 k = mJ M 310 k) (e3 : mI M' 3 5 = mI M 3 5) (e4 : mI M' 277 50 = mI M 277 50) (er : mR M' 3 3 = mR M 3 3) (er2 : mR M' 3 4 = mR M 3 4) (h : iSta M t ns na ne hr) : iSta M' t ns na ne hr := by
  obtain ⟨h1, h2, h3, h4, h5, h6, h7, h8, h9, h10, h11, h12, h13, h14, h15, h16, h17, h18, h19, h20, h21⟩ := h
  have et := e t (by omega) (by omega)
  refine ⟨by rw [er2]; exact h1, by rw [er]; exact h2, by rw [e3, e4]; exact h3, by rw [e3]; exact h4, h5, h6, h7, h8, by rw [et]; exact h9, by rw [e8 3 (by omega)]; exact h10, ?_, by rw [et]; exact h12, by rw [e9 3 (by omega)]; exact h13, by rw [et]; exact h14, by rw [e9 4 (by omega)]; exact h15, by rw [et]; exact h16, by rw [e9 5 (by omega)]; exact h17, fun s hs => ?_, fun a ha => ?_, fun x hx => ?_, ?_⟩
  · obtain ⟨tl, x1, x2, x3⟩ := h11
    exact ⟨tl, x1, by rw [et]; exact x2, by rw [e8 5 (by omega)]; exact x3⟩
  · rw [e (t + 1) (by omega) (by omega), e (t + 2) (by omega) (by omega), e (t + 3) (by omega) (by omega), e11 (12 + 2 * s) (by omega), e11 (13 + 2 * s) (by omega), ej (24 + s) (by omega)]
    exact h18 s hs
  · rw [e (t + 4) (by omega) (by omega), ej (32 + a) (by omega)]
    exact h19 a ha
  · rw [e (t + 8) (by omega) (by omega), e (t + 9) (by omega) (by omega), e13 (5 + x) (by omega), ej (40 + x) (by omega)]
    exact h20 x hx
  · rw [e3]
    rcases h21 with h21 | ⟨x1, x2, x3⟩
    · exact Or.inl h21
    · refine Or.inr ⟨x1, x2, fun p hp => ?_⟩
      obtain ⟨os, f, p1, p2, p3, p4, p5, p6, p7⟩ := x3 p hp
      refine ⟨os, f, by rw [e (t + 12) (by omega) (by omega)]; exact p1, by rw [e (t + 13) (by omega) (by omega)]; exact p2, p3, by rw [e (t + 11) (by omega) (by omega)]; exact p4, p5, p6, ?_⟩
      rw [e14 (3 + p) (by omega), e15 (3 + p) (by omega)]
      rcases p7 with p7 | ⟨g, g1, g2, g3, g4⟩
      · exact Or.inl p7
      · exact Or.inr ⟨g, g1, g2, g3, fun i c hc => by rw [e16 _ (by omega)]; exact g4 i c hc⟩
theorem dfA_P (σ : sg) {p : Nat} (hp : p < 3) : (dfA σ).2.2.2.2 p = some ((σ.2.2.2.2 p).getD (dfl p)) := by
  match p, hp with
  | 0, _ => rfl
  | 1, _ => rfl
  | 2, _ => rfl
theorem p_station (M : pm) (hI : Inv M) : stp Inv w_X7_station w_X8_station M := by
  obtain ⟨i1, i2, i3, i4, i5, i6, i7, u, ns, na, ne, hr, i8, i9, i10, i11⟩ := id hI
  obtain ⟨n, T, hn, h31, h271, hTc, hTm⟩ := tape_of i2
  obtain ⟨t, ht, h34, hut⟩ : ∃ t, tOk t ∧ mR M 3 4 = t ∧ ((u = 14 ∧ t = 29) ∨ (u = 29 ∧ t = 14)) := by
    rcases i8.1 with h | h
    · exact ⟨29, Or.inr rfl, h.2, Or.inl ⟨h.1, rfl⟩⟩
    · exact ⟨14, Or.inl rfl, h.2, Or.inr ⟨h.1, rfl⟩⟩
  have h33 := i8.2.1
  intro K hK
  refine c_station ht h34 h33 h31 hTc hn (wdC_of i7) (fun e M1 hs c => ?_) (fun k σ s M1 hs c => ?_)
  · obtain ⟨c1, c2, c3, c4, c5, c6, c7, c8⟩ := c
    refine hK _ M1 ⟨c1, funext fun j => c4 1 j (by omega)⟩ (fun Q hQ => ?_)
    have row : ∀ a, 277 ≤ a → mI M1 a = mI M a := fun a ha => funext fun j => c4 a j (by omega)
    refine m_readSt (tpM_c (row 278 (by decide)) hTm) hn (wdM_of (iWrd_c (funext fun j => c4 7 j (by omega)) (fun a ha => row a (by omega)) i7)) (by rw [row 277 (by decide)]; exact h271) (fun M2 f2 e2 t2 g2 => ?_)
    rw [hs] at t2
    have t2 : tkF M2 e := t2
    unfold w_X8_station_110
    refine k_no (tkF_n t2) ?_
    generalize hF : sI (sI (sI M2 277 7 (mI M2 277 5)) 277 8 (mI M2 277 6)) 279 1 (mI M2 279 1 + 1) = F
    have eF : ∀ a k, ¬ (fMa a k ∨ (a = 277 ∧ (k = 1 ∨ k = 3 ∨ k = 7 ∨ k = 8)) ∨ (a = 279 ∧ k = 1)) → mI F a k = mI M1 a k := fun a k h => by
      rw [← hF, rI (by omega), rI (by omega), rI (by omega)]; exact f2.2.2.2 a k (fun z => h (by rcases z with z | z; exact Or.inl z; exact Or.inr (Or.inl (by omega))))
    have eC : ∀ a k, a < 277 → mI F a k = mI M1 a k := fun a k h => eF a k (by unfold fMa; omega)
    have eA : ∀ a k, ¬ (fMa a k ∨ (a = 277 ∧ (k = 1 ∨ k = 3 ∨ k = 7 ∨ k = 8)) ∨ (a = 279 ∧ k = 1)) → ¬ (a = 5 ∨ a = 6 ∨ (t ≤ a ∧ a < t + 15) ∨ (a = 3 ∧ (k = 1 ∨ k = 6 ∨ k = 7)) ∨ (a = 276 ∧ k = 1)) → mI F a k = mI M a k := fun a k h1 h2 => (eF a k h1).trans (c4 a k h2)
    have rw' : ∀ a, ¬ (277 ≤ a ∧ a < 280) → ¬ (308 ≤ a ∧ a < 317) → a ≠ 349 → a ≠ 350 → ¬ (a = 5 ∨ a = 6 ∨ (t ≤ a ∧ a < t + 15) ∨ a = 3 ∨ a = 276) → mI F a = mI M a := fun a h1 h2 h3 h4 h5 => funext fun j => eA a j (by unfold fMa; omega) (by omega)
    have eL : mL F = mL M := by rw [← hF]; exact f2.1.trans c1
    have eR : ∀ a k, ¬ ((a = 5 ∧ k = 2) ∨ (a = 6 ∧ k = 1)) → mR F a k = mR M a k := fun a k h => by
      rw [← hF]; show mR M2 a k = _; rw [f2.2.1]; exact c3 a k h
    have eJ : ∀ a k, ¬ (a = 310 ∧ k < 24) → mJ F a k = mJ M a k := fun a k h => by
      rw [← hF]; show mJ M2 a k = _; rw [f2.2.2.1 a k h, c2]
    refine hQ F ?_ ⟨by rw [eL]; exact c1.symm, funext fun j => eC 1 j (by decide)⟩
    refine ⟨by rw [eL]; exact i1, tape_to (n := 0) (T := T) (by decide) ?_ ?_ (tpC_c (rw' 4 (by omega) (by omega) (by omega) (by omega) (by omega)) hTc) (tpM_c (funext fun j => eA 278 j (by unfold fMa; omega) (by omega)) hTm), ⟨?_, ?_⟩, fun j hj => ?_, iSeed_c (eA 3 18 (by unfold fMa; omega) (by omega)) (eJ 277 71 (by omega)) i5, iPic_c (eA 3 16 (by unfold fMa; omega) (by omega)) (eA 277 106 (by unfold fMa; omega) (by omega)) (rw' 275 (by omega) (by omega) (by omega) (by omega) (by omega)) (rw' 352 (by omega) (by omega) (by omega) (by omega) (by omega)) i6, iWrd_c (rw' 7 (by omega) (by omega) (by omega) (by omega) (by omega)) (fun a ha => rw' a (by omega) (by omega) (by omega) (by omega) (by omega)) i7, u, ns, na, ne, hr, ?_, iNow_c (fun b b1 b2 => rw' b (by omega) (by omega) (by omega) (by omega) (by omega)) (rw' 317 (by omega) (by omega) (by omega) (by omega) (by omega)) (eA 277 58 (by unfold fMa; omega) (by omega)) i9, iSeen_c (fun b b1 b2 => rw' b (by omega) (by omega) (by omega) (by omega) (by omega)) (rw' 322 (by omega) (by omega) (by omega) (by omega) (by omega)) (eA 3 13 (by unfold fMa; omega) (by omega)) (eA 277 63 (by unfold fMa; omega) (by omega)) i10, iHist_c (fun b b1 b2 => rw' b (by omega) (by omega) (by omega) (by omega) (by omega)) (rw' 325 (by omega) (by omega) (by omega) (by omega) (by omega)) (eA 75 1 (by unfold fMa; omega) (by omega)) (eA 277 69 (by unfold fMa; omega) (by omega)) (eA 277 70 (by unfold fMa; omega) (by omega)) (funext fun j => eR 76 j (by omega)) i11⟩
    · rw [eC 3 1 (by decide)]; exact c5
    · rw [← hF, rI (by omega), rI (by omega), rI (by omega)]; exact e2
    · rw [eC 3 6 (by decide), c6, ← hF, rI (by omega), rI (by omega), rIs]; exact t2.1.symm
    · rw [eC 3 7 (by decide), c7, ← hF, rI (by omega), rIs]; exact t2.2.1.symm
    · by_cases q : j = 1
      · subst q
        rw [eC 276 1 (by decide), c8, i4 1 (by decide), ← hF, rIs, f2.2.2.2 279 1 (by unfold fMa; omega), row 279 (by decide)]
      · rw [eA 276 j (by unfold fMa; omega) (by omega), eA 279 j (by unfold fMa; omega) (by omega)]
        exact i4 j hj
    · refine iSta_f (fun b b1 b2 => rw' b (by omega) (by omega) (by omega) (by omega) (by omega)) (fun j hj => eA 308 j (by unfold fMa; omega) (by omega)) (fun j hj => eA 309 j (by unfold fMa; omega) (by omega)) (fun j hj => eA 311 j (by unfold fMa; omega) (by omega)) (fun j hj => eA 313 j (by unfold fMa; omega) (by omega)) (fun j hj => eA 314 j (by unfold fMa; omega) (by omega)) (fun j hj => eA 315 j (by unfold fMa; omega) (by omega)) (fun j hj => eA 316 j (by unfold fMa; omega) (by omega)) (fun j hj => eJ 310 j (by omega)) (eA 3 5 (by unfold fMa; omega) (by omega)) (eA 277 50 (by unfold fMa; omega) (by omega)) (eR 3 3 (by omega)) (eR 3 4 (by omega)) i8
  · obtain ⟨c1, c2, c3, ⟨c33, c34⟩, c4, ⟨c31, c35, c36, c37, c313, c75⟩, ⟨c570, c571, c577⟩, c5, c6, c7, c8, L, c9, c10⟩ := c
    have wk := sWh_ok hs
    refine hK _ M1 ⟨c1, funext fun j => c4 1 j (by omega)⟩ (fun Q hQ => ?_)
    have row : ∀ a, 277 ≤ a → mI M1 a = mI M a := fun a ha => funext fun j => c4 a j (by omega)
    refine m_readSt (tpM_c (row 278 (by decide)) hTm) hn (wdM_of (iWrd_c (funext fun j => c4 7 j (by omega)) (fun a ha => row a (by omega)) i7)) (by rw [row 277 (by decide)]; exact h271) (fun M2 f2 e2 t2 g2 => ?_)
    obtain ⟨g49, cd, gs⟩ := g2 k σ s hs
    rw [hs] at t2
    have t2 : tkM M2 T n s := t2
    unfold w_X8_station_110
    refine k_yes t2.2.2.1 ?_
    generalize hM3 : sI (sI M2 277 7 (mI M2 277 5)) 277 8 (mI M2 277 6) = M3
    have e3 : ∀ a k, ¬ (a = 277 ∧ (k = 7 ∨ k = 8)) → mI M3 a k = mI M2 a k := fun a k h => by rw [← hM3, rI (by omega), rI (by omega)]
    have m3 : mSt M3 σ cd := mSt_c (fun a h1 h2 => funext fun j => e3 a j (by omega)) (by rw [← hM3]; rfl) (e3 277 48 (by omega)) gs
    obtain ⟨s1, s2, s3, s4, s5, s6⟩ := m3
    refine m_stands s4 s3 s5.2.2.2.1.1 s1.2.2.2.2.1 (fun F v => ?_)
    obtain ⟨v1, ⟨v50, v63, v69⟩, v308, v310, v311, v313, v316, v317, vb, vz⟩ := v
    rw [show mI F 277 49 = nI k from by rw [v1.2.2.2 277 49 (by unfold vAr; omega), e3 277 49 (by omega)]; exact g49]
    have eF : ∀ a k, ¬ (fMa a k ∨ (a = 277 ∧ (k = 1 ∨ k = 3 ∨ k = 7 ∨ k = 8)) ∨ vAr a k) → mI F a k = mI M1 a k := fun a k h => by
      rw [v1.2.2.2 a k (fun z => h (Or.inr (Or.inr z))), e3 a k (fun z => h (Or.inr (Or.inl (by omega))))]
      exact f2.2.2.2 a k (fun z => h (by rcases z with z | z; exact Or.inl z; exact Or.inr (Or.inl (by omega))))
    have eC : ∀ a k, a < 277 → mI F a k = mI M1 a k := fun a k h => eF a k (by unfold fMa vAr; omega)
    have eA : ∀ a k, ¬ (fMa a k ∨ (a = 277 ∧ (k = 1 ∨ k = 3 ∨ k = 7 ∨ k = 8)) ∨ vAr a k) → ¬ (a = 5 ∨ a = 6 ∨ (t ≤ a ∧ a < t + 15) ∨ (57 ≤ a ∧ a < 63) ∨ (a = 75 ∧ k = 1) ∨ (a = 3 ∧ (k = 1 ∨ k = 5 ∨ k = 6 ∨ k = 7 ∨ k = 13))) → mI F a k = mI M a k := fun a k h1 h2 => (eF a k h1).trans (c4 a k h2)
    have rw' : ∀ a, ¬ (a = 277) → ¬ (308 ≤ a ∧ a < 318) → a ≠ 349 → a ≠ 350 → ¬ (a = 5 ∨ a = 6 ∨ (t ≤ a ∧ a < t + 15) ∨ (57 ≤ a ∧ a < 63) ∨ a = 75 ∨ a = 3) → mI F a = mI M a := fun a h1 h2 h3 h4 h5 => funext fun j => eA a j (by unfold fMa vAr; omega) (by omega)
    have eL : mL F = mL M1 := by rw [v1.1, ← hM3]; exact f2.1
    have eR : mR F = mR M1 := by rw [v1.2.1, ← hM3]; exact f2.2.1
    have eJ : ∀ a k, a ≠ 310 → mJ F a k = mJ M a k := fun a k h => by
      rw [v1.2.2.1 a k (by omega), ← hM3]; show mJ M2 a k = _; rw [f2.2.2.1 a k (by omega), c2]
    refine hQ F ?_ ⟨eL, funext fun j => eC 1 j (by decide)⟩
    refine ⟨by rw [eL, c1]; exact i1, tape_to (n := 0) (T := T) (by decide) ?_ ?_ (tpC_c (rw' 4 (by omega) (by omega) (by omega) (by omega) (by omega)) hTc) (tpM_c (rw' 278 (by omega) (by omega) (by omega) (by omega) (by omega)) hTm), ⟨?_, ?_⟩, iRef_c (rw' 276 (by omega) (by omega) (by omega) (by omega) (by omega)) (rw' 279 (by omega) (by omega) (by omega) (by omega) (by omega)) i4, iSeed_c (eA 3 18 (by unfold fMa vAr; omega) (by omega)) (eJ 277 71 (by omega)) i5, iPic_c (eA 3 16 (by unfold fMa vAr; omega) (by omega)) (eA 277 106 (by unfold fMa vAr; omega) (by omega)) (rw' 275 (by omega) (by omega) (by omega) (by omega) (by omega)) (rw' 352 (by omega) (by omega) (by omega) (by omega) (by omega)) i6, iWrd_c (rw' 7 (by omega) (by omega) (by omega) (by omega) (by omega)) (fun a ha => rw' a (by omega) (by omega) (by omega) (by omega) (by omega)) i7, t, σ.2.1.length, σ.2.2.1.length, σ.2.2.2.1.length, σ.1.1, ?_, ⟨?_, ⟨0, by decide, ?_, ?_, fun j hj => absurd hj (Nat.not_lt_zero _)⟩, ?_⟩, ⟨0, by decide, ?_, v63.trans nI_0.symm, fun j hj => absurd hj (Nat.not_lt_zero _)⟩, ?_⟩
    · rw [eC 3 1 (by decide)]; exact c31
    · rw [v1.2.2.2 277 1 (by unfold vAr; omega), e3 277 1 (by omega)]; exact e2
    · rw [eC 3 6 (by decide), c36, v1.2.2.2 277 7 (by unfold vAr; omega), ← hM3, rI (by omega), rIs]; exact t2.2.2.1.symm
    · rw [eC 3 7 (by decide), c37, v1.2.2.2 277 8 (by unfold vAr; omega), ← hM3, rIs]; exact t2.2.2.2.1.symm
    · refine ⟨by rw [eR, c34]; omega, by rw [eR]; exact c33, by rw [eC 3 5 (by decide), c35, v50], by rw [eC 3 5 (by decide), c35]; exact bz1, s5.2.2.1.1, s5.2.2.2.1.1, s5.2.2.2.2.1.1, wk.2.2.2.2.1, ?_, (v308 0 (by decide)).1.trans s1.1, ⟨σ.1.2.2, s5.2.1, ?_, (v308 2 (by decide)).1.trans s1.2.2.1⟩, ?_, (v308 0 (by decide)).2.1.trans s1.2.2.2.1, ?_, (v308 1 (by decide)).2.1.trans s1.2.2.2.2.1, ?_, (v308 2 (by decide)).2.1.trans s1.2.2.2.2.2, fun i hi => ?_, fun i hi => ?_, fun i hi => ?_, Or.inr ⟨by rw [eC 3 5 (by decide)]; exact c35, wk.2.2.2.1, fun p hp => ?_⟩⟩
      · rw [eC t 1 (by omega)]; exact c6.2.1
      · rw [eC t 3 (by omega)]; exact c6.2.2.2.1
      · rw [eC t 4 (by omega)]; exact c6.2.2.2.2.1
      · rw [eC t 8 (by omega)]; exact c6.2.2.2.2.2.1
      · rw [eC t 13 (by omega)]; exact c6.2.2.2.2.2.2
      · have hq : σ.2.1[i]? = some σ.2.1[i] := List.getElem?_eq_getElem hi
        have o := s5.2.2.1.2 _ (List.getElem_mem hi)
        have a := c7.1 i _ hq
        have b := s2.1 i _ hq
        have l6 := s5.2.2.1.1
        refine ⟨σ.2.1[i].2.1, σ.2.1[i].2.2, o.2.1, o.2.2.1, o.2.2.2, by rw [eC _ _ (by omega)]; exact a.2.1, (v311 (2 * i) (by omega)).trans b.2.1, by rw [eC _ _ (by omega)]; exact a.2.2, ?_, σ.2.1[i].1, o.1.1, o.1.2.1, o.1.2.2, by rw [eC _ _ (by omega)]; exact a.1, (v310 i (by omega)).trans b.1⟩
        rw [show 13 + 2 * i = 12 + (2 * i + 1) from by omega]
        exact (v311 (2 * i + 1) (by omega)).trans b.2.2
      · have hq : σ.2.2.1[i]? = some σ.2.2.1[i] := List.getElem?_eq_getElem hi
        have o := s5.2.2.2.1.2 _ (List.getElem_mem hi)
        have a := c7.2.1 i _ hq
        have b := s2.2.1 i _ hq
        have l8 := s5.2.2.2.1.1
        refine ⟨σ.2.2.1[i].1, o.1.1, o.1.2.1, o.1.2.2, by rw [eC _ _ (by omega)]; exact a.1, ?_⟩
        rw [show 32 + i = 24 + (8 + i) from by omega]
        exact (v310 (8 + i) (by omega)).trans b.1
      · have hq : σ.2.2.2.1[i]? = some σ.2.2.2.1[i] := List.getElem?_eq_getElem hi
        have o := s5.2.2.2.2.1.2 _ (List.getElem_mem hi)
        have a := c7.2.2 i _ hq
        have b := s2.2.2 i _ hq
        have l5 := s5.2.2.2.2.1.1
        refine ⟨σ.2.2.2.1[i].2, o.2, by rw [eC _ _ (by omega)]; exact a.2, (v313 i (by omega)).trans b.2, σ.2.2.2.1[i].1, o.1.1, o.1.2.1, o.1.2.2, by rw [eC _ _ (by omega)]; exact a.1, ?_⟩
        rw [show 40 + i = 24 + (16 + i) from by omega]
        exact (v310 (16 + i) (by omega)).trans b.1
      · have hd := dfA_P σ hp
        have a := c10 p hp
        have o := c8.2.2.2.2.2 p _ hp hd
        have b := s6 p hp
        rw [hd] at a
        obtain ⟨a1, f, a2, a3, a4, a5⟩ := a
        refine ⟨(σ.2.2.2.2 p).getD (dfl p), f, by rw [eC _ _ (by omega)]; exact a2, by rw [eC _ _ (by omega)]; exact a3, by omega, fun i c hc => by rw [eC _ _ (by omega)]; exact a5 i c hc, o.1, o.2, ?_⟩
        have w4 := (v308 p hp).2.2.1
        have w5 := (v308 p hp).2.2.2
        cases hP : σ.2.2.2.2 p with
        | none =>
          rw [hP] at b
          exact Or.inl ⟨w4.trans b, rfl⟩
        | some os =>
          rw [hP] at b
          obtain ⟨g, g1, g2, g3, g4⟩ := b
          refine Or.inr ⟨g, w4.trans g1, w5.trans g2, by show g + os.length ≤ 1600; omega, fun i c hc => ?_⟩
          have hc : os[i]? = some c := hc
          have hi := (List.getElem?_eq_some_iff.mp hc).1
          rw [v316 (g + i) (by omega)]
          exact g4 i c hc
    · refine ⟨0, σ.1.2.1, by decide, s5.1, ?_, ?_, ?_, ?_, fun b hb => ?_⟩
      · rw [eC 57 0 (by decide)]; exact c570
      · exact vz 0 (by decide) (by decide) (fun b _ => by omega)
      · rw [eC 57 1 (by decide)]; exact c571
      · exact v317.trans s1.2.1
      · have hq : σ.2.2.1[b]? = some σ.2.2.1[b] := List.getElem?_eq_getElem hb
        have o := s5.2.2.2.1.2 _ (List.getElem_mem hb)
        have a := c7.2.1 b _ hq
        have m := s2.2.1 b _ hq
        have l8 := s5.2.2.2.1.1
        have d := c5 b (by omega)
        have e : ∀ a, a < 277 → mI F a b = mI M1 a b := fun a h => eC a b h
        refine ⟨σ.2.2.1[b].2.1, σ.2.2.1[b].2.2.1, σ.2.2.1[b].2.2.2, 0, 0, o.2.1, by omega, o.2.2.2, Nat.zero_le _, Nat.zero_le _, ?_, (vb b 0 hb (by decide)).trans m.2.1, ?_, ?_, ?_, ?_, ?_, ?_, ?_, ?_⟩
        · rw [e _ (by decide)]; exact d.1.trans a.2.1
        · rw [e _ (by decide)]; exact d.2.1.trans a.2.2.1
        · rw [show 3 + 5 * b = 2 + 5 * b + 1 from by omega]; exact (vb b 1 hb (by decide)).trans m.2.2.1
        · rw [e _ (by decide)]; exact d.2.2.1.trans a.2.2.2
        · rw [show 4 + 5 * b = 2 + 5 * b + 2 from by omega]; exact (vb b 2 hb (by decide)).trans m.2.2.2
        · rw [e _ (by decide), d.2.2.2.1]; rfl
        · exact vz (5 + 5 * b) (by omega) (by omega) (fun b' _ => by omega)
        · rw [e _ (by decide), d.2.2.2.2]; rfl
        · exact vz (6 + 5 * b) (by omega) (by omega) (fun b' _ => by omega)
    · rw [eC 57 7 (by decide)]; exact c577
    · have l8 := s5.2.2.2.1.1
      exact vz 42 (by decide) (by decide) (fun b hb => by omega)
    · rw [eA 277 58 (by unfold fMa vAr; omega) (by omega)]; exact i9.2.2
    · rw [eC 3 13 (by decide)]; exact c313
    · obtain ⟨u', w, -, w1, -, -, h5, ⟨τ, x6, x7⟩, -⟩ := i11
      refine ⟨0, w, by decide, w1, ?_, v69.trans nI_0.symm, ?_, ⟨τ, fun i hi => ?_, x7⟩, fun j hj => absurd hj (Nat.not_lt_zero _)⟩
      · rw [eC 75 1 (by decide)]; exact c75
      · rw [eA 277 70 (by unfold fMa vAr; omega) (by omega)]; exact h5
      · rw [eR, c3 76 i (by omega)]; exact x6 i hi
