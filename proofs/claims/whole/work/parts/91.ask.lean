/-! ask -/
def fvr (M M' : pm) : Prop := mL M' = mL M ∧ mR M' = mR M ∧ (∀ a, a ≠ 277 → mI M' a = mI M a) ∧ (∀ k, k ≠ 102 → k ≠ 104 → mI M' 277 k = mI M 277 k) ∧ ∀ a k, a ≠ 351 → ¬ (a = 277 ∧ k = 103) → mJ M' a k = mJ M a k
theorem fvr.rf (M : pm) : fvr M M := ⟨rfl, rfl, fun _ _ => rfl, fun _ _ _ => rfl, fun _ _ _ _ => rfl⟩
theorem fvr.q {M M1 M2 : pm} (h : fvr M M1) (g : fq M1 M2) : fvr M M2 := ⟨g.1.trans h.1, g.2.1.trans h.2.1, fun a h1 => (g.2.2.1 a h1).trans (h.2.2.1 a h1), fun k h1 h2 => (g.2.2.2.1 k h1).trans (h.2.2.2.1 k h1 h2), fun a k h1 h2 => by rw [g.2.2.2.2 a h1]; exact h.2.2.2.2 a k h1 h2⟩
theorem fvr.w {M M1 M2 : pm} (h : fvr M M1) (g : fw M1 M2) : fvr M M2 := ⟨g.1.trans h.1, g.2.1.trans h.2.1, fun a h1 => (funext fun k => g.2.2.1 a k (by omega)).trans (h.2.2.1 a h1), fun k h1 h2 => (g.2.2.1 277 k (by omega)).trans (h.2.2.2.1 k h1 h2), fun a k h1 h2 => (g.2.2.2 a k h2).trans (h.2.2.2.2 a k h1 h2)⟩
theorem m_askLoop {M0 : pm} {j s : Nat} {c : List Nat} {D S : Nat → Nat} {P : Nat → List Nat} (hd : dM M0 D P) (hD : okD D P) (hs : sM M0 D S) (hS : okS D S) (h31 : s < 2 ^ 31) (h56 : mI M0 277 56 = nI s) (h96 : mI M0 277 96 = nI c.length) (h16 : c.length ≤ 1600) (hcd : cdM M0 c) (hk : kds 100 c [] = some [decide (28 + j < 31)]) (hj : j < 6) {Q : Int64 → pm → Prop} (kk : ∀ M', fvr M0 M' → Q (zJ (acq (28 + j) (qvl D S s c) (D 2))) M') : ∀ d m b M, b + d = D 2 → d < m → fvr M0 M → mJ M 277 103 = zJ (acq (28 + j) (qvl D S s c) b) → mI M 277 104 = nI (if b = 0 then 1 else 0) → -(1000000 * ((b : Int) + 1)) ≤ acq (28 + j) (qvl D S s c) b ∧ acq (28 + j) (qvl D S s c) b ≤ 1000000 * ((b : Int) + 1) → w_X8_ask_192 m (nI j) (nI b) M Q := by
  have h8 := hD.2.2.1
  intro d
  induction d with
  | zero =>
    intro m b M hb hm f e3 e4 hB
    obtain ⟨m, rfl⟩ : ∃ m', m = m' + 1 := ⟨m - 1, by omega⟩
    have eb : b = D 2 := by omega
    unfold w_X8_ask_192 w_X8_askerMany
    show (mI M 309 4 ≤ nI b → Q (mJ M 277 103) M) ∧ _
    rw [f.2.2.1 309 (by decide), hd.2.2.1, e3, eb]
    exact k_yes (nI_le (Nat.le_refl _) (by omega)) (kk M f)
  | succ d ih =>
    intro m b M hb hm f e3 e4 hB
    obtain ⟨m, rfl⟩ : ∃ m', m = m' + 1 := ⟨m - 1, by omega⟩
    have hb2 : b < D 2 := by omega
    unfold w_X8_ask_192 w_X8_askerMany
    show (mI M 309 4 ≤ nI b → Q (mJ M 277 103) M) ∧ (¬ mI M 309 4 ≤ nI b → _)
    rw [f.2.2.1 309 (by decide), hd.2.2.1]
    refine k_no (nI_ge hb2 (by omega)) (m_qTold (s := s) (c := c) (bb := decide (28 + j < 31)) (dM_c (fun b b1 b2 _ => f.2.2.1 b (by omega)) hd) hD (sM_c (f.2.2.1 317 (by decide)) hs) hS hb2 h31 (by rw [f.2.2.2.1 56 (by decide) (by decide)]; exact h56) (by rw [f.2.2.2.1 96 (by decide) (by decide)]; exact h96) h16 (fun i x hx => by rw [f.2.2.1 349 (by decide)]; exact hcd i x hx) hk (fun M1 f1 v1 v2 v3 => ?_))
    refine m_qTakes (a := acq (28 + j) (qvl D S s c) b) hj (by omega) hB ⟨v1, v2⟩ (fun h => v3 (decide_eq_true (by omega))) (by rw [f1.2.2.2.2 277 (by decide)]; exact e3) (by rw [f1.2.2.2.1 104 (by decide)]; exact e4) (fun M2 f2 g3 g4 => ?_)
    rw [nI_1]
    refine ih m (b + 1) M2 (by omega) (by omega) ((f.q f1).w f2) g3 (by rw [if_neg (by omega)]; exact g4) (stq_in (by omega) hB ⟨v1, v2⟩)
/-- the invariant again, where only the readers' own fields were turned -/
theorem Inv_upR {M M' : pm} (hL : mL M' = mL M) (hR : ∀ a k, ¬ ((a = 5 ∧ k = 2) ∨ (a = 6 ∧ k = 1)) → mR M' a k = mR M a k) (hJ : mJ M' 310 = mJ M 310) (hI : Inv M) (ht : iTape M') (hf : iFlt M') (hr : iRef M') (hs : iSeed M') (hp : iPic M') (e : ∀ a k, SS a k → mI M' a k = mI M a k) : Inv M' := by
  obtain ⟨i1, i2, i3, i4, i5, i6, i7, t, ns, na, ne, hh, i8, i9, i10, i11⟩ := hI
  have ht' : t = 14 ∨ t = 29 := by rcases i8.1 with h | h <;> omega
  exact ⟨by rw [hL]; exact i1, ht, hf, hr, hs, hp, iWrd_c (funext fun k => e _ _ (by unfold SS; omega)) (fun a ha => funext fun k => e _ _ (by unfold SS; omega)) i7, t, ns, na, ne, hh, iSta_c (fun b b1 b2 => funext fun k => e _ _ (by unfold SS; omega)) (fun b b1 b2 b3 => funext fun k => e _ _ (by unfold SS; omega)) hJ (e _ _ (by unfold SS; omega)) (e _ _ (by unfold SS; omega)) (hR 3 3 (by omega)) (hR 3 4 (by omega)) i8, iNow_c (fun b b1 b2 => funext fun k => e _ _ (by unfold SS; omega)) (funext fun k => e _ _ (by unfold SS; omega)) (e _ _ (by unfold SS; omega)) i9, iSeen_c (fun b b1 b2 => funext fun k => e _ _ (by unfold SS; omega)) (funext fun k => e _ _ (by unfold SS; omega)) (e _ _ (by unfold SS; omega)) (e _ _ (by unfold SS; omega)) i10, iHist_c (fun b b1 b2 => funext fun k => e _ _ (by unfold SS; omega)) (funext fun k => e _ _ (by unfold SS; omega)) (e _ _ (by unfold SS; omega)) (e _ _ (by unfold SS; omega)) (e _ _ (by unfold SS; omega)) (funext fun k => hR 76 k (by omega)) i11⟩
/-- the fields that a question may turn -/
def aC (a k : Nat) : Prop := a = 5 ∨ a = 6 ∨ (9 ≤ a ∧ a < 14) ∨ (45 ≤ a ∧ a < 57) ∨ (a = 3 ∧ (k = 1 ∨ k = 6 ∨ k = 7))
def aM (a k : Nat) : Prop := (a = 277 ∧ ((1 ≤ k ∧ k < 9) ∨ k = 38 ∨ k = 51 ∨ k = 54 ∨ k = 56 ∨ k = 57 ∨ (96 ≤ k ∧ k < 106))) ∨ a = 349 ∨ a = 350
theorem Inv_ask {M F : pm} (hI : Inv M) {T : Nat → Nat} (hTc : tpC M T) (hTm : tpM M T) (hL : mL F = mL M) (hR : ∀ a k, ¬ ((a = 5 ∧ k = 2) ∨ (a = 6 ∧ k = 1)) → mR F a k = mR M a k) (hJ : mJ F 310 = mJ M 310) (hJ7 : mJ F 277 71 = mJ M 277 71) (e : ∀ a k, ¬ (aC a k ∨ aM a k) → mI F a k = mI M a k) (e1 : mI F 3 1 = 0) (e2 : mI F 277 1 = 0) (hf : iFlt F) : Inv F := by
  obtain ⟨i1, i2, i3, i4, i5, i6, -⟩ := id hI
  have row : ∀ a, ¬ (a = 5 ∨ a = 6 ∨ (9 ≤ a ∧ a < 14) ∨ (45 ≤ a ∧ a < 57) ∨ a = 3 ∨ a = 277 ∨ a = 349 ∨ a = 350) → mI F a = mI M a := fun a ha => funext fun k => e a k (by unfold aC aM; omega)
  exact Inv_upR hL hR hJ hI (tape_to (n := 0) (T := T) (by decide) e1 e2 (tpC_c (row 4 (by omega)) hTc) (tpM_c (row 278 (by omega)) hTm)) hf (iRef_c (row 276 (by omega)) (row 279 (by omega)) i4) (iSeed_c (e 3 18 (by unfold aC aM; omega)) hJ7 i5) (iPic_c (e 3 16 (by unfold aC aM; omega)) (e 277 106 (by unfold aC aM; omega)) (row 275 (by omega)) (row 352 (by omega)) i6) (fun a k h => e a k (by unfold SS at h; unfold aC aM; omega))
theorem p_ask (M : pm) (hI : Inv M) : stp Inv w_X7_ask w_X8_ask M := by
  obtain ⟨t, D, P, S, R⟩ := Rp_of hI
  obtain ⟨r1, r2, r3, r4, r5, r6, r7, r8, r9, r10, r11, r12⟩ := id R
  obtain ⟨i1, i2, i3, i4, i5, i6, i7, -⟩ := id hI
  obtain ⟨n, T, hn, h31, h271, hTc, hTm⟩ := tape_of i2
  have h8 := r3.2.2.1
  intro K hK
  unfold w_X7_ask w_X7_takeTape
  rw [h31]
  show (¬ mI (sI M 3 1 0) 3 5 = 0 → _) ∧ (mI (sI M 3 1 0) 3 5 = 0 → _)
  rw [rI (by omega)]
  rcases r11 with ⟨off, -⟩ | ⟨on, -⟩
  · refine k_yes' off (hK _ (sI M 3 1 0) ⟨rfl, mI_off (by decide)⟩ (fun Q hQ => ?_))
    unfold w_X8_ask
    refine k_yes' (by rw [mI_off (by decide), ← r10]; exact off) (hQ _ ?_ ⟨rfl, mI_off (by decide)⟩)
    refine Inv_ask hI hTc hTm rfl (fun _ _ _ => rfl) rfl rfl (fun a k h => ?_) ?_ (rIs _ _ _ _) ?_
    · unfold aC aM at h
      rw [rI (by omega), rI (by omega)]
    · rw [rI (by omega), rIs]
    · exact iFlt_c (by rw [rI (by omega), rI (by omega)]) (by rw [rI (by omega), rI (by omega)]) (by rw [rI (by omega), rI (by omega)]) (by rw [rI (by omega), rI (by omega)]) i3
  · have hon : ¬ mI M 3 5 = 0 := by rw [on]; decide
    refine k_no' hon (c_readQ (tpC_c (mI_off (by decide)) hTc) hn (fun w h => by rw [mI_off (by decide)]; exact wdC_of i7 w h) (fun M4 f4 t4 g4 => ?_))
    unfold w_X7_keepFault
    generalize hM7 : sI (sI M4 3 6 (mI M4 6 7)) 3 7 (mI M4 6 8) = M7
    show (mI M7 3 6 = 0 → _) ∧ (¬ mI M7 3 6 = 0 → _)
    have e4 : ∀ a k, ¬ (a = 3 ∧ (k = 6 ∨ k = 7)) → mI M7 a k = mI M4 a k := fun a k h => by rw [← hM7, rI (by omega), rI (by omega)]
    have e7 : ∀ a k, ¬ (a = 5 ∨ a = 6 ∨ (9 ≤ a ∧ a < 14)) → ¬ (a = 3 ∧ (k = 1 ∨ k = 6 ∨ k = 7)) → mI M7 a k = mI M a k := fun a k h1 h2 => by
      rw [e4 a k (by omega), f4.2.2.2 a h1, rI (by omega)]
    have v1 : mI M7 3 1 = 0 := by rw [e4 3 1 (by omega), f4.2.2.2 3 (by omega), rIs]
    have v6 : mI M7 3 6 = mI M4 6 7 := by rw [← hM7, rI (by omega), rIs]
    have v7 : mI M7 3 7 = mI M4 6 8 := by rw [← hM7, rIs]
    have vL : mL M7 = mL M := by rw [← hM7]; exact f4.1
    have vJ : mJ M7 = mJ M := by rw [← hM7]; exact f4.2.1
    have vR : ∀ a k, ¬ ((a = 5 ∧ k = 2) ∨ (a = 6 ∧ k = 1)) → mR M7 a k = mR M a k := fun a k h => by rw [← hM7]; exact f4.2.2.1 a k h
    cases hr : qst T n with
    | inl e =>
      rw [hr] at t4
      obtain ⟨s1, s2, s3, s4, s5⟩ := t4
      refine k_no (by rw [v6, s2]; exact nI_ne0 (by omega) (by omega)) (hK _ M7 ⟨vL, funext fun k => e7 1 k (by omega) (by omega)⟩ (fun Q hQ => ?_))
      have row : ∀ a, 277 ≤ a → mI M7 a = mI M a := fun a ha => funext fun k => e7 a k (by omega) (by omega)
      refine m_readQ (tpM_c (row 278 (by decide)) hTm) hn (wdM_of (iWrd_c (funext fun k => e7 7 k (by omega) (by omega)) (fun a ha => row a (by omega)) i7)) (by rw [row 277 (by decide)]; exact h271) (by rw [row 277 (by decide), ← r10]; exact hon) (fun y M2 f2 e2 t2 g2 => ?_)
      rw [hr] at t2
      have t2 : tkF M2 e := t2
      unfold w_X8_ask_133
      refine k_no (tkF_n t2) (hQ _ ?_ ⟨f2.1, ?_⟩)
      · refine Inv_ask hI hTc hTm (f2.1.trans vL) (fun a k h => ?_) ?_ ?_ (fun a k h => ?_) ?_ ?_ ⟨?_, ?_⟩
        · show mR M2 a k = _
          rw [f2.2.1]; exact vR a k h
        · show mJ M2 310 = _
          rw [f2.2.2.1, vJ]
        · show mJ M2 277 71 = _
          rw [f2.2.2.1, vJ]
        · unfold aC aM at h
          rw [rI (by omega), rI (by omega), f2.2.2.2 a k (by unfold fZ fQ fU; omega), e7 a k (by omega) (by omega)]
        · rw [rI (by omega), rI (by omega), f2.2.2.2 3 1 (by unfold fZ fQ fU; omega)]; exact v1
        · rw [rI (by omega), rI (by omega)]; exact e2
        · rw [rI (by omega), rI (by omega), f2.2.2.2 3 6 (by unfold fZ fQ fU; omega), v6, s2, rI (by omega), rIs]; exact t2.1.symm
        · rw [rI (by omega), rI (by omega), f2.2.2.2 3 7 (by unfold fZ fQ fU; omega), v7, s3, rIs]; exact t2.2.1.symm
      · exact funext fun k => by rw [rI (by omega), rI (by omega), f2.2.2.2 1 k (by unfold fZ fQ fU; omega)]
    | inr x =>
      obtain ⟨⟨k, c⟩, s⟩ := x
      rw [hr] at t4
      obtain ⟨-, -, -, -, -, -, s7, s8⟩ := t4
      obtain ⟨g5, g6⟩ := g4 k c s hr
      obtain ⟨q1, q2, q3, q4⟩ := qst_ok hr
      refine k_yes (by rw [v6]; exact s7) ?_
      rw [e4 5 5 (by omega), g5]
      have p7 : prgC M7 9 0 c := by
        obtain ⟨g, a1, a2, a3, a4⟩ := g6
        exact ⟨g, by rw [e4 _ _ (by omega)]; exact a1, by rw [e4 _ _ (by omega)]; exact a2, a3, fun i x hx => by rw [e4 _ _ (by omega)]; exact a4 i x hx⟩
      have rw7 : ∀ a, ¬ (a = 5 ∨ a = 6 ∨ (9 ≤ a ∧ a < 14) ∨ a = 3) → mI M7 a = mI M a := fun a ha => funext fun k => e7 a k (by omega) (by omega)
      refine c_answer r1 (by rw [vR 3 3 (by omega)]; exact r2) (dC_c (fun b b1 b2 => rw7 b (by omega)) r4) r3 (sC_c (fun b b1 b2 => rw7 b (by omega)) r8) r6 p7 q3 q2 q1 (fun M8 f8 hb => hK _ M8 ⟨f8.1.trans vL, ?_⟩ (fun Q hQ => ?_))
      · rw [f8.2.2.2 1 (by unfold xC; omega), rw7 1 (by omega)]
      have b31 : bst D S P < 2 ^ 31 := Nat.lt_of_lt_of_le hb.1.1 (Nat.pow_le_pow_right (by decide) (by omega))
      have row : ∀ a, 277 ≤ a → mI M8 a = mI M a := fun a ha => by rw [f8.2.2.2 a (by unfold xC; omega), rw7 a (by omega)]
      refine m_readQ (tpM_c (row 278 (by decide)) hTm) hn (wdM_of (iWrd_c (by rw [f8.2.2.2 7 (by unfold xC; omega), rw7 7 (by omega)]) (fun a ha => row a (by omega)) i7)) (by rw [row 277 (by decide)]; exact h271) (by rw [row 277 (by decide), ← r10]; exact hon) (fun y M2 f2 e2 t2 g2 => ?_)
      obtain ⟨gy, g96, gcd⟩ := g2 k c s hr
      rw [hr] at t2
      have t2 : tkM M2 T n s := t2
      obtain ⟨j, rfl⟩ : ∃ j, k = 28 + j := ⟨k - 28, by omega⟩
      rw [show 28 + j - 28 = j from by omega] at gy
      rw [gy]
      unfold w_X8_ask_133
      refine k_yes t2.2.2.1 ?_
      -- behind the reading
      have fin : ∀ a0 : Int64, a0 = zJ (acq (28 + j) (qvl D S (bst D S P) c) 0) → w_X8_laysBest (sI (sJ (sI (sI M2 277 7 (mI M2 277 5)) 277 8 (mI M2 277 6)) 277 103 a0) 277 104 1) (fun M4 => ∃ n16, w_X8_ask_192 n16 (nI j) 0 (sI M4 277 51 2) Q) := by
        intro a0 ea
        generalize hM3 : sI (sJ (sI (sI M2 277 7 (mI M2 277 5)) 277 8 (mI M2 277 6)) 277 103 a0) 277 104 1 = M3
        have e3 : ∀ a k, ¬ (a = 277 ∧ (k = 7 ∨ k = 8 ∨ k = 104)) → mI M3 a k = mI M2 a k := fun a k h => by
          rw [← hM3, rI (by omega), mI_sJ, rI (by omega), rI (by omega)]
        have r3' : ∀ a, 308 ≤ a → a < 318 → mI M3 a = mI M a := fun a h1 h2 => funext fun k => by rw [e3 a k (by omega), f2.2.2.2 a k (by unfold fZ fQ fU; omega), row a (by omega)]
        refine m_laysBest (dM_c (fun b b1 b2 _ => r3' b (by omega) (by omega)) r5) r3 (sM_c (r3' 317 (by omega) (by omega)) r9) r6 (fun M5 f5 hb5 h56 _ _ => ?_)
        have z5 : ∀ a, a ≠ 277 → mI (sI M5 277 51 2) a = mI M3 a := fun a ha => (mI_off ha).trans (f5.2.2.1 a ha)
        refine ⟨D 2 + 1, m_askLoop (M0 := sI M5 277 51 2) (s := bst D S P) (c := c) (dM_c (fun b b1 b2 _ => (z5 b (by omega)).trans (r3' b (by omega) (by omega))) r5) r3 (sM_c ((z5 317 (by decide)).trans (r3' 317 (by omega) (by omega))) r9) r6 b31 (by rw [rI (by omega)]; exact h56) ?_ (by omega) (fun i x hx => ?_) q3 (by omega) (fun M6 f6 => ?_) (D 2) (D 2 + 1) 0 _ (by omega) (by omega) (fvr.rf _) ?_ ?_ acq_0⟩
        · rw [rI (by omega), f5.2.2.2.1 96 (by decide) (by decide) (by decide) (by decide) (by decide), e3 277 96 (by omega)]; exact g96
        · rw [z5 349 (by decide), e3 349 i (by omega)]; exact gcd i x hx
        · have g5' : ∀ k, k ≠ 51 → k ≠ 54 → k ≠ 56 → k ≠ 57 → k ≠ 102 → k ≠ 104 → mI M6 277 k = mI M3 277 k := fun k k1 k2 k3 k4 k5 k6 => by
            rw [f6.2.2.2.1 k k5 k6, rI (by omega), f5.2.2.2.1 k k1 k2 k3 k4 k5]
          have ea : ∀ a, a ≠ 277 → mI M6 a = mI M3 a := fun a ha => (f6.2.2.1 a ha).trans (z5 a ha)
          have jj : ∀ a k, a ≠ 351 → a ≠ 319 → ¬ (a = 277 ∧ k = 103) → mJ M6 a k = mJ M a k := fun a k k1 k2 k3 => by
            rw [f6.2.2.2.2 a k k1 k3]
            show mJ M5 a k = _
            rw [f5.2.2.2.2 a k2 k1, ← hM3]
            show mJ (sJ (sI (sI M2 277 7 (mI M2 277 5)) 277 8 (mI M2 277 6)) 277 103 a0) a k = _
            rw [rJ k3]
            show mJ M2 a k = _
            rw [f2.2.2.1, f8.2.2.1, vJ]
          have lo : ∀ a, a < 277 → mI M6 a = mI M8 a := fun a ha => funext fun k => by rw [ea a (by omega), e3 a k (by omega), f2.2.2.2 a k (by unfold fZ fQ fU; omega)]
          have aR : mR M6 = mR M8 := by
            rw [f6.2.1]; show mR M5 = _; rw [f5.2.1, ← hM3]; exact f2.2.1
          have aL : mL M6 = mL M8 := by
            rw [f6.1]; show mL M5 = _; rw [f5.1, ← hM3]; exact f2.1
          refine hQ M6 ?_ ⟨aL, lo 1 (by decide)⟩
          refine Inv_ask hI hTc hTm (aL.trans (f8.1.trans vL)) (fun a k h => ?_) (funext fun k => jj 310 k (by decide) (by decide) (by omega)) (jj 277 71 (by decide) (by decide) (by omega)) (fun a k h => ?_) ?_ ?_ ⟨?_, ?_⟩
          · rw [aR, f8.2.1]; exact vR a k h
          · unfold aC aM at h
            by_cases q : a = 277
            · subst q
              rw [g5' k (by omega) (by omega) (by omega) (by omega) (by omega) (by omega), e3 277 k (by omega), f2.2.2.2 277 k (by unfold fZ fQ fU; omega), row 277 (by decide)]
            · rw [ea a q, e3 a k (by omega), f2.2.2.2 a k (by unfold fZ fQ fU; omega), f8.2.2.2 a (by unfold xC; omega), e7 a k (by omega) (by omega)]
          · rw [lo 3 (by decide), f8.2.2.2 3 (by unfold xC; omega)]; exact v1
          · rw [g5' 1 (by decide) (by decide) (by decide) (by decide) (by decide) (by decide), e3 277 1 (by omega)]; exact e2
          · rw [lo 3 (by decide), f8.2.2.2 3 (by unfold xC; omega), v6, s7, g5' 7 (by decide) (by decide) (by decide) (by decide) (by decide) (by decide), ← hM3, rI (by omega), mI_sJ, rI (by omega), rIs]; exact t2.2.2.1.symm
          · rw [lo 3 (by decide), f8.2.2.2 3 (by unfold xC; omega), v7, s8, g5' 8 (by decide) (by decide) (by decide) (by decide) (by decide) (by decide), ← hM3, rI (by omega), mI_sJ, rIs]; exact t2.2.2.2.1.symm
        · show mJ M5 277 103 = _
          rw [f5.2.2.2.2 277 (by decide) (by decide), ← hM3]
          exact (rJs _ 277 103 a0).trans ea
        · rw [rI (by omega), f5.2.2.2.1 104 (by decide) (by decide) (by decide) (by decide) (by decide), ← hM3, rIs]; rfl
      refine pk_le 2 j (fun h => fin _ ?_) (fun h => fin _ ?_)
      · unfold acq; rw [if_neg (by omega)]; rfl
      · unfold acq; rw [if_pos (by omega)]; rfl
