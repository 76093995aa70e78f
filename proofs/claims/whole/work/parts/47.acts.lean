/-! want, mourn, undo -/
theorem Rp_n {M : pm} {t : Nat} {D S : Nat → Nat} {P : Nat → List Nat} (R : Rp M t D P S) {t' ns na ne hr : Nat} (h : iSta M t' ns na ne hr) : t' = t ∧ ns = D 1 ∧ na = D 2 ∧ ne = D 3 ∧ hr = D 0 := by
  obtain ⟨b1, b2, b3, b4, b5, b6, b7, b8, b9, b10, _, b14, b15, b16, b17, b18, b19, -⟩ := h
  obtain ⟨r1, r2, r3, r4, r5, -⟩ := R
  have ht : t' = t := by rw [← b2, r2]
  obtain ⟨d0, d1, d2, d3, -⟩ := r3
  refine ⟨ht, ?_, ?_, ?_, ?_⟩
  · rw [r5.2.1] at b15; exact ((nI_eq (by omega) (by omega)).mp b15).symm
  · rw [r5.2.2.1] at b17; exact ((nI_eq (by omega) (by omega)).mp b17).symm
  · rw [r5.2.2.2.1] at b19; exact ((nI_eq (by omega) (by omega)).mp b19).symm
  · rw [r5.1] at b10; exact ((nI_eq (by omega) (by omega)).mp b10).symm
theorem hist_of {M : pm} {t : Nat} {D S : Nat → Nat} {P : Nat → List Nat} (hI : Inv M) (R : Rp M t D P S) : ∃ u w, u ≤ 20 ∧ w < 20 ∧ mI M 75 1 = nI u ∧ mI M 277 69 = nI u ∧ mI M 277 70 = nI w ∧ prm M ∧ ktR M 57 (mI M 317) ∧ (∀ M4, remC M M4 u → remM M M4 u w → iHist M4 (D 1) (D 2)) ∧ ∀ j, j < u → stR M (mR M 76 (u - 1 - j)) (fun k => mI M 325 (163 * ((w + 20 - j) % 20) + k)) (D 1) (D 2) ∧ ktR M (mR M 76 (u - 1 - j)) (fun k => mI M 325 (163 * ((w + 20 - j) % 20) + k)) := by
  obtain ⟨-, -, -, -, -, -, -, t', ns, na, ne, hr, i8, i9, -, i11⟩ := hI
  obtain ⟨-, rfl, rfl, -, -⟩ := Rp_n R i8
  obtain ⟨u, w, h1, h2, h3, h4, h5, h6, h7⟩ := i11
  exact ⟨u, w, h1, h2, h3, h4, h5, h6, i9.2.1, fun M4 c m => hist_step R.2.2.1.2.2.1 h1 h2 i9.1 i9.2.1 h7 c m, h7⟩
theorem act_fin {M M4 : pm} {t : Nat} {D S : Nat → Nat} {P : Nat → List Nat} (hI : Inv M) (R : Rp M t D P S) (hL : mL M4 = mL M) (hR : ∀ c, c ≠ 76 → mR M4 c = mR M c) (hA : ∀ a, ¬ actA a → mI M4 a = mI M a) (hK : ∀ k, ¬ actK k → mI M4 277 k = mI M 277 k) (h3 : ∀ k, k ≠ 18 → mI M4 3 k = mI M 3 k) (hJ : mJ M4 310 = mJ M 310) (hs : iSeed M4) (hnow : stR M4 57 (mI M4 317) (D 1) (D 2)) (hk : ktR M4 57 (mI M4 317)) (hh : iHist M4 (D 1) (D 2)) : Inv M4 := by
  refine Inv_act hI hL hR hA hK h3 hJ hs (fun t' ns na ne hr h hn _ => ?_)
  obtain ⟨-, rfl, rfl, -, -⟩ := Rp_n R h
  exact ⟨⟨hnow, hk, by rw [hK 58 (by unfold actK scrK; omega)]; exact hn.2.2⟩, hh⟩
theorem remC_c {M M1 M4 : pm} {u : Nat} (e : ∀ c, 75 ≤ c → c < 257 → mI M4 c = mI M1 c) (er : mR M4 76 = mR M1 76) (h : remC M M1 u) : remC M M4 u := by
  obtain ⟨c1, ⟨σ, s1, s2⟩, c3, c4⟩ := h
  have hs := s1 (min 20 (u + 1) - 1) (by omega)
  refine ⟨by rw [e 75 (by omega) (by omega)]; exact c1, ⟨σ, fun i hi => by rw [er]; exact s1 i hi, s2⟩, ?_, fun j j1 j2 => ?_⟩
  · rw [er]
    rw [hs.2] at c3 ⊢
    obtain ⟨g1, g2, g3, g4, g5⟩ := c3
    refine ⟨by rw [e _ (by omega) (by omega)]; exact g1, by rw [e _ (by omega) (by omega)]; exact g2, by rw [e _ (by omega) (by omega)]; exact g3, fun i b i1 i2 hb => by rw [e _ (by omega) (by omega)]; exact g4 i b i1 i2 hb, fun i b i1 i2 hb => by rw [e _ (by omega) (by omega)]; exact g5 i b i1 i2 hb⟩
  · obtain ⟨d1, d2⟩ := c4 j j1 j2
    have hj := s1 (min 20 (u + 1) - 1 - j) (by omega)
    rw [er]
    refine ⟨d1, fun b hb => ?_⟩
    rw [← d2 b hb, ← d1, hj.2]
    exact e _ (by omega) (by omega)
theorem remM_c {M M2 M3 M4 : pm} {u w : Nat} (e0 : mI M2 317 = mI M 317) (e1 : mI M2 325 = mI M 325) (e69 : mI M4 277 69 = mI M3 277 69) (e70 : mI M4 277 70 = mI M3 277 70) (e325 : mI M4 325 = mI M3 325) (h : remM M2 M3 u w) : remM M M4 u w := by
  obtain ⟨h1, h2, h3⟩ := h
  refine ⟨by rw [e69]; exact h1, by rw [e70]; exact h2, fun j => ?_⟩
  rw [e325, h3 j, e0, e1]
theorem stp_ref {A : Type} {wx wm : pm → (A → pm → Prop) → Prop} {M : pm} (hI : Inv M) {j : Nat} (hj : j < 6) (y : A) (hx : ∀ K : A → pm → Prop, K y (sI M 276 j (mI M 276 j + 1)) → wx M K) (hm : ∀ M1, M1 = sI M 276 j (mI M 276 j + 1) → ∀ Q : A → pm → Prop, Q y (sI M1 279 j (mI M1 279 j + 1)) → wm M1 Q) : stp Inv wx wm M := by
  intro K hK
  refine hx K (hK y _ (sc_sI (by decide)) (fun Q hQ => hm _ rfl Q ?_))
  have := Inv_ref hI hj
  rw [show mI (sI M 276 j (mI M 276 j + 1)) 279 j = mI M 279 j from rI (by omega)]
  exact hQ _ this (sc_sI (by decide))
theorem dM_276 {M M1 : pm} {D : Nat → Nat} {P : Nat → List Nat} {j : Nat} {v : Int32} (e : M1 = sI M 276 j v) (hd : dM M D P) : dM M1 D P := by
  subst e
  exact dM_c (fun b b1 b2 _ => mI_off (by omega)) hd
theorem sM_276 {M M1 : pm} {D S : Nat → Nat} {j : Nat} {v : Int32} (e : M1 = sI M 276 j v) (hd : sM M D S) : sM M1 D S := by
  subst e
  exact sM_c (mI_off (by omega)) hd
theorem mA_no {M : pm} {D : Nat → Nat} {P : Nat → List Nat} (hd : dM M D P) (hD : okD D P) {x : Int32} (h : x < 0 ∨ (¬ x < 0 ∧ nI (D 2) ≤ x)) {Q : Int32 → pm → Prop} (k : Q 0 M) : w_X8_isAsker x M Q := by
  have h8 := hD.2.2.1
  unfold w_X8_isAsker w_X8_askerMany
  dsimp only
  rw [hd.2.2.1, j0]
  exact isIn_no (h.elim Or.inl (fun q => Or.inr (le_pred (by omega) q.2))) k
theorem mA_yes {M : pm} {D : Nat → Nat} {P : Nat → List Nat} (hd : dM M D P) (hD : okD D P) {b : Nat} (h : b < D 2) {Q : Int32 → pm → Prop} (k : Q 1 M) : w_X8_isAsker (nI b) M Q := by
  have h8 := hD.2.2.1
  unfold w_X8_isAsker w_X8_askerMany
  dsimp only
  rw [hd.2.2.1, j0, show nI (D 2) - 1 = nI (D 2 - 1) from pk_sub (a := D 2) (b := 1) (by omega)]
  exact isIn_yes (nI_pos (by omega)) (nI_nlt (by omega) (by omega)) k
theorem c_isSong_no {M : pm} {t : Nat} {D S : Nat → Nat} {P : Nat → List Nat} (R : Rp M t D P S) {x : Int32} (h : x < 0 ∨ (¬ x < 0 ∧ nI (D 1) ≤ x)) {Q : Int32 → pm → Prop} (k : Q 0 M) : w_X7_isSong x M Q := by
  refine ⟨fun _ => k, fun h1 => ⟨fun _ => k, fun h2 => ?_⟩⟩
  rw [R.2.1, R.2.2.2.1.2.1] at h2
  rcases h with h | h
  · exact absurd h h1
  · exact absurd h.2 h2
theorem c_isSong_yes {M : pm} {t : Nat} {D S : Nat → Nat} {P : Nat → List Nat} (R : Rp M t D P S) {b : Nat} (h : b < D 1) {Q : Int32 → pm → Prop} (k : Q 1 M) : w_X7_isSong (nI b) M Q := by
  have h8 := R.2.2.1.2.1
  refine k_no (nI_pos (by omega)) ?_
  rw [R.2.1, R.2.2.2.1.2.1]
  exact k_no (nI_ge h (by omega)) k
theorem mS_no {M : pm} {D : Nat → Nat} {P : Nat → List Nat} (hd : dM M D P) (hD : okD D P) {x : Int32} (h : x < 0 ∨ (¬ x < 0 ∧ nI (D 1) ≤ x)) {Q : Int32 → pm → Prop} (k : Q 0 M) : w_X8_songMany M (fun y6 M5 => w_X8_isIn (Int32.toInt64 x) (0 : Int64) (Int32.toInt64 (y6 - 1)) M5 Q) := by
  have h8 := hD.2.1
  unfold w_X8_songMany
  dsimp only
  rw [hd.2.1, j0]
  exact isIn_no (h.elim Or.inl (fun q => Or.inr (le_pred (by omega) q.2))) k
theorem mS_yes {M : pm} {D : Nat → Nat} {P : Nat → List Nat} (hd : dM M D P) (hD : okD D P) {b : Nat} (h : b < D 1) {Q : Int32 → pm → Prop} (k : Q 1 M) : w_X8_songMany M (fun y6 M5 => w_X8_isIn (Int32.toInt64 (nI b)) (0 : Int64) (Int32.toInt64 (y6 - 1)) M5 Q) := by
  have h8 := hD.2.1
  unfold w_X8_songMany
  dsimp only
  rw [hd.2.1, j0, show nI (D 1) - 1 = nI (D 1 - 1) from pk_sub (a := D 1) (b := 1) (by omega)]
  exact isIn_yes (nI_pos (by omega)) (nI_nlt (by omega) (by omega)) k
/-- one number of one asker -/
def up1 (S : Nat → Nat) (j v k : Nat) : Nat := if k = j then v else S k
theorem sC_up {M M' : pm} {a : Nat} {D S : Nat → Nat} {i b v : Nat} (h2 : 2 ≤ i) (h4 : i ≤ 4) (hs : sC M a D S) (e : M' = sI M (a + (i - 1)) b (nI v)) : sC M' a D (up1 S (i + 5 * b) v) := by
  subst e
  refine ⟨?_, ?_, fun q hq => ?_⟩
  · rw [rI (by omega), hs.1]; unfold up1; rw [if_neg (by omega)]
  · rw [rI (by omega), hs.2.1]; unfold up1; rw [if_neg (by omega)]
  · obtain ⟨c1, c2, c3, c4, c5⟩ := hs.2.2 q hq
    unfold up1
    rcases (show i = 2 ∨ i = 3 ∨ i = 4 from by omega) with rfl | rfl | rfl
    · refine ⟨?_, by rw [rI (by omega), if_neg (by omega)]; exact c2, by rw [rI (by omega), if_neg (by omega)]; exact c3, by rw [rI (by omega), if_neg (by omega)]; exact c4, by rw [rI (by omega), if_neg (by omega)]; exact c5⟩
      by_cases e : q = b
      · subst e; rw [if_pos rfl]; exact rIs _ _ _ _
      · rw [if_neg (by omega), rI (by omega)]; exact c1
    · refine ⟨by rw [rI (by omega), if_neg (by omega)]; exact c1, ?_, by rw [rI (by omega), if_neg (by omega)]; exact c3, by rw [rI (by omega), if_neg (by omega)]; exact c4, by rw [rI (by omega), if_neg (by omega)]; exact c5⟩
      by_cases e : q = b
      · subst e; rw [if_pos rfl]; exact rIs _ _ _ _
      · rw [if_neg (by omega), rI (by omega)]; exact c2
    · refine ⟨by rw [rI (by omega), if_neg (by omega)]; exact c1, by rw [rI (by omega), if_neg (by omega)]; exact c2, ?_, by rw [rI (by omega), if_neg (by omega)]; exact c4, by rw [rI (by omega), if_neg (by omega)]; exact c5⟩
      by_cases e : q = b
      · subst e; rw [if_pos rfl]; exact rIs _ _ _ _
      · rw [if_neg (by omega), rI (by omega)]; exact c3
theorem sM_up {M M' : pm} {D S : Nat → Nat} {j v : Nat} (hs : sM M D S) (e : M' = sI M 317 j (nI v)) : sM M' D (up1 S j v) := by
  subst e
  intro k hk
  unfold up1
  by_cases e : k = j
  · subst e; rw [if_pos rfl]; exact rIs _ _ _ _
  · rw [if_neg e, rI (by omega)]; exact hs k hk
/-- a single number changed by an act, behind remember and keeps -/
theorem act_one {M M1 M3 : pm} {t : Nat} {D S : Nat → Nat} {P : Nat → List Nat} {u w i b v : Nat} (hI : Inv M) (R : Rp M t D P S) (h2 : 2 ≤ i) (h4 : i ≤ 4) (hb : b < D 2) (ok : okS D (up1 S (i + 5 * b) v)) (hh : ∀ M4, remC M M4 u → remM M M4 u w → iHist M4 (D 1) (D 2)) (hk : ktR M 57 (mI M 317))
    (a1 : mL M1 = mL M) (a2 : mJ M1 = mJ M) (a3 : ∀ c, c ≠ 76 → mR M1 c = mR M c) (a4 : ∀ c, c < 75 ∨ 257 ≤ c → mI M1 c = mI M c) (a5 : remC M M1 u)
    (b1 : mL M3 = mL (sI M1 (57 + (i - 1)) b (nI v))) (b2 : mR M3 = mR (sI M1 (57 + (i - 1)) b (nI v))) (b3 : mJ M3 = mJ (sI M1 (57 + (i - 1)) b (nI v))) (b4 : ∀ c, c ≠ 277 → c ≠ 325 → mI M3 c = mI (sI M1 (57 + (i - 1)) b (nI v)) c) (b5 : ∀ j, j ≠ 69 → j ≠ 70 → mI M3 277 j = mI (sI M1 (57 + (i - 1)) b (nI v)) 277 j) (b6 : remM (sI M1 (57 + (i - 1)) b (nI v)) M3 u w) : Inv (sI M3 317 (i + 5 * b) (nI v)) := by
  obtain ⟨r1, r2, r3, r4, r5, r6, r7, r8, r9, r10, r11, r12⟩ := R
  have h8 := r3.2.2.1
  have R : Rp M t D P S := ⟨r1, r2, r3, r4, r5, r6, r7, r8, r9, r10, r11, r12⟩
  have e2 : ∀ c, ¬ (57 ≤ c ∧ c < 66) → mI (sI M1 (57 + (i - 1)) b (nI v)) c = mI M1 c := fun c hc => mI_off (by omega)
  have e277 : ∀ j, j ≠ 69 → j ≠ 70 → mI (sI M3 317 (i + 5 * b) (nI v)) 277 j = mI M 277 j := fun j q1 q2 => by
    rw [rI (by omega), b5 j q1 q2, e2 _ (by omega), a4 _ (by omega)]
  have e3 : mI (sI M3 317 (i + 5 * b) (nI v)) 3 = mI M 3 := by
    rw [mI_off (by omega), b4 _ (by omega) (by omega), e2 _ (by omega), a4 _ (by omega)]
  have eJ : mJ (sI M3 317 (i + 5 * b) (nI v)) = mJ M := by
    show mJ M3 = _
    rw [b3]
    exact a2
  have s1 : sC M1 57 D S := sC_c (fun c c1 c2 => a4 c (by omega)) r8
  have e317 : mI M3 317 = mI M 317 := by rw [b4 _ (by omega) (by omega), e2 _ (by omega), a4 _ (by omega)]
  have eb : ∀ c, 57 ≤ c → c < 66 → mI (sI M3 317 (i + 5 * b) (nI v)) c = mI (sI M1 (57 + (i - 1)) b (nI v)) c := fun c c1 c2 => by rw [mI_off (by omega), b4 _ (by omega) (by omega)]
  have ob := ok.1
  have up0 : up1 S (i + 5 * b) v 0 = S 0 := by unfold up1; rw [if_neg (by omega)]
  refine act_fin (M := M) hI R (by show mL M3 = _; rw [b1]; exact a1) (fun c hc => by show mR M3 c = _; rw [b2]; exact a3 c hc) (fun a ha => ?_) (fun k hk => e277 k (fun q => hk (Or.inr (Or.inl q))) (fun q => hk (Or.inr (Or.inr q)))) (fun k _ => by rw [e3]) (by rw [eJ]) (iSeed_c (by rw [e3]) (by rw [eJ]) hI.2.2.2.2.1) (stR_of (D := D) (S := up1 S (i + 5 * b) v) ?_ ?_ ok (by rw [up0]; exact r7)) ?_ (hh _ ?_ ?_)
  · unfold actA at ha
    rw [mI_off (by omega), b4 _ (by omega) (by omega), e2 _ (by omega), a4 _ (by omega)]
  · exact sC_c (fun c c1 c2 => eb c (by omega) (by omega)) (sC_up h2 h4 s1 rfl)
  · exact sM_up (sM_c e317 r9) rfl
  · refine ktR_k ?_ (fun q q1 q2 => ?_) (fun q q1 q2 => ?_) hk
    · rw [eb 57 (by omega) (by omega), rI (by omega), a4 _ (by omega)]
    · rw [eb _ (by omega) (by omega), mI_off (by omega), a4 _ (by omega)]
    · rw [rI (by omega), e317]
  · refine remC_c (fun c c1 c2 => ?_) ?_ a5
    · rw [mI_off (by omega), b4 _ (by omega) (by omega), e2 _ (by omega)]
    · show mR M3 76 = _
      rw [b2]; rfl
  · refine remM_c (M2 := sI M1 (57 + (i - 1)) b (nI v)) (M3 := M3) ?_ ?_ (rI (by omega)) (rI (by omega)) (mI_off (by omega)) b6
    · rw [e2 _ (by omega), a4 _ (by omega)]
    · rw [e2 _ (by omega), a4 _ (by omega)]
theorem p_want (x y : Int32) (M : pm) (hI : Inv M) : stp Inv (w_X7_want x y) (w_X8_want x y) M := by
  obtain ⟨t, D, P, S, R⟩ := Rp_of hI
  obtain ⟨r1, r2, r3, r4, r5, r6, r7, r8, r9, r10, r11, r12⟩ := id R
  have h8 := r3.2.2.1
  have h6 := r3.2.1
  have no : (x < 0 ∨ (¬ x < 0 ∧ nI (D 2) ≤ x)) → stp Inv (w_X7_want x y) (w_X8_want x y) M := fun h => stp_ref hI (j := 2) (by decide) 0 (fun K k => c_isAsker_no R h (k_yes rfl (s_refuse (by decide) k))) (fun M1 e Q k => mA_no (dM_276 e r5) r3 h (k_yes rfl k))
  rcases ix3 x (n := D 2) (by omega) with hx | hx | ⟨b, hb, rfl⟩
  · exact no (Or.inl hx)
  · exact no (Or.inr hx)
  have no : (y < 0 ∨ (¬ y < 0 ∧ nI (D 1) ≤ y)) → stp Inv (w_X7_want (nI b) y) (w_X8_want (nI b) y) M := fun h => stp_ref hI (j := 2) (by decide) 0 (fun K k => c_isAsker_yes R hb (k_no (by decide) (c_isSong_no R h (k_yes rfl (s_refuse (by decide) k))))) (fun M1 e Q k => mA_yes (dM_276 e r5) r3 hb (k_no (by decide) (mS_no (dM_276 e r5) r3 h (k_yes rfl k))))
  rcases ix3 y (n := D 1) (by omega) with hy | hy | ⟨s, hs, rfl⟩
  · exact no (Or.inl hy)
  · exact no (Or.inr hy)
  have q := r6.2.2 b hb
  have hv : vp_in (nI b) 8 := vp_in_nI (by omega) (by decide)
  have e58 : mI M 58 b = nI (S (2 + 5 * b)) := (r8.2.2 b hb).1
  by_cases e : S (2 + 5 * b) = s
  · refine stp_ref hI (j := 2) (by decide) 0 (fun K k => c_isAsker_yes R hb (k_no (by decide) (c_isSong_yes R hs (k_no (by decide) ⟨hv, k_yes' ?_ (s_refuse (by decide) k)⟩)))) (fun M1 e1 Q k => mA_yes (dM_276 e1 r5) r3 hb (k_no (by decide) (mS_yes (dM_276 e1 r5) r3 hs (k_no (by decide) (m_songOf (by omega) (sM_276 e1 r9) hb (k_yes' ?_ k))))))
    · rw [nI_clamp (by omega), e58, e]
    · rw [e]
  · have ne : ¬ nI (S (2 + 5 * b)) = nI s := fun z => e ((nI_eq (by omega) (by omega)).mp z)
    obtain ⟨u, w, u1, w1, g1, g2, g3, g4, g5, g6, -⟩ := hist_of hI R
    intro K hK
    refine c_isAsker_yes R hb (k_no (by decide) (c_isSong_yes R hs (k_no (by decide) ⟨hv, k_no' (by rw [nI_clamp (by omega), e58]; exact ne) (c_remember u1 g1 g4 (fun M1 a1 a2 a3 a4 a5 => ⟨hv, ?_⟩))⟩)))
    rw [nI_clamp (by omega)]
    have f2 : ∀ c, 277 ≤ c → mI (sI M1 58 b (nI s)) c = mI M c := fun c hc => by rw [mI_off (by omega)]; exact a4 c (by omega)
    refine hK 1 _ ⟨a1, by rw [mI_off (by omega)]; exact a4 1 (by omega)⟩ (fun Q hQ => ?_)
    have d2 : dM (sI M1 58 b (nI s)) D P := dM_c (fun c c1 c2 _ => f2 c (by omega)) r5
    have m2 : sM (sI M1 58 b (nI s)) D S := sM_c (f2 317 (by omega)) r9
    refine mA_yes d2 r3 hb (k_no (by decide) (mS_yes d2 r3 hs (k_no (by decide) (m_songOf (by omega) m2 hb (k_no' ne (m_keeps (u := u) (w := w) u1 w1 (by rw [f2 _ (by omega)]; exact g2) (by rw [f2 _ (by omega)]; exact g3) (fun M3 b1 b2 b3 b4 b5 b6 => ?_)))))))
    rw [show (2 : Int32) + 5 * nI b = nI (2 + 5 * b) from m_ix (j := 2) (by omega) (by decide), nI_clamp (by omega)]
    refine ⟨vp_in_nI (by omega) (by decide), hQ _ (act_one (i := 2) hI R (by decide) (by decide) hb ⟨?_, ?_, fun q hq => ?_⟩ g6 g5 a1 a2 a3 a4 a5 b1 b2 b3 b4 b5 b6) ⟨b1, by rw [mI_off (by omega)]; exact b4 1 (by decide) (by decide)⟩⟩
    · unfold up1; rw [if_neg (by omega)]; exact r6.1
    · unfold up1; rw [if_neg (by omega)]; exact r6.2.1
    · have z := r6.2.2 q hq
      unfold up1
      rw [if_neg (by omega : ¬ 3 + 5 * q = 2 + 5 * b), if_neg (by omega : ¬ 4 + 5 * q = 2 + 5 * b), if_neg (by omega : ¬ 5 + 5 * q = 2 + 5 * b), if_neg (by omega : ¬ 6 + 5 * q = 2 + 5 * b), if_neg (by omega : ¬ 0 = 2 + 5 * b)]
      refine ⟨?_, z.2⟩
      split
      · exact hs
      · exact z.1
theorem p_mourn (x y : Int32) (M : pm) (hI : Inv M) : stp Inv (w_X7_mourn x y) (w_X8_mourn x y) M := by
  obtain ⟨t, D, P, S, R⟩ := Rp_of hI
  obtain ⟨r1, r2, r3, r4, r5, r6, r7, r8, r9, r10, r11, r12⟩ := id R
  have h8 := r3.2.2.1
  have rfs : ∀ {M1 : pm} {Q : Int32 → pm → Prop}, Q (-1) (sI M1 279 2 (mI M1 279 2 + 1)) → w_X8_refuses 2 M1 (fun y6 M5 => Q y6 M5) := fun k => ⟨vp_in_nI (n := 2) (by decide) (by decide), vp_in_nI (n := 2) (by decide) (by decide), k⟩
  have no : (x < 0 ∨ (¬ x < 0 ∧ nI (D 2) ≤ x)) → stp Inv (w_X7_mourn x y) (w_X8_mourn x y) M := fun h => stp_ref hI (j := 2) (by decide) (-1) (fun K k => c_isAsker_no R h (k_yes rfl (s_refuse (by decide) k))) (fun M1 e Q k => mA_no (dM_276 e r5) r3 h (k_yes rfl (rfs k)))
  rcases ix3 x (n := D 2) (by omega) with hx | hx | ⟨b, hb, rfl⟩
  · exact no (Or.inl hx)
  · exact no (Or.inr hx)
  have q := r6.2.2 b hb
  have hv : vp_in (nI b) 8 := vp_in_nI (by omega) (by decide)
  have e60 : mI M 60 b = nI (S (4 + 5 * b)) := (r8.2.2 b hb).2.2.1
  have jj : (1 : Int64) = Int32.toInt64 1 := by decide
  have j99 : (99 : Int64) = Int32.toInt64 99 := by decide
  by_cases h1 : y < 1 ∨ 99 < y
  · refine stp_ref hI (j := 2) (by decide) (-1) (fun K k => c_isAsker_yes R hb (k_no (by decide) ⟨fun _ => s_refuse (by decide) k, fun z => ⟨fun _ => s_refuse (by decide) k, fun z2 => ?_⟩⟩)) (fun M1 e Q k => mA_yes (dM_276 e r5) r3 hb (k_no (by decide) ?_))
    · rcases h1 with h | h
      · exact absurd h z
      · exact absurd h z2
    · rw [jj, j99]
      exact isIn_no h1 (k_yes rfl (rfs k))
  have y1 : ¬ y < 1 := fun z => h1 (Or.inl z)
  have y2 : ¬ 99 < y := fun z => h1 (Or.inr z)
  by_cases e : S (4 + 5 * b) = 99
  · refine stp_ref hI (j := 2) (by decide) (-1) (fun K k => c_isAsker_yes R hb (k_no (by decide) (k_no y1 (k_no y2 ⟨hv, k_no ?_ (s_refuse (by decide) k)⟩)))) (fun M1 e1 Q k => mA_yes (dM_276 e1 r5) r3 hb (k_no (by decide) ?_))
    · rw [nI_clamp (by omega), e60, e]; decide
    · rw [jj, j99]
      exact isIn_yes y1 y2 (k_no (by decide) (m_mindsOf (by omega) (sM_276 e1 r9) hb (k_yes' (by rw [e]; rfl) (rfs k))))
  · have y0 : ¬ y < 0 := fun z => y1 (by
      rw [Int32.lt_iff_toInt_lt] at z ⊢
      have e0 : (0 : Int32).toInt = 0 := by decide
      have e1 : (1 : Int32).toInt = 1 := by decide
      omega)
    obtain ⟨n, hn, rfl⟩ := nI_of2 (M := 99) (n := 99) (by decide) y0 (Int32.not_lt.mp y2)
    obtain ⟨u, w, u1, w1, g1, g2, g3, g4, g5, g6, -⟩ := hist_of hI R
    have ok : okS D (up1 S (4 + 5 * b) (min 99 (S (4 + 5 * b) + n))) := by
      refine ⟨?_, ?_, fun q hq => ?_⟩
      · unfold up1; rw [if_neg (by omega)]; exact r6.1
      · unfold up1; rw [if_neg (by omega)]; exact r6.2.1
      · have z := r6.2.2 q hq
        unfold up1
        rw [if_neg (by omega : ¬ 3 + 5 * q = 4 + 5 * b), if_neg (by omega : ¬ 2 + 5 * q = 4 + 5 * b), if_neg (by omega : ¬ 5 + 5 * q = 4 + 5 * b), if_neg (by omega : ¬ 6 + 5 * q = 4 + 5 * b), if_neg (by omega : ¬ 0 = 4 + 5 * b)]
        refine ⟨z.1, z.2.1, ?_, z.2.2.2⟩
        split
        · omega
        · exact z.2.2.1
    intro K hK
    refine c_isAsker_yes R hb (k_no (by decide) (k_no y1 (k_no y2 ⟨hv, k_yes (by rw [nI_clamp (by omega), e60]; exact nI_lt (b := 99) (by omega) (by decide)) (c_remember u1 g1 g4 (fun M1 a1 a2 a3 a4 a5 => ⟨hv, ?_⟩))⟩)))
    rw [nI_clamp (by omega), a4 60 (by omega), e60, nI_add, ← zI_n]
    refine s_min (x := 99) (by omega) (by omega) (by omega) (by omega) ⟨hv, hv, ?_⟩
    rw [show min (99 : Int) ((S (4 + 5 * b) + n : Nat) : Int) = ((min 99 (S (4 + 5 * b) + n) : Nat) : Int) from by omega, zI_n, rIs]
    have f2 : ∀ c, 277 ≤ c → mI (sI M1 60 b (nI (min 99 (S (4 + 5 * b) + n)))) c = mI M c := fun c hc => by rw [mI_off (by omega)]; exact a4 c (by omega)
    refine hK _ _ ⟨a1, by rw [mI_off (by omega)]; exact a4 1 (by omega)⟩ (fun Q hQ => ?_)
    have d2 : dM (sI M1 60 b (nI (min 99 (S (4 + 5 * b) + n)))) D P := dM_c (fun c c1 c2 _ => f2 c (by omega)) r5
    have m2 : sM (sI M1 60 b (nI (min 99 (S (4 + 5 * b) + n)))) D S := sM_c (f2 317 (by omega)) r9
    refine mA_yes d2 r3 hb (k_no (by decide) ?_)
    rw [jj, j99]
    refine isIn_yes y1 y2 (k_no (by decide) (m_mindsOf (by omega) m2 hb (k_no' (fun z => e ((nI_eq (b := 99) (by omega) (by decide)).mp z)) (m_keeps (u := u) (w := w) u1 w1 (by rw [f2 _ (by omega)]; exact g2) (by rw [f2 _ (by omega)]; exact g3) (fun M3 b1 b2 b3 b4 b5 b6 => ?_)))))
    have m3 : sM M3 D S := sM_c (b4 317 (by decide) (by decide)) m2
    have fin : w_X8_mindsOf (nI b) (sI M3 317 (4 + 5 * b) (nI (min 99 (S (4 + 5 * b) + n)))) (fun y26 M25 => Q y26 M25) := by
      refine m_mindsOf (by omega) (sM_up m3 rfl) hb ?_
      have : up1 S (4 + 5 * b) (min 99 (S (4 + 5 * b) + n)) (4 + 5 * b) = min 99 (S (4 + 5 * b) + n) := if_pos rfl
      rw [this]
      exact hQ _ (act_one (i := 4) hI R (by decide) (by decide) hb ok g6 g5 a1 a2 a3 a4 a5 b1 b2 b3 b4 b5 b6) ⟨b1, by rw [mI_off (by omega)]; exact b4 1 (by decide) (by decide)⟩
    refine m_mindsOf (by omega) m3 hb ?_
    rw [show (4 : Int32) + 5 * nI b = nI (4 + 5 * b) from m_ix (j := 4) (by omega) (by decide), nI_clamp (by omega), nI_add]
    have hv2 : vp_in (nI (4 + 5 * b)) 163 := vp_in_nI (by omega) (by decide)
    refine pk_le (S (4 + 5 * b) + n) 99 (fun z => ⟨hv2, ?_⟩) (fun z => ⟨hv2, ?_⟩)
    · rw [show S (4 + 5 * b) + n = min 99 (S (4 + 5 * b) + n) from by omega]; exact fin
    · rw [show (99 : Int32) = nI (min 99 (S (4 + 5 * b) + n)) from by rw [show min 99 (S (4 + 5 * b) + n) = 99 from by omega]; rfl]; exact fin
theorem p_undo (M : pm) (hI : Inv M) : stp Inv w_X7_undo w_X8_undo M := by
  obtain ⟨t, D, P, S, R⟩ := Rp_of hI
  obtain ⟨r1, r2, r3, r4, r5, r6, r7, r8, r9, r10, r11, r12⟩ := id R
  have h8 := r3.2.2.1
  obtain ⟨u, w, u1, w1, g1, g2, g3, ⟨σ, s1, s2⟩, g5, g6, g7⟩ := hist_of hI R
  by_cases h0 : u = 0
  · subst h0
    refine stp_ref hI (j := 4) (by decide) 0 (fun K k => k_yes' (by rw [g1]; rfl) (s_refuse (by decide) k)) (fun M1 e Q k => k_yes' ?_ k)
    rw [e, rI (by omega), g2]; rfl
  · intro K hK
    refine k_no' (by rw [g1]; exact nI_ne0 (by omega) (by omega)) (k_no (by rw [g1]; exact nI_nle (by omega) (by omega)) ?_)
    have eu : nI u - 1 = nI (u - 1) := pk_sub (a := u) (b := 1) (by omega)
    rw [g1, eu, nI_clamp (by omega)]
    have hs := s1 (u - 1) (by omega)
    rw [hs.2]
    refine ⟨vp_in_nI (by omega) (by decide), c_copyAll (by omega) (fun M1 e1 e2 e3 e4 e5 => ?_)⟩
    have f1 : ∀ c, 66 ≤ c → c ≠ 75 → mI M1 c = mI M c := fun c c1 c2 => by rw [e4 c (by omega)]; exact mI_off c2
    refine hK 1 M1 ⟨e1, by rw [e4 1 (by omega)]; exact mI_off (by decide)⟩ (fun Q hQ => k_no' (by rw [f1 277 (by omega) (by decide), g2]; exact nI_ne0 (by omega) (by omega)) ?_)
    have key : ∀ d n i M2, i + d = 163 → d < n → mL M2 = mL M1 → mR M2 = mR M1 → mJ M2 = mJ M1 → (∀ c, c ≠ 317 → mI M2 c = mI M1 c) → (∀ j, j < i → mI M2 317 j = mI M 325 (163 * w + j)) → w_X8_undo_21 n (nI i) M2 (fun M4 => Q 1 (sI (sI M4 277 70 (irm (((mI M4 277 70) + 20) - 1) 20)) 277 69 ((mI M4 277 69) - 1))) Q := by
      intro d
      induction d with
      | zero =>
        intro n i M2 hi hn a1 a2 a3 a4 a5
        obtain ⟨n, rfl⟩ : ∃ n', n = n' + 1 := ⟨n - 1, by omega⟩
        have hi' : i = 163 := by omega
        subst hi'
        unfold w_X8_undo_21
        refine k_yes (by decide) ?_
        have x277 : mI M2 277 = mI M 277 := by rw [a4 277 (by decide), f1 277 (by decide) (by decide)]
        dsimp only
        rw [x277, g3, g2, eu, show nI w + 20 - 1 = nI (w + 19) from by rw [show (20 : Int32) = nI 20 from rfl, nI_add]; exact nI_pred (w + 19), show irm (nI (w + 19)) 20 = nI ((w + 19) % 20) from irm_n (d := 20) (by omega) (by decide) (by decide)]
        have f4 : ∀ c, c ≠ 277 → mI (sI (sI M2 277 70 (nI ((w + 19) % 20))) 277 69 (nI (u - 1))) c = mI M2 c := fun c hc => by rw [mI_off hc, mI_off hc]
        have f5 : ∀ c, 66 ≤ c → c ≠ 75 → c ≠ 277 → c ≠ 317 → mI (sI (sI M2 277 70 (nI ((w + 19) % 20))) 277 69 (nI (u - 1))) c = mI M c := fun c c1 c2 c3 c4 => by rw [f4 c c3, a4 c c4, f1 c c1 c2]
        have f6 : ∀ c, c < 57 → mI (sI (sI M2 277 70 (nI ((w + 19) % 20))) 277 69 (nI (u - 1))) c = mI M c := fun c c1 => by rw [f4 c (by omega), a4 c (by omega), e4 c (by omega)]; exact mI_off (by omega)
        have eR : mR (sI (sI M2 277 70 (nI ((w + 19) % 20))) 277 69 (nI (u - 1))) = mR M := by
          show mR M2 = _
          rw [a2, e2]; rfl
        have eJ : mJ (sI (sI M2 277 70 (nI ((w + 19) % 20))) 277 69 (nI (u - 1))) = mJ M := by
          show mJ M2 = _
          rw [a3, e3]; rfl
        have g0 := g7 0 (by omega)
        rw [show u - 1 - 0 = u - 1 from rfl, hs.2, show (w + 20 - 0) % 20 = w from by omega] at g0
        have es : eqS M (77 + 9 * σ (u - 1)) (sI (sI M2 277 70 (nI ((w + 19) % 20))) 277 69 (nI (u - 1))) 57 := by
          obtain ⟨k1, k2, k3, k4, k5⟩ := e5
          have ee : ∀ c, 57 ≤ c → c < 66 → mI (sI (sI M2 277 70 (nI ((w + 19) % 20))) 277 69 (nI (u - 1))) c = mI M1 c := fun c c1 c2 => by rw [f4 c (by omega), a4 c (by omega)]
          have oo : ∀ c, 77 ≤ c → mI (sI M 75 1 (nI (u - 1))) c = mI M c := fun c hc => mI_off (by omega)
          refine ⟨by rw [ee _ (by omega) (by omega), k1, oo _ (by omega)], by rw [ee _ (by omega) (by omega), k2, oo _ (by omega)], by rw [ee _ (by omega) (by omega), k3, oo _ (by omega)], fun i b i1 i2 hb => by rw [ee _ (by omega) (by omega), k4 i b i1 i2 hb, oo _ (by omega)], fun i b i1 i2 hb => by rw [ee _ (by omega) (by omega), k5 i b i1 i2 hb, oo _ (by omega)]⟩
        have eg : ∀ k, k < 163 → mI (sI (sI M2 277 70 (nI ((w + 19) % 20))) 277 69 (nI (u - 1))) 317 k = (fun k => mI M 325 (163 * w + k)) k := fun k hk => by rw [f4 317 (by decide), a5 k hk]
        refine hQ _ (act_fin (M := M) hI R ?_ (fun c _ => by rw [eR]) (fun a ha => ?_) (fun k hk => ?_) (fun k _ => by rw [f6 3 (by decide)]) (by rw [eJ]) (iSeed_c (by rw [f6 3 (by decide)]) (by rw [eJ]) hI.2.2.2.2.1) (stR_eq h8 es (fun k hk => eg k (by omega)) g0.1) (ktR_eq es eg g0.2) ?_) ⟨a1, ?_⟩
        · show mL M2 = _
          rw [a1, e1]; rfl
        · unfold actA at ha
          by_cases z : a < 57
          · exact f6 a z
          · exact f5 a (by omega) (by omega) (by omega) (by omega)
        · unfold actK at hk
          rw [rI (by omega), rI (by omega), x277]
        · refine ⟨u - 1, (w + 19) % 20, by omega, Nat.mod_lt _ (by decide), ?_, rIs _ _ _ _, ?_, ⟨σ, fun i hi => by rw [eR]; exact s1 i hi, s2⟩, fun j hj => ?_⟩
          · rw [f4 75 (by decide), a4 75 (by decide), e4 75 (by omega), rIs]
          · rw [rI (by omega), rIs]
          · have gj := g7 (j + 1) (by omega)
            have hsj := s1 (u - 1 - (j + 1)) (by omega)
            rw [eR, show u - 1 - 1 - j = u - 1 - (j + 1) from by omega, show ((w + 19) % 20 + 20 - j) % 20 = (w + 20 - (j + 1)) % 20 from by omega, f5 325 (by decide) (by decide) (by decide) (by decide)]
            rw [hsj.2] at gj ⊢
            exact ⟨stR_c (fun b b1 b2 => f5 b (by omega) (by omega) (by omega) (by omega)) rfl gj.1, ktR_c (fun b b1 b2 => f5 b (by omega) (by omega) (by omega) (by omega)) rfl gj.2⟩
        · rw [f4 1 (by decide), a4 1 (by decide)]
      | succ d ih =>
        intro n i M2 hi hn a1 a2 a3 a4 a5
        obtain ⟨n, rfl⟩ : ∃ n', n = n' + 1 := ⟨n - 1, by omega⟩
        unfold w_X8_undo_21
        have ei : (163 : Int32) * nI w + nI i = nI (163 * w + i) := by rw [show (163 : Int32) = nI 163 from rfl, pk_mul, nI_add]
        rw [a4 277 (by decide), f1 277 (by decide) (by decide), g3, ei, nI_1, nI_clamp (by omega), nI_clamp (by omega)]
        refine k_no (nI_ge (b := 163) (by omega) (by decide)) ⟨vp_in_nI (by omega) (by decide), vp_in_nI (by omega) (by decide), ih n (i + 1) _ (by omega) (by omega) a1 a2 a3 (fun c hc => by rw [mI_off hc]; exact a4 c hc) (fun j hj => ?_)⟩
        rw [mI_sI]
        by_cases q : j = i
        · rw [if_pos ⟨rfl, q⟩, a4 325 (by decide), f1 325 (by decide) (by decide), q]
        · rw [if_neg (fun z => q z.2)]; exact a5 j (by omega)
    exact ⟨164, key 163 164 0 M1 (by omega) (by omega) rfl rfl rfl (fun _ _ => rfl) (fun j hj => by omega)⟩
