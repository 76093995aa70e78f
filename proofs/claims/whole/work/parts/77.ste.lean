/-! the class reads a statement, as it is -/
theorem tkG_C {A : Type} {t : Nat} (ht : tOk t) {M M' : pm} {T : Nat → Nat} {n : Nat} {r : rs A} (f : fG (fC t) M M') (e6 : mI M' 6 = mI M 6) (h : tkG M T n r) : tkG M' T n r :=
  tkG_c (f.row (fun k => by unfold fC; unfold tOk at ht; omega)) e6 (f.row (fun k => by unfold fC; unfold tOk at ht; omega)) (by rw [f.2.1]) h
def cQ (M : pm) (T : Nat → Nat) (n t k : Nat) (r : rs sg) (M' : pm) : Prop := fG (fC t) M M' ∧ tkG M' T n r ∧ (∀ σ' s', r = .inr (σ', s') → ∃ L', L' + 7 ≤ s'.1 ∧ cSt M' t k σ' L') ∧ cSx M' t
theorem cQ_fail {M M' : pm} {T : Nat → Nat} {n t k : Nat} {σ : sg} {L : Nat} {r : rs sg} (h : cSt M t k σ L) {e : Nat × Nat} (f : fG fT M M') (t' : tkS M' e) (hr : r = .inl e) : cQ M T n t k r M' := by
  subst hr
  exact ⟨fC_T f, t', fun σ' s' q => (by cases q), cSx_T f (cSx_of h)⟩
theorem c_song {M : pm} {T : Nat → Nat} {n : Nat} {s : ts} {t k : Nat} {σ : sg} {L : Nat} (hw : kwN T n s = 1) (ht : tkC M T n s) (h : cSt M t k σ L) (hL : L + 7 ≤ s.1) {Q : pm → Prop} (kk : ∀ M', cQ M T n t k (stB T n σ s) M' → Q M') : w_X3_readSong t M Q := by
  have a5 := h.2.2.1.2.2.2.2.1
  have ho := h.2.2.2.2.2.2.1
  have h6 := ho.2.2.1.1
  have hsn := ht.2.1
  unfold w_X3_readSong
  rw [a5]
  refine pk_lt σ.2.1.length 6 (fun q => c_take ht (fun M1 f1 t1 => c_new t1 (cSt_T f1 h) (fun M2 y5 f2 t2 v2 => c_needWord t2 2 (by decide) (fun M3 f3 t3 => c_needNum t3 1 60 (by decide) (by decide) (fun M4 y11 f4 t4 v4 => c_needWord t4 3 (by decide) (fun M5 f5 t5 => c_needNum t5 0 9 (by decide) (by decide) (fun M6 y17 f6 t6 v6 => ?_))))))) (fun q => c_fail ht.2.2.2.2.2.2.1 5 (sk T n s.1) rfl ht.2.2.2.1 (by decide) (by decide) (fun M1 f1 t1 => kk M1 (cQ_fail h f1 t1 (by unfold stB; rw [if_pos hw, if_neg (by omega)]))))
  have f := ((((f1.tr f2).tr f3).tr f4).tr f5).tr f6
  have h6 := cSt_T f h
  have hB : stB T n σ s = pSo T n σ s := by unfold stB; rw [if_pos hw, if_pos q]
  have t6 : tkG M6 T n (rSo T n σ s) := t6
  have v6 : ∀ x s', rSo T n σ s = .inr (x, s') → y17 = nI x.2 := v6
  cases hr : rSo T n σ s with
  | inl e =>
    rw [hr] at t6
    have e1 : stB T n σ s = .inl e := by rw [hB]; unfold pSo; rw [hr]; rfl
    exact c_addSoX (cSx_of h6) (fun M7 f7 e7 x7 => kk M7 ⟨(fC_T f).tr f7, by rw [e1]; exact tkS_c e7 t6, fun σ' s' z => (by rw [e1] at z; cases z), x7⟩)
  | inr x =>
    obtain ⟨q5, s5⟩ := x
    rw [hr] at t6
    have e1 : stB T n σ s = .inr ((σ.1, σ.2.1 ++ [(q5.1.1, q5.1.2, q5.2)], σ.2.2), s5) := by rw [hB]; unfold pSo; rw [hr]; rfl
    have ok := stB_ok hsn ho e1
    obtain ⟨s4, h4, i4⟩ := rPr_inv hr
    obtain ⟨s3, _, h3, _⟩ := rTh_inv h4
    obtain ⟨s2, h2, i2⟩ := rPr_inv h3
    obtain ⟨s1, _, h1, _⟩ := rTh_inv h2
    rw [v6 q5 s5 hr, v4 q5.1 s3 h3, v2 _ _ h1]
    refine c_addSo h6 q ok.1 (fun M7 f7 e7 c7 => kk M7 ⟨(fC_T f).tr f7, ?_, fun σ' s' z => ?_, cSx_of c7⟩)
    · rw [e1]; exact tkG_C (A := (List Nat × Nat) × Nat) (r := .inr (q5, s5)) h.1 f7 e7 t6
    · rw [e1] at z
      cases z
      exact ⟨L, by have := ok.2.1; omega, c7⟩
theorem c_askr {M : pm} {T : Nat → Nat} {n : Nat} {s : ts} {t k : Nat} {σ : sg} {L : Nat} (hw : kwN T n s = 4) (ht : tkC M T n s) (h : cSt M t k σ L) (hL : L + 7 ≤ s.1) {Q : pm → Prop} (kk : ∀ M', cQ M T n t k (stB T n σ s) M' → Q M') : w_X3_readAsker t M Q := by
  have a6 := h.2.2.1.2.2.2.2.2.1
  have ho := h.2.2.2.2.2.2.1
  have h8 := ho.2.2.2.1.1
  have hsn := ht.2.1
  unfold w_X3_readAsker
  rw [a6]
  refine pk_lt σ.2.2.1.length 8 (fun q => c_take ht (fun M1 f1 t1 => c_new t1 (cSt_T f1 h) (fun M2 y5 f2 t2 v2 => c_needWord t2 5 (by decide) (fun M3 f3 t3 => c_sng (k := k) (L := L) t3 (fun _ => cSt_T (((f1.tr f2).tr f3)) h) (fun M4 y11 f4 t4 v4 => c_needWord t4 6 (by decide) (fun M5 f5 t5 => c_needNum t5 0 99 (by decide) (by decide) (fun M6 y17 f6 t6 v6 => c_needWord t6 7 (by decide) (fun M7 f7 t7 => c_needNum t7 0 99 (by decide) (by decide) (fun M8 y23 f8 t8 v8 => ?_))))))))) (fun q => c_fail ht.2.2.2.2.2.2.1 5 (sk T n s.1) rfl ht.2.2.2.1 (by decide) (by decide) (fun M1 f1 t1 => kk M1 (cQ_fail h f1 t1 (by unfold stB; rw [if_neg (by omega), if_pos hw, if_neg (by omega)]))))
  have f := ((((((f1.tr f2).tr f3).tr f4).tr f5).tr f6).tr f7).tr f8
  have h8 := cSt_T f h
  have hB : stB T n σ s = pAs T n σ s := by unfold stB; rw [if_neg (by omega), if_pos hw, if_pos q]
  have t8 : tkG M8 T n (rAs T n σ s) := t8
  have v8 : ∀ x s', rAs T n σ s = .inr (x, s') → y23 = nI x.2 := v8
  cases hr : rAs T n σ s with
  | inl e =>
    rw [hr] at t8
    have e1 : stB T n σ s = .inl e := by rw [hB]; unfold pAs; rw [hr]; rfl
    exact c_addAsX (cSx_of h8) (fun M9 f9 e9 x9 => kk M9 ⟨(fC_T f).tr f9, by rw [e1]; exact tkS_c e9 t8, fun σ' s' z => (by rw [e1] at z; cases z), x9⟩)
  | inr x =>
    obtain ⟨q5, s5⟩ := x
    rw [hr] at t8
    have e1 : stB T n σ s = .inr ((σ.1, σ.2.1, σ.2.2.1 ++ [(q5.1.1.1, q5.1.1.2, q5.1.2, q5.2)], σ.2.2.2), s5) := by rw [hB]; unfold pAs; rw [hr]; rfl
    have ok := stB_ok hsn ho e1
    obtain ⟨s6, h6, i6⟩ := rPr_inv hr
    obtain ⟨s5', _, h5, _⟩ := rTh_inv h6
    obtain ⟨s4, h4, i4⟩ := rPr_inv h5
    obtain ⟨s3, _, h3, _⟩ := rTh_inv h4
    obtain ⟨s2, h2, i2⟩ := rPr_inv h3
    obtain ⟨s1, _, h1, _⟩ := rTh_inv h2
    rw [v8 q5 s5 hr, v6 q5.1 s5' h5, v4 q5.1.1 s3 h3, v2 _ _ h1]
    refine c_addAs h8 q ok.1 (fun M9 f9 e9 c9 => kk M9 ⟨(fC_T f).tr f9, ?_, fun σ' s' z => ?_, cSx_of c9⟩)
    · rw [e1]; exact tkG_C (A := ((List Nat × Nat) × Nat) × Nat) (r := .inr (q5, s5)) h.1 f9 e9 t8
    · rw [e1] at z
      cases z
      exact ⟨L, by have := ok.2.1; omega, c9⟩
theorem c_earr {M : pm} {T : Nat → Nat} {n : Nat} {s : ts} {t k : Nat} {σ : sg} {L : Nat} (hw : kwN T n s = 8) (ht : tkC M T n s) (h : cSt M t k σ L) (hL : L + 7 ≤ s.1) {Q : pm → Prop} (kk : ∀ M', cQ M T n t k (stB T n σ s) M' → Q M') : w_X3_readEar t M Q := by
  have a7 := h.2.2.1.2.2.2.2.2.2
  have ho := h.2.2.2.2.2.2.1
  have h5 := ho.2.2.2.2.1.1
  have hsn := ht.2.1
  unfold w_X3_readEar
  rw [a7]
  refine pk_lt σ.2.2.2.1.length 5 (fun q => c_take ht (fun M1 f1 t1 => c_new t1 (cSt_T f1 h) (fun M2 y5 f2 t2 v2 => c_needWord t2 9 (by decide) (fun M3 f3 t3 => c_needNum t3 0 9 (by decide) (by decide) (fun M4 y11 f4 t4 v4 => ?_))))) (fun q => c_fail ht.2.2.2.2.2.2.1 5 (sk T n s.1) rfl ht.2.2.2.1 (by decide) (by decide) (fun M1 f1 t1 => kk M1 (cQ_fail h f1 t1 (by unfold stB; rw [if_neg (by omega), if_neg (by omega), if_pos hw, if_neg (by omega)]))))
  have f := ((f1.tr f2).tr f3).tr f4
  have h6 := cSt_T f h
  have hB : stB T n σ s = pEa T n σ s := by unfold stB; rw [if_neg (by omega), if_neg (by omega), if_pos hw, if_pos q]
  have t4 : tkG M4 T n (rEa T n σ s) := t4
  have v4 : ∀ x s', rEa T n σ s = .inr (x, s') → y11 = nI x.2 := v4
  cases hr : rEa T n σ s with
  | inl e =>
    rw [hr] at t4
    have e1 : stB T n σ s = .inl e := by rw [hB]; unfold pEa; rw [hr]; rfl
    exact c_addEaX (cSx_of h6) (fun M7 f7 e7 x7 => kk M7 ⟨(fC_T f).tr f7, by rw [e1]; exact tkS_c e7 t4, fun σ' s' z => (by rw [e1] at z; cases z), x7⟩)
  | inr x =>
    obtain ⟨q5, s5⟩ := x
    rw [hr] at t4
    have e1 : stB T n σ s = .inr ((σ.1, σ.2.1, σ.2.2.1, σ.2.2.2.1 ++ [(q5.1, q5.2)], σ.2.2.2.2), s5) := by rw [hB]; unfold pEa; rw [hr]; rfl
    have ok := stB_ok hsn ho e1
    obtain ⟨s2, h2, i2⟩ := rPr_inv hr
    obtain ⟨s1, _, h1, _⟩ := rTh_inv h2
    rw [v4 q5 s5 hr, v2 _ _ h1]
    refine c_addEa h6 q ok.1 (fun M7 f7 e7 c7 => kk M7 ⟨(fC_T f).tr f7, ?_, fun σ' s' z => ?_, cSx_of c7⟩)
    · rw [e1]; exact tkG_C (A := List Nat × Nat) (r := .inr (q5, s5)) h.1 f7 e7 t4
    · rw [e1] at z
      cases z
      exact ⟨L, by have := ok.2.1; omega, c7⟩
theorem stB_p {T : Nat → Nat} {n p : Nat} {σ : sg} {s : ts} (hp : p < 3) (hw : kwN T n s = 10 + p) : stB T n σ s = if σ.2.2.2.2 p = none then pPa T n p σ s else .inl (5, sk T n s.1) := by
  unfold stB
  rw [if_neg (by omega), if_neg (by omega), if_neg (by omega), if_pos (by omega), show kwN T n s - 10 = p from by omega]
theorem c_part {M : pm} {T : Nat → Nat} {n p : Nat} (hp : p < 3) {s : ts} {t k : Nat} {σ : sg} {L : Nat} (hw : kwN T n s = 10 + p) (ht : tkC M T n s) (h : cSt M t k σ L) (hL : L + 7 ≤ s.1) {Q : pm → Prop} (kk : ∀ M', cQ M T n t k (stB T n σ s) M' → Q M') : w_X3_readPart (nI p) M Q := by
  obtain ⟨h1, h2, h3, h4, h5, h6, h7, h8⟩ := id h
  have tt := h1
  unfold tOk at tt
  have hsn := ht.2.1
  have hB := stB_p (σ := σ) hp hw
  unfold w_X3_readPart
  rw [h5.1]
  refine ⟨by omega, k_no (nI_pos (by omega)) (k_no (nI_ge (b := 3) hp (by decide)) ⟨vp_in_nI hp (by decide), ?_⟩)⟩
  rw [nI_clamp (by omega)]
  have h8p := h8 p hp
  cases hP : σ.2.2.2.2 p with
  | some os =>
    rw [hP] at h8p hB
    have g1 : mI M (t + 10 + 4) p = 1 := h8p.1
    refine k_no (by rw [g1]; decide) (k_no (by decide) (c_fail ht.2.2.2.2.2.2.1 5 (sk T n s.1) rfl ht.2.2.2.1 (by decide) (by decide) (fun M1 f1 t1 => kk M1 (cQ_fail h f1 t1 (by rw [hB, if_neg (by simp)])))))
  | none =>
    rw [hP] at h8p hB
    rw [if_pos rfl] at hB
    have g0 : mI M (t + 10 + 4) p = 0 := h8p
    refine k_yes g0 (k_yes rfl (c_take ht (fun M1 f1 t1 => ?_)))
    have hc1 := cSt_T f1 h
    have hgt := op_k1 (T := T) (n := n) (s := s) (by omega)
    have hle := tX_le (T := T) hsn
    have r44 : ∀ t1' : Int32, t1' = (if tkP p = 0 then 0 else 1) → w_X3_readPart_44 (nI p) t1' M1 Q := by
      intro t1' et
      have b1 : bz t1' := by
        rw [et]
        split
        · exact Or.inl rfl
        · exact Or.inr rfl
      unfold w_X3_readPart_44
      rw [hc1.2.2.2.2.1.1]
      refine ⟨b1, by omega, k_no (nI_pos (by omega)) (k_no (nI_ge (b := 3) hp (by decide)) ⟨vp_in_nI hp (by decide), vp_in_nI hp (by decide), vp_in_nI hp (by decide), ?_⟩)⟩
      rw [nI_clamp (by omega), nb1]
      have hl1 : mI (sI (sI M1 5 4 t1') (t + 10 + 4) p 1) (t + 10) 1 = nI L := by rw [rI (by omega), rI (by omega)]; exact hc1.2.2.2.2.1.2.2.1
      have hl2 : mI (sI (sI (sI M1 5 4 t1') (t + 10 + 4) p 1) (t + 10 + 2) p (nI L)) (t + 10) 1 = nI L := by rw [rI (by omega)]; exact hl1
      rw [hl1, hl2]
      generalize hM2 : sI (sI (sI (sI M1 5 4 t1') (t + 10 + 4) p 1) (t + 10 + 2) p (nI L)) (t + 10 + 3) p (nI L) = M2
      have f2 : fG (fC t) M1 M2 := by
        rw [← hM2]
        exact fCu (fCu (fCu ((fG.rf M1).up (Or.inr (Or.inl ⟨rfl, rfl⟩)) _) (by omega) (by omega) _) (by omega) (by omega) _) (by omega) (by omega) _
      have row2 : ∀ a, a ≠ 5 → a ≠ t + 12 → a ≠ t + 13 → a ≠ t + 14 → mI M2 a = mI M1 a := fun a b1 b2 b3 b4 => by
        rw [← hM2, mI_off (by omega), mI_off (by omega), mI_off (by omega), mI_off b1]
      have t2 : tkC M2 T n (tX T n s) := tkC_c (row2 4 (by omega) (by omega) (by omega) (by omega)) (row2 6 (by omega) (by omega) (by omega) (by omega)) (row2 7 (by omega) (by omega) (by omega) (by omega)) (by rw [f2.2.1]) t1
      have e2 : eC M2 (tkP p) := by
        refine ⟨?_, ?_⟩
        · rw [if_neg (by unfold tkP; split <;> decide), ← hM2, rI (by omega), rI (by omega), rI (by omega), rI (by omega)]
          exact hc1.2.2.2.2.2.1
        · rw [← hM2, rI (by omega), rI (by omega), rI (by omega), rIs, et]
      have o2 : oPC M2 (t + 10) L := ⟨by rw [f2.2.1]; exact hc1.2.2.2.2.1.1, tOk_p h1, by rw [row2 (t + 10) (by omega) (by omega) (by omega) (by omega)]; exact hc1.2.2.2.2.1.2.2.1, hc1.2.2.2.2.1.2.2.2⟩
      have tk2 : tkP p ≤ 2 := by unfold tkP; split <;> decide
      have rd : ∀ w, w = whP p → w_rd 60 w 0 M2 (fun M14 => ¬ (mR M14 5 2) = 0 ∧ (w_X2_endPart (mR M14 5 2) (nI p) M14 (fun M18 => Q M18))) := by
        intro w ew
        subst ew
        refine c_rdL (T := T) (n := n) (tk := tkP p) (pa := t + 10) (tOk_p h1) tk2 60 (whP p) 0 ?_ (by decide) M2 (tX T n s) L _ t2 e2 o2 (by omega) (fun M3 f3 r3 => ?_)
        · unfold whP
          split <;> decide
        have f3C := fC_R f3
        have row3 : ∀ a, a ≠ 6 → a ≠ t + 10 → a ≠ t + 11 → mI M3 a = mI M2 a := fun a b1 b2 b3 => f3.row (fun k => by unfold fR fT; omega)
        have fAll : fG (fC t) M M3 := ((fC_T f1).tr f2).tr f3C
        have hd3 : ∀ j, mI M3 t j = mI M t j := fun j => by
          rw [row3 t (by omega) (by omega) (by omega), row2 t (by omega) (by omega) (by omega) (by omega), f1.2.2.2 t j (by unfold fT; omega)]
        rcases rdP_ok (fun c s1 hc => by have := hG_sp (T := T) (n := n) (tk := tkP p) 60 (whP p) 0 _ c s1 hle hc; omega) r3 with ⟨e, i1, i2, L', i3⟩ | ⟨c, s1, i1, i2, i3, i4, i5⟩
        · rw [i3.1]
          have e1 : stB T n σ s = .inl e := by rw [hB]; unfold pPa; rw [i1]; rfl
          refine ⟨by omega, k_no (nI_pos (by omega)) (k_no (nI_ge (b := 3) hp (by decide)) ⟨vp_in_nI hp (by decide), kk _ ⟨fCu fAll (by omega) (by omega) _, ?_, fun σ' s' z => (by rw [e1] at z; cases z), ?_⟩⟩)⟩
          · rw [e1]
            exact tkS_c (mI_off (by omega)) i2
          · have hx := cSx_of h
            obtain ⟨x1, ⟨k', x2, x3⟩, ⟨a', x4, x5⟩, ⟨b', x6, x7⟩, ⟨c', x8, x9⟩, _⟩ := hx
            exact ⟨h1, ⟨k', x2, by rw [rI (by omega), hd3]; exact x3⟩, ⟨a', x4, by rw [rI (by omega), hd3]; exact x5⟩, ⟨b', x6, by rw [rI (by omega), hd3]; exact x7⟩, ⟨c', x8, by rw [rI (by omega), hd3]; exact x9⟩, L', i3.1, i3.2.1, by rw [rI (by omega)]; exact i3.2.2.1, i3.2.2.2⟩
        · have i31 := i3.1
          rw [i31.1]
          have e1 : stB T n σ s = .inr ((σ.1, σ.2.1, σ.2.2.1, σ.2.2.2.1, fun q => if q = p then some c else σ.2.2.2.2 q), s1) := by rw [hB]; unfold pPa; rw [i1]; rfl
          have ok := stB_ok hsn h7 e1
          have gl := hG_sp (T := T) (n := n) (tk := tkP p) 60 (whP p) 0 _ c s1 hle i1
          refine ⟨by omega, k_no (nI_pos (by omega)) (k_no (nI_ge (b := 3) hp (by decide)) ⟨vp_in_nI hp (by decide), ?_⟩)⟩
          rw [nI_clamp (by omega), i31.2.2.1]
          have c9 : cSt (sI M3 (t + 10 + 3) p (nI (L + c.length))) t k (σ.1, σ.2.1, σ.2.2.1, σ.2.2.2.1, fun q => if q = p then some c else σ.2.2.2.2 q) (L + c.length) := by
            have rw3 : ∀ a, t + 1 ≤ a → a < t + 10 → mI (sI M3 (t + 10 + 3) p (nI (L + c.length))) a = mI M a := fun a b1 b2 => by
              rw [mI_off (by omega), row3 a (by omega) (by omega) (by omega), row2 a (by omega) (by omega) (by omega) (by omega), rowT h1 f1 (by omega)]
            refine ⟨h1, h2, ?_, cRw_c (σ := σ) rw3 h4, ⟨i31.1, i31.2.1, by rw [rI (by omega)]; exact i31.2.2.1, i31.2.2.2⟩, ?_, ok.1, fun q hq => ?_⟩
            · unfold cHd at h3 ⊢
              obtain ⟨x1, x2, x3, x4, x5, x6, x7⟩ := h3
              exact ⟨by rw [rI (by omega), hd3]; exact x1, by rw [rI (by omega), hd3]; exact x2, by rw [rI (by omega), hd3]; exact x3, by rw [rI (by omega), hd3]; exact x4, by rw [rI (by omega), hd3]; exact x5, by rw [rI (by omega), hd3]; exact x6, by rw [rI (by omega), hd3]; exact x7⟩
            · rw [rI (by omega), row3 5 (by omega) (by omega) (by omega), ← hM2, rI (by omega), rI (by omega), rI (by omega), rI (by omega)]
              exact hc1.2.2.2.2.2.1
            · show cPt _ t _ q (if q = p then some c else σ.2.2.2.2 q)
              by_cases eq : q = p
              · subst eq
                rw [if_pos rfl]
                refine ⟨?_, L, ?_, rIs _ _ _ _, Nat.le_refl _, fun i x hx => ?_⟩
                · show mI _ (t + 14) q = 1
                  rw [rI (by omega), row3 (t + 14) (by omega) (by omega) (by omega), ← hM2, rI (by omega), rI (by omega)]
                  exact rIs _ (t + 14) _ _
                · show mI _ (t + 12) q = nI L
                  rw [rI (by omega), row3 (t + 12) (by omega) (by omega) (by omega), ← hM2, rI (by omega)]
                  exact rIs _ (t + 12) _ _
                · show mI _ (t + 11) (L + i) = clc x
                  rw [rI (by omega)]
                  exact i3.2.2 i x hx
              · rw [if_neg eq]
                have old := h8 q hq
                have oth : ∀ a, a = t + 12 ∨ a = t + 13 ∨ a = t + 14 → mI (sI M3 (t + 10 + 3) p (nI (L + c.length))) a q = mI M a q := fun a ha => by
                  rw [rI (by omega), row3 a (by omega) (by omega) (by omega), ← hM2, rI (by omega), rI (by omega), rI (by omega), rI (by omega), rowT h1 f1 (by omega)]
                match hpq : σ.2.2.2.2 q, old with
                | none, old =>
                  show mI _ (t + 14) q = 0
                  rw [oth _ (by omega)]; exact old
                | some os, old =>
                  obtain ⟨y1, f', y2, y3, y4, y5⟩ := old
                  refine ⟨by rw [oth _ (by omega)]; exact y1, f', by rw [oth _ (by omega)]; exact y2, by rw [oth _ (by omega)]; exact y3, by omega, fun i x hx => ?_⟩
                  have hi := (List.getElem?_eq_some_iff.mp hx).1
                  have p2 := i3.2.1 (f' + i) (by omega)
                  show mI _ (t + 11) (f' + i) = clc x
                  rw [rI (by omega)]
                  refine Eq.trans (p2 : mI M3 (t + 11) (f' + i) = mI M2 (t + 11) (f' + i)) ?_
                  rw [row2 (t + 11) (by omega) (by omega) (by omega) (by omega), rowT h1 f1 (by omega)]
                  exact y5 i x hx
          refine kk _ ⟨fCu fAll (by omega) (by omega) _, ?_, fun σ' s' z => ?_, cSx_of c9⟩
          · rw [e1]
            exact tkC_c (M := M3) (mI_off (by omega)) (mI_off (by omega)) (mI_off (by omega)) rfl i2
          · rw [e1] at z
            cases z
            exact ⟨L + c.length, by omega, c9⟩
      by_cases e1 : p = 1
      · subst e1
        exact k_yes' rfl (rd 0 (by decide))
      · refine k_no' (fun z => e1 ((nI_eq (b := 1) (by omega) (by decide)).mp z)) (rd 3 ?_)
        unfold whP
        rw [if_neg e1]
    refine pk_eq p 0 (fun z => r44 0 ?_) (fun z => r44 1 ?_)
    · unfold tkP; rw [if_pos z]; rfl
    · unfold tkP; rw [if_neg z]; rfl
