/-! the class reads a station -/
theorem sw29 {x2 : Int32} {A0 A1 A4 A8 A10 A11 A12 A13 A14 D : Prop} (w : Nat) (hx : x2 = nI w) (hw : w < 100) (h0 : w = 0 → A0) (h1 : w = 1 → A1) (h4 : w = 4 → A4) (h8 : w = 8 → A8) (h10 : w = 10 → A10) (h11 : w = 11 → A11) (h12 : w = 12 → A12) (h13 : w = 13 → A13) (h14 : w = 14 → A14) (hd : w ≠ 0 → w ≠ 1 → w ≠ 4 → w ≠ 8 → w ≠ 10 → w ≠ 11 → w ≠ 12 → w ≠ 13 → w ≠ 14 → D) : (x2 = 0 → A0) ∧ (x2 = 1 → A1) ∧ (x2 = 4 → A4) ∧ (x2 = 8 → A8) ∧ (x2 = 10 → A10) ∧ (x2 = 11 → A11) ∧ (x2 = 12 → A12) ∧ (x2 = 13 → A13) ∧ (x2 = 14 → A14) ∧ (¬ x2 = 0 → ¬ x2 = 1 → ¬ x2 = 4 → ¬ x2 = 8 → ¬ x2 = 10 → ¬ x2 = 11 → ¬ x2 = 12 → ¬ x2 = 13 → ¬ x2 = 14 → D) := by
  subst hx
  have e : ∀ j : Nat, j < 100 → (nI w = nI j ↔ w = j) := fun j hj => nI_eq (by omega) (by omega)
  refine ⟨fun q => h0 ((e 0 (by decide)).mp q), fun q => h1 ((e 1 (by decide)).mp q), fun q => h4 ((e 4 (by decide)).mp q), fun q => h8 ((e 8 (by decide)).mp q), fun q => h10 ((e 10 (by decide)).mp q), fun q => h11 ((e 11 (by decide)).mp q), fun q => h12 ((e 12 (by decide)).mp q), fun q => h13 ((e 13 (by decide)).mp q), fun q => h14 ((e 14 (by decide)).mp q), fun q0 q1 q4 q8 q10 q11 q12 q13 q14 => hd (fun z => q0 ((e 0 (by decide)).mpr z)) (fun z => q1 ((e 1 (by decide)).mpr z)) (fun z => q4 ((e 4 (by decide)).mpr z)) (fun z => q8 ((e 8 (by decide)).mpr z)) (fun z => q10 ((e 10 (by decide)).mpr z)) (fun z => q11 ((e 11 (by decide)).mpr z)) (fun z => q12 ((e 12 (by decide)).mpr z)) (fun z => q13 ((e 13 (by decide)).mpr z)) (fun z => q14 ((e 14 (by decide)).mpr z))⟩
theorem sw29n {x2 : Int32} {A0 A1 A4 A8 A10 A11 A12 A13 A14 D : Prop} (hx : x2 = -1) (hd : D) : (x2 = 0 → A0) ∧ (x2 = 1 → A1) ∧ (x2 = 4 → A4) ∧ (x2 = 8 → A8) ∧ (x2 = 10 → A10) ∧ (x2 = 11 → A11) ∧ (x2 = 12 → A12) ∧ (x2 = 13 → A13) ∧ (x2 = 14 → A14) ∧ (¬ x2 = 0 → ¬ x2 = 1 → ¬ x2 = 4 → ¬ x2 = 8 → ¬ x2 = 10 → ¬ x2 = 11 → ¬ x2 = 12 → ¬ x2 = 13 → ¬ x2 = 14 → D) := by
  subst hx
  exact ⟨fun q => absurd q (by decide), fun q => absurd q (by decide), fun q => absurd q (by decide), fun q => absurd q (by decide), fun q => absurd q (by decide), fun q => absurd q (by decide), fun q => absurd q (by decide), fun q => absurd q (by decide), fun q => absurd q (by decide), fun _ _ _ _ _ _ _ _ _ => hd⟩
theorem cSt_k {M : pm} {t k : Nat} {σ : sg} {L : Nat} (h : cSt M t k σ L) (hk : k + 1 ≤ 81) : cSt (sI M t 0 (mI M t 0 + 1)) t (k + 1) σ L := by
  obtain ⟨h1, h2, ⟨a1, a2, a3, a4, a5, a6, a7⟩, h4, h5, h6, h7, h8⟩ := h
  have tt := h1
  unfold tOk at tt
  refine ⟨h1, hk, ⟨by rw [rIs, a1, nI_1], by rw [rI (by omega)]; exact a2, by rw [rI (by omega)]; exact a3, by rw [rI (by omega)]; exact a4, by rw [rI (by omega)]; exact a5, by rw [rI (by omega)]; exact a6, by rw [rI (by omega)]; exact a7⟩, cRw_c (fun a b1 b2 => mI_off (by omega)) h4, ⟨h5.1, h5.2.1, by rw [rI (by omega)]; exact h5.2.2.1, h5.2.2.2⟩, by rw [rI (by omega)]; exact h6, h7, fun p hp => cPt_c (fun a b1 b2 => mI_off (by omega)) (h8 p hp)⟩
/-- behind a statement with a fault -/
def cSy (M : pm) (t : Nat) : Prop := tOk t ∧ (∃ k, k ≤ 82 ∧ mI M t 0 = nI k) ∧ ∃ L, oPC M (t + 10) L
theorem cSy_x {M : pm} {t : Nat} (h : cSx M t) : cSy M t := by
  obtain ⟨h1, ⟨k, k1, k2⟩, _, _, _, h5⟩ := h
  exact ⟨h1, ⟨k, by omega, k2⟩, h5⟩
theorem cSy_k {M : pm} {t : Nat} (h : cSx M t) : cSy (sI M t 0 (mI M t 0 + 1)) t := by
  obtain ⟨h1, ⟨k, k1, k2⟩, _, _, _, L, h5⟩ := h
  have tt := h1
  unfold tOk at tt
  exact ⟨h1, ⟨k + 1, by omega, by rw [rIs, k2, nI_1]⟩, L, h5.1, h5.2.1, by rw [rI (by omega)]; exact h5.2.2.1, h5.2.2.2⟩
def cQ2 (M : pm) (T : Nat → Nat) (n t k : Nat) (r : rs sg) (M' : pm) : Prop := fG (fC t) M M' ∧ tkG M' T n r ∧ (∀ σ' s', r = .inr (σ', s') → ∃ L', L' + 7 ≤ s'.1 ∧ cSt M' t k σ' L') ∧ cSy M' t
/-- its ; and one more -/
theorem c_semi {M M1 : pm} {T : Nat → Nat} {n t k : Nat} {r : rs sg} (hk : k + 1 ≤ 81) (ht : tOk t) (f : fG (fC t) M M1) (h : tkG M1 T n r) (hS : ∀ σ' s', r = .inr (σ', s') → s'.1 ≤ n ∧ ∃ L', (∀ s2, rTh r (rSgn T n 59) = .inr (σ', s2) → L' + 7 ≤ s2.1) ∧ cSt M1 t k σ' L') (hX : cSx M1 t) {Q : pm → Prop} (kk : ∀ M', cQ2 M T n t (k + 1) (rTh r (rSgn T n 59)) M' → Q M') : w_X6_needSign 59 M1 (fun M16 => Q (sI M16 t 0 ((mI M16 t 0) + 1))) := by
  have tt := ht
  unfold tOk at tt
  refine c_needSign h 59 (by decide) (by decide) (fun M2 f2 t2 => kk _ ⟨fCu (f.tr (fC_T f2)) (by omega) (by omega) _, ?_, fun σ' s' z => ?_, cSy_k (cSx_T f2 hX)⟩)
  · exact tkG_C ht (fCu (fG.rf M2) (by omega) (by omega) _) (mI_off (by omega)) t2
  · obtain ⟨s1, y, h1, h2⟩ := rTh_inv z
    obtain ⟨hn, L', l1, c⟩ := hS σ' s1 h1
    exact ⟨L', l1 s' z, cSt_k (cSt_T f2 c) hk⟩
theorem cSt_h {M : pm} {t k : Nat} {σ σ' : sg} {L : Nat} (h : cSt M t k σ L) {j v : Nat} (hj : j = 1 ∨ j = 2 ∨ j = 3) (e : σ'.2 = σ.2) (e1 : σ'.1.1 = if j = 1 then v else σ.1.1) (e2 : σ'.1.2.1 = if j = 2 then v else σ.1.2.1) (e3 : σ'.1.2.2 = if j = 3 then v else σ.1.2.2) (ho : okG σ') : cSt (sI M t j (nI v)) t k σ' L := by
  obtain ⟨h1, h2, ⟨a1, a2, a3, a4, a5, a6, a7⟩, h4, h5, h6, h7, h8⟩ := h
  have tt := h1
  unfold tOk at tt
  refine ⟨h1, h2, ⟨by rw [rI (by omega)]; exact a1, ?_, ?_, ?_, by rw [rI (by omega), e]; exact a5, by rw [rI (by omega), e]; exact a6, by rw [rI (by omega), e]; exact a7⟩, ?_, ⟨h5.1, h5.2.1, by rw [rI (by omega)]; exact h5.2.2.1, h5.2.2.2⟩, by rw [rI (by omega)]; exact h6, ho, fun p hp => cPt_c (fun a b1 b2 => mI_off (by omega)) (by rw [e]; exact h8 p hp)⟩
  · rw [e1]
    by_cases q : j = 1
    · rw [if_pos q, q, rIs]
    · rw [if_neg q, rI (by omega)]; exact a2
  · rw [e2]
    by_cases q : j = 2
    · rw [if_pos q, q, rIs]
    · rw [if_neg q, rI (by omega)]; exact a3
  · rw [e3]
    by_cases q : j = 3
    · rw [if_pos q, q, rIs]
    · rw [if_neg q, rI (by omega)]; exact a4
  · refine cRw_c (M := M) (fun a b1 b2 => mI_off (by omega)) ?_
    unfold cRw at h4 ⊢
    rw [e]; exact h4
theorem cSx_h {M : pm} {t : Nat} (h : cSx M t) {j : Nat} (hj : j = 1 ∨ j = 2 ∨ j = 3) (v : Int32) : cSx (sI M t j v) t := by
  obtain ⟨h1, ⟨k, k1, k2⟩, ⟨a, b1, b2⟩, ⟨c, d1, d2⟩, ⟨g, i1, i2⟩, L, h5⟩ := h
  have tt := h1
  unfold tOk at tt
  exact ⟨h1, ⟨k, k1, by rw [rI (by omega)]; exact k2⟩, ⟨a, b1, by rw [rI (by omega)]; exact b2⟩, ⟨c, d1, by rw [rI (by omega)]; exact d2⟩, ⟨g, i1, by rw [rI (by omega)]; exact i2⟩, L, h5.1, h5.2.1, by rw [rI (by omega)]; exact h5.2.2.1, h5.2.2.2⟩
/-- a number told: the hour, the hush, the toll -/
theorem c_numb {M : pm} {T : Nat → Nat} {n : Nat} {s : ts} {t k : Nat} {σ : sg} {L : Nat} (hk : k + 1 ≤ 81) (ht : tkC M T n s) (h : cSt M t k σ L) (hgt : s.1 ≤ (tX T n s).1) {lo hi j : Nat} (hlo : lo < 2 ^ 31) (hhi : hi < 2 ^ 31) (hj : j = 1 ∨ j = 2 ∨ j = 3) {r : rs sg} {g : Nat → sg} (hr : r = rB (rNum T n lo hi (tX T n s)) (fun v s1 => .inr (g v, s1))) (hg : ∀ v s1, rNum T n lo hi (tX T n s) = .inr (v, s1) → (g v).2 = σ.2 ∧ ((g v).1.1 = if j = 1 then v else σ.1.1) ∧ ((g v).1.2.1 = if j = 2 then v else σ.1.2.1) ∧ ((g v).1.2.2 = if j = 3 then v else σ.1.2.2) ∧ okG (g v)) (hL : ∀ σ' s2, rTh r (rSgn T n 59) = .inr (σ', s2) → L + 7 ≤ s2.1) {Q : pm → Prop} (kk : ∀ M', cQ2 M T n t (k + 1) (rTh r (rSgn T n 59)) M' → Q M') : w_X6_take M (fun M4 => w_X6_needNumber (nI lo) (nI hi) M4 (fun y8 M7 => w_X6_needSign 59 (sI M7 t j y8) (fun M10 => Q (sI M10 t 0 ((mI M10 t 0) + 1))))) := by
  have hsn := ht.2.1
  have tt := h.1
  have tt' := tt
  unfold tOk at tt'
  refine c_take ht (fun M1 f1 t1 => c_num0 t1 lo hi hlo hhi (fun v s1 hv M2 f2 t2 => ?_) (fun e hv M2 v f2 t2 => ?_))
  · have gg := hg v s1 hv
    have e1 : r = .inr (g v, s1) := by rw [hr, hv]; rfl
    have c2 := cSt_h (cSt_T (f1.tr f2) h) hj gg.1 gg.2.1 gg.2.2.1 gg.2.2.2.1 gg.2.2.2.2
    have gn := g_num (T := T) (n := n) (tX T n s) v s1 (tX_le hsn) hv
    refine c_semi hk tt (fCu ((fC_T f1).tr (fC_T f2)) (Nat.le_refl t) (by omega) _) (r := r) ?_ (fun σ' s' z => ?_) (cSx_of c2) kk
    · rw [e1]
      exact tkC_c (M := M2) (mI_off (by omega)) (mI_off (by omega)) (mI_off (by omega)) rfl t2
    · rw [e1] at z
      cases z
      exact ⟨gn.2, L, fun s2 z2 => hL _ s2 z2, c2⟩
  · have e1 : r = .inl e := by rw [hr, hv]; rfl
    refine c_semi hk tt (fCu ((fC_T f1).tr (fC_T f2)) (Nat.le_refl t) (by omega) _) (r := r) ?_ (fun σ' s' z => ?_) (cSx_h (cSx_T (f1.tr f2) (cSx_of h)) hj _) kk
    · rw [e1]
      exact tkS_c (mI_off (by omega)) t2
    · rw [e1] at z; cases z
theorem c_stm {M : pm} {T : Nat → Nat} {n : Nat} {s : ts} {t k : Nat} {σ : sg} {L : Nat} (hk1 : 1 ≤ k) (hk : k + 1 ≤ 81) (ht : tkC M T n s) (h : cSt M t k σ L) (hL : L + 7 ≤ s.1) {Q : pm → Prop} (kk : ∀ M', cQ2 M T n t (k + 1) (stm T n σ s) M' → Q M') : w_X3_readStatement t M Q := by
  have hsn := ht.2.1
  have ho := h.2.2.2.2.2.2.1
  have hz := ht.2.2.2.2.2.2.1
  have e0 : mI M t 0 = nI k := h.2.2.1.1
  have tt := h.1
  have hkw := kwN_le T n s
  have k0 : ¬ mI M t 0 = 0 := by rw [e0]; exact nI_ne0 (by omega) (by omega)
  -- behind its body
  have tail : ∀ M1, cQ M T n t k (stB T n σ s) M1 → w_X6_needSign 59 M1 (fun M16 => Q (sI M16 t 0 ((mI M16 t 0) + 1))) := fun M1 c1 => c_semi hk tt c1.1 c1.2.1 (fun σ' s' z => by
    obtain ⟨L', l1, l2⟩ := c1.2.2.1 σ' s' z
    refine ⟨(stB_ok hsn ho z).2.2.1, L', fun s2 z2 => ?_, l2⟩
    obtain ⟨s3, y, z3, z4⟩ := rTh_inv z2
    rw [z] at z3
    cases z3
    have := g_sgn (c := 59) (by decide) _ y s2 (stB_ok hsn ho z).2.2.1 z4
    omega) c1.2.2.2 kk
  have bad : stB T n σ s = .inl (1, sk T n s.1) → ∀ (R : pm → Prop), (∀ M1, cQ M T n t k (stB T n σ s) M1 → R M1) → w_X6_fail 1 (mI M 6 4) M R := fun e R k => c_fail hz 1 (sk T n s.1) rfl ht.2.2.2.1 (by decide) (by decide) (fun M1 f1 t1 => k M1 (cQ_fail h f1 t1 e))
  have oth : ∀ x2 : Int32, (x2 = nI (kwN T n s) ∧ kwN T n s ≠ 0 ∨ x2 = -1 ∧ kwN T n s = 34) → w_X3_readStatement_29 t x2 0 0 M Q := fun x2 hx => by
    refine k_yes rfl ?_
    have dflt : kwN T n s ≠ 1 → kwN T n s ≠ 4 → kwN T n s ≠ 8 → kwN T n s ≠ 10 → kwN T n s ≠ 11 → kwN T n s ≠ 12 → kwN T n s ≠ 13 → kwN T n s ≠ 14 → w_X6_fail 1 (mI M 6 4) M (fun M67 => w_X6_needSign 59 M67 (fun M70 => Q (sI M70 t 0 ((mI M70 t 0) + 1)))) := fun n1 n4 n8 n10 n11 n12 n13 n14 => bad (by unfold stB; rw [if_neg n1, if_neg n4, if_neg n8, if_neg (by omega), if_neg n13, if_neg n14]) _ tail
    have sm : ∀ {r : rs sg}, stB T n σ s = r → stm T n σ s = rTh r (rSgn T n 59) := fun e => by unfold stm; rw [e]
    have posL : ∀ {r : rs sg}, stB T n σ s = r → ∀ σ' s2, rTh r (rSgn T n 59) = .inr (σ', s2) → L + 7 ≤ s2.1 := fun e σ' s2 z => by
      have := stm_ok (σ' := σ') (s' := s2) hsn ho (by rw [sm e]; exact z)
      omega
    rcases hx with ⟨hx, hx0⟩ | ⟨hx, hx0⟩
    · refine sw29 (kwN T n s) hx (by omega) (fun z => absurd z hx0) (fun z => c_song z ht h hL tail) (fun z => c_askr z ht h hL tail) (fun z => c_earr z ht h hL tail) (fun z => c_part (p := 0) (by decide) (by omega) ht h hL tail) (fun z => c_part (p := 1) (by decide) (by omega) ht h hL tail) (fun z => c_part (p := 2) (by decide) (by omega) ht h hL tail) (fun z => ?_) (fun z => ?_) (fun _ n1 n4 n8 n10 n11 n12 n13 n14 => dflt n1 n4 n8 n10 n11 n12 n13 n14)
      · have hB : stB T n σ s = rB (rNum T n 0 999 (tX T n s)) (fun v s1 => .inr (((σ.1.1, v, σ.1.2.2), σ.2), s1)) := by unfold stB; rw [if_neg (by omega), if_neg (by omega), if_neg (by omega), if_neg (by omega), if_pos z]
        refine c_numb (lo := 0) (hi := 999) (j := 2) (g := fun v => ((σ.1.1, v, σ.1.2.2), σ.2)) hk ht h tX_ge (by decide) (by decide) (by omega) hB (fun v s1 hv => ⟨rfl, rfl, rfl, rfl, ?_⟩) (posL rfl) kk
        exact (stB_ok hsn ho (by rw [hB, hv]; rfl)).1
      · have hB : stB T n σ s = rB (rNum T n 0 100 (tX T n s)) (fun v s1 => .inr (((σ.1.1, σ.1.2.1, v), σ.2), s1)) := by unfold stB; rw [if_neg (by omega), if_neg (by omega), if_neg (by omega), if_neg (by omega), if_neg (by omega), if_pos z]
        refine c_numb (lo := 0) (hi := 100) (j := 3) (g := fun v => ((σ.1.1, σ.1.2.1, v), σ.2)) hk ht h tX_ge (by decide) (by decide) (by omega) hB (fun v s1 hv => ⟨rfl, rfl, rfl, rfl, ?_⟩) (posL rfl) kk
        exact (stB_ok hsn ho (by rw [hB, hv]; rfl)).1
    · exact sw29n hx (dflt (by omega) (by omega) (by omega) (by omega) (by omega) (by omega) (by omega) (by omega))
  refine c_known ht (fun q => ?_) (fun q => ?_)
  · refine pk_ne (kwN T n s) 0 (fun z => k_no' k0 (oth _ (Or.inl ⟨rfl, z⟩))) (fun z => k_no' k0 ?_)
    refine k_no (by decide) (bad (by unfold stB; rw [if_neg (by omega), if_neg (by omega), if_neg (by omega), if_neg (by omega), if_neg (by omega), if_neg (by omega)]) _ (fun M1 c1 => kk M1 ?_))
    have e1 : stB T n σ s = .inl (1, sk T n s.1) := by unfold stB; rw [if_neg (by omega), if_neg (by omega), if_neg (by omega), if_neg (by omega), if_neg (by omega), if_neg (by omega)]
    have e2 : stm T n σ s = .inl (1, sk T n s.1) := by unfold stm; rw [e1]; rfl
    obtain ⟨c1, c2, c3, c4⟩ := c1
    rw [e1] at c2
    exact ⟨c1, by rw [e2]; exact c2, fun σ' s' y => (by rw [e2] at y; cases y), cSy_x c4⟩
  · exact k_no' (by decide) (k_no' k0 (oth _ (Or.inr ⟨rfl, q⟩)))
theorem c_hst {M : pm} {T : Nat → Nat} {n : Nat} {s : ts} {t : Nat} (ht : tkC M T n s) (h : cSt M t 0 sg0 0) {Q : pm → Prop} (kk : ∀ M', cQ2 M T n t 1 (hst T n s) M' → Q M') : w_X3_readStatement t M Q := by
  have hsn := ht.2.1
  have hz := ht.2.2.2.2.2.2.1
  have e0 : mI M t 0 = 0 := h.2.2.1.1
  have hkw := kwN_le T n s
  have no : kwN T n s ≠ 0 → ∀ x2 : Int32, w_X3_readStatement_29 t x2 0 1 M Q := fun q x2 => by
    refine k_no (by decide) (c_fail hz 1 (sk T n s.1) rfl ht.2.2.2.1 (by decide) (by decide) (fun M1 f1 t1 => kk M1 ?_))
    have e2 : hst T n s = .inl (1, sk T n s.1) := by unfold hst; rw [if_neg q]; rfl
    exact ⟨fC_T f1, by rw [e2]; exact t1, fun σ' s' y => (by rw [e2] at y; cases y), cSy_x (cSx_T f1 (cSx_of h))⟩
  refine c_known ht (fun q => pk_ne (kwN T n s) 0 (fun z => k_yes' e0 (no z _)) (fun z => k_yes' e0 ?_)) (fun q => k_no' (by decide) (k_yes' e0 (no (by omega) _)))
  refine k_yes rfl (sw29 (kwN T n s) rfl (by omega) (fun _ => ?_) (fun y => by omega) (fun y => by omega) (fun y => by omega) (fun y => by omega) (fun y => by omega) (fun y => by omega) (fun y => by omega) (fun y => by omega) (fun y => absurd z y))
  have hE : hst T n s = rTh (rB (rNum T n 1 60 (tX T n s)) (fun v s1 => .inr (((v, 0, 0), [], [], [], fun _ => none), s1))) (rSgn T n 59) := by unfold hst; rw [if_pos z]
  refine c_numb (lo := 1) (hi := 60) (j := 1) (k := 0) (L := 0) (σ := sg0) (g := fun v => ((v, 0, 0), [], [], [], fun _ => none)) (by decide) ht h tX_ge (by decide) (by decide) (by omega) rfl (fun v s1 hv => ⟨rfl, rfl, rfl, rfl, okG_0⟩) (fun σ' s2 y => ?_) (fun M' c => kk M' (by rw [hE]; exact c))
  have := hst_ok (σ' := σ') (s' := s2) hsn (by rw [hE]; exact y)
  omega
