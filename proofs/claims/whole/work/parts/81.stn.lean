/-! the reference reads a statement, as it is -/
def mQ (M : pm) (T : Nat → Nat) (n : Nat) (r : rs sg) (M' : pm) : Prop := fN M M' ∧ mI M' 277 49 = mI M 277 49 ∧ tkH M' T n r ∧ ∀ σ' s', r = .inr (σ', s') → ∃ cd', cd' + 7 ≤ s'.1 ∧ mSt M' σ' cd'
theorem mQ_fail {M M' : pm} {T : Nat → Nat} {n : Nat} {r : rs sg} {e : Nat × Nat} (f : fG fU M M') (t' : tkF M' e) (hr : r = .inl e) : mQ M T n r M' := by
  subst hr
  exact ⟨fN_U f, f.2.2.2 277 49 (by unfold fU; omega), t', fun σ' s' q => by cases q⟩
theorem m_full {M : pm} {T : Nat → Nat} {n : Nat} {s : ts} (ht : tkM M T n s) {j a b p : Nat} (hj : j < 3) (ha : mI M 309 j = nI a) (ha8 : a < 100) (hb : b < 100) {x : Int32} (hx : x = nI p) {Q : Int32 → pm → Prop} (k0 : a ≠ b → Q 0 M) (k1 : a = b → ∀ M', fG fU M M' → tkF M' (5, p) → Q 1 M') : w_X8_isFull (nI j) (nI b) x M Q := by
  have h5 := ht.2.2.1
  unfold w_X8_isFull
  refine k_yes' h5 ⟨vp_in_nI (by omega) (by decide), ?_⟩
  rw [nI_clamp (by omega), ha]
  exact pk_ne a b (fun q => k_yes h5 (k0 q)) (fun q => m_fail h5 5 p rfl hx (by decide) (by decide) (fun M1 f1 t1 => k_no (tkF_n t1) (k1 q M1 f1 t1)))
theorem tkM_N {M M' : pm} {T : Nat → Nat} {n : Nat} {s : ts} (e : ∀ a k, (a = 277 ∧ (k = 2 ∨ k = 3 ∨ k = 4 ∨ k = 5 ∨ k = 6)) ∨ a = 278 ∨ (280 ≤ a ∧ a < 308) ∨ (326 ≤ a ∧ a < 349) → mI M' a k = mI M a k) {A : Type} {x : A} (h : tkH M T n (.inr (x, s) : rs A)) {B : Type} {y : B} : tkH M' T n (.inr (y, s) : rs B) := tkM_q e h
theorem mSt_so {M : pm} {σ : sg} {cd : Nat} (h : mSt M σ cd) {l : List Nat} {m y : Nat} (hs : σ.2.1.length < 6) (ho : okG ((σ.1, σ.2.1 ++ [(l, m, y)], σ.2.2) : sg)) : mSt (sI (sI (sI (sJ M 310 σ.2.1.length (lN (b27 l))) 309 0 (nI (σ.2.1.length + 1))) 311 (2 * σ.2.1.length) (nI m)) 311 (2 * σ.2.1.length + 1) (nI y)) ((σ.1, σ.2.1 ++ [(l, m, y)], σ.2.2) : sg) cd := by
  obtain ⟨⟨a1, a2, a3, a4, a5, a6⟩, ⟨r1, r2, r3⟩, h3, h4, ⟨o1, o2, ⟨o3, o3'⟩, ⟨o4, o4'⟩, ⟨o5, o5'⟩, o6⟩, h6⟩ := h
  have eI : ∀ a k, a ≠ 309 → a ≠ 311 → mI (sI (sI (sI (sJ M 310 σ.2.1.length (lN (b27 l))) 309 0 (nI (σ.2.1.length + 1))) 311 (2 * σ.2.1.length) (nI m)) 311 (2 * σ.2.1.length + 1) (nI y)) a k = mI M a k := fun a k b1 b2 => by
    rw [rI (by omega), rI (by omega), rI (by omega)]; rfl
  have eJ : ∀ a k, ¬ (a = 310 ∧ k = σ.2.1.length) → mJ (sI (sI (sI (sJ M 310 σ.2.1.length (lN (b27 l))) 309 0 (nI (σ.2.1.length + 1))) 311 (2 * σ.2.1.length) (nI m)) 311 (2 * σ.2.1.length + 1) (nI y)) a k = mJ M a k := fun a k b => rJ b
  refine ⟨⟨by rw [eI _ _ (by decide) (by decide)]; exact a1, by rw [eI _ _ (by decide) (by decide)]; exact a2, by rw [eI _ _ (by decide) (by decide)]; exact a3, ?_, ?_, ?_⟩, ⟨fun i q hq => ?_, fun i q hq => ?_, fun i q hq => ?_⟩, by rw [eI _ _ (by decide) (by decide)]; exact h3, h4, ho, fun p hp => ?_⟩
  · rw [rI (by omega), rI (by omega), rIs, List.length_append]; rfl
  · rw [rI (by omega), rI (by omega), rI (by omega)]; exact a5
  · rw [rI (by omega), rI (by omega), rI (by omega)]; exact a6
  · rcases app_get hq with ⟨z1, z2⟩ | ⟨z1, z2⟩
    · have z := r1 i q z2
      exact ⟨by rw [eJ _ _ (by omega)]; exact z.1, by rw [rI (by omega), rI (by omega), rI (by omega)]; exact z.2.1, by rw [rI (by omega), rI (by omega), rI (by omega)]; exact z.2.2⟩
    · subst z1 z2
      exact ⟨rJs _ _ _ _, by rw [rI (by omega), rIs], rIs _ _ _ _⟩
  · have z := r2 i q hq
    exact ⟨by rw [eJ _ _ (by omega)]; exact z.1, by rw [eI _ _ (by decide) (by decide)]; exact z.2.1, by rw [eI _ _ (by decide) (by decide)]; exact z.2.2.1, by rw [eI _ _ (by decide) (by decide)]; exact z.2.2.2⟩
  · have z := r3 i q hq
    exact ⟨by rw [eJ _ _ (by omega)]; exact z.1, by rw [eI _ _ (by decide) (by decide)]; exact z.2⟩
  · have z := h6 p hp
    unfold mPt at z ⊢
    rw [show mI (sI (sI (sI (sJ M 310 σ.2.1.length (lN (b27 l))) 309 0 (nI (σ.2.1.length + 1))) 311 (2 * σ.2.1.length) (nI m)) 311 (2 * σ.2.1.length + 1) (nI y)) 314 = mI M 314 from funext fun k => eI _ _ (by decide) (by decide), show mI (sI (sI (sI (sJ M 310 σ.2.1.length (lN (b27 l))) 309 0 (nI (σ.2.1.length + 1))) 311 (2 * σ.2.1.length) (nI m)) 311 (2 * σ.2.1.length + 1) (nI y)) 315 = mI M 315 from funext fun k => eI _ _ (by decide) (by decide), show mI (sI (sI (sI (sJ M 310 σ.2.1.length (lN (b27 l))) 309 0 (nI (σ.2.1.length + 1))) 311 (2 * σ.2.1.length) (nI m)) 311 (2 * σ.2.1.length + 1) (nI y)) 316 = mI M 316 from funext fun k => eI _ _ (by decide) (by decide)]
    exact z
theorem mSt_as {M : pm} {σ : sg} {cd : Nat} (h : mSt M σ cd) {l : List Nat} {a d m : Nat} (hs : σ.2.2.1.length < 8) (ho : okG ((σ.1, σ.2.1, σ.2.2.1 ++ [(l, a, d, m)], σ.2.2.2) : sg)) : mSt (sI (sI (sI (sI (sJ M 310 (8 + σ.2.2.1.length) (lN (b27 l))) 309 1 (nI (σ.2.2.1.length + 1))) 312 (3 * σ.2.2.1.length) (nI a)) 312 (3 * σ.2.2.1.length + 1) (nI d)) 312 (3 * σ.2.2.1.length + 2) (nI m)) ((σ.1, σ.2.1, σ.2.2.1 ++ [(l, a, d, m)], σ.2.2.2) : sg) cd := by
  obtain ⟨⟨a1, a2, a3, a4, a5, a6⟩, ⟨r1, r2, r3⟩, h3, h4, ⟨o1, o2, ⟨o3, o3'⟩, ⟨o4, o4'⟩, ⟨o5, o5'⟩, o6⟩, h6⟩ := h
  generalize hM' : sI (sI (sI (sI (sJ M 310 (8 + σ.2.2.1.length) (lN (b27 l))) 309 1 (nI (σ.2.2.1.length + 1))) 312 (3 * σ.2.2.1.length) (nI a)) 312 (3 * σ.2.2.1.length + 1) (nI d)) 312 (3 * σ.2.2.1.length + 2) (nI m) = M'
  have eI : ∀ a k, a ≠ 309 → a ≠ 312 → mI M' a k = mI M a k := fun a k b1 b2 => by
    rw [← hM', rI (by omega), rI (by omega), rI (by omega), rI (by omega)]; rfl
  have eJ : ∀ a k, ¬ (a = 310 ∧ k = 8 + σ.2.2.1.length) → mJ M' a k = mJ M a k := fun a k b => by rw [← hM']; exact rJ b
  refine ⟨⟨by rw [eI _ _ (by decide) (by decide)]; exact a1, by rw [eI _ _ (by decide) (by decide)]; exact a2, by rw [eI _ _ (by decide) (by decide)]; exact a3, ?_, ?_, ?_⟩, ⟨fun i q hq => ?_, fun i q hq => ?_, fun i q hq => ?_⟩, by rw [eI _ _ (by decide) (by decide)]; exact h3, h4, ho, fun p hp => ?_⟩
  · rw [← hM', rI (by omega), rI (by omega), rI (by omega), rI (by omega)]; exact a4
  · rw [← hM', rI (by omega), rI (by omega), rI (by omega), rIs, List.length_append]; rfl
  · rw [← hM', rI (by omega), rI (by omega), rI (by omega), rI (by omega)]; exact a6
  · have z := r1 i q hq
    have hi : i < σ.2.1.length := (List.getElem?_eq_some_iff.mp hq).1
    exact ⟨by rw [eJ _ _ (by omega)]; exact z.1, by rw [eI _ _ (by decide) (by decide)]; exact z.2.1, by rw [eI _ _ (by decide) (by decide)]; exact z.2.2⟩
  · rcases app_get hq with ⟨z1, z2⟩ | ⟨z1, z2⟩
    · have z := r2 i q z2
      exact ⟨by rw [eJ _ _ (by omega)]; exact z.1, by rw [← hM', rI (by omega), rI (by omega), rI (by omega), rI (by omega)]; exact z.2.1, by rw [← hM', rI (by omega), rI (by omega), rI (by omega), rI (by omega)]; exact z.2.2.1, by rw [← hM', rI (by omega), rI (by omega), rI (by omega), rI (by omega)]; exact z.2.2.2⟩
    · subst z1 z2
      exact ⟨by rw [← hM']; exact rJs _ _ _ _, by rw [← hM', rI (by omega), rI (by omega), rIs], by rw [← hM', rI (by omega), rIs], by rw [← hM', rIs]⟩
  · have z := r3 i q hq
    exact ⟨by rw [eJ _ _ (by omega)]; exact z.1, by rw [eI _ _ (by decide) (by decide)]; exact z.2⟩
  · have z := h6 p hp
    unfold mPt at z ⊢
    rw [show mI M' 314 = mI M 314 from funext fun k => eI _ _ (by decide) (by decide), show mI M' 315 = mI M 315 from funext fun k => eI _ _ (by decide) (by decide), show mI M' 316 = mI M 316 from funext fun k => eI _ _ (by decide) (by decide)]
    exact z
theorem mSt_ea {M : pm} {σ : sg} {cd : Nat} (h : mSt M σ cd) {l : List Nat} {y : Nat} (hs : σ.2.2.2.1.length < 5) (ho : okG ((σ.1, σ.2.1, σ.2.2.1, σ.2.2.2.1 ++ [(l, y)], σ.2.2.2.2) : sg)) : mSt (sI (sI (sJ M 310 (16 + σ.2.2.2.1.length) (lN (b27 l))) 309 2 (nI (σ.2.2.2.1.length + 1))) 313 σ.2.2.2.1.length (nI y)) ((σ.1, σ.2.1, σ.2.2.1, σ.2.2.2.1 ++ [(l, y)], σ.2.2.2.2) : sg) cd := by
  obtain ⟨⟨a1, a2, a3, a4, a5, a6⟩, ⟨r1, r2, r3⟩, h3, h4, ⟨o1, o2, ⟨o3, o3'⟩, ⟨o4, o4'⟩, ⟨o5, o5'⟩, o6⟩, h6⟩ := h
  generalize hM' : sI (sI (sJ M 310 (16 + σ.2.2.2.1.length) (lN (b27 l))) 309 2 (nI (σ.2.2.2.1.length + 1))) 313 σ.2.2.2.1.length (nI y) = M'
  have eI : ∀ a k, a ≠ 309 → a ≠ 313 → mI M' a k = mI M a k := fun a k b1 b2 => by
    rw [← hM', rI (by omega), rI (by omega)]; rfl
  have eJ : ∀ a k, ¬ (a = 310 ∧ k = 16 + σ.2.2.2.1.length) → mJ M' a k = mJ M a k := fun a k b => by rw [← hM']; exact rJ b
  refine ⟨⟨by rw [eI _ _ (by decide) (by decide)]; exact a1, by rw [eI _ _ (by decide) (by decide)]; exact a2, by rw [eI _ _ (by decide) (by decide)]; exact a3, ?_, ?_, ?_⟩, ⟨fun i q hq => ?_, fun i q hq => ?_, fun i q hq => ?_⟩, by rw [eI _ _ (by decide) (by decide)]; exact h3, h4, ho, fun p hp => ?_⟩
  · rw [← hM', rI (by omega), rI (by omega)]; exact a4
  · rw [← hM', rI (by omega), rI (by omega)]; exact a5
  · rw [← hM', rI (by omega), rIs, List.length_append]; rfl
  · have z := r1 i q hq
    have hi : i < σ.2.1.length := (List.getElem?_eq_some_iff.mp hq).1
    exact ⟨by rw [eJ _ _ (by omega)]; exact z.1, by rw [eI _ _ (by decide) (by decide)]; exact z.2.1, by rw [eI _ _ (by decide) (by decide)]; exact z.2.2⟩
  · have z := r2 i q hq
    have hi : i < σ.2.2.1.length := (List.getElem?_eq_some_iff.mp hq).1
    exact ⟨by rw [eJ _ _ (by omega)]; exact z.1, by rw [eI _ _ (by decide) (by decide)]; exact z.2.1, by rw [eI _ _ (by decide) (by decide)]; exact z.2.2.1, by rw [eI _ _ (by decide) (by decide)]; exact z.2.2.2⟩
  · rcases app_get hq with ⟨z1, z2⟩ | ⟨z1, z2⟩
    · have z := r3 i q z2
      exact ⟨by rw [eJ _ _ (by omega)]; exact z.1, by rw [← hM', rI (by omega), rI (by omega)]; exact z.2⟩
    · subst z1 z2
      exact ⟨by rw [← hM']; exact rJs _ _ _ _, by rw [← hM', rIs]⟩
  · have z := h6 p hp
    unfold mPt at z ⊢
    rw [show mI M' 314 = mI M 314 from funext fun k => eI _ _ (by decide) (by decide), show mI M' 315 = mI M 315 from funext fun k => eI _ _ (by decide) (by decide), show mI M' 316 = mI M 316 from funext fun k => eI _ _ (by decide) (by decide)]
    exact z
theorem m_adds {M : pm} {j N : Nat} (hj : j < 3) (hN : N < 8) (e : mI M 309 j = nI N) {v : Int64} {Q : Int32 → pm → Prop} (k : Q (nI N) (sI (sJ M 310 (8 * j + N) v) 309 j (nI (N + 1)))) : w_X8_adds (nI j) v M Q := by
  unfold w_X8_adds
  rw [nI_clamp (by omega), e, show (8 : Int32) * nI j = nI (8 * j) from pk_mul 8 j, nI_add, nI_clamp (by omega), nI_1, rIs, nI_pred]
  exact ⟨vp_in_nI (by omega) (by decide), vp_in_nI (by omega) (by decide), vp_in_nI (by omega) (by decide), vp_in_nI (by omega) (by decide), vp_in_nI (by omega) (by decide), k⟩
theorem m_song {M : pm} {T : Nat → Nat} {n : Nat} {s : ts} {σ : sg} {cd : Nat} (hw : kwN T n s = 1) (hsn : s.1 ≤ n) (ht : tkM M T n (tX T n s)) (h : mSt M σ cd) (hcd : cd + 7 ≤ s.1) {x : Int32} (hx : x = nI (sk T n s.1)) {Q : pm → Prop} (kk : ∀ M', mQ M T n (stB T n σ s) M' → Q M') : w_X8_songTold x M Q := by
  have ho := h.2.2.2.2.1
  have h6 := ho.2.2.1.1
  have a4 := h.1.2.2.2.1
  unfold w_X8_songTold
  refine m_full ht (j := 0) (b := 6) (by decide) a4 (by omega) (by decide) hx (fun q => k_yes rfl ?_) (fun q M1 f1 t1 => k_no (by decide) (kk M1 (mQ_fail f1 t1 (by unfold stB; rw [if_pos hw, if_neg (by omega)]))))
  have hlt : σ.2.1.length < 6 := by omega
  have hB : stB T n σ s = pSo T n σ s := by unfold stB; rw [if_pos hw, if_pos hlt]
  refine m_new ht h (fun M2 y5 f2 t2 v2 => m_asks t2 282 2 (by decide) (fun M3 f3 t3 => m_number t3 1 60 (by decide) (by decide) (fun M4 y11 f4 t4 v4 => m_asks t4 283 3 (by decide) (fun M5 f5 t5 => m_number t5 0 9 (by decide) (by decide) (fun M6 y17 f6 t6 v6 => ?_)))))
  have f := ((((f2.tr f3).tr f4).tr f5).tr f6)
  have t6 : tkH M6 T n (rSo T n σ s) := t6
  have v6 : ∀ x s', rSo T n σ s = .inr (x, s') → y17 = nI x.2 := v6
  have e49 : mI M6 277 49 = mI M 277 49 := f.2.2.2 277 49 (by unfold fU; omega)
  cases hr : rSo T n σ s with
  | inl e =>
    rw [hr] at t6
    have e1 : stB T n σ s = .inl e := by rw [hB]; unfold pSo; rw [hr]; rfl
    exact k_no (tkF_n t6) (kk M6 ⟨fN_U f, e49, by rw [e1]; exact t6, fun σ' s' z => (by rw [e1] at z; cases z)⟩)
  | inr x =>
    obtain ⟨q5, s5⟩ := x
    rw [hr] at t6
    have t6 : tkM M6 T n s5 := t6
    have e1 : stB T n σ s = .inr ((σ.1, σ.2.1 ++ [(q5.1.1, q5.1.2, q5.2)], σ.2.2), s5) := by rw [hB]; unfold pSo; rw [hr]; rfl
    have ok := stB_ok hsn ho e1
    obtain ⟨s4, h4, i4⟩ := rPr_inv hr
    obtain ⟨s3, _, h3, _⟩ := rTh_inv h4
    obtain ⟨s2, h2, i2⟩ := rPr_inv h3
    obtain ⟨s1, _, h1, _⟩ := rTh_inv h2
    rw [v6 q5 s5 hr, v4 q5.1 s3 h3, v2 _ _ h1]
    have h6' := mSt_U f h
    refine k_yes t6.2.2.1 (m_adds (j := 0) (by decide) (by omega) h6'.1.2.2.2.1 ?_)
    rw [show (2 : Int32) * nI σ.2.1.length = nI (2 * σ.2.1.length) from pk_mul 2 _, nI_1, nI_clamp (by omega), nI_clamp (by omega), show 8 * 0 + σ.2.1.length = σ.2.1.length from by omega]
    have c := mSt_so h6' hlt ok.1
    refine ⟨vp_in_nI (by omega) (by decide), vp_in_nI (by omega) (by decide), kk _ ⟨?_, ?_, ?_, fun σ' s' z => ?_⟩⟩
    · exact ((((fN_U f).uj (by omega) _).up (Or.inr (Or.inl ⟨by omega, by omega⟩)) _).up (Or.inr (Or.inr (Or.inl ⟨rfl, by omega⟩))) _).up (Or.inr (Or.inr (Or.inl ⟨rfl, by omega⟩))) _
    · rw [rI (by omega), rI (by omega), rI (by omega)]; exact e49
    · rw [e1]
      exact tkM_q (M := M6) (fun a k hk => by rw [rI (by omega), rI (by omega), rI (by omega)]; rfl) t6
    · rw [e1] at z
      cases z
      exact ⟨cd, by have := ok.2.1; omega, c⟩
theorem m_askr {M : pm} {T : Nat → Nat} {n : Nat} {s : ts} {σ : sg} {cd : Nat} (hw : kwN T n s = 4) (hsn : s.1 ≤ n) (ht : tkM M T n (tX T n s)) (h : mSt M σ cd) (hcd : cd + 7 ≤ s.1) {x : Int32} (hx : x = nI (sk T n s.1)) {Q : pm → Prop} (kk : ∀ M', mQ M T n (stB T n σ s) M' → Q M') : w_X8_askerTold x M Q := by
  have ho := h.2.2.2.2.1
  have h8 := ho.2.2.2.1.1
  have a5 := h.1.2.2.2.2.1
  unfold w_X8_askerTold
  refine m_full ht (j := 1) (b := 8) (by decide) a5 (by omega) (by decide) hx (fun q => k_yes rfl ?_) (fun q M1 f1 t1 => k_no (by decide) (kk M1 (mQ_fail f1 t1 (by unfold stB; rw [if_neg (by omega), if_pos hw, if_neg (by omega)]))))
  have hlt : σ.2.2.1.length < 8 := by omega
  have hB : stB T n σ s = pAs T n σ s := by unfold stB; rw [if_neg (by omega), if_pos hw, if_pos hlt]
  refine m_new ht h (fun M2 y5 f2 t2 v2 => m_asks t2 285 5 (by decide) (fun M3 f3 t3 => m_sng t3 (mSt_U (f2.tr f3) h) (fun M4 y11 f4 t4 v4 => m_asks t4 286 6 (by decide) (fun M5 f5 t5 => m_number t5 0 99 (by decide) (by decide) (fun M6 y17 f6 t6 v6 => m_asks t6 287 7 (by decide) (fun M7 f7 t7 => m_number t7 0 99 (by decide) (by decide) (fun M8 y23 f8 t8 v8 => ?_)))))))
  have f := ((((((f2.tr f3).tr f4).tr f5).tr f6).tr f7).tr f8)
  have t8 : tkH M8 T n (rAs T n σ s) := t8
  have v8 : ∀ x s', rAs T n σ s = .inr (x, s') → y23 = nI x.2 := v8
  have e49 : mI M8 277 49 = mI M 277 49 := f.2.2.2 277 49 (by unfold fU; omega)
  cases hr : rAs T n σ s with
  | inl e =>
    rw [hr] at t8
    have e1 : stB T n σ s = .inl e := by rw [hB]; unfold pAs; rw [hr]; rfl
    exact k_no (tkF_n t8) (kk M8 ⟨fN_U f, e49, by rw [e1]; exact t8, fun σ' s' z => (by rw [e1] at z; cases z)⟩)
  | inr x =>
    obtain ⟨q5, s5⟩ := x
    rw [hr] at t8
    have t8 : tkM M8 T n s5 := t8
    have e1 : stB T n σ s = .inr ((σ.1, σ.2.1, σ.2.2.1 ++ [(q5.1.1.1, q5.1.1.2, q5.1.2, q5.2)], σ.2.2.2), s5) := by rw [hB]; unfold pAs; rw [hr]; rfl
    have ok := stB_ok hsn ho e1
    obtain ⟨s6, h6, i6⟩ := rPr_inv hr
    obtain ⟨s5', _, h5, _⟩ := rTh_inv h6
    obtain ⟨s4, h4, i4⟩ := rPr_inv h5
    obtain ⟨s3, _, h3, _⟩ := rTh_inv h4
    obtain ⟨s2, h2, i2⟩ := rPr_inv h3
    obtain ⟨s1, _, h1, _⟩ := rTh_inv h2
    rw [v8 q5 s5 hr, v6 q5.1 s5' h5, v4 q5.1.1 s3 h3, v2 _ _ h1]
    have h8' := mSt_U f h
    refine k_yes t8.2.2.1 (m_adds (j := 1) (by decide) (by omega) h8'.1.2.2.2.2.1 ?_)
    rw [show (3 : Int32) * nI σ.2.2.1.length = nI (3 * σ.2.2.1.length) from pk_mul 3 _, nI_1, show nI (3 * σ.2.2.1.length) + 2 = nI (3 * σ.2.2.1.length + 2) from nI_add _ 2, nI_clamp (by omega), nI_clamp (by omega), nI_clamp (by omega), show 8 * 1 + σ.2.2.1.length = 8 + σ.2.2.1.length from by omega]
    have c := mSt_as h8' hlt ok.1
    refine ⟨vp_in_nI (by omega) (by decide), vp_in_nI (by omega) (by decide), vp_in_nI (by omega) (by decide), kk _ ⟨?_, ?_, ?_, fun σ' s' z => ?_⟩⟩
    · exact (((((fN_U f).uj (by omega) _).up (Or.inr (Or.inl ⟨by omega, by omega⟩)) _).up (Or.inr (Or.inr (Or.inr (Or.inl rfl)))) _).up (Or.inr (Or.inr (Or.inr (Or.inl rfl)))) _).up (Or.inr (Or.inr (Or.inr (Or.inl rfl)))) _
    · rw [rI (by omega), rI (by omega), rI (by omega), rI (by omega)]; exact e49
    · rw [e1]
      exact tkM_q (M := M8) (fun a k hk => by rw [rI (by omega), rI (by omega), rI (by omega), rI (by omega)]; rfl) t8
    · rw [e1] at z
      cases z
      exact ⟨cd, by have := ok.2.1; omega, c⟩
theorem m_earr {M : pm} {T : Nat → Nat} {n : Nat} {s : ts} {σ : sg} {cd : Nat} (hw : kwN T n s = 8) (hsn : s.1 ≤ n) (ht : tkM M T n (tX T n s)) (h : mSt M σ cd) (hcd : cd + 7 ≤ s.1) {x : Int32} (hx : x = nI (sk T n s.1)) {Q : pm → Prop} (kk : ∀ M', mQ M T n (stB T n σ s) M' → Q M') : w_X8_earTold x M Q := by
  have ho := h.2.2.2.2.1
  have h5 := ho.2.2.2.2.1.1
  have a6 := h.1.2.2.2.2.2
  unfold w_X8_earTold
  refine m_full ht (j := 2) (b := 5) (by decide) a6 (by omega) (by decide) hx (fun q => k_yes rfl ?_) (fun q M1 f1 t1 => k_no (by decide) (kk M1 (mQ_fail f1 t1 (by unfold stB; rw [if_neg (by omega), if_neg (by omega), if_pos hw, if_neg (by omega)]))))
  have hlt : σ.2.2.2.1.length < 5 := by omega
  have hB : stB T n σ s = pEa T n σ s := by unfold stB; rw [if_neg (by omega), if_neg (by omega), if_pos hw, if_pos hlt]
  refine m_new ht h (fun M2 y5 f2 t2 v2 => m_asks t2 289 9 (by decide) (fun M3 f3 t3 => m_number t3 0 9 (by decide) (by decide) (fun M4 y11 f4 t4 v4 => ?_)))
  have f := ((f2.tr f3).tr f4)
  have t4 : tkH M4 T n (rEa T n σ s) := t4
  have v4 : ∀ x s', rEa T n σ s = .inr (x, s') → y11 = nI x.2 := v4
  have e49 : mI M4 277 49 = mI M 277 49 := f.2.2.2 277 49 (by unfold fU; omega)
  cases hr : rEa T n σ s with
  | inl e =>
    rw [hr] at t4
    have e1 : stB T n σ s = .inl e := by rw [hB]; unfold pEa; rw [hr]; rfl
    exact k_no' (tkF_n t4) (kk M4 ⟨fN_U f, e49, by rw [e1]; exact t4, fun σ' s' z => (by rw [e1] at z; cases z)⟩)
  | inr x =>
    obtain ⟨q5, s5⟩ := x
    rw [hr] at t4
    have t4 : tkM M4 T n s5 := t4
    have e1 : stB T n σ s = .inr ((σ.1, σ.2.1, σ.2.2.1, σ.2.2.2.1 ++ [(q5.1, q5.2)], σ.2.2.2.2), s5) := by rw [hB]; unfold pEa; rw [hr]; rfl
    have ok := stB_ok hsn ho e1
    obtain ⟨s2, h2, i2⟩ := rPr_inv hr
    obtain ⟨s1, _, h1, _⟩ := rTh_inv h2
    rw [v4 q5 s5 hr, v2 _ _ h1]
    have h4' := mSt_U f h
    refine k_yes' t4.2.2.1 (m_adds (j := 2) (by decide) (by omega) h4'.1.2.2.2.2.2 ?_)
    rw [nI_clamp (by omega), show 8 * 2 + σ.2.2.2.1.length = 16 + σ.2.2.2.1.length from by omega]
    have c := mSt_ea h4' hlt ok.1
    refine ⟨vp_in_nI (by omega) (by decide), kk _ ⟨?_, ?_, ?_, fun σ' s' z => ?_⟩⟩
    · exact ((((fN_U f).uj (by omega) _).up (Or.inr (Or.inl ⟨by omega, by omega⟩)) _).up (Or.inr (Or.inr (Or.inr (Or.inr (Or.inl ⟨rfl, by omega⟩))))) _)
    · rw [rI (by omega), rI (by omega)]; exact e49
    · rw [e1]
      exact tkM_q (M := M4) (fun a k hk => by rw [rI (by omega), rI (by omega)]; rfl) t4
    · rw [e1] at z
      cases z
      exact ⟨cd, by have := ok.2.1; omega, c⟩
