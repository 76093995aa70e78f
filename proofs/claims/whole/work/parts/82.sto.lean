/-! the reference reads a statement: programs, and all of them -/
theorem m_prgT {M : pm} {T : Nat → Nat} {n p : Nat} (hp : p < 3) {s : ts} {σ : sg} {cd : Nat} (hw : kwN T n s = 10 + p) (hsn : s.1 ≤ n) (ht : tkM M T n (tX T n s)) (h : mSt M σ cd) (hcd : cd + 7 ≤ s.1) {x : Int32} (hx : x = nI (sk T n s.1)) {Q : pm → Prop} (kk : ∀ M', mQ M T n (stB T n σ s) M' → Q M') : w_X8_codesTold (nI p) x M Q := by
  have h5 := ht.2.2.1
  have h16 := ht.1.2.1
  have hB := stB_p (σ := σ) hp hw
  have ho := h.2.2.2.2.1
  have hle := tX_le (T := T) hsn
  have hgt := op_k1 (T := T) (n := n) (s := s) (by omega)
  unfold w_X8_codesTold
  refine k_yes' h5 ⟨vp_in_nI (by omega) (by decide), ?_⟩
  rw [nI_clamp (by omega)]
  have h8p := h.2.2.2.2.2 p hp
  cases hP : σ.2.2.2.2 p with
  | some os =>
    rw [hP] at h8p hB
    obtain ⟨g, g1, g2, g3, g4⟩ := h8p
    have h4 := h.2.2.2.1
    refine k_no (by rw [g1]; exact n_m1 (by omega)) (m_fail h5 5 (sk T n s.1) rfl hx (by decide) (by decide) (fun M1 f1 t1 => k_no (tkF_n t1) (kk M1 (mQ_fail f1 t1 (by rw [hB, if_neg (by simp)])))))
  | none =>
    rw [hP] at h8p hB
    rw [if_pos rfl] at hB
    have g0 : mI M 314 p = -1 := h8p
    refine k_yes g0 (k_yes h5 ?_)
    have r41 : ∀ t1 : Int32, t1 = nI (tkP p) → w_X8_codesTold_41 (nI p) t1 M Q := by
      intro t1 et
      have tk2 : tkP p ≤ 2 := by unfold tkP; split <;> decide
      unfold w_X8_codesTold_41
      generalize hM1 : sI (sI (sI (sI (sI M 277 51 t1) 277 96 0) 277 98 0) 277 99 0) 277 100 0 = M1
      have f1 : fN M M1 := by
        rw [← hM1]
        exact (((((fN.rf M).up (Or.inl ⟨rfl, by omega⟩) _).up (Or.inl ⟨rfl, by omega⟩) _).up (Or.inl ⟨rfl, by omega⟩) _).up (Or.inl ⟨rfl, by omega⟩) _).up (Or.inl ⟨rfl, by omega⟩) _
      have e1 : ∀ a k, ¬ (a = 277 ∧ (k = 51 ∨ k = 96 ∨ k = 98 ∨ k = 99 ∨ k = 100)) → mI M1 a k = mI M a k := fun a k hk => by
        rw [← hM1, rI (by omega), rI (by omega), rI (by omega), rI (by omega), rI (by omega)]
      have ej1 : mJ M1 = mJ M := by rw [← hM1]; rfl
      have s1 : mSt M1 σ cd := mSt_c (fun a b1 b2 => funext fun k => e1 a k (by omega)) (by rw [ej1]) (e1 277 48 (by omega)) h
      have q1 : qS M1 M1 T n (tkP p) (tX T n s) [] 0 0 [] := ⟨fG.rf M1, tkM_q (fun a k hk => e1 a k (by omega)) ht, by rw [← hM1, rI (by omega), rI (by omega), rI (by omega), rI (by omega), rIs, et], by rw [← hM1, rI (by omega), rI (by omega), rI (by omega), rIs]; rfl, fun i c hi => (by cases hi), by rw [← hM1, rI (by omega), rI (by omega), rIs]; rfl, trivial, by rw [← hM1, rI (by omega), rIs]; rfl, by rw [← hM1, rIs]; rfl, by decide, Nat.le_refl _, fun y hy => absurd hy List.not_mem_nil, by decide⟩
      -- a fault in it
      have bad : ∀ (M2 : pm) (e : Nat × Nat), spR T n (tkP p) 60 (whP p) 0 (tX T n s) = .inl e → fG fQ M1 M2 → tkF M2 e → w_X8_codesTold_80 (nI p) M2 Q := by
        intro M2 e he f2 t2
        have eB : stB T n σ s = .inl e := by rw [hB]; unfold pPa; rw [he]; rfl
        refine k_no (tkF_n t2) (kk M2 ⟨f1.tr (fN_Q f2), ?_, by rw [eB]; exact t2, fun σ' s' z => (by rw [eB] at z; cases z)⟩)
        rw [f2.2.2.2 277 49 (by unfold fQ fU; omega), e1 277 49 (by omega)]
      -- none
      have good : ∀ (c : List Nat) (s' : ts) (M2 : pm), spR T n (tkP p) 60 (whP p) 0 (tX T n s) = .inr (c, s') → qS M1 M2 T n (tkP p) s' [] 0 0 c → w_X8_codesTold_80 (nI p) M2 Q := by
        intro c s' M2 hr q2
        have gl := hG_sp (T := T) (n := n) (tk := tkP p) 60 (whP p) 0 _ c s' hle hr
        have eB : stB T n σ s = .inr ((σ.1, σ.2.1, σ.2.2.1, σ.2.2.2.1, fun q => if q = p then some c else σ.2.2.2.2 q), s') := by rw [hB]; unfold pPa; rw [hr]; rfl
        have ok := stB_ok hsn ho eB
        obtain ⟨f2, t2, h51, h96, hcd2, -⟩ := q2
        have s2 := mSt_Q f2 s1
        obtain ⟨b1, b2, b3, b4, b5, b6⟩ := s2
        have f12 : fN M M2 := f1.tr (fN_Q f2)
        have e49 : mI M2 277 49 = mI M 277 49 := by rw [f2.2.2.2 277 49 (by unfold fQ fU; omega), e1 277 49 (by omega)]
        have key : ∀ d m i M3, i + d = c.length → d < m → fN M M3 → (∀ a k, ¬ (a = 314 ∧ k = p) → ¬ (a = 316 ∧ cd ≤ k ∧ k < cd + c.length) → ¬ (a = 277 ∧ k = 48) → mI M3 a k = mI M2 a k) → mJ M3 = mJ M2 → mI M3 314 p = nI cd → mI M3 277 48 = nI (cd + i) → (∀ j y, j < i → c[j]? = some y → mI M3 316 (cd + j) = nI y) → w_X8_codesTold_100 m (nI p) (nI i) M3 Q := by
          intro d
          induction d with
          | zero =>
            intro m i M3 hi hm f3 o3 j3 p3 c3 z3
            obtain ⟨m, rfl⟩ : ∃ m', m = m' + 1 := ⟨m - 1, by omega⟩
            have ei : i = c.length := by omega
            subst ei
            unfold w_X8_codesTold_100
            rw [o3 277 96 (by omega) (by omega) (by omega), h96, nI_clamp (by omega), c3]
            have rowE : ∀ a k, ¬ (a = 314 ∧ k = p) → ¬ (a = 315 ∧ k = p) → ¬ (a = 316 ∧ cd ≤ k ∧ k < cd + c.length) → ¬ (a = 277 ∧ k = 48) → mI (sI M3 315 p (nI (cd + c.length))) a k = mI M2 a k := fun a k k1 k2 k3 k4 => by
              rw [rI (by omega)]; exact o3 a k k1 k3 k4
            refine k_yes (nI_le (Nat.le_refl _) (by omega)) ⟨vp_in_nI (by omega) (by decide), kk _ ⟨f3.up (Or.inr (Or.inl ⟨by omega, hp⟩)) _, ?_, ?_, fun σ' s'' z => ?_⟩⟩
            · rw [rowE 277 49 (by omega) (by omega) (by omega) (by omega)]; exact e49
            · rw [eB]
              exact tkM_q (M := M2) (fun a k hk => rowE a k (by omega) (by omega) (by omega) (by omega)) t2
            · rw [eB] at z
              cases z
              refine ⟨cd + c.length, by omega, ⟨?_, ?_, ?_, by omega, ok.1, fun q hq => ?_⟩⟩
              · obtain ⟨x1, x2, x3, x4, x5, x6⟩ := b1
                exact ⟨by rw [rowE _ _ (by omega) (by omega) (by omega) (by omega)]; exact x1, by rw [rowE _ _ (by omega) (by omega) (by omega) (by omega)]; exact x2, by rw [rowE _ _ (by omega) (by omega) (by omega) (by omega)]; exact x3, by rw [rowE _ _ (by omega) (by omega) (by omega) (by omega)]; exact x4, by rw [rowE _ _ (by omega) (by omega) (by omega) (by omega)]; exact x5, by rw [rowE _ _ (by omega) (by omega) (by omega) (by omega)]; exact x6⟩
              · have ejj : mJ (sI M3 315 p (nI (cd + c.length))) = mJ M2 := j3
                have e311 : mI (sI M3 315 p (nI (cd + c.length))) 311 = mI M2 311 := funext fun k => rowE _ _ (by omega) (by omega) (by omega) (by omega)
                have e312 : mI (sI M3 315 p (nI (cd + c.length))) 312 = mI M2 312 := funext fun k => rowE _ _ (by omega) (by omega) (by omega) (by omega)
                have e313 : mI (sI M3 315 p (nI (cd + c.length))) 313 = mI M2 313 := funext fun k => rowE _ _ (by omega) (by omega) (by omega) (by omega)
                unfold mRw at b2 ⊢
                rw [ejj, e311, e312, e313]
                exact b2
              · rw [rI (by omega)]; exact c3
              · show mPt _ _ q (if q = p then some c else σ.2.2.2.2 q)
                by_cases eq : q = p
                · subst eq
                  rw [if_pos rfl]
                  refine ⟨cd, by rw [rI (by omega)]; exact p3, rIs _ _ _ _, Nat.le_refl _, fun i y hy => ?_⟩
                  have hi := (List.getElem?_eq_some_iff.mp hy).1
                  rw [rI (by omega)]
                  exact z3 i y hi hy
                · rw [if_neg eq]
                  have old := b6 q hq
                  match hpq : σ.2.2.2.2 q, old with
                  | none, old =>
                    show mI _ 314 q = -1
                    rw [rowE _ _ (by omega) (by omega) (by omega) (by omega)]; exact old
                  | some os, old =>
                    obtain ⟨g, y1, y2, y3, y4⟩ := old
                    refine ⟨g, by rw [rowE _ _ (by omega) (by omega) (by omega) (by omega)]; exact y1, by rw [rowE _ _ (by omega) (by omega) (by omega) (by omega)]; exact y2, by omega, fun i y hy => ?_⟩
                    have hi := (List.getElem?_eq_some_iff.mp hy).1
                    rw [rowE _ _ (by omega) (by omega) (by omega) (by omega)]
                    exact y4 i y hy
          | succ d ih =>
            intro m i M3 hi hm f3 o3 j3 p3 c3 z3
            obtain ⟨m, rfl⟩ : ∃ m', m = m' + 1 := ⟨m - 1, by omega⟩
            have hy : c[i]? = some (c[i]'(by omega)) := List.getElem?_eq_getElem (by omega)
            generalize c[i]'(by omega) = y at hy
            have v349 : mI M3 349 i = nI y := by rw [o3 349 i (by omega) (by omega) (by omega)]; exact hcd2 i y hy
            unfold w_X8_codesTold_100
            rw [o3 277 96 (by omega) (by omega) (by omega), h96, c3, nI_clamp (by omega), nI_clamp (by omega), nI_clamp (by omega), v349, nI_1, nI_1]
            refine k_no (nI_ge (by omega) (by omega)) ⟨vp_in_nI (by omega) (by decide), vp_in_nI (by omega) (by decide), ih m (i + 1) _ (by omega) (by omega) ((f3.up (Or.inr (Or.inr (Or.inr (Or.inr (Or.inr (Or.inl ⟨rfl, by omega⟩)))))) _).up (Or.inl ⟨rfl, by omega⟩) _) (fun a k k1 k2 k3 => ?_) j3 ?_ (rIs _ _ _ _) (fun j w hj hw2 => ?_)⟩
            · rw [rI (by omega), rI (by omega)]; exact o3 a k k1 k2 k3
            · rw [rI (by omega), rI (by omega)]; exact p3
            · by_cases e : j = i
              · subst e
                rw [hy] at hw2
                cases hw2
                rw [rI (by omega), rIs]
              · rw [rI (by omega), rI (by omega)]; exact z3 j w (by omega) hw2
        refine k_yes t2.2.2.1 ⟨vp_in_nI (by omega) (by decide), c.length + 1, ?_⟩
        rw [nI_clamp (by omega), b3]
        exact key c.length _ 0 _ (by omega) (by omega) (f12.up (Or.inr (Or.inl ⟨by omega, hp⟩)) _) (fun a k k1 k2 k3 => by rw [rI k1]) rfl (rIs _ _ _ _) (by rw [rI (by omega)]; exact b3) (fun j y hj => absurd hj (Nat.not_lt_zero _))
      by_cases p1 : p = 1
      · subst p1
        refine k_yes' rfl (m_test tk2 q1 (Nat.zero_le _) (f := 60) (by decide) (fun e M2 he q2 => bad M2 e he q2.1 q2.2) (fun c s' M2 hr q2 => good c s' M2 hr (by rw [List.nil_append] at q2; exact q2)))
      · have ew : whP p = 3 := by unfold whP; rw [if_neg p1]
        rw [ew] at bad good
        refine k_no' (fun z => p1 ((nI_eq (b := 1) (by omega) (by decide)).mp z)) (m_sums tk2 q1 (Nat.zero_le _) ⟨fun z => (by cases z), fun z => (by cases z), fun z => (by cases z), fun z => (by cases z)⟩ (f := 60) (by decide) (fun e M2 he q2 => bad M2 e he q2.1 q2.2.1) (fun c s' M2 hr q2 => good c s' M2 hr (by rw [List.nil_append] at q2; exact q2)))
    refine pk_ne p 0 (fun z => r41 1 ?_) (fun z => r41 0 ?_)
    · unfold tkP; rw [if_neg z]; rfl
    · unfold tkP; rw [if_pos z]; rfl
def mQ2 (M : pm) (T : Nat → Nat) (n k : Nat) (r : rs sg) (M' : pm) : Prop := fN M M' ∧ tkH M' T n r ∧ ∀ σ' s', r = .inr (σ', s') → mI M' 277 49 = nI k ∧ ∃ cd', cd' + 7 ≤ s'.1 ∧ mSt M' σ' cd'
theorem mSt_49 {M : pm} {σ : sg} {cd : Nat} (h : mSt M σ cd) (v : Int32) : mSt (sI M 277 49 v) σ cd := mSt_c (fun a b1 b2 => mI_off (by omega)) rfl (rI (by omega)) h
theorem tkH_49 {A : Type} {M : pm} {T : Nat → Nat} {n : Nat} {r : rs A} (h : tkH M T n r) (v : Int32) : tkH (sI M 277 49 v) T n r := by
  match r, h with
  | .inl e, h => exact ⟨by rw [rI (by omega)]; exact h.1, by rw [rI (by omega)]; exact h.2.1, h.2.2⟩
  | .inr (x, s), h => exact tkM_q (M := M) (fun a k hk => rI (by omega)) h
theorem m_semi {M M1 : pm} {T : Nat → Nat} {n k : Nat} {r : rs sg} (hk : mI M 277 49 = nI k) (c : mQ M T n r M1) (hn : ∀ σ' s', r = .inr (σ', s') → s'.1 ≤ n) {Q : pm → Prop} (kk : ∀ M', mQ2 M T n (k + 1) (rTh r (rSgn T n 59)) M' → Q M') : w_X8_asksSign 59 M1 (fun M47 => Q (sI M47 277 49 ((mI M47 277 49) + 1))) := by
  obtain ⟨c1, c2, c3, c4⟩ := c
  refine m_asksSign c3 59 (by decide) (by decide) (by decide) (by decide) (fun M2 f2 t2 => kk _ ⟨(c1.tr (fN_U f2)).up (Or.inl ⟨rfl, by omega⟩) _, tkH_49 t2 _, fun σ' s' z => ?_⟩)
  obtain ⟨s1, y, h1, h2⟩ := rTh_inv z
  obtain ⟨cd, l1, l2⟩ := c4 σ' s1 h1
  have g := g_sgn (c := 59) (by decide) s1 y s' (hn _ _ h1) h2
  refine ⟨?_, cd, by omega, mSt_49 (mSt_U f2 l2) _⟩
  rw [rIs, f2.2.2.2 277 49 (by unfold fU; omega), c2, hk, nI_1]
theorem mSt_h {M : pm} {σ σ' : sg} {cd : Nat} (h : mSt M σ cd) {j v : Nat} (hj : j = 0 ∨ j = 1 ∨ j = 2) (e : σ'.2 = σ.2) (e1 : σ'.1.1 = if j = 0 then v else σ.1.1) (e2 : σ'.1.2.1 = if j = 1 then v else σ.1.2.1) (e3 : σ'.1.2.2 = if j = 2 then v else σ.1.2.2) (ho : okG σ') : mSt (sI M 308 j (nI v)) σ' cd := by
  obtain ⟨⟨a1, a2, a3, a4, a5, a6⟩, h2, h3, h4, h5, h6⟩ := h
  refine ⟨⟨?_, ?_, ?_, by rw [rI (by omega), e]; exact a4, by rw [rI (by omega), e]; exact a5, by rw [rI (by omega), e]; exact a6⟩, ?_, by rw [rI (by omega)]; exact h3, h4, ho, fun p hp => ?_⟩
  · rw [e1]
    by_cases q : j = 0
    · rw [if_pos q, q, rIs]
    · rw [if_neg q, rI (by omega)]; exact a1
  · rw [e2]
    by_cases q : j = 1
    · rw [if_pos q, q, rIs]
    · rw [if_neg q, rI (by omega)]; exact a2
  · rw [e3]
    by_cases q : j = 2
    · rw [if_pos q, q, rIs]
    · rw [if_neg q, rI (by omega)]; exact a3
  · unfold mRw at h2 ⊢
    rw [e, mI_off (by decide), mI_off (by decide), mI_off (by decide)]
    exact h2
  · have := h6 p hp
    rw [e]
    unfold mPt at this ⊢
    rw [mI_off (by decide), mI_off (by decide), mI_off (by decide)]
    exact this
theorem tkH_308 {A : Type} {M : pm} {T : Nat → Nat} {n : Nat} {r : rs A} (h : tkH M T n r) (j : Nat) (v : Int32) : tkH (sI M 308 j v) T n r := by
  match r, h with
  | .inl e, h => exact ⟨by rw [rI (by omega)]; exact h.1, by rw [rI (by omega)]; exact h.2.1, h.2.2⟩
  | .inr (x, s), h => exact tkM_q (M := M) (fun a k hk => rI (by omega)) h
theorem m_stm {M : pm} {T : Nat → Nat} {n k : Nat} {s : ts} {σ : sg} {cd : Nat} (hk : mI M 277 49 = nI k) (hk80 : k < 80) (ht : tkL M T n s) (h : mSt M σ cd) (hcd : cd + 7 ≤ s.1) {Q : pm → Prop} (kk : ∀ M', mQ2 M T n (k + 1) (stm T n σ s) M' → Q M') : w_X8_statementTold M Q := by
  have hsn := ht.1.2.1
  have ho := h.2.2.2.2.1
  have h2 := ht.2
  have pos : ∀ σ' s', stB T n σ s = .inr (σ', s') → s'.1 ≤ n := fun σ' s' z => (stB_ok hsn ho z).2.2.1
  -- behind its word
  have tl : ∀ M1, fG fU M M1 → ∀ M2, mQ M1 T n (stB T n σ s) M2 → w_X8_asksSign 59 M2 (fun M47 => Q (sI M47 277 49 ((mI M47 277 49) + 1))) := fun M1 f1 M2 c2 => m_semi hk ⟨(fN_U f1).tr c2.1, by rw [c2.2.1, f1.2.2.2 277 49 (by unfold fU; omega)], c2.2.2.1, c2.2.2.2⟩ pos kk
  unfold w_X8_statementTold
  rw [hk, h2]
  refine k_no' (fun z => absurd ((nI_eq (b := 80) (by omega) (by decide)).mp z) (by omega)) ?_
  refine m_takesL ht 281 1 (by decide) (fun q M1 f1 t1 => k_no (by decide) (m_song q hsn t1 (mSt_U f1 h) hcd rfl (tl M1 f1))) (fun q1 => k_yes rfl ?_)
  refine m_takesL ht 284 4 (by decide) (fun q M1 f1 t1 => k_no (by decide) (m_askr q hsn t1 (mSt_U f1 h) hcd rfl (tl M1 f1))) (fun q4 => k_yes rfl ?_)
  refine m_takesL ht 288 8 (by decide) (fun q M1 f1 t1 => k_no (by decide) (m_earr q hsn t1 (mSt_U f1 h) hcd rfl (tl M1 f1))) (fun q8 => k_yes rfl ?_)
  refine m_takesL ht 290 10 (by decide) (fun q M1 f1 t1 => k_no (by decide) (m_prgT (p := 0) (by decide) q hsn t1 (mSt_U f1 h) hcd rfl (tl M1 f1))) (fun q10 => k_yes rfl ?_)
  refine m_takesL ht 291 11 (by decide) (fun q M1 f1 t1 => k_no (by decide) (m_prgT (p := 1) (by decide) q hsn t1 (mSt_U f1 h) hcd rfl (tl M1 f1))) (fun q11 => k_yes rfl ?_)
  refine m_takesL ht 292 12 (by decide) (fun q M1 f1 t1 => k_no (by decide) (m_prgT (p := 2) (by decide) q hsn t1 (mSt_U f1 h) hcd rfl (tl M1 f1))) (fun q12 => k_yes rfl ?_)
  -- a number told
  have nb : ∀ (M1 M2 : pm) (v : Int32) (j : Nat), (j = 1 ∨ j = 2) → fG fU M M1 → fG fU M1 M2 → tkH M2 T n (stB T n σ s) → (∀ σ' s', stB T n σ s = .inr (σ', s') → ∃ w, v = nI w ∧ σ'.2 = σ.2 ∧ σ'.1.1 = σ.1.1 ∧ (σ'.1.2.1 = if j = 1 then w else σ.1.2.1) ∧ (σ'.1.2.2 = if j = 2 then w else σ.1.2.2)) → w_X8_asksSign 59 (sI M2 308 j v) (fun M47 => Q (sI M47 277 49 ((mI M47 277 49) + 1))) := fun M1 M2 v j hj f1 f2 t2 hv => by
    refine m_semi hk ⟨((fN_U f1).tr (fN_U f2)).up (Or.inr (Or.inl ⟨by omega, by omega⟩)) _, ?_, tkH_308 t2 _ _, fun σ' s' z => ?_⟩ pos kk
    · rw [rI (by omega), f2.2.2.2 277 49 (by unfold fU; omega), f1.2.2.2 277 49 (by unfold fU; omega)]
    · obtain ⟨w, w1, w2, w3, w4, w5⟩ := hv σ' s' z
      have ok := stB_ok hsn ho z
      rw [w1]
      exact ⟨cd, by have := ok.2.1; omega, mSt_h (mSt_U (f1.tr f2) h) (by omega) w2 (by rw [if_neg (by omega)]; exact w3) w4 w5 ok.1⟩
  refine m_takesL ht 293 13 (by decide) (fun q M1 f1 t1 => k_no (by decide) ?_) (fun q13 => k_yes rfl ?_)
  · have hB : stB T n σ s = rB (rNum T n 0 999 (tX T n s)) (fun v s1 => .inr (((σ.1.1, v, σ.1.2.2), σ.2), s1)) := by unfold stB; rw [if_neg (by omega), if_neg (by omega), if_neg (by omega), if_neg (by omega), if_pos q]
    refine m_num0 t1 0 999 (by decide) (by decide) (fun v s1 hv M2 f2 t2 => nb M1 M2 _ 1 (by omega) f1 f2 ?_ (fun σ' s' z => ?_)) (fun e hv M2 v f2 t2 _ => nb M1 M2 _ 1 (by omega) f1 f2 ?_ (fun σ' s' z => ?_))
    · rw [hB, hv]; exact t2
    · rw [hB, hv] at z
      cases z
      exact ⟨v, rfl, rfl, rfl, rfl, rfl⟩
    · rw [hB, hv]; exact t2
    · rw [hB, hv] at z; cases z
  · refine m_asks (A := Unit) (r := .inr ((), s)) ht.1 294 14 (by decide) (fun M1 f1 t1 => ?_)
    by_cases q : kwN T n s = 14
    · have e : rTh (.inr ((), s)) (rWrd T n 14) = (.inr ((), tX T n s) : rs Unit) := by
        show rB (rWrd T n 14 s) _ = _
        unfold rWrd
        rw [if_pos q]; rfl
      rw [e] at t1
      have hB : stB T n σ s = rB (rNum T n 0 100 (tX T n s)) (fun v s1 => .inr (((σ.1.1, σ.1.2.1, v), σ.2), s1)) := by unfold stB; rw [if_neg (by omega), if_neg (by omega), if_neg (by omega), if_neg (by omega), if_neg (by omega), if_pos q]
      refine m_num0 t1 0 100 (by decide) (by decide) (fun v s1 hv M2 f2 t2 => nb M1 M2 _ 2 (by omega) f1 f2 ?_ (fun σ' s' z => ?_)) (fun e hv M2 v f2 t2 _ => nb M1 M2 _ 2 (by omega) f1 f2 ?_ (fun σ' s' z => ?_))
      · rw [hB, hv]; exact t2
      · rw [hB, hv] at z
        cases z
        exact ⟨v, rfl, rfl, rfl, rfl, rfl⟩
      · rw [hB, hv]; exact t2
      · rw [hB, hv] at z; cases z
    · have e : rTh (.inr ((), s)) (rWrd T n 14) = (.inl (1, sk T n s.1) : rs Unit) := by
        show rB (rWrd T n 14 s) _ = _
        unfold rWrd
        rw [if_neg q]; rfl
      rw [e] at t1
      have hB : stB T n σ s = .inl (1, sk T n s.1) := by unfold stB; rw [if_neg q1, if_neg q4, if_neg q8, if_neg (by omega), if_neg q13, if_neg q]
      refine k_no (tkF_n t1) (nb M1 M1 _ 2 (by omega) f1 (fG.rf M1) ?_ (fun σ' s' z => ?_))
      · rw [hB]; exact t1
      · rw [hB] at z; cases z
