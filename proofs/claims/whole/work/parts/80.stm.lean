/-! the reference reads what is told: names, rows -/
def fMa (a k : Nat) : Prop := (a = 277 ∧ (k = 2 ∨ k = 4 ∨ k = 5 ∨ k = 6 ∨ k = 38 ∨ k = 48 ∨ k = 49 ∨ k = 51 ∨ k = 96 ∨ k = 98 ∨ k = 99 ∨ k = 100)) ∨ ((a = 308 ∨ a = 309 ∨ a = 314 ∨ a = 315) ∧ k < 3) ∨ (a = 311 ∧ k < 12) ∨ a = 312 ∨ (a = 313 ∧ k < 5) ∨ (a = 316 ∧ k < 1600) ∨ a = 349 ∨ a = 350
def fN (M M' : pm) : Prop := mL M' = mL M ∧ mR M' = mR M ∧ (∀ a k, ¬ (a = 310 ∧ k < 24) → mJ M' a k = mJ M a k) ∧ ∀ a k, ¬ fMa a k → mI M' a k = mI M a k
theorem fN.rf (M : pm) : fN M M := ⟨rfl, rfl, fun _ _ _ => rfl, fun _ _ _ => rfl⟩
theorem fN.tr {M M1 M2 : pm} (h : fN M M1) (g : fN M1 M2) : fN M M2 := ⟨g.1.trans h.1, g.2.1.trans h.2.1, fun a k q => (g.2.2.1 a k q).trans (h.2.2.1 a k q), fun a k q => (g.2.2.2 a k q).trans (h.2.2.2 a k q)⟩
theorem fN.up {M M1 : pm} (h : fN M M1) {a k : Nat} (q : fMa a k) (v : Int32) : fN M (sI M1 a k v) := ⟨h.1, h.2.1, h.2.2.1, fun b j hb => by rw [rI (fun z => hb (by rw [z.1, z.2]; exact q))]; exact h.2.2.2 b j hb⟩
theorem fN.uj {M M1 : pm} (h : fN M M1) {k : Nat} (q : k < 24) (v : Int64) : fN M (sJ M1 310 k v) := ⟨h.1, h.2.1, fun b j hb => by rw [rJ (fun z => hb ⟨z.1, by omega⟩)]; exact h.2.2.1 b j hb, h.2.2.2⟩
theorem fN_G {A : Nat → Nat → Prop} {M M' : pm} (f : fG A M M') (h : ∀ a k, A a k → fMa a k) : fN M M' := ⟨f.1, f.2.1, fun a k _ => by rw [f.2.2.1], fun a k q => f.2.2.2 a k (fun z => q (h a k z))⟩
theorem fU_Ma : ∀ a k, fU a k → fMa a k := fun a k h => by unfold fU at h; unfold fMa; omega
theorem fQ_Ma : ∀ a k, fQ a k → fMa a k := fun a k h => by
  unfold fMa
  rcases h with h | h | h | h
  · unfold fU at h; omega
  · omega
  · omega
  · omega
theorem fN_U {M M' : pm} (f : fG fU M M') : fN M M' := fN_G f fU_Ma
theorem fN_Q {M M' : pm} (f : fG fQ M M') : fN M M' := fN_G f fQ_Ma
def mPt (M : pm) (cd p : Nat) (o : Option (List Nat)) : Prop := match o with
  | none => mI M 314 p = -1
  | some os => ∃ g, mI M 314 p = nI g ∧ mI M 315 p = nI (g + os.length) ∧ g + os.length ≤ cd ∧ ∀ i c, os[i]? = some c → mI M 316 (g + i) = nI c
def mRw (M : pm) (σ : sg) : Prop :=
  (∀ i q, σ.2.1[i]? = some q → mJ M 310 i = lN (b27 q.1) ∧ mI M 311 (2 * i) = nI q.2.1 ∧ mI M 311 (2 * i + 1) = nI q.2.2) ∧
  (∀ i q, σ.2.2.1[i]? = some q → mJ M 310 (8 + i) = lN (b27 q.1) ∧ mI M 312 (3 * i) = nI q.2.1 ∧ mI M 312 (3 * i + 1) = nI q.2.2.1 ∧ mI M 312 (3 * i + 2) = nI q.2.2.2) ∧
  (∀ i q, σ.2.2.2.1[i]? = some q → mJ M 310 (16 + i) = lN (b27 q.1) ∧ mI M 313 i = nI q.2)
def mHd (M : pm) (σ : sg) : Prop := mI M 308 0 = nI σ.1.1 ∧ mI M 308 1 = nI σ.1.2.1 ∧ mI M 308 2 = nI σ.1.2.2 ∧ mI M 309 0 = nI σ.2.1.length ∧ mI M 309 1 = nI σ.2.2.1.length ∧ mI M 309 2 = nI σ.2.2.2.1.length
def mSt (M : pm) (σ : sg) (cd : Nat) : Prop := mHd M σ ∧ mRw M σ ∧ mI M 277 48 = nI cd ∧ cd ≤ 1600 ∧ okG σ ∧ ∀ p, p < 3 → mPt M cd p (σ.2.2.2.2 p)
/-- rows that reading tokens, sums and tests leaves -/
theorem mSt_c {M M' : pm} {σ : sg} {cd : Nat} (e : ∀ a, 308 ≤ a → a < 317 → mI M' a = mI M a) (ej : mJ M' 310 = mJ M 310) (e48 : mI M' 277 48 = mI M 277 48) (h : mSt M σ cd) : mSt M' σ cd := by
  obtain ⟨h1, h2, h3, h4, h5, h6⟩ := h
  refine ⟨?_, ?_, by rw [e48]; exact h3, h4, h5, fun p hp => ?_⟩
  · unfold mHd at h1 ⊢
    rw [e 308 (by omega) (by omega), e 309 (by omega) (by omega)]; exact h1
  · unfold mRw at h2 ⊢
    rw [ej, e 311 (by omega) (by omega), e 312 (by omega) (by omega), e 313 (by omega) (by omega)]; exact h2
  · have := h6 p hp
    unfold mPt at this ⊢
    rw [e 314 (by omega) (by omega), e 315 (by omega) (by omega), e 316 (by omega) (by omega)]
    exact this
theorem mSt_U {M M' : pm} {σ : sg} {cd : Nat} (f : fG fU M M') (h : mSt M σ cd) : mSt M' σ cd := mSt_c (fun a b1 b2 => f.row (fun k => by unfold fU; omega)) (by rw [f.2.2.1]) (f.2.2.2 277 48 (by unfold fU; omega)) h
theorem mSt_Q {M M' : pm} {σ : sg} {cd : Nat} (f : fG fQ M M') (h : mSt M σ cd) : mSt M' σ cd := mSt_c (fun a b1 b2 => f.row (fun k => by unfold fQ fU; omega)) (by rw [f.2.2.1]) (f.2.2.2 277 48 (by unfold fQ fU; omega)) h
theorem nm_eqM {l r : List Nat} (h1 : okN l) (h2 : okN r) : lN (b27 l) = lN (b27 r) ↔ l = r := by
  have l1 := b27_lt h1.2.1 h1.2.2
  have l2 := b27_lt h2.2.1 h2.2.2
  have p : 27 ^ 6 < 2 ^ 31 := by decide
  rw [lN_eq (by omega) (by omega)]
  exact ⟨fun e => b27_inj h1.2.2 h2.2.2 e, fun e => by rw [e]⟩
/-- the names of one kind -/
def nmK (σ : sg) : Nat → List (List Nat)
  | 0 => nmS σ
  | 1 => σ.2.2.1.map (fun q => q.1)
  | _ => σ.2.2.2.1.map (fun q => q.1)
theorem nms_K (σ : sg) (l : List Nat) : l ∈ nms σ ↔ l ∈ nmK σ 0 ∨ l ∈ nmK σ 1 ∨ l ∈ nmK σ 2 := by
  unfold nms
  rw [List.mem_append, List.mem_append]; rfl
theorem nmK_M {M : pm} {σ : sg} {cd : Nat} (h : mSt M σ cd) {j : Nat} (hj : j < 3) : mI M 309 j = nI (nmK σ j).length ∧ (nmK σ j).length ≤ 8 ∧ ∀ i l, (nmK σ j)[i]? = some l → mJ M 310 (8 * j + i) = lN (b27 l) ∧ okN l := by
  obtain ⟨⟨a1, a2, a3, a4, a5, a6⟩, ⟨r1, r2, r3⟩, h3, h4, ⟨o1, o2, ⟨o3, o3'⟩, ⟨o4, o4'⟩, ⟨o5, o5'⟩, o6⟩, h6⟩ := h
  rcases (show j = 0 ∨ j = 1 ∨ j = 2 from by omega) with rfl | rfl | rfl
  · refine ⟨by show _ = nI (List.map _ _).length; rw [List.length_map]; exact a4, by show (List.map _ _).length ≤ 8; rw [List.length_map]; omega, fun i l hl => ?_⟩
    have hl : (List.map (fun q => q.1) σ.2.1)[i]? = some l := hl
    rw [List.getElem?_map] at hl
    cases hq : σ.2.1[i]? with
    | none => rw [hq] at hl; cases hl
    | some q =>
      rw [hq] at hl
      cases hl
      have := (r1 i q hq).1
      exact ⟨by rw [show 8 * 0 + i = i from by omega]; exact this, (o3' q (List.mem_of_getElem? hq)).1⟩
  · refine ⟨by show _ = nI (List.map _ _).length; rw [List.length_map]; exact a5, by show (List.map _ _).length ≤ 8; rw [List.length_map]; omega, fun i l hl => ?_⟩
    have hl : (List.map (fun q => q.1) σ.2.2.1)[i]? = some l := hl
    rw [List.getElem?_map] at hl
    cases hq : σ.2.2.1[i]? with
    | none => rw [hq] at hl; cases hl
    | some q =>
      rw [hq] at hl
      cases hl
      exact ⟨(r2 i q hq).1, (o4' q (List.mem_of_getElem? hq)).1⟩
  · refine ⟨by show _ = nI (List.map _ _).length; rw [List.length_map]; exact a6, by show (List.map _ _).length ≤ 8; rw [List.length_map]; omega, fun i l hl => ?_⟩
    have hl : (List.map (fun q => q.1) σ.2.2.2.1)[i]? = some l := hl
    rw [List.getElem?_map] at hl
    cases hq : σ.2.2.2.1[i]? with
    | none => rw [hq] at hl; cases hl
    | some q =>
      rw [hq] at hl
      cases hl
      exact ⟨(r3 i q hq).1, (o5' q (List.mem_of_getElem? hq)).1⟩
theorem m_nnF {M : pm} {e : Nat × Nat} (h : tkF M e) {σ : sg} {cd : Nat} (hs : mSt M σ cd) {j : Nat} (hj : j < 3) {v : Int64} {K : Int64 → Int32 → pm → Prop} {Q : Int64 → pm → Prop} (k : K v (nI j) M) : ∀ (d m i : Nat), i + d = (nmK σ j).length → d < m → w_X8_newName_15 m v (nI j) (nI i) M K Q
  | 0, m, i, hi, hm => by
    obtain ⟨m, rfl⟩ : ∃ m', m = m' + 1 := ⟨m - 1, by omega⟩
    obtain ⟨a1, a2, a3⟩ := nmK_M hs hj
    unfold w_X8_newName_15
    rw [nI_clamp (by omega), a1]
    exact ⟨vp_in_nI (by omega) (by decide), k_yes (nI_le (by omega) (by omega)) k⟩
  | d + 1, m, i, hi, hm => by
    obtain ⟨m, rfl⟩ : ∃ m', m = m' + 1 := ⟨m - 1, by omega⟩
    obtain ⟨a1, a2, a3⟩ := nmK_M hs hj
    unfold w_X8_newName_15
    rw [nI_clamp (by omega), a1, nI_1]
    exact ⟨vp_in_nI (by omega) (by decide), k_no (nI_ge (by omega) (by omega)) (k_no' (tkF_n h) (m_nnF h hs hj k d m (i + 1) (by omega) (by omega)))⟩
theorem m_nn15 {M : pm} {T : Nat → Nat} {n : Nat} {s : ts} (h : tkM M T n s) {σ : sg} {cd : Nat} (hs : mSt M σ cd) {j : Nat} (hj : j < 3) {l : List Nat} (hl : okN l) {p : Nat} (hp : mI M 277 38 = nI p) {K : Int64 → Int32 → pm → Prop} {Q : Int64 → pm → Prop} (k1 : l ∈ nmK σ j → ∀ M', fG fU M M' → tkF M' (3, p) → K (lN (b27 l)) (nI j) M') (k0 : l ∉ nmK σ j → K (lN (b27 l)) (nI j) M) : ∀ (d m i : Nat), i + d = (nmK σ j).length → d < m → (∀ a r, a < i → (nmK σ j)[a]? = some r → r ≠ l) → w_X8_newName_15 m (lN (b27 l)) (nI j) (nI i) M K Q
  | 0, m, i, hi, hm, hn => by
    obtain ⟨m, rfl⟩ : ∃ m', m = m' + 1 := ⟨m - 1, by omega⟩
    obtain ⟨a1, a2, a3⟩ := nmK_M hs hj
    unfold w_X8_newName_15
    rw [nI_clamp (by omega), a1]
    refine ⟨vp_in_nI (by omega) (by decide), k_yes (nI_le (by omega) (by omega)) (k0 (fun z => ?_))⟩
    obtain ⟨a, ha⟩ := List.getElem?_of_mem z
    have := (List.getElem?_eq_some_iff.mp ha).1
    exact hn a l (by omega) ha rfl
  | d + 1, m, i, hi, hm, hn => by
    obtain ⟨m, rfl⟩ : ∃ m', m = m' + 1 := ⟨m - 1, by omega⟩
    obtain ⟨a1, a2, a3⟩ := nmK_M hs hj
    have hq : (nmK σ j)[i]? = some ((nmK σ j)[i]'(by omega)) := List.getElem?_eq_getElem (by omega)
    generalize (nmK σ j)[i]'(by omega) = q at hq
    obtain ⟨b1, b2⟩ := a3 i q hq
    unfold w_X8_newName_15
    rw [nI_clamp (by omega), a1, nI_1, show (8 : Int32) * nI j = nI (8 * j) from pk_mul 8 j, nI_add, nI_clamp (by omega), b1, nm_eqM b2 hl]
    refine ⟨vp_in_nI (by omega) (by decide), k_no (nI_ge (by omega) (by omega)) (k_yes' h.2.2.1 ⟨vp_in_nI (by omega) (by decide), fun z => m_nn15 h hs hj hl hp k1 k0 d m (i + 1) (by omega) (by omega) (fun a r ha hr => ?_), fun z => m_fail h.2.2.1 3 p rfl hp (by decide) (by decide) (fun M1 f1 t1 => ?_)⟩)⟩
    · by_cases e : a = i
      · rw [e, hq] at hr; cases hr; exact z
      · exact hn a r (by omega) hr
    · exact m_nnF t1 (mSt_U f1 hs) hj (k1 (by rw [← z]; exact List.mem_of_getElem? hq) M1 f1 t1) d m (i + 1) (by omega) (by omega)
theorem m_new {M : pm} {T : Nat → Nat} {n : Nat} {s : ts} {σ : sg} {cd : Nat} (ht : tkM M T n s) (h : mSt M σ cd) {Q : Int64 → pm → Prop} (kk : ∀ M' v, fG fU M M' → tkH M' T n (rNew T n σ s) → (∀ l s', rNew T n σ s = .inr (l, s') → v = lN (b27 l)) → Q v M') : w_X8_newName M Q := by
  -- once it has failed
  have bad : ∀ (M1 : pm) (e : Nat × Nat) (v : Int64), fG fU M M1 → tkF M1 e → rNew T n σ s = .inl e → ∀ (d m j : Nat), j + d = 3 → d < m → w_X8_newName_7 m v (nI j) M1 Q := by
    intro M1 e v f1 t1 hr d
    induction d with
    | zero =>
      intro m j hj hm
      obtain ⟨m, rfl⟩ : ∃ m', m = m' + 1 := ⟨m - 1, by omega⟩
      unfold w_X8_newName_7
      exact k_yes (nI_le (a := 3) (by omega) (by omega)) (kk M1 v f1 (by rw [hr]; exact t1) (fun l s' z => by rw [hr] at z; cases z))
    | succ d ih =>
      intro m j hj hm
      obtain ⟨m, rfl⟩ : ∃ m', m = m' + 1 := ⟨m - 1, by omega⟩
      unfold w_X8_newName_7
      refine k_no (nI_ge (b := 3) (by omega) (by decide)) ⟨(nmK σ j).length + 1, m_nnF t1 (mSt_U f1 h) (by omega) ?_ (nmK σ j).length _ 0 (by omega) (by omega)⟩
      rw [nI_1]
      exact ih m (j + 1) (by omega) (by omega)
  refine m_nam0 ht (fun hr M1 f1 t1 e38 => ?_) (fun e hr M1 f1 t1 => ⟨4, bad M1 e 0 f1 t1 (by unfold rNew; rw [hr]; rfl) 3 4 0 (by decide) (by decide)⟩)
  have on := okN_of hr
  have hN : rNew T n σ s = if tW T n s ∈ nms σ then .inl (3, sk T n s.1) else .inr (tW T n s, tX T n s) := by unfold rNew; rw [hr]; rfl
  have good : ∀ (d m j : Nat), j + d = 3 → d < m → (∀ a, a < j → tW T n s ∉ nmK σ a) → w_X8_newName_7 m (lN (b27 (tW T n s))) (nI j) M1 Q := by
    intro d
    induction d with
    | zero =>
      intro m j hj hm hn
      obtain ⟨m, rfl⟩ : ∃ m', m = m' + 1 := ⟨m - 1, by omega⟩
      have nin : tW T n s ∉ nms σ := fun z => by
        rcases (nms_K σ _).mp z with z | z | z
        · exact hn 0 (by omega) z
        · exact hn 1 (by omega) z
        · exact hn 2 (by omega) z
      rw [if_neg nin] at hN
      unfold w_X8_newName_7
      refine k_yes (nI_le (a := 3) (by omega) (by omega)) (kk M1 _ f1 (by rw [hN]; exact t1) (fun l s' z => ?_))
      rw [hN] at z; cases z; rfl
    | succ d ih =>
      intro m j hj hm hn
      obtain ⟨m, rfl⟩ : ∃ m', m = m' + 1 := ⟨m - 1, by omega⟩
      unfold w_X8_newName_7
      refine k_no (nI_ge (b := 3) (by omega) (by decide)) ⟨(nmK σ j).length + 1, m_nn15 t1 (mSt_U f1 h) (by omega) on e38 (fun z M2 f2 t2 => ?_) (fun z => ?_) (nmK σ j).length _ 0 (by omega) (by omega) (fun a r ha => absurd ha (Nat.not_lt_zero _))⟩
      · have yin : tW T n s ∈ nms σ := by
          rw [nms_K]
          rcases (show j = 0 ∨ j = 1 ∨ j = 2 from by omega) with rfl | rfl | rfl
          · exact Or.inl z
          · exact Or.inr (Or.inl z)
          · exact Or.inr (Or.inr z)
        rw [if_pos yin] at hN
        rw [nI_1]
        exact bad M2 _ _ (f1.tr f2) t2 hN d m (j + 1) (by omega) (by omega)
      · rw [nI_1]
        refine ih m (j + 1) (by omega) (by omega) (fun a ha => ?_)
        by_cases e : a = j
        · rw [e]; exact z
        · exact hn a (by omega)
  exact ⟨4, good 3 4 0 (by decide) (by decide) (fun a ha => absurd ha (Nat.not_lt_zero _))⟩
theorem m_sng {A : Type} {M : pm} {T : Nat → Nat} {n : Nat} {r : rs A} {σ : sg} {cd : Nat} (ht : tkH M T n r) (h : mSt M σ cd) {Q : Int32 → pm → Prop} (kk : ∀ M' v, fG fU M M' → tkH M' T n (rPr r (rSng T n σ)) → (∀ x s, rPr r (rSng T n σ) = .inr (x, s) → v = nI x.2) → Q v M') : w_X8_songNamed M Q := by
  -- with a fault ahead of it
  have bad : ∀ (M1 : pm) (e : Nat × Nat) (v : Int64), fG fU M M1 → tkF M1 e → rPr r (rSng T n σ) = .inl e → ∀ (d m i : Nat), i + d = (nmK σ 0).length → d < m → w_X8_songNamed_7 m v (nI i) M1 Q := by
    intro M1 e v f1 t1 hr d
    have fin : ∀ y : Int32, Q y M1 := fun y => kk M1 y f1 (by rw [hr]; exact t1) (fun l s' z => by rw [hr] at z; cases z)
    obtain ⟨a1, a2, a3⟩ := nmK_M (mSt_U f1 h) (j := 0) (by decide)
    induction d with
    | zero =>
      intro m i hi hm
      obtain ⟨m, rfl⟩ : ∃ m', m = m' + 1 := ⟨m - 1, by omega⟩
      unfold w_X8_songNamed_7
      rw [a1]
      exact k_yes (nI_le (by omega) (by omega)) (k_no' (tkF_n t1) (fin _))
    | succ d ih =>
      intro m i hi hm
      obtain ⟨m, rfl⟩ : ∃ m', m = m' + 1 := ⟨m - 1, by omega⟩
      unfold w_X8_songNamed_7
      rw [a1, nI_1]
      exact k_no (nI_ge (by omega) (by omega)) ⟨vp_in_nI (by omega) (by decide), fun _ => ih m (i + 1) (by omega) (by omega), fun _ => fin _⟩
  match r, ht, kk, bad with
  | .inl e, ht, kk, bad => exact m_namF ht ⟨(nmK σ 0).length + 1, bad M e 0 (fG.rf M) ht rfl (nmK σ 0).length _ 0 (by omega) (by omega)⟩
  | .inr (x, s), ht, kk, bad =>
    have ht : tkM M T n s := ht
    have hP : ∀ r', rSng T n σ s = r' → rPr (.inr (x, s)) (rSng T n σ) = rB r' (fun y s' => .inr ((x, y), s')) := fun r' e => by
      show rB (rSng T n σ s) _ = _
      rw [e]
    refine m_nam0 ht (fun hr M1 f1 t1 e38 => ?_) (fun e hr M1 f1 t1 => ⟨(nmK σ 0).length + 1, bad M1 e 0 f1 t1 (hP (.inl e) (by unfold rSng; rw [hr]; rfl)) (nmK σ 0).length _ 0 (by omega) (by omega)⟩)
    have on := okN_of hr
    have hN : rSng T n σ s = if tW T n s ∈ nmS σ then .inr ((nmS σ).idxOf (tW T n s), tX T n s) else .inl (3, sk T n s.1) := by unfold rSng; rw [hr]; rfl
    obtain ⟨a1, a2, a3⟩ := nmK_M (mSt_U f1 h) (j := 0) (by decide)
    have good : ∀ (d m i : Nat), i + d = (nmK σ 0).length → d < m → (∀ a r, a < i → (nmK σ 0)[a]? = some r → r ≠ tW T n s) → w_X8_songNamed_7 m (lN (b27 (tW T n s))) (nI i) M1 Q := by
      intro d
      induction d with
      | zero =>
        intro m i hi hm hn
        obtain ⟨m, rfl⟩ : ∃ m', m = m' + 1 := ⟨m - 1, by omega⟩
        have nin : tW T n s ∉ nmS σ := fun z => by
          obtain ⟨a, ha⟩ := List.getElem?_of_mem z
          have := (List.getElem?_eq_some_iff.mp ha).1
          exact hn a _ (by show a < i; have h3 : (nmS σ).length = i := by (have : i + 0 = (nmS σ).length := hi); omega
                           omega) ha rfl
        rw [if_neg nin] at hN
        unfold w_X8_songNamed_7
        rw [a1]
        refine k_yes (nI_le (by omega) (by omega)) (k_yes' t1.2.2.1 (m_fail t1.2.2.1 3 (sk T n s.1) rfl e38 (by decide) (by decide) (fun M2 f2 t2 => kk M2 _ (f1.tr f2) (by rw [hP _ hN]; exact t2) (fun l s' z => by rw [hP _ hN] at z; cases z))))
      | succ d ih =>
        intro m i hi hm hn
        obtain ⟨m, rfl⟩ : ∃ m', m = m' + 1 := ⟨m - 1, by omega⟩
        have hq : (nmK σ 0)[i]? = some ((nmK σ 0)[i]'(by omega)) := List.getElem?_eq_getElem (by omega)
        generalize (nmK σ 0)[i]'(by omega) = q at hq
        obtain ⟨b1, b2⟩ := a3 i q hq
        rw [show 8 * 0 + i = i from by omega] at b1
        unfold w_X8_songNamed_7
        rw [a1, nI_clamp (by omega), b1, nm_eqM b2 on, nI_1]
        refine k_no (nI_ge (by omega) (by omega)) ⟨vp_in_nI (by omega) (by decide), fun z => ih m (i + 1) (by omega) (by omega) (fun a r ha hr => ?_), fun z => ?_⟩
        · by_cases e : a = i
          · rw [e, hq] at hr; cases hr; exact z
          · exact hn a r (by omega) hr
        · have e := idx_first (g := fun q : List Nat => q) (L := nmS σ) (i := i) (q := q) hq z (fun j r hj hr => hn j r hj hr)
          rw [List.map_id'] at e
          rw [if_pos e.2] at hN
          refine kk M1 _ f1 (by rw [hP _ hN]; exact t1) (fun l s' y => ?_)
          rw [hP _ hN] at y
          cases y
          show nI i = nI ((nmS σ).idxOf (tW T n s))
          rw [e.1]
    exact ⟨(nmK σ 0).length + 1, good (nmK σ 0).length _ 0 (by omega) (by omega) (fun a r ha => absurd ha (Nat.not_lt_zero _))⟩
