/-! the class reads what is told: names, rows, programs -/
def fC (t a k : Nat) : Prop := (a = 6 ∧ 3 ≤ k) ∨ (a = 5 ∧ k = 4) ∨ (t ≤ a ∧ a < t + 15)
def tOk (t : Nat) : Prop := t = 14 ∨ t = 29
theorem fC_T {t : Nat} {M M' : pm} (f : fG fT M M') : fG (fC t) M M' := ⟨f.1, f.2.1, f.2.2.1, fun a k h => f.2.2.2 a k (fun q => h (Or.inl q))⟩
theorem fC_R {t : Nat} {M M' : pm} (f : fG (fR (t + 10)) M M') : fG (fC t) M M' := ⟨f.1, f.2.1, f.2.2.1, fun a k h => f.2.2.2 a k (fun q => h (by
  unfold fC
  rcases q with q | q | q
  · exact Or.inl q
  · omega
  · omega))⟩
def cPt (M : pm) (t L p : Nat) (o : Option (List Nat)) : Prop := match o with
  | none => mI M (t + 14) p = 0
  | some os => mI M (t + 14) p = 1 ∧ ∃ f, mI M (t + 12) p = nI f ∧ mI M (t + 13) p = nI (f + os.length) ∧ f + os.length ≤ L ∧ ∀ i c, os[i]? = some c → mI M (t + 11) (f + i) = clc c
def cRw (M : pm) (t : Nat) (σ : sg) : Prop :=
  (∀ i q, σ.2.1[i]? = some q → mI M (t + 1) i = nI (pkN q.1) ∧ mI M (t + 2) i = nI q.2.1 ∧ mI M (t + 3) i = nI q.2.2) ∧
  (∀ i q, σ.2.2.1[i]? = some q → mI M (t + 4) i = nI (pkN q.1) ∧ mI M (t + 5) i = nI q.2.1 ∧ mI M (t + 6) i = nI q.2.2.1 ∧ mI M (t + 7) i = nI q.2.2.2) ∧
  (∀ i q, σ.2.2.2.1[i]? = some q → mI M (t + 8) i = nI (pkN q.1) ∧ mI M (t + 9) i = nI q.2)
def cHd (M : pm) (t k : Nat) (σ : sg) : Prop := mI M t 0 = nI k ∧ mI M t 1 = nI σ.1.1 ∧ mI M t 2 = nI σ.1.2.1 ∧ mI M t 3 = nI σ.1.2.2 ∧ mI M t 4 = nI σ.2.1.length ∧ mI M t 8 = nI σ.2.2.1.length ∧ mI M t 13 = nI σ.2.2.2.1.length
/-- the station in the making -/
def cSt (M : pm) (t k : Nat) (σ : sg) (L : Nat) : Prop := tOk t ∧ k ≤ 81 ∧ cHd M t k σ ∧ cRw M t σ ∧ oPC M (t + 10) L ∧ mI M 5 3 = 0 ∧ okG σ ∧ ∀ p, p < 3 → cPt M t L p (σ.2.2.2.2 p)
/-- behind a fault -/
def cSx (M : pm) (t : Nat) : Prop := tOk t ∧ (∃ k, k ≤ 81 ∧ mI M t 0 = nI k) ∧ (∃ a, a ≤ 6 ∧ mI M t 4 = nI a) ∧ (∃ a, a ≤ 8 ∧ mI M t 8 = nI a) ∧ (∃ a, a ≤ 5 ∧ mI M t 13 = nI a) ∧ ∃ L, oPC M (t + 10) L
theorem cSx_of {M : pm} {t k : Nat} {σ : sg} {L : Nat} (h : cSt M t k σ L) : cSx M t := by
  obtain ⟨h1, h2, ⟨a1, a2, a3, a4, a5, a6, a7⟩, h4, h5, h6, ⟨o1, o2, o3, o4, o5, o6⟩, h8⟩ := h
  exact ⟨h1, ⟨k, h2, a1⟩, ⟨_, o3.1, a5⟩, ⟨_, o4.1, a6⟩, ⟨_, o5.1, a7⟩, ⟨L, h5⟩⟩
theorem tOk_p {t : Nat} (h : tOk t) : pOk (t + 10) := by unfold tOk at h; unfold pOk; omega
theorem rowT {t : Nat} (ht : tOk t) {M M' : pm} (f : fG fT M M') {a : Nat} (h : t ≤ a) : mI M' a = mI M a := f.row (fun k => by unfold fT; unfold tOk at ht; omega)
theorem cPt_c {M M' : pm} {t L p : Nat} {o : Option (List Nat)} (e : ∀ a, t + 11 ≤ a → a < t + 15 → mI M' a = mI M a) (h : cPt M t L p o) : cPt M' t L p o := by
  match o, h with
  | none, h =>
    show mI M' (t + 14) p = 0
    rw [e (t + 14) (by omega) (by omega)]; exact h
  | some os, h =>
    obtain ⟨h1, f, h2, h3, h4, h5⟩ := h
    exact ⟨by rw [e (t + 14) (by omega) (by omega)]; exact h1, f, by rw [e (t + 12) (by omega) (by omega)]; exact h2, by rw [e (t + 13) (by omega) (by omega)]; exact h3, h4, fun i c hi => by rw [e (t + 11) (by omega) (by omega)]; exact h5 i c hi⟩
theorem cRw_c {M M' : pm} {t : Nat} {σ : sg} (e : ∀ a, t + 1 ≤ a → a < t + 10 → mI M' a = mI M a) (h : cRw M t σ) : cRw M' t σ := by
  unfold cRw at h ⊢
  rw [e (t + 1) (by omega) (by omega), e (t + 2) (by omega) (by omega), e (t + 3) (by omega) (by omega), e (t + 4) (by omega) (by omega), e (t + 5) (by omega) (by omega), e (t + 6) (by omega) (by omega), e (t + 7) (by omega) (by omega), e (t + 8) (by omega) (by omega), e (t + 9) (by omega) (by omega)]
  exact h
theorem cSt_T {M M' : pm} {t k : Nat} {σ : sg} {L : Nat} (f : fG fT M M') (h : cSt M t k σ L) : cSt M' t k σ L := by
  obtain ⟨h1, h2, h3, h4, h5, h6, h7, h8⟩ := h
  refine ⟨h1, h2, ?_, cRw_c (fun a a1 a2 => rowT h1 f (by omega)) h4, oPC_T f h5, ?_, h7, fun p hp => cPt_c (fun a a1 a2 => rowT h1 f (by omega)) (h8 p hp)⟩
  · unfold cHd at h3 ⊢
    rw [rowT h1 f (Nat.le_refl t)]; exact h3
  · rw [f.2.2.2 5 3 (by unfold fT; omega)]; exact h6
theorem cSx_T {M M' : pm} {t : Nat} (f : fG fT M M') (h : cSx M t) : cSx M' t := by
  obtain ⟨h1, h2, h3, h4, h5, L, h6⟩ := h
  unfold cSx
  rw [rowT h1 f (Nat.le_refl t)]
  exact ⟨h1, h2, h3, h4, h5, L, oPC_T f h6⟩
theorem nm_eq {l r : List Nat} (h1 : okN l) (h2 : okN r) : nI (pkN l) = nI (pkN r) ↔ l = r := by
  have l1 := pkN_lt l h1.2.2
  have l2 := pkN_lt r h2.2.2
  have p1 : 32 ^ l.length ≤ 32 ^ 6 := Nat.pow_le_pow_right (by decide) h1.2.1
  have p2 : 32 ^ r.length ≤ 32 ^ 6 := Nat.pow_le_pow_right (by decide) h2.2.1
  have p3 : 32 ^ 6 = 2 ^ 30 := by decide
  rw [nI_eq (by omega) (by omega)]
  exact ⟨fun e => pkN_inj h1.2.2 h2.2.2 e, fun e => by rw [e]⟩
theorem idx_first {A : Type} {g : A → List Nat} {l : List Nat} : ∀ {L : List A} {i : Nat} {q : A}, L[i]? = some q → g q = l → (∀ j r, j < i → L[j]? = some r → g r ≠ l) → (L.map g).idxOf l = i ∧ l ∈ L.map g
  | x :: t, 0, q, h, e, _ => by
    cases h
    refine ⟨?_, List.mem_map.mpr ⟨_, List.mem_cons_self .., e⟩⟩
    rw [List.map_cons, List.idxOf_cons, e]
    simp
  | x :: t, i + 1, q, h, e, hn => by
    have a := idx_first (L := t) (i := i) (q := q) h e (fun j r hj hr => hn (j + 1) r (by omega) hr)
    refine ⟨?_, by rw [List.map_cons]; exact List.mem_cons_of_mem _ a.2⟩
    have h0 : g x ≠ l := hn 0 x (by omega) rfl
    rw [List.map_cons, List.idxOf_cons, a.1, show (g x == l) = false from beq_eq_false_iff_ne.mpr h0]
    rfl
theorem mem_at {A : Type} {g : A → List Nat} {l : List Nat} {L : List A} (h : l ∈ L.map g) : ∃ (i : Nat) (q : A), L[i]? = some q ∧ g q = l := by
  obtain ⟨q, h1, h2⟩ := List.mem_map.mp h
  obtain ⟨i, hi⟩ := List.getElem?_of_mem h1
  exact ⟨i, q, hi, h2⟩
theorem c_find {M : pm} {t k : Nat} {σ : sg} {L : Nat} (h : cSt M t k σ L) {l : List Nat} (hl : okN l) {Q : Int32 → pm → Prop} (k1 : l ∈ nmS σ → Q (nI ((nmS σ).idxOf l)) M) (k0 : l ∉ nmS σ → Q (-1) M) : w_X5_findSong t (nI (pkN l)) M Q := by
  obtain ⟨h1, h2, ⟨a1, a2, a3, a4, a5, a6, a7⟩, ⟨r1, r2, r3⟩, h5, h6, ⟨o1, o2, ⟨o3, o3'⟩, o4, o5, o6⟩, h8⟩ := h
  have key : ∀ d m i, i + d = σ.2.1.length → d < m → (∀ j r, j < i → σ.2.1[j]? = some r → r.1 ≠ l) → w_X5_findSong_2 m t (nI (pkN l)) (nI i) M Q := by
    intro d
    induction d with
    | zero =>
      intro m i hi hm hj
      obtain ⟨m, rfl⟩ : ∃ m', m = m' + 1 := ⟨m - 1, by omega⟩
      unfold w_X5_findSong_2
      rw [a5]
      refine k_yes (nI_le (by omega) (by omega)) (k0 (fun z => ?_))
      obtain ⟨j, q, j1, j2⟩ := mem_at z
      have := (List.getElem?_eq_some_iff.mp j1).1
      exact hj j q (by omega) j1 j2
    | succ d ih =>
      intro m i hi hm hj
      obtain ⟨m, rfl⟩ : ∃ m', m = m' + 1 := ⟨m - 1, by omega⟩
      have hq : σ.2.1[i]? = some (σ.2.1[i]'(by omega)) := List.getElem?_eq_getElem (by omega)
      generalize σ.2.1[i]'(by omega) = q at hq
      have hn := (o3' q (List.mem_of_getElem? hq)).1
      unfold w_X5_findSong_2
      rw [a5, nI_clamp (by omega), (r1 i q hq).1, nm_eq hn hl, nI_1]
      refine k_no (nI_ge (by omega) (by omega)) ⟨vp_in_nI (by omega) (by decide), fun z => ih m (i + 1) (by omega) (by omega) (fun j r hj2 hr => ?_), fun z => ?_⟩
      · by_cases e : j = i
        · rw [e, hq] at hr; cases hr; exact z
        · exact hj j r (by omega) hr
      · have e := idx_first (g := fun q : List Nat × Nat × Nat => q.1) hq z hj
        have := k1 e.2
        unfold nmS at this
        rw [e.1] at this
        exact this
  exact ⟨σ.2.1.length + 1, key σ.2.1.length _ 0 (by omega) (by omega) (fun j r hj => absurd hj (Nat.not_lt_zero _))⟩
theorem c_hasN {M : pm} {t k : Nat} {σ : sg} {L : Nat} (h : cSt M t k σ L) {l : List Nat} (hl : okN l) {Q : Int32 → pm → Prop} (k1 : l ∈ nms σ → Q 1 M) (k0 : l ∉ nms σ → Q 0 M) : w_X5_hasName t (nI (pkN l)) M Q := by
  have hs := h
  obtain ⟨h1, h2, ⟨a1, a2, a3, a4, a5, a6, a7⟩, ⟨r1, r2, r3⟩, h5, h6, ⟨o1, o2, o3, ⟨o4, o4'⟩, ⟨o5, o5'⟩, o6⟩, h8⟩ := h
  refine c_find hs hl (fun z => k_no (n_m1 ?_) (k1 (List.mem_append.mpr (Or.inl z)))) (fun z => k_yes rfl ?_)
  · have := List.idxOf_lt_length_of_mem z
    unfold nmS at this ⊢
    rw [List.length_map] at this
    have := o3.1
    omega
  have ears : l ∉ σ.2.2.1.map (fun q => q.1) → ∃ n8, w_X5_hasName_41 n8 t (nI (pkN l)) 0 M Q := fun z2 => by
    have key : ∀ d m i, i + d = σ.2.2.2.1.length → d < m → (∀ j r, j < i → σ.2.2.2.1[j]? = some r → r.1 ≠ l) → w_X5_hasName_41 m t (nI (pkN l)) (nI i) M Q := by
      intro d
      induction d with
      | zero =>
        intro m i hi hm hj
        obtain ⟨m, rfl⟩ : ∃ m', m = m' + 1 := ⟨m - 1, by omega⟩
        unfold w_X5_hasName_41
        rw [a7]
        refine k_yes (nI_le (by omega) (by omega)) (k0 (fun y => ?_))
        rcases List.mem_append.mp y with y | y
        · exact z y
        · rcases List.mem_append.mp y with y | y
          · exact z2 y
          · obtain ⟨j, q, j1, j2⟩ := mem_at y
            have := (List.getElem?_eq_some_iff.mp j1).1
            exact hj j q (by omega) j1 j2
      | succ d ih =>
        intro m i hi hm hj
        obtain ⟨m, rfl⟩ : ∃ m', m = m' + 1 := ⟨m - 1, by omega⟩
        have hq : σ.2.2.2.1[i]? = some (σ.2.2.2.1[i]'(by omega)) := List.getElem?_eq_getElem (by omega)
        generalize σ.2.2.2.1[i]'(by omega) = q at hq
        have hm2 := List.mem_of_getElem? hq
        unfold w_X5_hasName_41
        rw [a7, nI_clamp (by omega), (r3 i q hq).1, nm_eq (o5' q hm2).1 hl, nI_1]
        refine k_no (nI_ge (by omega) (by omega)) ⟨vp_in_nI (by omega) (by decide), fun y => ih m (i + 1) (by omega) (by omega) (fun j r hj2 hr => ?_), fun y => k1 (List.mem_append.mpr (Or.inr (List.mem_append.mpr (Or.inr (List.mem_map.mpr ⟨q, hm2, y⟩)))))⟩
        by_cases e : j = i
        · rw [e, hq] at hr; cases hr; exact y
        · exact hj j r (by omega) hr
    exact ⟨σ.2.2.2.1.length + 1, key σ.2.2.2.1.length _ 0 (by omega) (by omega) (fun j r hj => absurd hj (Nat.not_lt_zero _))⟩
  have key : ∀ d m i, i + d = σ.2.2.1.length → d < m → (∀ j r, j < i → σ.2.2.1[j]? = some r → r.1 ≠ l) → w_X5_hasName_13 m t (nI (pkN l)) (nI i) M (fun a0 x1 M6 => ∃ n8, w_X5_hasName_41 n8 a0 x1 0 M6 Q) Q := by
    intro d
    induction d with
    | zero =>
      intro m i hi hm hj
      obtain ⟨m, rfl⟩ : ∃ m', m = m' + 1 := ⟨m - 1, by omega⟩
      unfold w_X5_hasName_13
      rw [a6]
      refine k_yes (nI_le (by omega) (by omega)) (ears (fun y => ?_))
      obtain ⟨j, q, j1, j2⟩ := mem_at y
      have := (List.getElem?_eq_some_iff.mp j1).1
      exact hj j q (by omega) j1 j2
    | succ d ih =>
      intro m i hi hm hj
      obtain ⟨m, rfl⟩ : ∃ m', m = m' + 1 := ⟨m - 1, by omega⟩
      have hq : σ.2.2.1[i]? = some (σ.2.2.1[i]'(by omega)) := List.getElem?_eq_getElem (by omega)
      generalize σ.2.2.1[i]'(by omega) = q at hq
      have hm2 := List.mem_of_getElem? hq
      unfold w_X5_hasName_13
      rw [a6, nI_clamp (by omega), (r2 i q hq).1, nm_eq (o4' q hm2).1 hl, nI_1]
      refine k_no (nI_ge (by omega) (by omega)) ⟨vp_in_nI (by omega) (by decide), fun y => ih m (i + 1) (by omega) (by omega) (fun j r hj2 hr => ?_), fun y => k1 (List.mem_append.mpr (Or.inr (List.mem_append.mpr (Or.inl (List.mem_map.mpr ⟨q, hm2, y⟩)))))⟩
      by_cases e : j = i
      · rw [e, hq] at hr; cases hr; exact y
      · exact hj j r (by omega) hr
  exact ⟨σ.2.2.1.length + 1, key σ.2.2.1.length _ 0 (by omega) (by omega) (fun j r hj => absurd hj (Nat.not_lt_zero _))⟩
theorem okN_of {T : Nat → Nat} {n : Nat} {s t : ts} {l : List Nat} (h : rNam T n s = .inr (l, t)) : okN l := by
  have i := rNam_inv h
  exact ⟨i.2.2.2.1, i.2.2.2.2.1, i.2.2.2.2.2⟩
theorem c_new {M : pm} {T : Nat → Nat} {n : Nat} {s : ts} {t k : Nat} {σ : sg} {L : Nat} (ht : tkC M T n s) (h : cSt M t k σ L) {Q : Int32 → pm → Prop} (kk : ∀ M' v, fG fT M M' → tkG M' T n (rNew T n σ s) → (∀ l s', rNew T n σ s = .inr (l, s') → v = nI (pkN l)) → Q v M') : w_X3_readNewName t M Q := by
  refine c_stands ht (fun hr => k_no' (by decide) ?_) (fun e hr M1 f1 t1 => k_yes' rfl (kk M1 0 f1 ?_ (fun l s' q => ?_)))
  · have on := okN_of hr
    have e6 : mI M 6 6 = nI (pkN (tW T n s)) := ht.2.2.2.2.2.1 on.2.1
    rw [e6]
    have hN : rNew T n σ s = if tW T n s ∈ nms σ then .inl (3, sk T n s.1) else .inr (tW T n s, tX T n s) := by unfold rNew; rw [hr]; rfl
    refine c_hasN h on (fun z => k_no (by decide) (c_fail ht.2.2.2.2.2.2.1 3 (sk T n s.1) rfl ht.2.2.2.1 (by decide) (by decide) (fun M1 f1 t1 => c_takeS t1 (kk M1 _ f1 ?_ (fun l s' q => ?_))))) (fun z => k_yes rfl (c_take ht (fun M1 f1 t1 => kk M1 _ f1 ?_ (fun l s' q => ?_))))
    · rw [hN, if_pos z]; exact t1
    · rw [hN, if_pos z] at q; cases q
    · rw [hN, if_neg z]; exact t1
    · rw [hN, if_neg z] at q; cases q; rfl
  · unfold rNew
    rw [hr]; exact t1
  · unfold rNew at q
    rw [hr] at q; cases q
theorem s_max0 {i : Nat} (hi : i < 2 ^ 31) {M : pm} {Q : Int32 → pm → Prop} (k : Q (nI i) M) : w_J9_max_7cf53 (nI i) 0 M Q := k_no (nI_pos hi) k
theorem c_sng {A : Type} {M : pm} {T : Nat → Nat} {n : Nat} {r : rs A} {t k : Nat} {σ : sg} {L : Nat} (ht : tkG M T n r) (h : (∃ x s, r = .inr (x, s)) → cSt M t k σ L) {Q : Int32 → pm → Prop} (kk : ∀ M' v, fG fT M M' → tkG M' T n (rPr r (rSng T n σ)) → (∀ x s, rPr r (rSng T n σ) = .inr (x, s) → v = nI x.2) → Q v M') : w_X3_readSongName t M Q := by
  match r, ht, h, kk with
  | .inl e, ht, h, kk => exact c_standsS ht (fun M1 f1 t1 => k_yes' rfl (kk M1 _ f1 t1 (fun x s q => by cases q)))
  | .inr (x, s), ht, h, kk =>
    have h := h ⟨x, s, rfl⟩
    have ht : tkC M T n s := ht
    have hP : ∀ r', rSng T n σ s = r' → rPr (.inr (x, s)) (rSng T n σ) = rB r' (fun y s' => .inr ((x, y), s')) := fun r' e => by
      show rB (rSng T n σ s) _ = _
      rw [e]
    refine c_stands ht (fun hr => k_no' (by decide) ?_) (fun e hr M1 f1 t1 => k_yes' rfl (kk M1 0 f1 ?_ (fun l s' q => ?_)))
    · have on := okN_of hr
      have e6 : mI M 6 6 = nI (pkN (tW T n s)) := ht.2.2.2.2.2.1 on.2.1
      rw [e6]
      have hN : rSng T n σ s = if tW T n s ∈ nmS σ then .inr ((nmS σ).idxOf (tW T n s), tX T n s) else .inl (3, sk T n s.1) := by unfold rSng; rw [hr]; rfl
      refine c_find h on (fun z => ?_) (fun z => k_yes' rfl (c_fail ht.2.2.2.2.2.2.1 3 (sk T n s.1) rfl ht.2.2.2.1 (by decide) (by decide) (fun M1 f1 t1 => c_takeS t1 (k_yes (by decide) (kk M1 _ f1 ?_ (fun l s' q => ?_))))))
      · have hlt := List.idxOf_lt_length_of_mem z
        have o3 := h.2.2.2.2.2.2.1.2.2.1.1
        have hlt : (nmS σ).idxOf (tW T n s) < 6 := by
          unfold nmS at hlt ⊢
          rw [List.length_map] at hlt
          omega
        rw [if_pos z] at hN
        refine k_no' (n_m1 (by omega)) (c_take ht (fun M1 f1 t1 => s_max0 (by omega) (kk M1 _ f1 ?_ (fun l s' q => ?_))))
        · rw [hP _ hN]; exact t1
        · rw [hP _ hN] at q; cases q; rfl
      · rw [if_neg z] at hN
        rw [hP _ hN]; exact t1
      · rw [if_neg z] at hN
        rw [hP _ hN] at q; cases q
    · have hN : rSng T n σ s = .inl e := by unfold rSng; rw [hr]; rfl
      rw [hP _ hN]; exact t1
    · have hN : rSng T n σ s = .inl e := by unfold rSng; rw [hr]; rfl
      rw [hP _ hN] at q; cases q
