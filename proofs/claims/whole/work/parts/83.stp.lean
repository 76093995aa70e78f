/-! the reference reads a station: all of it -/
def mQ3 (M : pm) (T : Nat → Nat) (n : Nat) (r : rs (Nat × sg)) (M' : pm) : Prop := fN M M' ∧ tkH M' T n r ∧ ∀ k σ' s', r = .inr ((k, σ'), s') → mI M' 277 49 = nI k ∧ ∃ cd, mSt M' σ' cd
theorem m_88F {M : pm} {e : Nat × Nat} (h : tkF M e) {m : Nat} (hm : 1 ≤ m) {K : pm → Prop} {Q : Int32 → pm → Prop} (k : K M) : w_X8_station_88 m M K Q := by
  obtain ⟨m, rfl⟩ : ∃ m', m = m' + 1 := ⟨m - 1, by omega⟩
  unfold w_X8_station_88
  exact k_no' (tkF_n h) k
theorem m_lpSt {T : Nat → Nat} {n : Nat} {M0 : pm} {K : pm → Prop} {Q : Int32 → pm → Prop} : ∀ (d m k : Nat) (M : pm) (σ : sg) (s : ts) (cd : Nat), k + d = 80 → d + 2 ≤ m → mI M 277 49 = nI k → tkM M T n s → mSt M σ cd → cd + 7 ≤ s.1 → fN M0 M → (∀ M', mQ3 M0 T n (sLp T n d k σ s) M' → K M') → w_X8_station_88 m M K Q := by
  intro d
  induction d with
  | zero =>
    intro m k M σ s cd hi hm hk ht h hcd f kk
    obtain ⟨m, rfl⟩ : ∃ m', m = m' + 1 := ⟨m - 1, by omega⟩
    have e80 : k = 80 := by omega
    unfold w_X8_station_88
    refine k_yes' ht.2.2.1 (m_look ht (fun M1 f1 t1 => ?_))
    have e49 : mI M1 277 49 = nI k := by rw [f1.2.2.2 277 49 (by unfold fU; omega)]; exact hk
    rw [lk_e t1.1.1]
    refine ⟨fun q => kk M1 ⟨f.tr (fN_U f1), ?_, fun k' σ' s' z => ?_⟩, fun q => ?_⟩
    · unfold sLp; rw [if_pos q]; exact t1.1
    · unfold sLp at z; rw [if_pos q] at z; cases z; exact ⟨e49, cd, mSt_U f1 h⟩
    · unfold w_X8_statementTold
      rw [e49, e80]
      refine k_yes' rfl (m_fail t1.1.2.2.1 5 (sk T n s.1) rfl t1.2 (by decide) (by decide) (fun M2 f2 t2 => m_88F t2 (by omega) (kk M2 ⟨(f.tr (fN_U f1)).tr (fN_U f2), ?_, fun k' σ' s' z => ?_⟩)))
      · unfold sLp; rw [if_neg q]; exact t2
      · unfold sLp at z; rw [if_neg q] at z; cases z
  | succ d ih =>
    intro m k M σ s cd hi hm hk ht h hcd f kk
    obtain ⟨m, rfl⟩ : ∃ m', m = m' + 1 := ⟨m - 1, by omega⟩
    unfold w_X8_station_88
    refine k_yes' ht.2.2.1 (m_look ht (fun M1 f1 t1 => ?_))
    have e49 : mI M1 277 49 = nI k := by rw [f1.2.2.2 277 49 (by unfold fU; omega)]; exact hk
    rw [lk_e t1.1.1]
    refine ⟨fun q => kk M1 ⟨f.tr (fN_U f1), ?_, fun k' σ' s' z => ?_⟩, fun q => m_stm e49 (by omega) t1 (mSt_U f1 h) hcd (fun M2 c2 => ?_)⟩
    · unfold sLp; rw [if_pos q]; exact t1.1
    · unfold sLp at z; rw [if_pos q] at z; cases z; exact ⟨e49, cd, mSt_U f1 h⟩
    · obtain ⟨c1, c2, c3⟩ := c2
      have e : sLp T n (d + 1) k σ s = rB (stm T n σ s) (fun σ' s' => sLp T n d (k + 1) σ' s') := by
        show (if tK T n s = 5 then _ else _) = _
        rw [if_neg q]
      have f2 := (f.tr (fN_U f1)).tr c1
      cases hr : stm T n σ s with
      | inl e1 =>
        rw [hr] at c2 e
        have e : sLp T n (d + 1) k σ s = .inl e1 := e
        exact m_88F c2 (by omega) (kk M2 ⟨f2, by rw [e]; exact c2, fun k' σ' s' z => (by rw [e] at z; cases z)⟩)
      | inr x =>
        obtain ⟨σ1, s1⟩ := x
        obtain ⟨k2, cd2, l1, l2⟩ := c3 σ1 s1 hr
        rw [hr] at c2 e
        have e : sLp T n (d + 1) k σ s = sLp T n d (k + 1) σ1 s1 := e
        exact ih m (k + 1) M2 σ1 s1 cd2 (by omega) (by omega) k2 c2 l2 l1 f2 (fun M' c' => kk M' (by rw [e]; exact c'))
/-- nothing told yet -/
def mS0 (M : pm) : Prop := mI M 308 1 = 0 ∧ mI M 308 2 = 0 ∧ (∀ j, j < 3 → mI M 309 j = 0 ∧ mI M 314 j = -1) ∧ mI M 277 48 = 0
theorem mS0_st {M : pm} (h : mS0 M) (v : Nat) : mSt (sI M 308 0 (nI v)) ((v, 0, 0), [], [], [], fun _ => none) 0 := by
  obtain ⟨h1, h2, h3, h4⟩ := h
  refine ⟨⟨rIs _ _ _ _, by rw [rI (by omega)]; exact h1, by rw [rI (by omega)]; exact h2, by rw [rI (by omega)]; exact (h3 0 (by decide)).1, by rw [rI (by omega)]; exact (h3 1 (by decide)).1, by rw [rI (by omega)]; exact (h3 2 (by decide)).1⟩, ⟨fun i q hq => (by cases hq), fun i q hq => (by cases hq), fun i q hq => (by cases hq)⟩, by rw [rI (by omega)]; exact h4, by decide, okG_0, fun p hp => ?_⟩
  show mI (sI M 308 0 (nI v)) 314 p = -1
  rw [rI (by omega)]; exact (h3 p hp).2
theorem mS0_U {M M' : pm} (f : fG fU M M') (h : mS0 M) : mS0 M' := by
  obtain ⟨h1, h2, h3, h4⟩ := h
  exact ⟨by rw [f.2.2.2 308 1 (by unfold fU; omega)]; exact h1, by rw [f.2.2.2 308 2 (by unfold fU; omega)]; exact h2, fun j hj => ⟨by rw [f.2.2.2 309 j (by unfold fU; omega)]; exact (h3 j hj).1, by rw [f.2.2.2 314 j (by unfold fU; omega)]; exact (h3 j hj).2⟩, by rw [f.2.2.2 277 48 (by unfold fU; omega)]; exact h4⟩
theorem m_hst {M : pm} {T : Nat → Nat} {n : Nat} {s : ts} (ht : tkM M T n s) (h : mS0 M) {Q : pm → Prop} (kk : ∀ M', fN M M' → tkH M' T n (hst T n s) → (∀ σ' s', hst T n s = .inr (σ', s') → mSt M' σ' 0 ∧ 7 ≤ s'.1) → Q M') : w_X8_hourTold M Q := by
  have hsn := ht.2.1
  unfold w_X8_hourTold
  refine m_asks (A := Unit) (r := .inr ((), s)) ht 280 0 (by decide) (fun M1 f1 t1 => ?_)
  -- behind the number
  have tl : ∀ (M2 : pm) (v : Int32) (r : rs sg), fG fU M1 M2 → tkH M2 T n r → hst T n s = rTh r (rSgn T n 59) → (∀ σ' s', r = .inr (σ', s') → mSt (sI M2 308 0 v) σ' 0) → w_X8_asksSign 59 (sI M2 308 0 v) (fun M7 => Q M7) := fun M2 v r f2 t2 hr hs => by
    refine m_asksSign (tkH_308 t2 0 v) 59 (by decide) (by decide) (by decide) (by decide) (fun M3 f3 t3 => kk M3 ((((fN_U f1).tr (fN_U f2)).up (Or.inr (Or.inl ⟨by omega, by omega⟩)) _).tr (fN_U f3)) (by rw [hr]; exact t3) (fun σ' s' z => ?_))
    have ok := hst_ok hsn z
    rw [hr] at z
    obtain ⟨s1, y, h1, h2⟩ := rTh_inv z
    exact ⟨mSt_U f3 (hs σ' s1 h1), by omega⟩
  by_cases q : kwN T n s = 0
  · have e : rTh (.inr ((), s)) (rWrd T n 0) = (.inr ((), tX T n s) : rs Unit) := by
      show rB (rWrd T n 0 s) _ = _
      unfold rWrd
      rw [if_pos q]; rfl
    rw [e] at t1
    have hE : hst T n s = rTh (rB (rNum T n 1 60 (tX T n s)) (fun v s1 => .inr (((v, 0, 0), [], [], [], fun _ => none), s1))) (rSgn T n 59) := by unfold hst; rw [if_pos q]
    refine m_num0 t1 1 60 (by decide) (by decide) (fun v s1 hv M2 f2 t2 => tl M2 _ _ f2 ?_ hE (fun σ' s' z => ?_)) (fun e hv M2 v f2 t2 _ => tl M2 _ _ f2 ?_ hE (fun σ' s' z => ?_))
    · rw [hv]; exact t2
    · rw [hv] at z
      cases z
      exact mS0_st (mS0_U (f1.tr f2) h) v
    · rw [hv]; exact t2
    · rw [hv] at z; cases z
  · have e : rTh (.inr ((), s)) (rWrd T n 0) = (.inl (1, sk T n s.1) : rs Unit) := by
      show rB (rWrd T n 0 s) _ = _
      unfold rWrd
      rw [if_neg q]; rfl
    rw [e] at t1
    refine k_no (tkF_n t1) (tl M1 _ (.inl (1, sk T n s.1)) (fG.rf M1) t1 (by unfold hst; rw [if_neg q]) (fun σ' s' z => by cases z))
/-- all that station() changes ahead of its end -/
def fW (M M' : pm) : Prop := mL M' = mL M ∧ mR M' = mR M ∧ (∀ a k, ¬ (a = 310 ∧ k < 24) → mJ M' a k = mJ M a k) ∧ ∀ a k, ¬ (fMa a k ∨ (a = 277 ∧ (k = 1 ∨ k = 3))) → mI M' a k = mI M a k
theorem fW_N {M M1 M2 : pm} (h : fW M M1) (f : fN M1 M2) : fW M M2 := ⟨f.1.trans h.1, f.2.1.trans h.2.1, fun a k q => (f.2.2.1 a k q).trans (h.2.2.1 a k q), fun a k q => (f.2.2.2 a k (fun z => q (Or.inl z))).trans (h.2.2.2 a k q)⟩
theorem m_readSt {M : pm} {T : Nat → Nat} {n : Nat} (hT : tpM M T) (hn : n ≤ 1600) (hw : wdM M) (h1 : mI M 277 1 = nI n) {Q : Int32 → pm → Prop} (kk : ∀ M', fW M M' → mI M' 277 1 = 0 → tkH M' T n (sWh T n) → (∀ k σ' s', sWh T n = .inr ((k, σ'), s') → mI M' 277 49 = nI k ∧ ∃ cd, mSt M' σ' cd) → w_X8_station_110 M' Q) : w_X8_station M Q := by
  have key : ∀ d m i M1, i + d = 3 → d < m → fG (fun a k => (a = 309 ∨ a = 314) ∧ k < 3) (sI (sI (sI (sI (sI (sI (sI M 277 3 (mI M 277 1)) 277 1 0) 277 2 0) 277 4 (-1)) 277 5 0) 277 6 (-1)) 277 48 0) M1 → (∀ j, j < i → mI M1 309 j = 0 ∧ mI M1 314 j = -1) → w_X8_station_40 m (nI i) M1 (fun M4 => w_X8_hourTold (sI (sI M4 308 1 0) 308 2 0) (fun M5 => ∃ n14, w_X8_station_88 n14 (sI M5 277 49 1) (fun M15 => w_X8_station_110 M15 Q) Q)) Q := by
    intro d
    induction d with
    | succ d ih =>
      intro m i M1 hi hm f e
      obtain ⟨m, rfl⟩ : ∃ m', m = m' + 1 := ⟨m - 1, by omega⟩
      unfold w_X8_station_40
      rw [nI_clamp (by omega), nI_1]
      refine k_no (nI_ge (b := 3) (by omega) (by decide)) ⟨vp_in_nI (by omega) (by decide), vp_in_nI (by omega) (by decide), ih m (i + 1) _ (by omega) (by omega) ((f.up ⟨by omega, by omega⟩ _).up ⟨by omega, by omega⟩ _) (fun j hj => ?_)⟩
      by_cases q : j = i
      · subst q
        exact ⟨by rw [rI (by omega), rIs], rIs _ _ _ _⟩
      · rw [rI (by omega), rI (by omega), rI (by omega), rI (by omega)]
        exact e j (by omega)
    | zero =>
      intro m i M1 hi hm f e
      obtain ⟨m, rfl⟩ : ∃ m', m = m' + 1 := ⟨m - 1, by omega⟩
      unfold w_X8_station_40
      refine k_yes (nI_le (a := 3) (by omega) (by omega)) ?_
      show w_X8_hourTold (sI (sI M1 308 1 0) 308 2 0) (fun M5 => ∃ n14, w_X8_station_88 n14 (sI M5 277 49 1) (fun M15 => w_X8_station_110 M15 Q) Q)
      generalize hM2 : sI (sI M1 308 1 0) 308 2 0 = M2
      have e2 : ∀ a k, a ≠ 308 → a ≠ 309 → a ≠ 314 → mI M2 a k = mI (sI (sI (sI (sI (sI (sI (sI M 277 3 (mI M 277 1)) 277 1 0) 277 2 0) 277 4 (-1)) 277 5 0) 277 6 (-1)) 277 48 0) a k := fun a k k1 k2 k3 => by
        rw [← hM2, rI (by omega), rI (by omega)]; exact f.2.2.2 a k (by omega)
      have eM : ∀ a k, a ≠ 308 → a ≠ 309 → a ≠ 314 → ¬ (a = 277 ∧ (k = 1 ∨ k = 2 ∨ k = 3 ∨ k = 4 ∨ k = 5 ∨ k = 6 ∨ k = 48)) → mI M2 a k = mI M a k := fun a k k1 k2 k3 k4 => by
        rw [e2 a k k1 k2 k3, rI (by omega), rI (by omega), rI (by omega), rI (by omega), rI (by omega), rI (by omega), rI (by omega)]
      have v : ∀ k, mI M2 277 k = mI (sI (sI (sI (sI (sI (sI (sI M 277 3 (mI M 277 1)) 277 1 0) 277 2 0) 277 4 (-1)) 277 5 0) 277 6 (-1)) 277 48 0) 277 k := fun k => e2 277 k (by decide) (by decide) (by decide)
      have v1 : mI M2 277 1 = 0 := by rw [v, rI (by omega), rI (by omega), rI (by omega), rI (by omega), rI (by omega), rIs]
      have v2 : mI M2 277 2 = 0 := by rw [v, rI (by omega), rI (by omega), rI (by omega), rI (by omega), rIs]
      have v3 : mI M2 277 3 = nI n := by rw [v, rI (by omega), rI (by omega), rI (by omega), rI (by omega), rI (by omega), rI (by omega), rIs, h1]
      have v4 : mI M2 277 4 = -1 := by rw [v, rI (by omega), rI (by omega), rI (by omega), rIs]
      have v5 : mI M2 277 5 = 0 := by rw [v, rI (by omega), rI (by omega), rIs]
      have v6 : mI M2 277 6 = -1 := by rw [v, rI (by omega), rIs]
      have v48 : mI M2 277 48 = 0 := by rw [v, rIs]
      have t2 : tkM M2 T n (0, false) := by
        refine ⟨⟨tpM_c (funext fun k => eM 278 k (by decide) (by decide) (by decide) (by omega)) hT, hn, fun q hq i hi => ?_, v3⟩, Nat.zero_le _, v5, v6, Or.inl v2, -1, by omega, by show (-1 : Int) ≤ ((0 : Nat) : Int); omega, (by rw [v4]; rfl), ?_⟩
        · have wo := wa_ok q hq
          rw [eM q.1 i (by omega) (by omega) (by omega) (by omega)]; exact hw q hq i hi
        · constructor
          · intro z; exact absurd z (by decide)
          · intro z; exact absurd z (by show ¬ ((-1 : Int) = ((0 : Nat) : Int)); omega)
      have s2 : mS0 M2 := by
        refine ⟨by rw [← hM2, rI (by omega), rIs], by rw [← hM2, rIs], fun j hj => ?_, v48⟩
        rw [← hM2, rI (by omega), rI (by omega), rI (by omega), rI (by omega)]
        exact e j (by omega)
      have w2 : fW M M2 := by
        refine ⟨by rw [← hM2]; exact f.1, by rw [← hM2]; exact f.2.1, fun a k hk => ?_, fun a k hk => ?_⟩
        · rw [← hM2]
          show mJ M1 a k = _
          rw [f.2.2.1]; rfl
        · unfold fMa at hk
          by_cases q8 : a = 308
          · subst q8
            rw [← hM2, rI (by omega), rI (by omega), f.2.2.2 308 k (by omega), rI (by omega), rI (by omega), rI (by omega), rI (by omega), rI (by omega), rI (by omega), rI (by omega)]
          · by_cases q9 : a = 309
            · subst q9
              rw [← hM2, rI (by omega), rI (by omega), f.2.2.2 309 k (by omega), rI (by omega), rI (by omega), rI (by omega), rI (by omega), rI (by omega), rI (by omega), rI (by omega)]
            · by_cases q4 : a = 314
              · subst q4
                rw [← hM2, rI (by omega), rI (by omega), f.2.2.2 314 k (by omega), rI (by omega), rI (by omega), rI (by omega), rI (by omega), rI (by omega), rI (by omega), rI (by omega)]
              · exact eM a k q8 q9 q4 (by omega)
      refine m_hst t2 s2 (fun M5 f5 t5 s5 => ?_)
      have w5 : fW M (sI M5 277 49 1) := fW_N w2 (f5.up (Or.inl ⟨rfl, by omega⟩) _)
      have e1 : ∀ M6, fN M2 M6 → mI M6 277 1 = 0 := fun M6 f6 => by rw [f6.2.2.2 277 1 (by unfold fMa; omega)]; exact v1
      have e : sWh T n = rB (hst T n (0, false)) (fun σ s => sLp T n 79 1 σ s) := rfl
      cases hr : hst T n (0, false) with
      | inl e1' =>
        rw [hr] at t5 e
        have e : sWh T n = .inl e1' := e
        have t6 : tkH (sI M5 277 49 1) T n (.inl e1' : rs sg) := tkH_49 t5 1
        exact ⟨1, m_88F t6 (by decide) (kk _ w5 (e1 _ (f5.up (Or.inl ⟨rfl, by omega⟩) _)) (by rw [e]; exact t6) (fun k σ' s' z => (by rw [e] at z; cases z)))⟩
      | inr x =>
        obtain ⟨σ1, s1⟩ := x
        obtain ⟨l1, l2⟩ := s5 σ1 s1 hr
        rw [hr] at t5 e
        have e : sWh T n = sLp T n 79 1 σ1 s1 := e
        refine ⟨81, m_lpSt (M0 := sI M5 277 49 1) 79 81 1 (sI M5 277 49 1) σ1 s1 0 (by decide) (by decide) (rIs _ _ _ _) (tkH_49 t5 1) (mSt_49 l1 _) (by omega) (fN.rf _) (fun M' c' => kk M' (fW_N w5 c'.1) ?_ (by rw [e]; exact c'.2.1) (fun k σ' s' z => c'.2.2 k σ' s' (by rw [← e]; exact z)))⟩
        rw [c'.1.2.2.2 277 1 (by unfold fMa; omega), rI (by omega)]
        exact e1 _ f5
  exact ⟨4, key 3 4 0 _ (by omega) (by omega) (fG.rf _) (fun j hj => absurd hj (Nat.not_lt_zero _))⟩
