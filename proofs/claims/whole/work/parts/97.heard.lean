/-! heard -/
def a36 (a k : Nat) : Prop := a = 320 ∨ a = 321 ∨ (a = 277 ∧ k = 62)
theorem a36_0 {M M' : pm} (f : fG a320 M M') : fG a36 M M' := ⟨f.1, f.2.1, f.2.2.1, fun a k h => f.2.2.2 a k (fun q => h (Or.inl q))⟩
theorem a36_same {M M' : pm} (f : fG a36 M M') : same M M' := ⟨f.1, f.2.1, fun a h1 h2 => f.row (fun k => by unfold scrA at h1; unfold a36; omega), fun k hk => f.2.2.2 277 k (by unfold scrK at hk; unfold a36; omega), by rw [f.2.2.1], by rw [f.2.2.1]⟩
theorem m_r66 {M : pm} {K Q : pm → Prop} (kk : ∀ M', fG (fun a _ => a = 321) M M' → (∀ i, i < 5 → mI M' 321 i = mI M 320 i) → K M') : ∃ n, w_X8_laysRow_66 n 0 M K Q := by
  have key : ∀ d m i M1, i + d = 5 → d < m → fG (fun a _ => a = 321) M M1 → (∀ j, j < i → mI M1 321 j = mI M 320 j) → w_X8_laysRow_66 m (nI i) M1 K Q := by
    intro d
    induction d with
    | zero =>
      intro m i M1 hi hm f e
      obtain ⟨m, rfl⟩ : ∃ m', m = m' + 1 := ⟨m - 1, by omega⟩
      unfold w_X8_laysRow_66
      exact k_yes (nI_le (a := 5) (by omega) (by omega)) (kk M1 f (fun j hj => e j (by omega)))
    | succ d ih =>
      intro m i M1 hi hm f e
      obtain ⟨m, rfl⟩ : ∃ m', m = m' + 1 := ⟨m - 1, by omega⟩
      unfold w_X8_laysRow_66
      rw [nI_clamp (by omega), nI_1]
      refine k_no (nI_ge (b := 5) (by omega) (by decide)) ⟨vp_in_nI (by omega) (by decide), vp_in_nI (by omega) (by decide), ih m (i + 1) _ (by omega) (by omega) (f.up rfl _) (fun j hj => ?_)⟩
      by_cases q : j = i
      · subst q
        rw [rIs]; exact f.2.2.2 320 j (by omega)
      · rw [rI (by omega)]; exact e j (by omega)
  exact ⟨6, key 5 6 0 M (by omega) (by omega) (fG.rf _) (fun j hj => absurd hj (Nat.not_lt_zero _))⟩
theorem m_r6 {M : pm} {K Q : pm → Prop} (kk : ∀ M', fG (fun a _ => a = 320 ∨ a = 321) M M' → (∀ i, i < 5 → mI M' 320 i = 0 ∧ mI M' 321 i = 0) → K M') : ∃ n, w_X8_laysRow_6 n 0 M K Q := by
  have key : ∀ d m i M1, i + d = 5 → d < m → fG (fun a _ => a = 320 ∨ a = 321) M M1 → (∀ j, j < i → mI M1 320 j = 0 ∧ mI M1 321 j = 0) → w_X8_laysRow_6 m (nI i) M1 K Q := by
    intro d
    induction d with
    | zero =>
      intro m i M1 hi hm f e
      obtain ⟨m, rfl⟩ : ∃ m', m = m' + 1 := ⟨m - 1, by omega⟩
      unfold w_X8_laysRow_6
      exact k_yes (nI_le (a := 5) (by omega) (by omega)) (kk M1 f (fun j hj => e j (by omega)))
    | succ d ih =>
      intro m i M1 hi hm f e
      obtain ⟨m, rfl⟩ : ∃ m', m = m' + 1 := ⟨m - 1, by omega⟩
      unfold w_X8_laysRow_6
      rw [nI_clamp (by omega), nI_1]
      refine k_no (nI_ge (b := 5) (by omega) (by decide)) ⟨vp_in_nI (by omega) (by decide), vp_in_nI (by omega) (by decide), ih m (i + 1) _ (by omega) (by omega) ((f.up (Or.inl rfl) _).up (Or.inr rfl) _) (fun j hj => ?_)⟩
      by_cases q : j = i
      · subst q
        exact ⟨by rw [rI (by omega), rIs], rIs _ _ _ _⟩
      · rw [rI (by omega), rI (by omega), rI (by omega), rI (by omega)]; exact e j (by omega)
  exact ⟨6, key 5 6 0 M (by omega) (by omega) (fG.rf _) (fun j hj => absurd hj (Nat.not_lt_zero _))⟩
/-- the rows 0 .. N seen: f the first of the best, mx what it is worth -/
def bsR (pb : Nat → Nat → Nat) (s na ne N f mx : Nat) : Prop := f ≤ N ∧ vS pb s na ne 0 0 f = some mx ∧ (∀ m v, m < f → vS pb s na ne 0 0 m = some v → v < mx) ∧ ∀ m v, m ≤ N → vS pb s na ne 0 0 m = some v → v ≤ mx
theorem bsR_un {pb : Nat → Nat → Nat} {s na ne N f mx : Nat} (h : bsR pb s na ne N f mx) (hN : N + 1 = (na + 1) ^ ne) : f = fRw pb s na ne 0 0 ∧ mx = wD pb s na ne 0 0 := by
  obtain ⟨h1, h2, h3, h4⟩ := h
  obtain ⟨g1, g2, g3⟩ := fRw_ok (pb := pb) (s := s) (na := na) ne 0 0
  have a1 := h4 _ _ (by omega) g2
  have a2 := (g3 f mx (by omega) h2).1
  have em : mx = wD pb s na ne 0 0 := by omega
  refine ⟨?_, em⟩
  rcases Nat.lt_trichotomy f (fRw pb s na ne 0 0) with q | q | q
  · have := (g3 f mx (by omega) h2).2 q
    omega
  · exact q
  · have := h3 _ _ q g2
    omega
theorem m_r36 {M0 : pm} {s : Nat} {D S : Nat → Nat} {P : Nat → List Nat} (hd : dM M0 D P) (hD : okD D P) (hs : sM M0 D S) (hS : okS D S) (h56 : mI M0 277 56 = nI s) (hs8 : s < 256) {Q : pm → Prop} (kk : ∀ M', fG a36 M0 M' → mI M' 277 62 = nI (wD (pbE D S) s (D 2) (D 3) 0 0) → rwI M' 321 (D 2) (D 3) 0 (fRw (pbE D S) s (D 2) (D 3) 0 0) → Q M') : ∀ (l n N f mx : Nat) (M : pm), N + 1 + l = (D 2 + 1) ^ D 3 → l < n → fG a36 M0 M → rwI M 320 (D 2) (D 3) 0 N → mI M 277 62 = nI mx → rwI M 321 (D 2) (D 3) 0 f → bsR (pbE D S) s (D 2) (D 3) N f mx → w_X8_laysRow_36 n M Q := by
  have h8 := hD.2.2.1
  have h5 := hD.2.2.2.1
  have fo := fRw_ok (pb := pbE D S) (s := s) (na := D 2) (D 3) 0 0
  have wl := wD_le (s := s) (na := D 2) (pbE_le D S) (D 3) 0 0
  have dd : ∀ {M}, fG a36 M0 M → dM M D P ∧ sM M D S ∧ mI M 277 56 = nI s := fun f => ⟨dM_c (fun b b1 b2 _ => f.row (fun k => by unfold a36; omega)) hd, sM_c (f.row (fun k => by unfold a36; omega)) hs, by rw [f.2.2.2 277 56 (by unfold a36; omega)]; exact h56⟩
  intro l
  induction l with
  | zero =>
    intro n N f mx M hN hn fr hr h62 hf hb
    obtain ⟨n, rfl⟩ : ∃ n', n = n' + 1 := ⟨n - 1, by omega⟩
    have un := bsR_un hb (by omega)
    unfold w_X8_laysRow_36
    refine m_next h8 h5 (dd fr).1.2.2.1 (dd fr).1.2.2.2.1 hr (by omega) (fun z => absurd z (by omega)) (fun z M' f' => k_yes rfl (kk M' (fr.tr (a36_0 f')) ?_ ?_))
    · rw [f'.2.2.2 277 62 (by unfold a320; omega), h62, un.2]
    · rw [un.1] at hf
      exact rwI_c (fun i _ => f'.2.2.2 321 i (by unfold a320; omega)) hf
  | succ l ih =>
    intro n N f mx M hN hn fr hr h62 hf hb
    obtain ⟨n, rfl⟩ : ∃ n', n = n' + 1 := ⟨n - 1, by omega⟩
    unfold w_X8_laysRow_36
    refine m_next h8 h5 (dd fr).1.2.2.1 (dd fr).1.2.2.2.1 hr (by omega) (fun z M' f' r' => k_no (by decide) ?_) (fun z => absurd z (by omega))
    have fr' := fr.tr (a36_0 f')
    obtain ⟨d', s', e'⟩ := dd fr'
    have v62 : mI M' 277 62 = nI mx := by rw [f'.2.2.2 277 62 (by unfold a320; omega)]; exact h62
    have v321 : rwI M' 321 (D 2) (D 3) 0 f := rwI_c (fun i _ => f'.2.2.2 321 i (by unfold a320; omega)) hf
    have mxl : mx ≤ 45 := by
      have := (fo.2.2 f mx (by have := hb.1; omega) hb.2.1).1
      omega
    refine ⟨D 3 + 1, m_pb6 d' hD s' hS e' hs8 (D 3) 0 0 (N + 1) 0 (D 3 + 1) (by omega) (by decide) (by omega) (by omega) r' z (fun v hv => ?_) (fun hv => ?_)⟩
    · have vl := (fo.2.2 _ v z hv).1
      rw [v62, Nat.zero_add]
      refine pk_lt mx v (fun h => m_r66 (fun M2 f2 e2 => ?_)) (fun h => ?_)
      · have fr2 : fG a36 M0 M2 := fr'.tr (((fG.rf M').up (Or.inr (Or.inr ⟨rfl, rfl⟩)) (nI v)).tr ⟨f2.1, f2.2.1, f2.2.2.1, fun a k h => f2.2.2.2 a k (fun q => h (Or.inr (Or.inl q)))⟩)
        refine ih n (N + 1) (N + 1) v M2 (by omega) (by omega) fr2 ?_ ?_ ?_ ⟨Nat.le_refl _, hv, fun m w hm hw => ?_, fun m w hm hw => ?_⟩
        · exact rwI_c (fun i _ => by rw [f2.2.2.2 320 i (by omega), rI (by omega)]) r'
        · rw [f2.2.2.2 277 62 (by omega), rIs]
        · exact rwI_r (fun i hi => by rw [e2 i (by omega), rI (by omega)]) r'
        · have := hb.2.2.2 m w (by omega) hw
          omega
        · by_cases q : m = N + 1
          · subst q
            rw [hv] at hw
            cases hw
            exact Nat.le_refl _
          · have := hb.2.2.2 m w (by omega) hw
            omega
      · refine ih n (N + 1) f mx M' (by omega) (by omega) fr' r' v62 v321 ⟨by have := hb.1; omega, hb.2.1, hb.2.2.1, fun m w hm hw => ?_⟩
        by_cases q : m = N + 1
        · subst q
          rw [hv] at hw
          cases hw
          omega
        · exact hb.2.2.2 m w (by omega) hw
    · refine k_no ?_ (ih n (N + 1) f mx M' (by omega) (by omega) fr' r' v62 v321 ⟨by have := hb.1; omega, hb.2.1, hb.2.2.1, fun m w hm hw => ?_⟩)
      · rw [v62, ← zI_n, show (-1 : Int32) = zI (-1) from rfl, zI_lt (by omega) (by omega) (by omega) (by omega)]
        omega
      · by_cases q : m = N + 1
        · subst q
          rw [hv] at hw
          cases hw
        · exact hb.2.2.2 m w (by omega) hw
theorem vS_0 {pb : Nat → Nat → Nat} {s na : Nat} : ∀ {k e u : Nat}, vS pb s na k e u 0 = some 0
  | 0, _, _ => rfl
  | k + 1, e, u => by
    unfold vS
    rw [Nat.zero_div, if_pos rfl, Nat.zero_mod]
    exact vS_0
theorem m_heard23 {M : pm} {D S : Nat → Nat} {P : Nat → List Nat} (hd : dM M D P) (hD : okD D P) (hs : sM M D S) (hS : okS D S) {x : Int32} {Q : Int32 → pm → Prop} (k1 : x = -1 → ∀ M', same M M' → Q (nI (wD (pbE D S) (bst D S P) (D 2) (D 3) 0 0)) M') (k2 : ∀ j, j < D 3 → x = nI j → ∀ M', same M M' → Q (hrE D S P j) M') (hx : x = -1 ∨ ∃ j, j < D 3 ∧ x = nI j) : w_X8_heard_23 x M Q := by
  have h8 := hD.2.2.1
  have h5 := hD.2.2.2.1
  have hB : 0 < (D 2 + 1) ^ D 3 := Nat.pow_pos (Nat.succ_pos _)
  unfold w_X8_heard_23 w_X8_laysRow
  refine m_laysBest hd hD hs hS (fun M1 f1 hb h56 _ _ => m_r6 (fun M2 f2 e2 => ?_))
  have b8 := bst_256 hD hb
  have f3 : fG a36 M1 (sI M2 277 62 0) := (show fG a36 M1 M2 from ⟨f2.1, f2.2.1, f2.2.2.1, fun a k h => f2.2.2.2 a k (fun q => h (by unfold a36; omega))⟩).up (Or.inr (Or.inr ⟨rfl, rfl⟩)) _
  refine ⟨(D 2 + 1) ^ D 3, m_r36 (s := bst D S P) (fM_d f1 hd) hD (fM_s f1 hs) hS h56 b8 (fun M4 f4 g62 g321 => ?_) ((D 2 + 1) ^ D 3 - 1) _ 0 0 0 _ (by omega) (by omega) f3 (rwI_0 (fun i hi => ?_)) (rIs _ _ _ _) (rwI_0 (fun i hi => ?_)) ⟨Nat.le_refl _, vS_0, fun m v hm => absurd hm (Nat.not_lt_zero _), fun m v hm hv => ?_⟩⟩
  · have sm : same M M4 := (fM_same f1).tr (a36_same f4)
    rcases hx with hx | ⟨j, hj, hx⟩
    · refine k_yes' hx ?_
      rw [g62]
      exact k1 hx M4 sm
    · refine k_no' (by rw [hx]; exact n_m1 (by omega)) ?_
      rw [hx, nI_clamp (by omega)]
      have e := rwI_d g321 hj
      rw [Nat.zero_add] at e
      rw [e]
      refine ⟨vp_in_nI (by omega) (by decide), ?_⟩
      have := k2 j hj hx M4 sm
      unfold hrE lI at this
      rw [← zI_n, show (1 : Int32) = zI 1 from rfl, zI_sub]
      exact this
  · rw [rI (by omega)]; exact (e2 i (by omega)).1
  · rw [rI (by omega)]; exact (e2 i (by omega)).2
  · rw [show m = 0 from by omega, vS_0] at hv
    cases hv
    exact Nat.le_refl _
theorem p_heard (x : Int32) (M : pm) (hI : Inv M) : stp Inv (w_X7_heard x) (w_X8_heard x) M := by
  obtain ⟨t, D, P, S, R⟩ := Rp_of hI
  have h5 := R.2.2.1.2.2.2.1
  have R' : ∀ {M1}, same M M1 → Rp M1 t D P S := fun s => Rp_same s R
  -- an ear, or all of them
  have yes : ∀ y : Int32, (x = -1 → y = nI (wD (pbE D S) (bst D S P) (D 2) (D 3) 0 0)) → (∀ j, j < D 3 → x = nI j → y = hrE D S P j) → (x = -1 ∨ ∃ j, j < D 3 ∧ x = nI j) → stp Inv (w_X7_heard x) (w_X8_heard x) M := by
    intro y y1 y2 hx
    have wc : ∀ K : Int32 → pm → Prop, (∀ M1, same M M1 → K y M1) → w_X7_heard_15 x M K := fun K k => by
      obtain ⟨r1, r2, r3, r4, r5, r6, r7, r8, r9, -⟩ := id R
      exact c_heard15 r1 r2 r4 r3 r8 r6 (fun h M' f' => by rw [← y1 h]; exact k M' (xC_same f')) (fun j hj h M' f' => by rw [← y2 j hj h]; exact k M' (xC_same f')) hx
    have wm : ∀ M1, same M M1 → ∀ K : Int32 → pm → Prop, (∀ M2, same M1 M2 → K y M2) → w_X8_heard_23 x M1 K := fun M1 s1 K k => by
      obtain ⟨r1, r2, r3, r4, r5, r6, r7, r8, r9, -⟩ := R' s1
      exact m_heard23 r5 r3 r9 r6 (fun h M' f' => by rw [← y1 h]; exact k M' f') (fun j hj h M' f' => by rw [← y2 j hj h]; exact k M' f') hx
    refine stp_ro hI y (fun K k => ?_) (fun M1 s1 K k => ?_)
    · refine ⟨fun _ => wc K k, fun q => ?_⟩
      obtain ⟨j, hj, hx⟩ := hx.resolve_left q
      have d := R.2.2.2.1
      have e3 := R.2.1
      unfold w_X7_isEar
      rw [e3, d.2.2.2.1]
      refine k_no (by rw [hx]; exact nI_pos (by omega)) (k_no (by rw [hx]; exact nI_ge hj (by omega)) (k_no' (by decide) (wc K k)))
    · refine ⟨fun _ => wm M1 s1 K k, fun q => ?_⟩
      obtain ⟨j, hj, hx⟩ := hx.resolve_left q
      have d := (R' s1).2.2.2.2.1
      unfold w_X8_earMany
      show w_X8_isIn x.toInt64 0 (mI M1 309 5 - 1).toInt64 M1 _
      rw [d.2.2.2.1, j0, show nI (D 3) - 1 = nI (D 3 - 1) from pk_sub (a := D 3) (b := 1) (by omega)]
      exact isIn_yes (by rw [hx]; exact nI_pos (by omega)) (by rw [hx]; exact nI_nlt (by omega) (by omega)) (k_no' (by decide) (wm M1 s1 K k))
  by_cases hm : x = -1
  · exact yes _ (fun _ => rfl) (fun j hj h => absurd (h.symm.trans hm) (n_m1 (by omega))) (Or.inl hm)
  · have no : (x < 0 ∨ (¬ x < 0 ∧ nI (D 3) ≤ x)) → stp Inv (w_X7_heard x) (w_X8_heard x) M := fun h => by
      refine stp_ro hI (-1) (fun K k => k_no hm ?_) (fun M1 s1 K k => k_no hm ?_)
      · have d := R.2.2.2.1
        have e3 := R.2.1
        have k := k M (same.rf M)
        unfold w_X7_isEar
        rw [e3, d.2.2.2.1]
        rcases h with h | ⟨h1, h2⟩
        · exact k_yes h (k_yes' rfl k)
        · exact k_no h1 (k_yes h2 (k_yes' rfl k))
      · have d := (R' s1).2.2.2.2.1
        have k := k M1 (same.rf M1)
        unfold w_X8_earMany
        show w_X8_isIn x.toInt64 0 (mI M1 309 5 - 1).toInt64 M1 _
        rw [d.2.2.2.1, j0]
        refine isIn_no ?_ (k_yes' rfl k)
        rcases h with h | ⟨h1, h2⟩
        · exact Or.inl h
        · refine Or.inr ?_
          have e1 : nI (D 3) - 1 = zI ((D 3 : Int) - 1) := by rw [← zI_n, show (1 : Int32) = zI 1 from rfl, zI_sub]
          rw [e1, Int32.lt_iff_toInt_lt, zI_t (by omega) (by omega)]
          rw [Int32.le_iff_toInt_le, nI_toInt (by omega)] at h2
          omega
    rcases ix3 x (n := D 3) (by omega) with hx | hx | ⟨j, hj, rfl⟩
    · exact no (Or.inl hx)
    · exact no (Or.inr hx)
    · refine yes (hrE D S P j) (fun h => absurd h hm) (fun i hi h => ?_) (Or.inr ⟨j, hj, rfl⟩)
      rw [(nI_eq (by omega) (by omega)).mp h]
