/-! see, on -/
def okR (D T : Nat → Nat) (i : Nat) : Prop := T (3 * i) ≤ 30 ∧ T (3 * i + 1) < D 2 ∧ T (3 * i + 2) ≤ 1
def okSee (D T : Nat → Nat) (n : Nat) : Prop := 3 ≤ n ∧ n ≤ 48 ∧ n % 3 = 0 ∧ ∀ i, 3 * i < n → okR D T i
theorem c_seeL {M : pm} {t n : Nat} {D T : Nat → Nat} {P : Nat → List Nat} (hn : n ≤ 48) (h3 : mR M 3 3 = t) (hd : dC M t D P) (hD : okD D P) (hT : tpC M T) {Q : Int32 → pm → Prop} : ∀ (d m i : Nat), 3 * i + 3 * d = n → d < m → ((∀ j, i ≤ j → 3 * j < n → okR D T j) → Q 1 M) → (¬ (∀ j, i ≤ j → 3 * j < n → okR D T j) → Q 0 M) → w_X7_isSeenTape_21 m (nI n) (nI (3 * i)) M Q := by
  have h8 := hD.2.2.1
  intro d
  induction d with
  | zero =>
    intro m i hi hm k1 k0
    obtain ⟨m, rfl⟩ : ∃ m', m = m' + 1 := ⟨m - 1, by omega⟩
    unfold w_X7_isSeenTape_21
    exact k_yes (nI_le (by omega) (by omega)) (k1 (fun j h1 h2 => by omega))
  | succ d ih =>
    intro m i hi hm k1 k0
    obtain ⟨m, rfl⟩ : ∃ m', m = m' + 1 := ⟨m - 1, by omega⟩
    have t0 := (hT (3 * i) (by omega)).1
    have t1 := (hT (3 * i + 1) (by omega)).1
    have t2 := (hT (3 * i + 2) (by omega)).1
    have bad : ¬ okR D T i → Q 0 M := fun h => k0 (fun z => h (z i (Nat.le_refl _) (by omega)))
    unfold w_X7_isSeenTape_21
    refine k_no (nI_ge (by omega) (by omega)) (c_tb hT (by omega) (pk_lt 30 (T (3 * i)) (fun q => bad (fun z => by have := z.1; omega)) (fun q => ?_)))
    rw [nI_1]
    refine c_tb hT (by omega) ?_
    by_cases q1 : T (3 * i + 1) < D 2
    · refine cA_yes h3 hd hD q1 (k_no (by decide) ?_)
      rw [show nI (3 * i) + 2 = nI (3 * i + 2) from nI_add _ 2]
      refine c_tb hT (by omega) (pk_le (T (3 * i + 2)) 1 (fun q2 => ?_) (fun q2 => bad (fun z => by have := z.2.2; omega)))
      rw [show nI (3 * i) + 3 = nI (3 * (i + 1)) from nI_add _ 3]
      refine ih m (i + 1) (by omega) (by omega) (fun h => k1 (fun j j1 j2 => ?_)) (fun h => k0 (fun z => h (fun j j1 j2 => z j (by omega) j2)))
      by_cases e : j = i
      · subst e; exact ⟨q, q1, q2⟩
      · exact h j (by omega) j2
    · exact cA_no h3 hd (nI_le (by omega) (by omega)) (k_yes rfl (bad (fun z => q1 z.2.1)))
theorem c_isSeen {M : pm} {t n : Nat} {D T : Nat → Nat} {P : Nat → List Nat} (hn : n ≤ 1600) (h3 : mR M 3 3 = t) (hd : dC M t D P) (hD : okD D P) (hT : tpC M T) {Q : Int32 → pm → Prop} (k1 : okSee D T n → Q 1 M) (k0 : ¬ okSee D T n → Q 0 M) : w_X7_isSeenTape (nI n) M Q := by
  unfold w_X7_isSeenTape
  rw [show irm (nI n) 3 = nI (n % 3) from irm_n (d := 3) (by omega) (by decide) (by decide)]
  refine pk_lt n 3 (fun q => k0 (fun z => by have := z.1; omega)) (fun q1 => pk_lt 48 n (fun q => k0 (fun z => by have := z.2.1; omega)) (fun q2 => pk_eq (n % 3) 0 (fun q3 => ⟨n / 3 + 1, ?_⟩) (fun q => k0 (fun z => by have := z.2.2.1; omega))))
  exact c_seeL (by omega) h3 hd hD hT (n / 3) (n / 3 + 1) 0 (by omega) (by omega) (fun h => k1 ⟨q1, q2, q3, fun i hi => h i (Nat.zero_le _) hi⟩) (fun h => k0 (fun z => h (fun j _ j2 => z.2.2.2 j j2)))
def sA (a k : Nat) : Prop := (a = 3 ∧ (k = 1 ∨ k = 13)) ∨ (258 ≤ a ∧ a < 274) ∨ (a = 277 ∧ (k = 1 ∨ k = 63)) ∨ a = 322
theorem c_seeW {M : pm} {n : Nat} {T : Nat → Nat} (hn : n ≤ 16) (hT : tpC M T) (h13 : mI M 3 13 = nI n) {Q : Int32 → pm → Prop} (k : ∀ M', fG sA M M' → mI M' 3 = mI M 3 → (∀ a, 274 ≤ a → mI M' a = mI M a) → (∀ q j, q < n → j < 3 → mI M' (258 + q) j = nI (T (3 * q + j))) → Q (nI n) M') : ∃ m, w_X7_see_36 m 0 M Q := by
  have key : ∀ d m r M1, r + d = n → d < m → fG sA M M1 → mI M1 3 = mI M 3 → (∀ a, 274 ≤ a → mI M1 a = mI M a) → (∀ q j, q < r → j < 3 → mI M1 (258 + q) j = nI (T (3 * q + j))) → w_X7_see_36 m (nI r) M1 Q := by
    intro d
    induction d with
    | zero =>
      intro m r M1 hr hm f1 e3 e4 e5
      obtain ⟨m, rfl⟩ : ∃ m', m = m' + 1 := ⟨m - 1, by omega⟩
      have : r = n := by omega
      subst this
      unfold w_X7_see_36
      rw [e3, h13]
      exact k_yes (nI_le (Nat.le_refl _) (by omega)) (k M1 f1 e3 e4 e5)
    | succ d ih =>
      intro m r M1 hr hm f1 e3 e4 e5
      obtain ⟨m, rfl⟩ : ∃ m', m = m' + 1 := ⟨m - 1, by omega⟩
      unfold w_X7_see_36
      rw [e3, h13]
      refine k_no (nI_ge (by omega) (by omega)) ⟨4, ?_⟩
      have key2 : ∀ l m2 j M2, j + l = 3 → l < m2 → fG sA M M2 → mI M2 3 = mI M 3 → (∀ a, 274 ≤ a → mI M2 a = mI M a) → (∀ q i, q < r → i < 3 → mI M2 (258 + q) i = nI (T (3 * q + i))) → (∀ i, i < j → mI M2 (258 + r) i = nI (T (3 * r + i))) → w_X7_see_46 m2 (nI r) (nI j) M2 (fun x2 M17 => w_X7_see_36 m (x2 + 1) M17 Q) Q := by
        intro l
        induction l with
        | zero =>
          intro m2 j M2 hj hm2 g1 g3 g4 g5 g6
          obtain ⟨m2, rfl⟩ : ∃ m', m2 = m' + 1 := ⟨m2 - 1, by omega⟩
          unfold w_X7_see_46
          refine k_yes (nI_le (a := 3) (by omega) (by omega)) ?_
          dsimp only
          rw [nI_1]
          refine ih m (r + 1) M2 (by omega) (by omega) g1 g3 g4 (fun q i hq hi => ?_)
          by_cases e : q = r
          · subst e; exact g6 i (by omega)
          · exact g5 q i (by omega) hi
        | succ l ihl =>
          intro m2 j M2 hj hm2 g1 g3 g4 g5 g6
          obtain ⟨m2, rfl⟩ : ∃ m', m2 = m' + 1 := ⟨m2 - 1, by omega⟩
          unfold w_X7_see_46
          refine k_no (nI_ge (b := 3) (by omega) (by decide)) ⟨vp_in_nI (by omega) (by decide), ?_⟩
          rw [show (3 : Int32) * nI r = nI (3 * r) from pk_mul 3 r, nI_add]
          refine c_tb (tpC_c (g1.row (fun k => by unfold sA; omega)) hT) (by omega) ⟨vp_in_nI (by omega) (by decide), ?_⟩
          rw [nI_1, nI_clamp (by omega), nI_clamp (by omega)]
          refine ihl m2 (j + 1) _ (by omega) (by omega) (g1.up (Or.inr (Or.inl ⟨by omega, by omega⟩)) _) (by rw [mI_off (by omega)]; exact g3) (fun a ha => by rw [mI_off (by omega)]; exact g4 a ha) (fun q i hq hi => by rw [rI (by omega)]; exact g5 q i hq hi) (fun i hi => ?_)
          by_cases e : i = j
          · subst e; exact rIs _ _ _ _
          · rw [rI (by omega)]; exact g6 i (by omega)
      exact key2 3 4 0 M1 (by omega) (by omega) f1 e3 e4 e5 (fun i hi => by omega)
  exact ⟨n + 1, key n (n + 1) 0 M (by omega) (by omega) (fG.rf M) rfl (fun _ _ => rfl) (fun q j hq => by omega)⟩
theorem m_seeL {M : pm} {n : Nat} {D T : Nat → Nat} {P : Nat → List Nat} (hn : n ≤ 48) (hd : dM M D P) (hD : okD D P) (hT : tpM M T) {k102 : Int32 → Int32 → pm → Prop} {Q : Int32 → pm → Prop} : ∀ (d m i : Nat), 3 * i + 3 * d = n → d < m → ((∀ j, i ≤ j → 3 * j < n → okR D T j) → k102 (nI n) 1 M) → (¬ (∀ j, i ≤ j → 3 * j < n → okR D T j) → k102 (nI n) 0 M) → w_X8_see_43 m (nI n) 1 (nI (3 * i)) M k102 Q := by
  have h8 := hD.2.2.1
  intro d
  induction d with
  | zero =>
    intro m i hi hm k1 k0
    obtain ⟨m, rfl⟩ : ∃ m', m = m' + 1 := ⟨m - 1, by omega⟩
    unfold w_X8_see_43
    exact k_yes (nI_le (by omega) (by omega)) (k1 (fun j h1 h2 => by omega))
  | succ d ih =>
    intro m i hi hm k1 k0
    obtain ⟨m, rfl⟩ : ∃ m', m = m' + 1 := ⟨m - 1, by omega⟩
    obtain ⟨m, rfl⟩ : ∃ m', m = m' + 1 := ⟨m - 1, by omega⟩
    have t0 := hT (3 * i) (by omega)
    have t1 := hT (3 * i + 1) (by omega)
    have t2 := hT (3 * i + 2) (by omega)
    have bad : ¬ okR D T i → w_X8_see_43 (m + 1) (nI n) 0 (nI (3 * i) + 3) M k102 Q := fun h => by
      have := k0 (fun z => h (z i (Nat.le_refl _) (by omega)))
      unfold w_X8_see_43
      exact ⟨fun _ => this, fun _ => k_yes rfl this⟩
    unfold w_X8_see_43
    refine k_no (nI_ge (by omega) (by omega)) (k_no (by decide) ⟨vp_in_nI (by omega) (by decide), ?_⟩)
    rw [nI_clamp (by omega), t0.2, nI_1, nI_clamp (by omega), t1.2, show nI (3 * i) + 2 = nI (3 * i + 2) from nI_add _ 2, nI_clamp (by omega)]
    refine pk_lt 30 (T (3 * i)) (fun q => bad (fun z => by have := z.1; omega)) (fun q => ⟨vp_in_nI (by omega) (by decide), ?_⟩)
    by_cases q1 : T (3 * i + 1) < D 2
    · refine mA_yes hd hD q1 (k_no (by decide) ⟨vp_in_nI (by omega) (by decide), ?_⟩)
      rw [t2.2]
      refine pk_lt 1 (T (3 * i + 2)) (fun q2 => bad (fun z => by have := z.2.2; omega)) (fun q2 => ?_)
      rw [show nI (3 * i) + 3 = nI (3 * (i + 1)) from nI_add _ 3]
      refine ih (m + 1) (i + 1) (by omega) (by omega) (fun h => k1 (fun j j1 j2 => ?_)) (fun h => k0 (fun z => h (fun j j1 j2 => z j (by omega) j2)))
      by_cases e : j = i
      · subst e; exact ⟨q, q1, q2⟩
      · exact h j (by omega) j2
    · exact mA_no hd hD (Or.inr ⟨nI_pos (by omega), nI_le (by omega) (by omega)⟩) (k_yes rfl (bad (fun z => q1 z.2.1)))
theorem m_seeW {M : pm} {n : Nat} {T : Nat → Nat} (hn : n ≤ 48) (hT : tpM M T) {Q : Int32 → pm → Prop} (k : ∀ M', fG sA M M' → mI M' 3 = mI M 3 → (∀ a, a < 277 → mI M' a = mI M a) → mI M' 277 63 = nI (n / 3) → (∀ j, j < n → mI M' 322 j = nI (T j)) → (∀ j, j ≠ 63 → mI M' 277 j = mI M 277 j) → Q (nI (n / 3)) M') : ∃ m, w_X8_see_114 m (nI n) 0 M Q := by
  have key : ∀ d m i M1, i + d = n → d < m → fG sA M M1 → (∀ a, a ≠ 322 → mI M1 a = mI M a) → (∀ j, j < i → mI M1 322 j = nI (T j)) → w_X8_see_114 m (nI n) (nI i) M1 Q := by
    intro d
    induction d with
    | zero =>
      intro m i M1 hi hm f1 e1 e2
      obtain ⟨m, rfl⟩ : ∃ m', m = m' + 1 := ⟨m - 1, by omega⟩
      unfold w_X8_see_114
      rw [show nI n / 3 = nI (n / 3) from pk_div (d := 3) (by omega) (by decide) (by decide)]
      refine k_yes (nI_le (by omega) (by omega)) (k _ (f1.up (Or.inr (Or.inr (Or.inl ⟨rfl, Or.inr rfl⟩))) _) ?_ (fun a ha => ?_) (rIs _ _ _ _) (fun j hj => ?_) (fun j hj => ?_))
      · rw [mI_off (by decide), e1 3 (by decide)]
      · rw [mI_off (by omega), e1 a (by omega)]
      · rw [rI (by omega)]; exact e2 j (by omega)
      · rw [rI (by omega), e1 277 (by decide)]
    | succ d ih =>
      intro m i M1 hi hm f1 e1 e2
      obtain ⟨m, rfl⟩ : ∃ m', m = m' + 1 := ⟨m - 1, by omega⟩
      unfold w_X8_see_114
      rw [nI_clamp (by omega), e1 278 (by decide), (hT i (by omega)).2, nI_1]
      refine k_no (nI_ge (by omega) (by omega)) ⟨vp_in_nI (by omega) (by decide), vp_in_nI (by omega) (by decide), ih m (i + 1) _ (by omega) (by omega) (f1.up (Or.inr (Or.inr (Or.inr rfl))) _) (fun a ha => by rw [mI_off ha]; exact e1 a ha) (fun j hj => ?_)⟩
      by_cases e : j = i
      · subst e; exact rIs _ _ _ _
      · rw [rI (by omega)]; exact e2 j (by omega)
  exact ⟨n + 1, key n (n + 1) 0 M (by omega) (by omega) (fG.rf M) (fun _ _ => rfl) (fun j hj => by omega)⟩
theorem m_seeN {M : pm} {x1 : Int32} {k102 : Int32 → Int32 → pm → Prop} {Q : Int32 → pm → Prop} (k : k102 x1 0 M) : ∃ m, w_X8_see_43 m x1 0 0 M k102 Q := by
  refine ⟨1, ?_⟩
  unfold w_X8_see_43
  exact ⟨fun _ => k, fun _ => k_yes rfl k⟩
theorem rfs1 {M1 : pm} {Q : Int32 → pm → Prop} (k : Q (-1) (sI M1 279 1 (mI M1 279 1 + 1))) : w_X8_refuses 1 M1 (fun y6 M5 => Q y6 M5) := ⟨vp_in_nI (n := 1) (by decide) (by decide), vp_in_nI (n := 1) (by decide) (by decide), k⟩
theorem p_see (M : pm) (hI : Inv M) : stp Inv w_X7_see w_X8_see M := by
  obtain ⟨t, D, P, S, R⟩ := Rp_of hI
  obtain ⟨r1, r2, r3, r4, r5, r6, r7, r8, r9, r10, r11, r12⟩ := id R
  obtain ⟨i1, i2, i3, i4, i5, i6, i7, -⟩ := id hI
  obtain ⟨n, T, n16, n3, n277, tc, tm⟩ := tape_of i2
  have h8 := r3.2.2.1
  have f0 : fG sA M (sI M 3 1 0) := (fG.rf M).up (Or.inl ⟨rfl, Or.inl rfl⟩) _
  have d0 : dC (sI M 3 1 0) t D P := dC_c (fun c c1 c2 => mI_off (by omega)) r4
  have tc0 : tpC (sI M 3 1 0) T := tpC_c (mI_off (by decide)) tc
  -- refused
  have no : (mI M 3 5 = 0 ∨ ¬ okSee D T n) → stp Inv w_X7_see w_X8_see M := fun h => by
    refine stp_clr hI (j := 1) (by decide) (-1) (fun K k => ?_) (fun M1 e Q k => ?_)
    · show (_ ∧ _)
      rw [rI (by omega), n3]
      refine ⟨fun _ => s_refuse (by decide) k, fun q => c_isSeen (M := sI M 3 1 0) n16 r2 d0 r3 tc0 (fun z => ?_) (fun _ => k_yes' rfl (s_refuse (by decide) k))⟩
      rcases h with h | h
      · exact absurd h q
      · exact absurd z h
    · have e1 : mI M1 277 1 = nI n := by rw [e, rI (by omega), rI (by omega)]; exact n277
      have e50 : mI M1 277 50 = mI M 3 5 := by rw [e, rI (by omega), rI (by omega)]; exact r10.symm
      have fin : ∀ x1 : Int32, ((¬ (0 : Int32) = 0 → (∃ n12, w_X8_see_114 n12 x1 0 (sI M1 277 1 0) Q)) ∧ ((0 : Int32) = 0 → (w_X8_refuses 1 (sI M1 277 1 0) (fun y14 M13 => Q y14 M13)))) := fun x1 => k_yes' rfl (rfs1 k)
      unfold w_X8_see
      rw [e1, e50, show irm (nI n) 3 = nI (n % 3) from irm_n (d := 3) (by omega) (by decide) (by decide), show nI n / 3 = nI (n / 3) from pk_div (d := 3) (by omega) (by decide) (by decide)]
      refine ⟨fun _ => m_seeN (fin _), fun q0 => pk_le n 0 (fun _ => m_seeN (fin _)) (fun q1 => pk_ne (n % 3) 0 (fun _ => m_seeN (fin _)) (fun q2 => pk_lt 16 (n / 3) (fun _ => m_seeN (fin _)) (fun q3 => ⟨n / 3 + 1, ?_⟩)))⟩
      have d1 : dM (sI M1 277 1 0) D P := by rw [e]; exact dM_c (fun c c1 c2 _ => by rw [mI_off (by omega), mI_off (by omega), mI_off (by omega)]) r5
      have tm1 : tpM (sI M1 277 1 0) T := by rw [e]; exact tpM_c (by rw [mI_off (by omega), mI_off (by omega), mI_off (by omega)]) tm
      refine m_seeL (n := n) (by omega) d1 r3 tm1 (n / 3) (n / 3 + 1) 0 (by omega) (by omega) (fun z => ?_) (fun _ => fin _)
      rcases h with h | h
      · exact absurd h q0
      · exact absurd ⟨by omega, by omega, q2, fun i hi => z i (Nat.zero_le _) hi⟩ h
  by_cases h0 : mI M 3 5 = 0
  · exact no (Or.inl h0)
  by_cases hs : okSee D T n
  · obtain ⟨s1, s2, s3, s4⟩ := id hs
    intro K hK
    show (_ ∧ _)
    rw [rI (by omega), n3]
    refine k_no h0 (c_isSeen (M := sI M 3 1 0) n16 r2 d0 r3 tc0 (fun _ => k_no' (by decide) ?_) (fun z => absurd hs z))
    rw [show nI n / 3 = nI (n / 3) from pk_div (d := 3) (by omega) (by decide) (by decide)]
    have f1 : fG sA M (sI (sI M 3 1 0) 3 13 (nI (n / 3))) := f0.up (Or.inl ⟨rfl, Or.inr rfl⟩) _
    refine c_seeW (n := n / 3) (by omega) (tpC_c (mI_off (by decide)) tc0) (rIs _ _ _ _) (fun M1 f2 e3 e274 er => ?_)
    have f := f1.tr f2
    refine hK _ M1 ⟨f.1, f.row (fun k => by unfold sA; omega)⟩ (fun Q hQ => ?_)
    have e277 : mI M1 277 = mI M 277 := by rw [e274 277 (by decide), mI_off (by decide), mI_off (by decide)]
    unfold w_X8_see
    rw [e277, n277, ← r10, show irm (nI n) 3 = nI (n % 3) from irm_n (d := 3) (by omega) (by decide) (by decide), show nI n / 3 = nI (n / 3) from pk_div (d := 3) (by omega) (by decide) (by decide)]
    refine k_no h0 (k_no (nI_nle (by omega) (by omega)) (k_yes' (by rw [s3]; rfl) (k_no (nI_nlt (a := 16) (by omega) (by decide)) ⟨n / 3 + 1, ?_⟩)))
    have d1 : dM (sI M1 277 1 0) D P := dM_c (fun c c1 c2 _ => by rw [mI_off (by omega)]; exact f.row (fun k => by unfold sA; omega)) r5
    have tm1 : tpM (sI M1 277 1 0) T := tpM_c (by rw [mI_off (by omega)]; exact f.row (fun k => by unfold sA; omega)) tm
    refine m_seeL (n := n) s2 d1 r3 tm1 (n / 3) (n / 3 + 1) 0 (by omega) (by omega) (fun _ => k_no' (by decide) ?_) (fun z => absurd (fun j _ hj => s4 j hj) z)
    refine m_seeW (n := n) s2 tm1 (fun M2 g1 g3 g4 g5 g6 g7 => hQ M2 ?_ ⟨g1.1, by rw [g4 1 (by decide), mI_off (by decide)]⟩)
    have g : fG sA M M2 := (f.up (c := 277) (j := 1) (Or.inr (Or.inr (Or.inl ⟨rfl, Or.inl rfl⟩))) 0).tr g1
    have e : ∀ a k, ¬ sA a k → mI M2 a k = mI M a k := g.2.2.2
    have x3 : ∀ k, mI M2 3 k = mI (sI (sI M 3 1 0) 3 13 (nI (n / 3))) 3 k := fun k => by rw [g3, mI_off (by decide), e3]
    have er2 : ∀ a, 258 ≤ a → a < 274 → mI M2 a = mI M1 a := fun a a1 a2 => by rw [g4 a (by omega), mI_off (by omega)]
    refine Inv_mk hI g.1 (iWrd_c (g.row (fun k => by unfold sA; omega)) (fun a ha => g.row (fun k => by unfold sA; omega)) i7) (tape_to (n := 0) (T := T) (by decide) ?_ ?_ (tpC_c (g.row (fun k => by unfold sA; omega)) tc) (tpM_c (g.row (fun k => by unfold sA; omega)) tm)) (iFlt_c (e _ _ (by unfold sA; omega)) (e _ _ (by unfold sA; omega)) (e _ _ (by unfold sA; omega)) (e _ _ (by unfold sA; omega)) i3) (iRef_c (g.row (fun k => by unfold sA; omega)) (g.row (fun k => by unfold sA; omega)) i4) (iSeed_c (e _ _ (by unfold sA; omega)) (by rw [g.2.2.1]) i5) (iPic_c (e _ _ (by unfold sA; omega)) (e _ _ (by unfold sA; omega)) (g.row (fun k => by unfold sA; omega)) (g.row (fun k => by unfold sA; omega)) i6) (fun t' ns na ne hr h1 h2 h3 h4 => ?_)
    · rw [x3, rI (by omega), rIs]; rfl
    · rw [g7 1 (by decide), rIs]; rfl
    · obtain ⟨rfl, rfl, rfl, rfl, -⟩ := Rp_n R h1
      refine ⟨iSta_c (fun b b1 b2 => g.row (fun k => by unfold sA; omega)) (fun b b1 b2 b3 => g.row (fun k => by unfold sA; omega)) (by rw [g.2.2.1]) (e _ _ (by unfold sA; omega)) (e _ _ (by unfold sA; omega)) (by rw [g.2.1]) (by rw [g.2.1]) h1, iNow_c (fun b b1 b2 => g.row (fun k => by unfold sA; omega)) (g.row (fun k => by unfold sA; omega)) (e _ _ (by unfold sA; omega)) h2, ⟨n / 3, by omega, by rw [x3, rIs], g5, fun q hq => ?_⟩, iHist_c (fun b b1 b2 => g.row (fun k => by unfold sA; omega)) (g.row (fun k => by unfold sA; omega)) (e _ _ (by unfold sA; omega)) (e _ _ (by unfold sA; omega)) (e _ _ (by unfold sA; omega)) (by rw [g.2.1]) h4⟩
      obtain ⟨o1, o2, o3⟩ := s4 q (by omega)
      rw [er2 (258 + q) (by omega) (by omega)]
      exact ⟨_, _, _, o1, o2, o3, er q 0 hq (by decide), g6 _ (by omega), er q 1 hq (by decide), g6 _ (by omega), er q 2 hq (by decide), g6 _ (by omega)⟩
  · exact no (Or.inr hs)
/-! on -/
def okA (D T : Nat → Nat) (b : Nat) : Prop := T (4 + 8 * b) < D 1 ∧ pr T (4 + 8 * b + 1) ≤ 999 ∧ T (4 + 8 * b + 3) ≤ 99 ∧ pr T (4 + 8 * b + 4) ≤ pr T 0 + 1 ∧ pr T (4 + 8 * b + 6) ≤ 999
def okI (D T : Nat → Nat) (n : Nat) : Prop := n = 5 + 8 * D 2 ∧ chF T (n - 1) = T (n - 1) ∧ pr T 0 ≤ 999 ∧ pr T 2 ≤ 999 ∧ ∀ b, b < D 2 → okA D T b
theorem c_imL {M : pm} {t : Nat} {D T : Nat → Nat} {P : Nat → List Nat} (h3 : mR M 3 3 = t) (hd : dC M t D P) (hD : okD D P) (hT : tpC M T) (pl : ∀ k, k + 1 < 1600 → pr T k < 65536) {Q : Int32 → pm → Prop} : ∀ (d m b : Nat), b + d = D 2 → d < m → ((∀ j, b ≤ j → j < D 2 → okA D T j) → Q 1 M) → (¬ (∀ j, b ≤ j → j < D 2 → okA D T j) → Q 0 M) → w_X7_isImageTape_90 m (nI b) M Q := by
  have h8 := hD.2.2.1
  have h6 := hD.2.1
  intro d
  induction d with
  | zero =>
    intro m b hb hm k1 k0
    obtain ⟨m, rfl⟩ : ∃ m', m = m' + 1 := ⟨m - 1, by omega⟩
    unfold w_X7_isImageTape_90
    rw [h3, hd.2.2.1]
    exact k_yes (nI_le (by omega) (by omega)) (k1 (fun j h1 h2 => by omega))
  | succ d ih =>
    intro m b hb hm k1 k0
    obtain ⟨m, rfl⟩ : ∃ m', m = m' + 1 := ⟨m - 1, by omega⟩
    have bad : ¬ okA D T b → Q 0 M := fun h => k0 (fun z => h (z b (Nat.le_refl _) (by omega)))
    have l1 := pl (4 + 8 * b + 1) (by omega)
    have l4 := pl (4 + 8 * b + 4) (by omega)
    have l6 := pl (4 + 8 * b + 6) (by omega)
    have l0 := pl 0 (by omega)
    have t0 := (hT (4 + 8 * b) (by omega)).1
    have t3 := (hT (4 + 8 * b + 3) (by omega)).1
    unfold w_X7_isImageTape_90
    rw [h3, hd.2.2.1, show (8 : Int32) * nI b = nI (8 * b) from pk_mul 8 b, show (4 : Int32) + nI (8 * b) = nI (4 + 8 * b) from nI_add 4 _, nI_1, nI_1, show nI (4 + 8 * b) + 3 = nI (4 + 8 * b + 3) from nI_add _ 3, show nI (4 + 8 * b) + 4 = nI (4 + 8 * b + 4) from nI_add _ 4, show nI (4 + 8 * b) + 6 = nI (4 + 8 * b + 6) from nI_add _ 6]
    refine k_no (nI_ge (by omega) (by omega)) (c_tb hT (by omega) ?_)
    by_cases q0 : T (4 + 8 * b) < D 1
    · refine cS_yes h3 hd hD q0 (k_no (by decide) (c_tp hT (by omega) (pk_lt 999 (pr T (4 + 8 * b + 1)) (fun q => bad (fun z => by have := z.2.1; omega)) (fun q1 => c_tb hT (by omega) (pk_lt 99 (T (4 + 8 * b + 3)) (fun q => bad (fun z => by have := z.2.2.1; omega)) (fun q3 => c_tp hT (by omega) (c_tp (k := 0) hT (by omega) ?_)))))))
      rw [← zI_n (pr T 0), show nI (pr T (4 + 8 * b + 4)) - 1 = zI ((pr T (4 + 8 * b + 4) : Int) - 1) from by rw [← zI_n, ← zI_sub]; rfl]
      refine ki_lt (pr T 0) ((pr T (4 + 8 * b + 4) : Int) - 1) (fun q => bad (fun z => by have := z.2.2.2.1; omega)) (fun q4 => c_tp hT (by omega) (pk_le (pr T (4 + 8 * b + 6)) 999 (fun q6 => ih m (b + 1) (by omega) (by omega) (fun h => k1 (fun j j1 j2 => ?_)) (fun h => k0 (fun z => h (fun j j1 j2 => z j (by omega) j2)))) (fun q => bad (fun z => by have := z.2.2.2.2; omega))))
      by_cases e : j = b
      · subst e; exact ⟨q0, q1, q3, by omega, q6⟩
      · exact h j (by omega) j2
    · exact cS_no h3 hd (nI_le (by omega) (by omega)) (k_yes rfl (bad (fun z => q0 z.1)))
theorem c_isImage {M : pm} {t n : Nat} {D T : Nat → Nat} {P : Nat → List Nat} (hn : n ≤ 1600) (h3 : mR M 3 3 = t) (hd : dC M t D P) (hD : okD D P) (hT : tpC M T) (pl : ∀ k, k + 1 < 1600 → pr T k < 65536) {Q : Int32 → pm → Prop} (k1 : okI D T n → Q 1 M) (k0 : ¬ okI D T n → Q 0 M) : w_X7_isImageTape (nI n) M Q := by
  have h8 := hD.2.2.1
  have l0 := pl 0 (by omega)
  have l2 := pl 2 (by omega)
  unfold w_X7_isImageTape
  rw [h3, hd.2.2.1, show (8 : Int32) * nI (D 2) = nI (8 * D 2) from pk_mul 8 _, show (4 : Int32) + nI (8 * D 2) = nI (4 + 8 * D 2) from nI_add 4 _, nI_1]
  refine pk_eq n (4 + 8 * D 2 + 1) (fun e => ?_) (fun e => k0 (fun z => e (by have := z.1; omega)))
  have key : ∀ d m i, i + d = n - 1 → d < m → w_X7_isImageTape_26 m (nI n) (nI (chF T i)) (nI i) M (fun x1 x2 M5 => w_X7_tapeByte (x1 - 1) M5 (fun y7 M6 => ((¬ x2 = y7 → (Q 0 M6)) ∧ (x2 = y7 → (w_X7_tapePair 0 M6 (fun y10 M9 => ((999 < y10 → (Q 0 M9)) ∧ (¬ 999 < y10 → (w_X7_tapePair 2 M9 (fun y13 M12 => ((y13 ≤ 999 → (∃ n37, w_X7_isImageTape_90 n37 0 M12 Q)) ∧ (¬ y13 ≤ 999 → (Q 0 M12))))))))))))) Q := by
    have en : nI n - 1 = nI (n - 1) := pk_sub (a := n) (b := 1) (by omega)
    intro d
    induction d with
    | zero =>
      intro m i hi hm
      obtain ⟨m, rfl⟩ : ∃ m', m = m' + 1 := ⟨m - 1, by omega⟩
      have hi' : i = n - 1 := by omega
      subst hi'
      have c1 := chF_lt T (n - 1)
      have t1 := (hT (n - 1) (by omega)).1
      unfold w_X7_isImageTape_26
      rw [en]
      refine k_yes (nI_le (Nat.le_refl _) (by omega)) ?_
      dsimp only
      rw [en]
      refine (c_tb hT (by omega) (pk_ne (chF T (n - 1)) (T (n - 1)) (fun q => k0 (fun z => q z.2.1)) (fun q1 => c_tp (k := 0) hT (by omega) (pk_lt 999 (pr T 0) (fun q => k0 (fun z => by have := z.2.2.1; omega)) (fun q2 => c_tp (k := 2) hT (by omega) (pk_le (pr T 2) 999 (fun q3 => ⟨D 2 + 1, ?_⟩) (fun q => k0 (fun z => by have := z.2.2.2.1; omega))))))))
      exact c_imL h3 hd hD hT pl (D 2) (D 2 + 1) 0 (by omega) (by omega) (fun h => k1 ⟨by omega, q1, q2, q3, fun b hb => h b (Nat.zero_le _) hb⟩) (fun h => k0 (fun z => h (fun j _ hj => z.2.2.2.2 j hj)))
    | succ d ih =>
      intro m i hi hm
      obtain ⟨m, rfl⟩ : ∃ m', m = m' + 1 := ⟨m - 1, by omega⟩
      have c1 := chF_lt T i
      have t1 := (hT i (by omega)).1
      unfold w_X7_isImageTape_26
      rw [en]
      refine k_no (nI_ge (by omega) (by omega)) (c_tb hT (by omega) ?_)
      rw [show (3 : Int32) * nI (chF T i) = nI (3 * chF T i) from pk_mul 3 _, nI_add, show irm (nI (3 * chF T i + T i)) 251 = nI ((3 * chF T i + T i) % 251) from irm_n (d := 251) (by omega) (by decide) (by decide), nI_1]
      exact ih m (i + 1) (by omega) (by omega)
  exact ⟨n, key (n - 1) n 0 (by omega) (by omega)⟩
theorem m_imL {M : pm} {D T : Nat → Nat} {P : Nat → List Nat} (hd : dM M D P) (hD : okD D P) (hT : tpM M T) {Q : Int32 → pm → Prop} : ∀ (d m b : Nat), b + d = D 2 → d < m → ((∀ j, b ≤ j → j < D 2 → okA D T j) → Q 1 M) → (¬ (∀ j, b ≤ j → j < D 2 → okA D T j) → Q 0 M) → w_X8_isImage_67 m (nI b) M Q := by
  have h8 := hD.2.2.1
  have h6 := hD.2.1
  intro d
  induction d with
  | zero =>
    intro m b hb hm k1 k0
    obtain ⟨m, rfl⟩ : ∃ m', m = m' + 1 := ⟨m - 1, by omega⟩
    unfold w_X8_isImage_67 w_X8_askerMany
    dsimp only
    rw [hd.2.2.1]
    exact k_yes (nI_le (by omega) (by omega)) (k1 (fun j h1 h2 => by omega))
  | succ d ih =>
    intro m b hb hm k1 k0
    obtain ⟨m, rfl⟩ : ∃ m', m = m' + 1 := ⟨m - 1, by omega⟩
    have bad : ¬ okA D T b → Q 0 M := fun h => k0 (fun z => h (z b (Nat.le_refl _) (by omega)))
    have l1 := pr_lt hT (k := 4 + 8 * b + 1) (by omega)
    have l4 := pr_lt hT (k := 4 + 8 * b + 4) (by omega)
    have l6 := pr_lt hT (k := 4 + 8 * b + 6) (by omega)
    have l0 := pr_lt hT (k := 0) (by omega)
    have t0 := hT (4 + 8 * b) (by omega)
    have t3 := hT (4 + 8 * b + 3) (by omega)
    unfold w_X8_isImage_67 w_X8_askerMany
    dsimp only
    rw [hd.2.2.1, show (8 : Int32) * nI b = nI (8 * b) from pk_mul 8 b, show (4 : Int32) + nI (8 * b) = nI (4 + 8 * b) from nI_add 4 _, nI_1]
    refine k_no (nI_ge (by omega) (by omega)) ?_
    unfold w_X8_isAskerTold w_X8_songMany
    dsimp only
    rw [nI_1, show nI (4 + 8 * b) + 3 = nI (4 + 8 * b + 3) from nI_add _ 3, show nI (4 + 8 * b) + 4 = nI (4 + 8 * b + 4) from nI_add _ 4, show nI (4 + 8 * b) + 6 = nI (4 + 8 * b + 6) from nI_add _ 6, nI_clamp (by omega), nI_clamp (by omega), hd.2.1, t0.2]
    refine ⟨vp_in_nI (by omega) (by decide), pk_le (D 1) (T (4 + 8 * b)) (fun q => k_yes' rfl (bad (fun z => by have := z.1; omega))) (fun q0 => m_tp hT (by omega) (pk_lt 999 (pr T (4 + 8 * b + 1)) (fun q => k_yes' rfl (bad (fun z => by have := z.2.1; omega))) (fun q1 => ⟨vp_in_nI (by omega) (by decide), ?_⟩)))⟩
    rw [t3.2]
    refine pk_lt 99 (T (4 + 8 * b + 3)) (fun q => k_yes' rfl (bad (fun z => by have := z.2.2.1; omega))) (fun q3 => m_tp hT (by omega) (m_tp (k := 0) hT (by omega) ?_))
    rw [nI_1]
    refine pk_lt (pr T 0 + 1) (pr T (4 + 8 * b + 4)) (fun q => k_yes' rfl (bad (fun z => by have := z.2.2.2.1; omega))) (fun q4 => m_tp hT (by omega) (pk_lt 999 (pr T (4 + 8 * b + 6)) (fun q => k_yes' rfl (bad (fun z => by have := z.2.2.2.2; omega))) (fun q6 => k_no' (by decide) (ih m (b + 1) (by omega) (by omega) (fun h => k1 (fun j j1 j2 => ?_)) (fun h => k0 (fun z => h (fun j j1 j2 => z j (by omega) j2)))))))
    by_cases e : j = b
    · subst e; exact ⟨q0, q1, q3, q4, q6⟩
    · exact h j (by omega) j2
theorem m_isImage {M : pm} {n : Nat} {D T : Nat → Nat} {P : Nat → List Nat} (hn : n ≤ 1600) (h50 : ¬ mI M 277 50 = 0) (hd : dM M D P) (hD : okD D P) (hT : tpM M T) {Q : Int32 → pm → Prop} (k1 : okI D T n → Q 1 M) (k0 : ¬ okI D T n → Q 0 M) : w_X8_isImage (nI n) M Q := by
  have h8 := hD.2.2.1
  have l0 := pr_lt hT (k := 0) (by omega)
  have l2 := pr_lt hT (k := 2) (by omega)
  unfold w_X8_isImage w_X8_askerMany
  dsimp only
  rw [hd.2.2.1, show (8 : Int32) * nI (D 2) = nI (8 * D 2) from pk_mul 8 _, show (5 : Int32) + nI (8 * D 2) = nI (5 + 8 * D 2) from nI_add 5 _]
  refine k_no h50 (pk_ne n (5 + 8 * D 2) (fun e => k0 (fun z => e z.1)) (fun e => ?_))
  have c1 := chF_lt T (n - 1)
  have t1 := hT (n - 1) (by omega)
  rw [show nI n - 1 = nI (n - 1) from pk_sub (a := n) (b := 1) (by omega), nI_clamp (by omega), t1.2]
  refine ⟨vp_in_nI (by omega) (by decide), m_check (a := 278) (g := T) (by show _ ≤ 1600; omega) (by show 1600 ≤ 1600; decide) (fun k hk => hT k (by omega)) (pk_ne (T (n - 1)) (chF T (n - 1)) (fun q => k0 (fun z => q z.2.1.symm)) (fun q1 => m_tp (k := 0) hT (by omega) (pk_lt 999 (pr T 0) (fun q => k0 (fun z => by have := z.2.2.1; omega)) (fun q2 => m_tp (k := 2) hT (by omega) (pk_le (pr T 2) 999 (fun q3 => ⟨D 2 + 1, ?_⟩) (fun q => k0 (fun z => by have := z.2.2.2.1; omega)))))))⟩
  exact m_imL hd hD hT (D 2) (D 2 + 1) 0 (by omega) (by omega) (fun h => k1 ⟨e, q1.symm, q2, q3, fun b hb => h b (Nat.zero_le _) hb⟩) (fun h => k0 (fun z => h (fun j _ hj => z.2.2.2.2 j hj)))
/-- the state that an image tells -/
def onS (T : Nat → Nat) (k : Nat) : Nat := if k = 0 then pr T 0 else if k = 1 then pr T 2 else if (k - 2) % 5 = 0 then T (4 + 8 * ((k - 2) / 5)) else if (k - 2) % 5 = 1 then pr T (4 + 8 * ((k - 2) / 5) + 1) else if (k - 2) % 5 = 2 then T (4 + 8 * ((k - 2) / 5) + 3) else if (k - 2) % 5 = 3 then pr T (4 + 8 * ((k - 2) / 5) + 4) else pr T (4 + 8 * ((k - 2) / 5) + 6)
theorem onS_2 (T : Nat → Nat) (b : Nat) : onS T (2 + 5 * b) = T (4 + 8 * b) := by unfold onS; rw [if_neg (by omega), if_neg (by omega), if_pos (by omega), show (2 + 5 * b - 2) / 5 = b from by omega]
theorem onS_3 (T : Nat → Nat) (b : Nat) : onS T (3 + 5 * b) = pr T (4 + 8 * b + 1) := by unfold onS; rw [if_neg (by omega), if_neg (by omega), if_neg (by omega), if_pos (by omega), show (3 + 5 * b - 2) / 5 = b from by omega]
theorem onS_4 (T : Nat → Nat) (b : Nat) : onS T (4 + 5 * b) = T (4 + 8 * b + 3) := by unfold onS; rw [if_neg (by omega), if_neg (by omega), if_neg (by omega), if_neg (by omega), if_pos (by omega), show (4 + 5 * b - 2) / 5 = b from by omega]
theorem onS_5 (T : Nat → Nat) (b : Nat) : onS T (5 + 5 * b) = pr T (4 + 8 * b + 4) := by unfold onS; rw [if_neg (by omega), if_neg (by omega), if_neg (by omega), if_neg (by omega), if_neg (by omega), if_pos (by omega), show (5 + 5 * b - 2) / 5 = b from by omega]
theorem onS_6 (T : Nat → Nat) (b : Nat) : onS T (6 + 5 * b) = pr T (4 + 8 * b + 6) := by unfold onS; rw [if_neg (by omega), if_neg (by omega), if_neg (by omega), if_neg (by omega), if_neg (by omega), if_neg (by omega), show (6 + 5 * b - 2) / 5 = b from by omega]
theorem onS_ok {D T : Nat → Nat} {n : Nat} (h : okI D T n) : okS D (onS T) ∧ onS T 0 ≤ 999 := by
  obtain ⟨h1, h2, h3, h4, h5⟩ := h
  have e0 : onS T 0 = pr T 0 := if_pos rfl
  have e1 : onS T 1 = pr T 2 := by unfold onS; rw [if_neg (by decide), if_pos rfl]
  refine ⟨⟨by rw [e0]; omega, by rw [e1]; exact h4, fun b hb => ?_⟩, by rw [e0]; exact h3⟩
  obtain ⟨a1, a2, a3, a4, a5⟩ := h5 b hb
  rw [onS_2, onS_3, onS_4, onS_5, onS_6, e0]
  exact ⟨a1, a2, a3, a4, a5⟩
def oA (a k : Nat) : Prop := (a = 3 ∧ k = 1) ∨ (57 ≤ a ∧ a < 63) ∨ (a = 75 ∧ k = 1) ∨ (a = 277 ∧ (k = 1 ∨ k = 69)) ∨ a = 317
def oC (a k : Nat) : Prop := (57 ≤ a ∧ a < 63) ∨ (a = 75 ∧ k = 1)
def oM (a k : Nat) : Prop := (a = 277 ∧ k = 69) ∨ (a = 317 ∧ k ≤ 42)
theorem c_on {M : pm} {t : Nat} {D T : Nat → Nat} {P : Nat → List Nat} (ht : t = 14 ∨ t = 29) (h3 : mR M 3 3 = t) (hd : dC M t D P) (hD : okD D P) (hT : tpC M T) {Q : Int32 → pm → Prop} (k : ∀ M', fG oC M M' → sC M' 57 D (onS T) → mI M' 57 7 = 0 → mI M' 75 1 = 0 → Q 1 M') : w_X7_tapePair 0 M (fun y12 M11 => w_X7_tapePair 2 (sI M11 57 0 y12) (fun y15 M14 => ∃ n40, w_X7_on_53 n40 0 (sI M14 57 1 y15) Q)) := by
  have h8 := hD.2.2.1
  have e0 : onS T 0 = pr T 0 := if_pos rfl
  have e1 : onS T 1 = pr T 2 := by unfold onS; rw [if_neg (by decide), if_pos rfl]
  have u57 : ∀ j, oC 57 j := fun j => Or.inl ⟨by decide, by decide⟩
  have key : ∀ d m b M1, b + d = D 2 → d < m → fG oC M M1 → mI M1 57 0 = nI (pr T 0) → mI M1 57 1 = nI (pr T 2) → (∀ q, q < b → mI M1 58 q = nI (onS T (2 + 5 * q)) ∧ mI M1 59 q = nI (onS T (3 + 5 * q)) ∧ mI M1 60 q = nI (onS T (4 + 5 * q)) ∧ mI M1 61 q = nI (onS T (5 + 5 * q)) - 1 ∧ mI M1 62 q = nI (onS T (6 + 5 * q))) → w_X7_on_53 m (nI b) M1 Q := by
    intro d
    induction d with
    | zero =>
      intro m b M1 hb hm f1 g0 g1 g2
      obtain ⟨m, rfl⟩ : ∃ m', m = m' + 1 := ⟨m - 1, by omega⟩
      unfold w_X7_on_53
      have hd1 : dC M1 t D P := dC_c (fun c c1 c2 => f1.row (fun k => by unfold oC; omega)) hd
      rw [f1.2.1, h3, hd1.2.2.1]
      refine k_yes (nI_le (by omega) (by omega)) (k _ ((f1.up (u57 7) _).up (Or.inr ⟨rfl, rfl⟩) _) ⟨?_, ?_, fun q hq => ?_⟩ ?_ (rIs _ _ _ _))
      · rw [rI (by omega), rI (by omega), e0]; exact g0
      · rw [rI (by omega), rI (by omega), e1]; exact g1
      · rw [mI_off (by omega), mI_off (by omega), mI_off (by omega), mI_off (by omega), mI_off (by omega), mI_off (by omega), mI_off (by omega), mI_off (by omega), mI_off (by omega), mI_off (by omega)]
        exact g2 q (by omega)
      · rw [rI (by omega), rIs]
    | succ d ih =>
      intro m b M1 hb hm f1 g0 g1 g2
      obtain ⟨m, rfl⟩ : ∃ m', m = m' + 1 := ⟨m - 1, by omega⟩
      have hd1 : dC M1 t D P := dC_c (fun c c1 c2 => f1.row (fun k => by unfold oC; omega)) hd
      have tt : ∀ {M'}, fG oC M M' → tpC M' T := fun h => tpC_c (h.row (fun k => by unfold oC; omega)) hT
      have hv : vp_in (nI b) 8 := vp_in_nI (by omega) (by decide)
      have up : ∀ {M' : pm} {a j : Nat} {v : Int32}, 57 ≤ a → a < 63 → fG oC M M' → fG oC M (sI M' a j v) := fun h1 h2 h => h.up (Or.inl ⟨h1, h2⟩) _
      unfold w_X7_on_53
      rw [f1.2.1, h3, hd1.2.2.1, show (8 : Int32) * nI b = nI (8 * b) from pk_mul 8 b, show (4 : Int32) + nI (8 * b) = nI (4 + 8 * b) from nI_add 4 _, nI_1, nI_1, show nI (4 + 8 * b) + 3 = nI (4 + 8 * b + 3) from nI_add _ 3, show nI (4 + 8 * b) + 4 = nI (4 + 8 * b + 4) from nI_add _ 4, show nI (4 + 8 * b) + 6 = nI (4 + 8 * b + 6) from nI_add _ 6, nI_clamp (by omega)]
      have f2 := up (a := 58) (j := b) (v := nI (T (4 + 8 * b))) (by decide) (by decide) f1
      have f3 := up (a := 59) (j := b) (v := nI (pr T (4 + 8 * b + 1))) (by decide) (by decide) f2
      have f4 := up (a := 60) (j := b) (v := nI (T (4 + 8 * b + 3))) (by decide) (by decide) f3
      have f5 := up (a := 61) (j := b) (v := nI (pr T (4 + 8 * b + 4)) - 1) (by decide) (by decide) f4
      have f6 := up (a := 62) (j := b) (v := nI (pr T (4 + 8 * b + 6))) (by decide) (by decide) f5
      refine k_no (nI_ge (by omega) (by omega)) (c_tb (tt f1) (by omega) ⟨hv, c_tp (tt f2) (by omega) ⟨hv, c_tb (tt f3) (by omega) ⟨hv, c_tp (tt f4) (by omega) ⟨hv, c_tp (tt f5) (by omega) ⟨hv, ih m (b + 1) _ (by omega) (by omega) f6 ?_ ?_ (fun q hq => ?_)⟩⟩⟩⟩⟩)
      · rw [rI (by omega), rI (by omega), rI (by omega), rI (by omega), rI (by omega)]; exact g0
      · rw [rI (by omega), rI (by omega), rI (by omega), rI (by omega), rI (by omega)]; exact g1
      · by_cases e : q = b
        · subst e
          rw [onS_2, onS_3, onS_4, onS_5, onS_6]
          refine ⟨?_, ?_, ?_, ?_, rIs _ _ _ _⟩
          · rw [rI (by omega), rI (by omega), rI (by omega), rI (by omega), rIs]
          · rw [rI (by omega), rI (by omega), rI (by omega), rIs]
          · rw [rI (by omega), rI (by omega), rIs]
          · rw [rI (by omega), rIs]
        · obtain ⟨z1, z2, z3, z4, z5⟩ := g2 q (by omega)
          refine ⟨?_, ?_, ?_, ?_, ?_⟩
          · rw [rI (by omega), rI (by omega), rI (by omega), rI (by omega), rI (by omega)]; exact z1
          · rw [rI (by omega), rI (by omega), rI (by omega), rI (by omega), rI (by omega)]; exact z2
          · rw [rI (by omega), rI (by omega), rI (by omega), rI (by omega), rI (by omega)]; exact z3
          · rw [rI (by omega), rI (by omega), rI (by omega), rI (by omega), rI (by omega)]; exact z4
          · rw [rI (by omega), rI (by omega), rI (by omega), rI (by omega), rI (by omega)]; exact z5
  have f1 : fG oC M (sI M 57 0 (nI (pr T 0))) := (fG.rf M).up (u57 0) _
  have f2 : fG oC M (sI (sI M 57 0 (nI (pr T 0))) 57 1 (nI (pr T 2))) := f1.up (u57 1) _
  refine c_tp (k := 0) hT (by omega) (c_tp (k := 2) (tpC_c (f1.row (fun k => by unfold oC; omega)) hT) (by omega) ⟨D 2 + 1, key (D 2) (D 2 + 1) 0 _ (by omega) (by omega) f2 ?_ (rIs _ _ _ _) (fun q hq => by omega)⟩)
  rw [rI (by omega), rIs]
theorem m_on {M : pm} {D T : Nat → Nat} {P : Nat → List Nat} (hd : dM M D P) (hD : okD D P) (hT : tpM M T) {Q : Int32 → pm → Prop} (k : ∀ M', fG oM M M' → sM M' D (onS T) → mI M' 317 42 = 0 → mI M' 277 69 = 0 → Q 1 M') : w_X8_twoAt 0 M (fun y6 M5 => w_X8_twoAt 2 (sI M5 317 0 y6) (fun y9 M8 => ∃ n30, w_X8_on_54 n30 0 (sI M8 317 1 y9) Q)) := by
  have h8 := hD.2.2.1
  have e0 : onS T 0 = pr T 0 := if_pos rfl
  have e1 : onS T 1 = pr T 2 := by unfold onS; rw [if_neg (by decide), if_pos rfl]
  have key : ∀ d m b M1, b + d = D 2 → d < m → fG oM M M1 → (∀ j, j < 2 + 5 * b → mI M1 317 j = nI (onS T j)) → w_X8_on_54 m (nI b) M1 Q := by
    intro d
    induction d with
    | zero =>
      intro m b M1 hb hm f1 g
      obtain ⟨m, rfl⟩ : ∃ m', m = m' + 1 := ⟨m - 1, by omega⟩
      have hd1 : dM M1 D P := dM_c (fun c c1 c2 _ => f1.row (fun k => by unfold oM; omega)) hd
      unfold w_X8_on_54 w_X8_askerMany
      dsimp only
      rw [hd1.2.2.1]
      refine k_yes (nI_le (by omega) (by omega)) (k _ ((f1.up (Or.inr ⟨rfl, by decide⟩) _).up (Or.inl ⟨rfl, rfl⟩) _) (fun j hj => ?_) ?_ (rIs _ _ _ _))
      · rw [rI (by omega), rI (by omega)]; exact g j (by omega)
      · rw [rI (by omega), rIs]
    | succ d ih =>
      intro m b M1 hb hm f1 g
      obtain ⟨m, rfl⟩ : ∃ m', m = m' + 1 := ⟨m - 1, by omega⟩
      have hd1 : dM M1 D P := dM_c (fun c c1 c2 _ => f1.row (fun k => by unfold oM; omega)) hd
      have tt : ∀ {M'}, fG oM M M' → tpM M' T := fun h => tpM_c (h.row (fun k => by unfold oM; omega)) hT
      have up : ∀ {M' : pm} {j : Nat} {v : Int32}, j ≤ 42 → fG oM M M' → fG oM M (sI M' 317 j v) := fun h1 h => h.up (Or.inr ⟨rfl, h1⟩) _
      unfold w_X8_on_54 w_X8_askerMany
      dsimp only
      have ix : ∀ j, j ≤ 13 → (nI j : Int32) + 5 * nI b = nI (j + 5 * b) := fun j hj => m_ix (by omega) hj
      rw [hd1.2.2.1, show (8 : Int32) * nI b = nI (8 * b) from pk_mul 8 b, show (4 : Int32) + nI (8 * b) = nI (4 + 8 * b) from nI_add 4 _, nI_1, nI_1, show nI (4 + 8 * b) + 3 = nI (4 + 8 * b + 3) from nI_add _ 3, show nI (4 + 8 * b) + 4 = nI (4 + 8 * b + 4) from nI_add _ 4, show nI (4 + 8 * b) + 6 = nI (4 + 8 * b + 6) from nI_add _ 6, show (2 : Int32) + 5 * nI b = nI (2 + 5 * b) from ix 2 (by decide), show (3 : Int32) + 5 * nI b = nI (3 + 5 * b) from ix 3 (by decide), show (4 : Int32) + 5 * nI b = nI (4 + 5 * b) from ix 4 (by decide), show (5 : Int32) + 5 * nI b = nI (5 + 5 * b) from ix 5 (by decide), show (6 : Int32) + 5 * nI b = nI (6 + 5 * b) from ix 6 (by decide), nI_clamp (by omega : 2 + 5 * b < 2 ^ 31), nI_clamp (by omega : 3 + 5 * b < 2 ^ 31), nI_clamp (by omega : 4 + 5 * b < 2 ^ 31), nI_clamp (by omega : 5 + 5 * b < 2 ^ 31), nI_clamp (by omega : 6 + 5 * b < 2 ^ 31), nI_clamp (by omega : 4 + 8 * b < 2 ^ 31), nI_clamp (by omega : 4 + 8 * b + 3 < 2 ^ 31), ((tt f1) (4 + 8 * b) (by omega)).2]
      have f2 := up (j := 2 + 5 * b) (v := nI (T (4 + 8 * b))) (by omega) f1
      have f3 := up (j := 3 + 5 * b) (v := nI (pr T (4 + 8 * b + 1))) (by omega) f2
      have f4 := up (j := 4 + 5 * b) (v := nI (T (4 + 8 * b + 3))) (by omega) f3
      have f5 := up (j := 5 + 5 * b) (v := nI (pr T (4 + 8 * b + 4))) (by omega) f4
      have f6 := up (j := 6 + 5 * b) (v := nI (pr T (4 + 8 * b + 6))) (by omega) f5
      have hv : ∀ j, j < 7 → vp_in (nI (j + 5 * b)) 163 := fun j hj => vp_in_nI (by omega) (by decide)
      refine k_no (nI_ge (by omega) (by omega)) ⟨vp_in_nI (by omega) (by decide), hv 2 (by decide), m_tp (tt f2) (by omega) ⟨hv 3 (by decide), vp_in_nI (by omega) (by decide), hv 4 (by decide), ?_⟩⟩
      rw [((tt f2) (4 + 8 * b + 3) (by omega)).2]
      refine m_tp (tt f4) (by omega) ⟨hv 5 (by decide), m_tp (tt f5) (by omega) ⟨hv 6 (by decide), ih m (b + 1) _ (by omega) (by omega) f6 (fun j hj => ?_)⟩⟩
      by_cases q6 : j = 6 + 5 * b
      · subst q6; rw [rIs, onS_6]
      · rw [rI (by omega)]
        by_cases q5 : j = 5 + 5 * b
        · subst q5; rw [rIs, onS_5]
        · rw [rI (by omega)]
          by_cases q4 : j = 4 + 5 * b
          · subst q4; rw [rIs, onS_4]
          · rw [rI (by omega)]
            by_cases q3 : j = 3 + 5 * b
            · subst q3; rw [rIs, onS_3]
            · rw [rI (by omega)]
              by_cases q2 : j = 2 + 5 * b
              · subst q2; rw [rIs, onS_2]
              · rw [rI (by omega)]; exact g j (by omega)
  have f1 : fG oM M (sI M 317 0 (nI (pr T 0))) := (fG.rf M).up (Or.inr ⟨rfl, by decide⟩) _
  have f2 : fG oM M (sI (sI M 317 0 (nI (pr T 0))) 317 1 (nI (pr T 2))) := f1.up (Or.inr ⟨rfl, by decide⟩) _
  refine m_tp (k := 0) hT (by omega) (m_tp (k := 2) (tpM_c (f1.row (fun k => by unfold oM; omega)) hT) (by omega) ⟨D 2 + 1, key (D 2) (D 2 + 1) 0 _ (by omega) (by omega) f2 (fun j hj => ?_)⟩)
  rcases (show j = 0 ∨ j = 1 from by omega) with rfl | rfl
  · rw [rI (by omega), rIs, e0]
  · rw [rIs, e1]
theorem p_on (M : pm) (hI : Inv M) : stp Inv w_X7_on w_X8_on M := by
  obtain ⟨t, D, P, S, R⟩ := Rp_of hI
  obtain ⟨r1, r2, r3, r4, r5, r6, r7, r8, r9, r10, r11, r12⟩ := id R
  obtain ⟨i1, i2, i3, i4, i5, i6, i7, -⟩ := id hI
  obtain ⟨n, T, n16, n3, n277, tc, tm⟩ := tape_of i2
  have h8 := r3.2.2.1
  have pl : ∀ k, k + 1 < 1600 → pr T k < 65536 := fun k hk => pr_lt tm hk
  have d0 : dC (sI M 3 1 0) t D P := dC_c (fun c c1 c2 => mI_off (by omega)) r4
  have tc0 : tpC (sI M 3 1 0) T := tpC_c (mI_off (by decide)) tc
  have no : (mI M 3 5 = 0 ∨ ¬ okI D T n) → stp Inv w_X7_on w_X8_on M := fun h => by
    refine stp_clr hI (j := 5) (by decide) 0 (fun K k => ?_) (fun M1 e Q k => ?_)
    · show (_ ∧ _)
      rw [rI (by omega), n3]
      refine ⟨fun _ => s_refuse (by decide) k, fun q => c_isImage (M := sI M 3 1 0) n16 r2 d0 r3 tc0 pl (fun z => ?_) (fun _ => k_yes' rfl (s_refuse (by decide) k))⟩
      rcases h with h | h
      · exact absurd h q
      · exact absurd z h
    · have e1 : mI M1 277 1 = nI n := by rw [e, rI (by omega), rI (by omega)]; exact n277
      have e50 : mI (sI M1 277 1 0) 277 50 = mI M 3 5 := by rw [rI (by omega), e, rI (by omega), rI (by omega)]; exact r10.symm
      have d1 : dM (sI M1 277 1 0) D P := by rw [e]; exact dM_c (fun c c1 c2 _ => by rw [mI_off (by omega), mI_off (by omega), mI_off (by omega)]) r5
      have tm1 : tpM (sI M1 277 1 0) T := by rw [e]; exact tpM_c (by rw [mI_off (by omega), mI_off (by omega), mI_off (by omega)]) tm
      unfold w_X8_on
      rw [e1]
      by_cases q : mI M 3 5 = 0
      · exact k_yes (by rw [e50]; exact q) (k_yes' rfl k)
      · refine m_isImage n16 (by rw [e50]; exact q) d1 r3 tm1 (fun z => ?_) (fun _ => k_yes' rfl k)
        rcases h with h | h
        · exact absurd h q
        · exact absurd z h
  by_cases h0 : mI M 3 5 = 0
  · exact no (Or.inl h0)
  by_cases hs : okI D T n
  · obtain ⟨o1, o2⟩ := onS_ok hs
    intro K hK
    show (_ ∧ _)
    rw [rI (by omega), n3]
    refine k_no h0 (c_isImage (M := sI M 3 1 0) n16 r2 d0 r3 tc0 pl (fun _ => k_no' (by decide) (c_on (M := sI M 3 1 0) r1 r2 d0 r3 tc0 (fun M1 f1 s1 k7 k75 => ?_))) (fun z => absurd hs z))
    have e1 : ∀ a, 257 ≤ a → mI M1 a = mI M a := fun a ha => by rw [f1.row (fun k => by unfold oC; omega), mI_off (by omega)]
    refine hK _ M1 ⟨f1.1, by rw [f1.row (fun k => by unfold oC; omega), mI_off (by decide)]⟩ (fun Q hQ => ?_)
    have d1 : dM (sI M1 277 1 0) D P := dM_c (fun c c1 c2 _ => by rw [mI_off (by omega), e1 c (by omega)]) r5
    have tm1 : tpM (sI M1 277 1 0) T := tpM_c (by rw [mI_off (by omega), e1 278 (by omega)]) tm
    unfold w_X8_on
    rw [e1 277 (by decide), n277]
    refine m_isImage n16 (by rw [rI (by omega), e1 277 (by decide), ← r10]; exact h0) d1 r3 tm1 (fun _ => k_no' (by decide) (m_on d1 r3 tm1 (fun M2 f2 s2 k42 k69 => hQ M2 ?_ ⟨f2.1, by rw [f2.row (fun k => by unfold oM; omega), mI_off (by decide)]⟩))) (fun z => absurd hs z)
    have e : ∀ a k, ¬ oA a k → mI M2 a k = mI M a k := fun a k h => by
      rw [f2.2.2.2 a k (fun z => h (by unfold oM at z; unfold oA; omega)), rI (fun z => h (by unfold oA; omega)), f1.2.2.2 a k (fun z => h (by unfold oC at z; unfold oA; omega)), rI (fun z => h (by unfold oA; omega))]
    have er : ∀ a, (∀ k, ¬ oA a k) → mI M2 a = mI M a := fun a h => funext fun k => e a k (h k)
    have eR : mR M2 = mR M := by rw [f2.2.1]; show mR M1 = _; rw [f1.2.1]; rfl
    have eJ : mJ M2 = mJ M := by rw [f2.2.2.1]; show mJ M1 = _; rw [f1.2.2.1]; rfl
    have ec : ∀ a, 57 ≤ a → a < 66 → mI M2 a = mI M1 a := fun a a1 a2 => by rw [f2.row (fun k => by unfold oM; omega), mI_off (by omega)]
    refine Inv_mk hI (by rw [f2.1]; show mL M1 = _; rw [f1.1]; rfl) (iWrd_c (er _ (fun k => by unfold oA; omega)) (fun a ha => er _ (fun k => by unfold oA; omega)) i7) (tape_to (n := 0) (T := T) (by decide) ?_ ?_ (tpC_c (er _ (fun k => by unfold oA; omega)) tc) (tpM_c (er _ (fun k => by unfold oA; omega)) tm)) (iFlt_c (e _ _ (by unfold oA; omega)) (e _ _ (by unfold oA; omega)) (e _ _ (by unfold oA; omega)) (e _ _ (by unfold oA; omega)) i3) (iRef_c (er _ (fun k => by unfold oA; omega)) (er _ (fun k => by unfold oA; omega)) i4) (iSeed_c (e _ _ (by unfold oA; omega)) (by rw [eJ]) i5) (iPic_c (e _ _ (by unfold oA; omega)) (e _ _ (by unfold oA; omega)) (er _ (fun k => by unfold oA; omega)) (er _ (fun k => by unfold oA; omega)) i6) (fun t' ns na ne hr h1 h2 h3 h4 => ?_)
    · rw [f2.2.2.2 3 1 (by unfold oM; omega), rI (by omega), f1.2.2.2 3 1 (by unfold oC; omega), rIs]; rfl
    · rw [f2.2.2.2 277 1 (by unfold oM; omega), rIs]; rfl
    · obtain ⟨rfl, rfl, rfl, rfl, -⟩ := Rp_n R h1
      obtain ⟨u, w, u1, w1, g1, g2, g3, g4, -⟩ := h4
      refine ⟨iSta_c (fun b b1 b2 => er _ (fun k => by unfold oA; omega)) (fun b b1 b2 b3 => er _ (fun k => by unfold oA; omega)) (by rw [eJ]) (e _ _ (by unfold oA; omega)) (e _ _ (by unfold oA; omega)) (by rw [eR]) (by rw [eR]) h1, ⟨stR_of (S := onS T) (sC_c (fun c c1 c2 => ec c (by omega) (by omega)) s1) s2 o1 o2, ⟨0, by decide, ?_, k42, fun k hk => absurd hk (Nat.not_lt_zero _)⟩, by rw [e _ _ (by unfold oA; omega)]; exact h2.2.2⟩, iSeen_c (fun b b1 b2 => er _ (fun k => by unfold oA; omega)) (er _ (fun k => by unfold oA; omega)) (e _ _ (by unfold oA; omega)) (e _ _ (by unfold oA; omega)) h3, ⟨0, w, by decide, w1, ?_, k69, by rw [e _ _ (by unfold oA; omega)]; exact g3, by rw [eR]; exact g4, fun j hj => absurd hj (Nat.not_lt_zero _)⟩⟩
      · rw [ec 57 (by decide) (by decide)]; exact k7
      · rw [f2.2.2.2 75 1 (by unfold oM; omega), rI (by omega)]; exact k75
  · exact no (Or.inr hs)
