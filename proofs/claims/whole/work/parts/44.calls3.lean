/-! later, minded, nothing, hushed, best, worth, asker -/
theorem fM_same {M M' : pm} (h : fM M M') : same M M' := ⟨h.1, h.2.1, fun a _ h2 => h.2.2.1 a h2, fun k hk => h.2.2.2.1 k (fun q => hk (by unfold scrK; omega)) (fun q => hk (by unfold scrK; omega)) (fun q => hk (by unfold scrK; omega)) (fun q => hk (by unfold scrK; omega)) (fun q => hk (by unfold scrK; omega)), h.2.2.2.2 310 (by decide) (by decide), by rw [h.2.2.2.2 277 (by decide) (by decide)]⟩
theorem fr_same {M M' : pm} (h : fr M M') : same M M' := fM_same h.L.M
theorem xE_same {M M' : pm} (h : fI xE M M') : same M M' := fT_same (xC_T (xEC h))
theorem xC_same {M M' : pm} (h : fI xC M M') : same M M' := fT_same (xC_T h)
/-- whether n lies within lo .. hi and there is a day n behind now, as both sides ask it -/
theorem ahd {M : pm} {t : Nat} {D S : Nat → Nat} {P : Nat → List Nat} (R : Rp M t D P S) (x : Int32) {lo hi : Nat} (hlo : lo ≤ hi) (hhi : hi ≤ 100) : (mI M 3 5 = 0 ∨ x < nI lo ∨ nI hi < x ∨ 999 < mI M 57 0 + x) ∨ (¬ mI M 3 5 = 0 ∧ ¬ x < nI lo ∧ ¬ nI hi < x ∧ ¬ 999 < mI M 57 0 + x ∧ ∃ n, lo ≤ n ∧ n ≤ hi ∧ x = nI n ∧ S 0 + n ≤ 999 ∧ 1 ≤ D 0) := by
  obtain ⟨r1, r2, r3, r4, r5, r6, r7, r8, r9, r10, r11, r12⟩ := R
  by_cases h1 : mI M 3 5 = 0
  · exact Or.inl (Or.inl h1)
  by_cases h2 : x < nI lo
  · exact Or.inl (Or.inr (Or.inl h2))
  by_cases h3 : nI hi < x
  · exact Or.inl (Or.inr (Or.inr (Or.inl h3)))
  by_cases h4 : 999 < mI M 57 0 + x
  · exact Or.inl (Or.inr (Or.inr (Or.inr h4)))
  refine Or.inr ⟨h1, h2, h3, h4, ?_⟩
  have h0 : 1 ≤ D 0 := by
    rcases r11 with q | q
    · exact absurd q.1 h1
    · exact q.2
  obtain ⟨n, hn, rfl⟩ : ∃ n : Nat, n ≤ hi ∧ x = nI n := nI_of2 (nI_toInt (by omega)) (fun q => h2 (Int32.lt_of_lt_of_le q (nI_pos' (by omega)))) (Int32.not_lt.mp h3)
  rw [nI_ltI (by omega) (by omega)] at h2
  rw [r8.1, nI_add, show (999 : Int32) = nI 999 from rfl, nI_ltI (by omega) (by omega)] at h4
  exact ⟨n, by omega, hn, rfl, by omega, h0⟩
theorem c_ahead_no {M : pm} {x : Int32} (h : mI M 3 5 = 0 ∨ 999 < mI M 57 0 + x) {Q : Int32 → pm → Prop} (k : Q 0 M) : w_X7_hasDayAhead x M Q := by
  refine ⟨fun _ => k, fun h1 => ⟨fun _ => k, fun h2 => ?_⟩⟩
  rcases h with h | h
  · exact absurd h h1
  · exact absurd h h2
theorem c_ahead_yes {M : pm} {x : Int32} (h1 : ¬ mI M 3 5 = 0) (h2 : ¬ 999 < mI M 57 0 + x) {Q : Int32 → pm → Prop} (k : Q 1 M) : w_X7_hasDayAhead x M Q := k_no h1 (k_no h2 k)
/-- the guards hold in the reference's memory too -/
theorem Rp_50 {M M1 : pm} {t : Nat} {D S : Nat → Nat} {P : Nat → List Nat} (R : Rp M t D P S) (s : same M M1) : mI M1 277 50 = mI M 3 5 ∧ mI M1 317 0 = mI M 57 0 := by
  have R1 := Rp_same s R
  have e3 : mI M1 3 = mI M 3 := s.2.2.1 3 (by unfold scrA; omega) (by decide)
  refine ⟨by rw [← R1.2.2.2.2.2.2.2.2.2.1, e3], ?_⟩
  rw [R1.2.2.2.2.2.2.2.2.1 0 (by omega), R.2.2.2.2.2.2.2.1.1]
theorem p_later (x : Int32) (M : pm) (hI : Inv M) : stp Inv (w_X7_later x) (w_X8_later x) M := by
  obtain ⟨t, D, P, S, R⟩ := Rp_of hI
  rcases ahd R x (lo := 0) (hi := 60) (by decide) (by decide) with h | ⟨h1, h2, h3, h4, n, n1, n2, rfl, n4, n5⟩
  · refine stp_ro hI (-1) (fun K k => ⟨fun _ => k M (same.rf M), fun a1 => ⟨fun _ => k M (same.rf M), fun a2 => c_ahead_no ?_ (k_yes' rfl (k M (same.rf M)))⟩⟩) (fun M1 s1 Q k => m_isAhead_no ?_ (k_yes' rfl (k M1 (same.rf M1))))
    · rcases h with h | h | h | h
      · exact Or.inl h
      · exact absurd h a1
      · exact absurd h a2
      · exact Or.inr h
    · rw [(Rp_50 R s1).1, (Rp_50 R s1).2]
      exact h
  · refine stp_ro hI (nI (bst D (itA D S P n) P)) (fun K k => k_no h2 (k_no h3 (c_ahead_yes h1 h4 (k_no' (by decide) (c_tryDays R n4 (fun M1 f1 s1 => ?_)))))) (fun M1 s1 Q k => m_isAhead_yes (by rw [(Rp_50 R s1).1]; exact h1) h2 h3 (by rw [(Rp_50 R s1).2]; exact h4) (k_no' (by decide) ?_))
    · obtain ⟨r1, r2, r3, r4, r5, r6, -⟩ := R
      rw [f1.2.1, r2]
      exact s_bestBits (by omega) (by decide) (tC f1 r1 r4) r3 s1 (itA_ok r6 n (by omega)) (fun M2 f2 _ => k M2 ((fT_same f1).tr (xC_same f2)))
    · obtain ⟨r1, r2, r3, r4, r5, r6, r7, r8, r9, r10, r11, r12⟩ := Rp_same s1 R
      refine m_putsAside r3.2.2.1 r9 (fun M2 t2 s2 => m_daysGo t2 r5 r3 s2 r6 n4 (fun M3 t3 s3 => m_laysBest (thk_d t3 r5) r3 s3 (itA_ok r6 n (by omega)) (fun M4 f4 hb e56 _ _ => m_takesBack r12 (thk_M t3 f4) (fun M5 s5 e5 _ => ?_))))
      rw [e5 56 (by decide), e56]
      exact k M5 s5
theorem p_minded (x y : Int32) (M : pm) (hI : Inv M) : stp Inv (w_X7_minded x y) (w_X8_minded x y) M := by
  obtain ⟨t, D, P, S, R⟩ := Rp_of hI
  have h8 := R.2.2.1.2.2.1
  rcases ix3 x (n := D 2) (by omega) with hx | hx | ⟨b, hb, rfl⟩
  · exact stp_ro hI (-1) (fun K k => c_isAsker_no R (Or.inl hx) (k_yes rfl (k M (same.rf M)))) (fun M1 s1 Q k => m_isAsker_no (Rp_same s1 R) (Or.inl hx) (k_yes rfl (k M1 (same.rf M1))))
  · exact stp_ro hI (-1) (fun K k => c_isAsker_no R (Or.inr hx) (k_yes rfl (k M (same.rf M)))) (fun M1 s1 Q k => m_isAsker_no (Rp_same s1 R) (Or.inr hx) (k_yes rfl (k M1 (same.rf M1))))
  rcases ahd R y (lo := 0) (hi := 60) (by decide) (by decide) with h | ⟨h1, h2, h3, h4, n, n1, n2, rfl, n4, n5⟩
  · refine stp_ro hI (-1) (fun K k => c_isAsker_yes R hb (k_no (by decide) ⟨fun _ => k M (same.rf M), fun a1 => ⟨fun _ => k M (same.rf M), fun a2 => c_ahead_no ?_ (k_yes' rfl (k M (same.rf M)))⟩⟩)) (fun M1 s1 Q k => m_isAsker_yes (Rp_same s1 R) hb (k_no (by decide) (m_isAhead_no ?_ (k_yes' rfl (k M1 (same.rf M1))))))
    · rcases h with h | h | h | h
      · exact Or.inl h
      · exact absurd h a1
      · exact absurd h a2
      · exact Or.inr h
    · rw [(Rp_50 R s1).1, (Rp_50 R s1).2]
      exact h
  · refine stp_ro hI (nI (itA D S P n (4 + 5 * b))) (fun K k => c_isAsker_yes R hb (k_no (by decide) (k_no h2 (k_no h3 (c_ahead_yes h1 h4 (k_no' (by decide) (c_tryDays R n4 (fun M1 f1 s1 => ⟨vp_in_nI (by omega) (by decide), ?_⟩)))))))) (fun M1 s1 Q k => m_isAsker_yes (Rp_same s1 R) hb (k_no (by decide) (m_isAhead_yes (by rw [(Rp_50 R s1).1]; exact h1) h2 h3 (by rw [(Rp_50 R s1).2]; exact h4) (k_no' (by decide) ?_))))
    · rw [nI_clamp (by omega), show mI M1 69 b = _ from (s1.2.2 b hb).2.2.1]
      exact k M1 (fT_same f1)
    · obtain ⟨r1, r2, r3, r4, r5, r6, r7, r8, r9, r10, r11, r12⟩ := Rp_same s1 R
      exact m_putsAside r3.2.2.1 r9 (fun M2 t2 s2 => m_daysGo t2 r5 r3 s2 r6 n4 (fun M3 t3 s3 => m_mindsOf (by omega) s3 hb (m_takesBack r12 t3 (fun M5 s5 _ _ => k M5 s5))))
noncomputable def noF (D S : Nat → Nat) (P : Nat → List Nat) : Nat → Nat → Int32
  | 0, _ => -1
  | d + 1, i => if 60 < i ∨ 999 < S 0 + i then -1 else if bst D (itA D S P i) P = 0 then nI i else noF D S P d (i + 1)
theorem p_nothing (M : pm) (hI : Inv M) : stp Inv w_X7_nothing w_X8_nothing M := by
  obtain ⟨t, D, P, S, R⟩ := Rp_of hI
  have h8 := R.2.2.1.2.2.1
  by_cases ha : mI M 3 5 = 0
  · refine stp_ro hI (-1) (fun K k => c_try h8 R.2.2.2.2.2.2.2.1 (fun M1 f1 s1 => ⟨1, ?_⟩)) (fun M1 s1 Q k => k_yes' (by rw [(Rp_50 R s1).1]; exact ha) (k M1 (same.rf M1)))
    unfold w_X7_nothing_6
    refine k_no (by decide) (c_ahead_no (Or.inl ?_) (k_yes rfl (k M1 (fT_same f1))))
    rw [f1.2.2.2 3 (by unfold xT; omega)]; exact ha
  · refine stp_ro hI (noF D S P 62 0) (fun K k => ?_) (fun M1 s1 Q k => ?_)
    · obtain ⟨r1, r2, r3, r4, r5, r6, r7, r8, r9, r10, r11, r12⟩ := R
      refine c_try h8 r8 (fun M1 f1 s1 => ⟨63, ?_⟩)
      have key : ∀ d n i M2, i + d = 62 → d < n → fI xT M M2 → (S 0 + i ≤ 999 → sC M2 66 D (itA D S P i)) → noF D S P d i = noF D S P 62 0 → w_X7_nothing_6 n (nI i) M2 K := by
        intro d
        induction d with
        | zero =>
          intro n i M2 hi hn f2 s2 ey
          obtain ⟨n, rfl⟩ : ∃ n', n = n' + 1 := ⟨n - 1, by omega⟩
          unfold w_X7_nothing_6
          refine k_yes (nI_lt (a := 60) (by omega) (by omega)) ?_
          rw [show (-1 : Int32) = noF D S P 0 i from rfl, ey]
          exact k M2 (fT_same f2)
        | succ d ih =>
          intro n i M2 hi hn f2 s2 ey
          obtain ⟨n, rfl⟩ : ∃ n', n = n' + 1 := ⟨n - 1, by omega⟩
          have e3 : mI M2 3 = mI M 3 := f2.2.2.2 3 (by unfold xT; omega)
          have e57 : mI M2 57 0 = nI (S 0) := by rw [f2.2.2.2 57 (by unfold xT; omega)]; exact r8.1
          unfold noF at ey
          unfold w_X7_nothing_6
          refine pk_lt 60 i (fun q => ?_) (fun q => ?_)
          · rw [if_pos (Or.inl q)] at ey
            rw [ey]; exact k M2 (fT_same f2)
          · by_cases q9 : 999 < S 0 + i
            · refine c_ahead_no (Or.inr ?_) (k_yes rfl ?_)
              · rw [e57, nI_add]; exact nI_lt q9 (by omega)
              · rw [if_pos (Or.inr q9)] at ey
                rw [ey]; exact k M2 (fT_same f2)
            · refine c_ahead_yes (by rw [e3]; exact ha) ?_ (k_no (by decide) ?_)
              · rw [e57, nI_add]; exact nI_nlt (a := 999) (by omega) (by decide)
              · rw [if_neg (by omega)] at ey
                rw [f2.2.1, r2]
                refine c_day (R := fun _ _ _ => True) r1 (tC f2 r1 r4) r3 (s2 (by omega)) (itA_ok r6 i (by omega)) (fun M3 f3 s3 hb pd => ?_)
                have hb2 := best256 r3 hb
                refine pk_ne (bst D (itA D S P i) P) 0 (fun z => ?_) (fun z => ?_)
                · rw [if_neg z] at ey
                  rw [nI_1, f3.2.1, f2.2.1, r2]
                  refine pd _ (fun M4 y f4 s4 => ih n (i + 1) M4 (by omega) (by omega) (f2.tr f4) (fun q2 => ?_) ey)
                  rw [dayC_eq (by rw [itA_0]; omega)] at s4
                  exact s4
                · rw [if_pos z] at ey
                  rw [ey]; exact k M3 (fT_same (f2.tr f3))
      exact key 62 63 0 M1 (by omega) (by omega) f1 (fun _ => s1) rfl
    · obtain ⟨r1, r2, r3, r4, r5, r6, r7, r8, r9, r10, r11, r12⟩ := Rp_same s1 R
      refine k_no' (by rw [(Rp_50 R s1).1]; exact ha) (m_putsAside r3.2.2.1 r9 (fun M2 t2 s2 => ⟨64, ?_⟩))
      have key : ∀ d n i M3, i + d = 62 → d + 1 < n → thk M1 M3 → (S 0 + i ≤ 1000 → sM M3 D (itA D S P i)) → S 0 + i ≤ 1000 → noF D S P d i = noF D S P 62 0 → w_X8_nothing_17 n (-1) (nI i) M3 Q := by
        intro d
        induction d with
        | zero =>
          intro n i M3 hi hn t3 s3 h10 ey
          obtain ⟨n, rfl⟩ : ∃ n', n = n' + 1 := ⟨n - 1, by omega⟩
          unfold w_X8_nothing_17
          refine k_yes (nI_lt (a := 60) (by omega) (by omega)) (m_takesBack r12 t3 (fun M5 s5 _ _ => ?_))
          rw [show (-1 : Int32) = noF D S P 0 i from rfl, ey]
          exact k M5 s5
        | succ d ih =>
          intro n i M3 hi hn t3 s3 h10 ey
          obtain ⟨n, rfl⟩ : ∃ n', n = n' + 1 := ⟨n - 1, by omega⟩
          have s3 := s3 h10
          unfold noF at ey
          unfold w_X8_nothing_17
          rw [s3 0 (by omega), itA_0, nI_1]
          refine pk_lt 60 i (fun q => m_takesBack r12 t3 (fun M5 s5 _ _ => ?_)) (fun q => k_yes' rfl ?_)
          · rw [if_pos (Or.inl q)] at ey
            rw [ey]; exact k M5 s5
          · refine pk_lt 999 (S 0 + i) (fun q9 => m_takesBack r12 t3 (fun M5 s5 _ _ => ?_)) (fun q9 => ?_)
            · rw [if_pos (Or.inr q9)] at ey
              rw [ey]; exact k M5 s5
            · rw [if_neg (by omega)] at ey
              refine m_dayGoes t3 r5 r3 s3 (itA_ok r6 i (by omega)) (fun M4 t4 s4 e56 hb _ _ => ?_)
              have hb2 := best256 r3 hb
              rw [e56]
              refine pk_ne (bst D (itA D S P i) P) 0 (fun z => ?_) (fun z => ?_)
              · rw [if_neg z] at ey
                exact ih n (i + 1) M4 (by omega) (by omega) t4 (fun _ => s4) (by omega) ey
              · rw [if_pos z] at ey
                obtain ⟨n, rfl⟩ : ∃ n', n = n' + 1 := ⟨n - 1, by omega⟩
                unfold w_X8_nothing_17
                have fin : w_X8_takesBack M4 (fun M7 => Q (nI i) M7) := m_takesBack r12 t4 (fun M5 s5 _ _ => by rw [ey]; exact k M5 s5)
                exact ⟨fun _ => fin, fun _ => k_no' (n_m1 (by omega)) fin⟩
      exact key 62 64 0 M2 (by omega) (by omega) t2 (fun _ => s2) (by omega) rfl
noncomputable def huF (D S : Nat → Nat) (P : Nat → List Nat) : Nat → Nat → Int32
  | 0, _ => -1
  | d + 1, i => if 60 < i ∨ 999 < S 0 + i then -1 else if itA D S P i 1 = 0 then nI i else huF D S P d (i + 1)
theorem p_hushed (M : pm) (hI : Inv M) : stp Inv w_X7_hushed w_X8_hushed M := by
  obtain ⟨t, D, P, S, R⟩ := Rp_of hI
  have h8 := R.2.2.1.2.2.1
  by_cases ha : mI M 3 5 = 0
  · refine stp_ro hI (-1) (fun K k => c_try h8 R.2.2.2.2.2.2.2.1 (fun M1 f1 s1 => ⟨1, ?_⟩)) (fun M1 s1 Q k => k_yes' (by rw [(Rp_50 R s1).1]; exact ha) (k M1 (same.rf M1)))
    unfold w_X7_hushed_6
    refine k_no (by decide) (c_ahead_no (Or.inl ?_) (k_yes rfl (k M1 (fT_same f1))))
    rw [f1.2.2.2 3 (by unfold xT; omega)]; exact ha
  · refine stp_ro hI (huF D S P 62 0) (fun K k => ?_) (fun M1 s1 Q k => ?_)
    · obtain ⟨r1, r2, r3, r4, r5, r6, r7, r8, r9, r10, r11, r12⟩ := R
      refine c_try h8 r8 (fun M1 f1 s1 => ⟨63, ?_⟩)
      have key : ∀ d n i M2, i + d = 62 → d < n → fI xT M M2 → (S 0 + i ≤ 999 → sC M2 66 D (itA D S P i)) → huF D S P d i = huF D S P 62 0 → w_X7_hushed_6 n (nI i) M2 K := by
        intro d
        induction d with
        | zero =>
          intro n i M2 hi hn f2 s2 ey
          obtain ⟨n, rfl⟩ : ∃ n', n = n' + 1 := ⟨n - 1, by omega⟩
          unfold w_X7_hushed_6
          refine k_yes (nI_lt (a := 60) (by omega) (by omega)) ?_
          rw [show (-1 : Int32) = huF D S P 0 i from rfl, ey]
          exact k M2 (fT_same f2)
        | succ d ih =>
          intro n i M2 hi hn f2 s2 ey
          obtain ⟨n, rfl⟩ : ∃ n', n = n' + 1 := ⟨n - 1, by omega⟩
          have e3 : mI M2 3 = mI M 3 := f2.2.2.2 3 (by unfold xT; omega)
          have e57 : mI M2 57 0 = nI (S 0) := by rw [f2.2.2.2 57 (by unfold xT; omega)]; exact r8.1
          unfold huF at ey
          unfold w_X7_hushed_6
          refine pk_lt 60 i (fun q => ?_) (fun q => ?_)
          · rw [if_pos (Or.inl q)] at ey
            rw [ey]; exact k M2 (fT_same f2)
          · by_cases q9 : 999 < S 0 + i
            · refine c_ahead_no (Or.inr ?_) (k_yes rfl ?_)
              · rw [e57, nI_add]; exact nI_lt q9 (by omega)
              · rw [if_pos (Or.inr q9)] at ey
                rw [ey]; exact k M2 (fT_same f2)
            · refine c_ahead_yes (by rw [e3]; exact ha) ?_ (k_no (by decide) ?_)
              · rw [e57, nI_add]; exact nI_nlt (a := 999) (by omega) (by decide)
              · rw [if_neg (by omega)] at ey
                have s2 := s2 (by omega)
                have ok := itA_ok (P := P) r6 i (by omega)
                rw [s2.2.1]
                refine pk_ne (itA D S P i 1) 0 (fun z => ?_) (fun z => ?_) rfl rfl (by have := ok.2.1; omega)
                · rw [if_neg z] at ey
                  rw [nI_1, f2.2.1, r2]
                  refine c_day (R := fun _ _ _ => True) r1 (tC f2 r1 r4) r3 s2 ok (fun M3 f3 s3 hb pd => ?_)
                  refine pd _ (fun M4 y f4 s4 => ih n (i + 1) M4 (by omega) (by omega) (f2.tr f4) (fun q2 => ?_) ey)
                  rw [dayC_eq (by rw [itA_0]; omega)] at s4
                  exact s4
                · rw [if_pos z] at ey
                  rw [ey]; exact k M2 (fT_same f2)
      exact key 62 63 0 M1 (by omega) (by omega) f1 (fun _ => s1) rfl
    · obtain ⟨r1, r2, r3, r4, r5, r6, r7, r8, r9, r10, r11, r12⟩ := Rp_same s1 R
      refine k_no' (by rw [(Rp_50 R s1).1]; exact ha) (m_putsAside r3.2.2.1 r9 (fun M2 t2 s2 => ⟨64, ?_⟩))
      have key : ∀ d n i M3, i + d = 62 → d < n → thk M1 M3 → sM M3 D (itA D S P i) → i ≤ 60 → S 0 + i ≤ 999 → huF D S P d i = huF D S P 62 0 → w_X8_hushed_15 n (nI i) M3 (fun x1 M8 => w_X8_hushed_52 x1 M8 Q) Q := by
        intro d
        induction d with
        | zero => intro n i M3 hi hn t3 s3 h60 h10 ey; omega
        | succ d ih =>
          intro n i M3 hi hn t3 s3 h60 h10 ey
          obtain ⟨n, rfl⟩ : ∃ n', n = n' + 1 := ⟨n - 1, by omega⟩
          have ok := itA_ok (P := P) r6 i (by omega)
          have s1b := ok.2.1
          unfold huF at ey
          rw [if_neg (by omega)] at ey
          have e1 : mI M3 317 1 = nI (itA D S P i 1) := s3 1 (by omega)
          have yes : itA D S P i 1 = 0 → w_X8_hushed_52 (nI i) M3 Q := fun z => by
            rw [if_pos z] at ey
            exact k_yes' (by rw [e1, z]; rfl) (m_takesBack r12 t3 (fun M5 s5 _ _ => by rw [ey]; exact k M5 s5))
          have no : itA D S P i 1 ≠ 0 → huF D S P d (i + 1) = -1 → w_X8_hushed_52 (nI i) M3 Q := fun z zz => by
            rw [if_neg z, zz] at ey
            refine k_no' (by rw [e1]; exact nI_ne0 (by omega) (by omega)) (m_takesBack r12 t3 (fun M5 s5 _ _ => by rw [ey]; exact k M5 s5))
          unfold w_X8_hushed_15
          rw [s3 0 (by omega), itA_0, nI_1, e1]
          refine pk_le (itA D S P i 1) 0 (fun q => yes (by omega)) (fun q => ?_)
          have nx : 60 < i + 1 ∨ 999 < S 0 + (i + 1) → huF D S P d (i + 1) = -1 := by
            intro hh
            cases d with
            | zero => rfl
            | succ d => unfold huF; rw [if_pos hh]
          refine pk_le 60 i (fun q6 => no (by omega) (nx (by omega))) (fun q6 => pk_le 999 (S 0 + i) (fun q9 => no (by omega) (nx (by omega))) (fun q9 => ?_))
          rw [if_neg (by omega)] at ey
          exact m_dayGoes t3 r5 r3 s3 ok (fun M4 t4 s4 _ _ _ _ => ih n (i + 1) M4 (by omega) (by omega) t4 s4 (by omega) (by omega) ey)
      exact key 62 64 0 M2 (by omega) (by omega) t2 s2 (by omega) (by omega) rfl
theorem p_best (x : Int32) (M : pm) (hI : Inv M) : stp Inv (w_X7_best x) (w_X8_best x) M := by
  obtain ⟨t, D, P, S, R⟩ := Rp_of hI
  have ro : ∀ y : Int32, (∀ K : Int32 → pm → Prop, (∀ M1, same M M1 → K y M1) → w_X7_best x M K) → (∀ M1, same M M1 → ∀ Q : Int32 → pm → Prop, (∀ M2, same M1 M2 → Q y M2) → w_X8_best x M1 Q) → stp Inv (w_X7_best x) (w_X8_best x) M := fun y => stp_ro hI y
  by_cases ha : mI M 3 5 = 0
  · exact ro (-1) (fun K k => k_yes ha (k M (same.rf M))) (fun M1 s1 Q k => k_yes (by rw [(Rp_50 R s1).1]; exact ha) (k M1 (same.rf M1)))
  by_cases h1 : x < 0 ∨ 1 < x
  · refine ro (-1) (fun K k => k_no ha ⟨fun _ => k M (same.rf M), fun a => ⟨fun b => ?_, fun _ => k M (same.rf M)⟩⟩) (fun M1 s1 Q k => k_no (by rw [(Rp_50 R s1).1]; exact ha) ?_)
    · rcases h1 with q | q
      · exact absurd q a
      · exact absurd b (Int32.not_le.mpr q)
    · rw [j0, j1]
      exact isIn_no h1 (k_yes' rfl (k M1 (same.rf M1)))
  · have h0 : ¬ x < 0 := fun q => h1 (Or.inl q)
    have h1 : ¬ 1 < x := fun q => h1 (Or.inr q)
    refine ro (if x = 0 then nI (bst D S P) else nI (mnS D S (bst D S P) (D 2))) (fun K k => ?_) (fun M1 s1 Q k => ?_)
    · obtain ⟨r1, r2, r3, r4, r5, r6, r7, r8, r9, r10, r11, r12⟩ := R
      refine k_no ha (k_no h0 (k_yes (Int32.not_lt.mp h1) ?_))
      rw [r2]
      refine s_bestBits (by omega) (by decide) r4 r3 r8 r6 (fun M1 f1 hb => ?_)
      have hb2 := best256 r3 hb
      by_cases e : x = 0
      · rw [if_pos e] at k
        exact k_yes' e (k M1 (xC_same f1))
      · rw [if_neg e] at k
        refine k_no' e ?_
        rw [f1.2.1, r2]
        exact s_minutesOf (tC (xC_T f1) r1 r4) r3 (sC_c (fun c c1 c2 => f1.2.2.2 c (by unfold xC; omega)) r8) r6 (by omega) (k M1 (xC_same f1))
    · obtain ⟨r1, r2, r3, r4, r5, r6, r7, r8, r9, r10, r11, r12⟩ := Rp_same s1 R
      refine k_no (by rw [(Rp_50 R s1).1]; exact ha) ?_
      rw [j0, j1]
      refine isIn_yes h0 h1 (k_no' (by decide) (m_laysBest r5 r3 r9 r6 (fun M2 f2 hb e56 e57 _ => ?_)))
      by_cases e : x = 0
      · rw [if_pos e] at k
        refine k_yes' e ?_
        rw [e56]; exact k M2 (fM_same f2)
      · rw [if_neg e] at k
        refine k_no' e ?_
        rw [e57]; exact k M2 (fM_same f2)
theorem p_worth (x : Int32) (M : pm) (hI : Inv M) : stp Inv (w_X7_worth x) (w_X8_worth x) M := by
  obtain ⟨t, D, P, S, R⟩ := Rp_of hI
  have h8 := R.2.2.1.2.2.1
  have no : (x < 0 ∨ (¬ x < 0 ∧ nI (D 2) ≤ x)) → stp Inv (w_X7_worth x) (w_X8_worth x) M := fun h => stp_ro hI _ (fun K k => c_isAsker_no R h (k_yes rfl (k M (same.rf M)))) (fun M1 s1 Q k => m_isAsker_no (Rp_same s1 R) h (k_yes rfl (k M1 (same.rf M1))))
  rcases ix3 x (n := D 2) (by omega) with hx | hx | ⟨b, hb, rfl⟩
  · exact no (Or.inl hx)
  · exact no (Or.inr hx)
  · refine stp_ro hI (zJ (vA D S P b 2)) (fun K k => c_isAsker_yes R hb (k_no (by decide) ?_)) (fun M1 s1 Q k => m_isAsker_yes (Rp_same s1 R) hb (k_no (by decide) ?_))
    · obtain ⟨r1, r2, r3, r4, r5, r6, r7, r8, r9, r10, r11, r12⟩ := R
      rw [r2]
      exact s_worthOf (by omega) (by decide) r4 r3 r8 r6 hb (fun M1 f1 v1 v2 => by rw [zI_l (by omega) (by omega)]; exact k M1 (xE_same f1))
    · obtain ⟨r1, r2, r3, r4, r5, r6, r7, r8, r9, r10, r11, r12⟩ := Rp_same s1 R
      exact m_worthOf r5 r3 r9 r6 hb (fun M2 f2 v1 v2 => k M2 (fr_same f2))
theorem p_asker (x z : Int32) (M : pm) (hI : Inv M) : stp Inv (w_X7_asker x z) (w_X8_asker x z) M := by
  obtain ⟨t, D, P, S, R⟩ := Rp_of hI
  have h8 := R.2.2.1.2.2.1
  have no : (x < 0 ∨ (¬ x < 0 ∧ nI (D 2) ≤ x)) → stp Inv (w_X7_asker x z) (w_X8_asker x z) M := fun h => stp_ro hI _ (fun K k => c_isAsker_no R h (k_yes' rfl (k M (same.rf M)))) (fun M1 s1 Q k => m_isAsker_no (Rp_same s1 R) h (k_yes' rfl (k M1 (same.rf M1))))
  rcases ix3 x (n := D 2) (by omega) with hx | hx | ⟨b, hb, rfl⟩
  · exact no (Or.inl hx)
  · exact no (Or.inr hx)
  have q := R.2.2.2.2.2.2.2.1.2.2 b hb
  have hv : vp_in (nI b) 8 := vp_in_nI (by omega) (by decide)
  by_cases z0 : z = 0
  · subst z0
    refine stp_ro hI (nI (S (2 + 5 * b))) (fun K k => c_isAsker_yes R hb (k_no' (by decide) ?_)) (fun M1 s1 Q k => m_isAsker_yes (Rp_same s1 R) hb (k_no' (by decide) ?_))
    · simp (decide := true) only [false_implies, true_implies, not_false_eq_true, not_true_eq_false, and_true, true_and, forall_const]
      refine ⟨hv, ?_⟩
      rw [nI_clamp (by omega), show mI M 58 b = _ from q.1]; exact k M (same.rf M)
    · simp (decide := true) only [false_implies, true_implies, not_false_eq_true, not_true_eq_false, and_true, true_and, forall_const]
      exact m_songOf (by omega) (Rp_same s1 R).2.2.2.2.2.2.2.2.1 hb (k M1 (same.rf M1))
  by_cases z1 : z = 1
  · subst z1
    refine stp_ro hI (nI (S (3 + 5 * b))) (fun K k => c_isAsker_yes R hb (k_no' (by decide) ?_)) (fun M1 s1 Q k => m_isAsker_yes (Rp_same s1 R) hb (k_no' (by decide) ?_))
    · simp (decide := true) only [false_implies, true_implies, not_false_eq_true, not_true_eq_false, and_true, true_and, forall_const]
      refine ⟨hv, ?_⟩
      rw [nI_clamp (by omega), show mI M 59 b = _ from q.2.1]; exact k M (same.rf M)
    · simp (decide := true) only [false_implies, true_implies, not_false_eq_true, not_true_eq_false, and_true, true_and, forall_const]
      exact m_diesOf (by omega) (Rp_same s1 R).2.2.2.2.2.2.2.2.1 hb (k M1 (same.rf M1))
  by_cases z2 : z = 2
  · subst z2
    refine stp_ro hI (nI (S (4 + 5 * b))) (fun K k => c_isAsker_yes R hb (k_no' (by decide) ?_)) (fun M1 s1 Q k => m_isAsker_yes (Rp_same s1 R) hb (k_no' (by decide) ?_))
    · simp (decide := true) only [false_implies, true_implies, not_false_eq_true, not_true_eq_false, and_true, true_and, forall_const]
      refine ⟨hv, ?_⟩
      rw [nI_clamp (by omega), show mI M 60 b = _ from q.2.2.1]; exact k M (same.rf M)
    · simp (decide := true) only [false_implies, true_implies, not_false_eq_true, not_true_eq_false, and_true, true_and, forall_const]
      exact m_mindsOf (by omega) (Rp_same s1 R).2.2.2.2.2.2.2.2.1 hb (k M1 (same.rf M1))
  by_cases z3 : z = 3
  · subst z3
    refine stp_ro hI (nI (S (6 + 5 * b))) (fun K k => c_isAsker_yes R hb (k_no' (by decide) ?_)) (fun M1 s1 Q k => m_isAsker_yes (Rp_same s1 R) hb (k_no' (by decide) ?_))
    · simp (decide := true) only [false_implies, true_implies, not_false_eq_true, not_true_eq_false, and_true, true_and, forall_const]
      refine ⟨hv, ?_⟩
      rw [nI_clamp (by omega), show mI M 62 b = _ from q.2.2.2.2]; exact k M (same.rf M)
    · simp (decide := true) only [false_implies, true_implies, not_false_eq_true, not_true_eq_false, and_true, true_and, forall_const]
      exact m_playedOf (by omega) (Rp_same s1 R).2.2.2.2.2.2.2.2.1 hb (k M1 (same.rf M1))
  by_cases z4 : z = 4
  · subst z4
    refine stp_ro hI (nI (sinN S b)) (fun K k => c_isAsker_yes R hb (k_no' (by decide) ?_)) (fun M1 s1 Q k => m_isAsker_yes (Rp_same s1 R) hb (k_no' (by decide) ?_))
    · simp (decide := true) only [false_implies, true_implies, not_false_eq_true, not_true_eq_false, and_true, true_and, forall_const]
      exact s_sinceOf (by omega) R.2.2.2.2.2.2.2.1 R.2.2.2.2.2.1 hb (k M (same.rf M))
    · simp (decide := true) only [false_implies, true_implies, not_false_eq_true, not_true_eq_false, and_true, true_and, forall_const]
      exact m_sinceOf (by omega) (Rp_same s1 R).2.2.2.2.2.2.2.2.1 R.2.2.2.2.2.1 hb (k M1 (same.rf M1))
  by_cases z5 : z = 5
  · subst z5
    refine stp_ro hI (if canA D S P b = true then 1 else 0) (fun K k => c_isAsker_yes R hb (k_no' (by decide) ?_)) (fun M1 s1 Q k => m_isAsker_yes (Rp_same s1 R) hb (k_no' (by decide) ?_))
    · simp (decide := true) only [false_implies, true_implies, not_false_eq_true, not_true_eq_false, and_true, true_and, forall_const]
      obtain ⟨r1, r2, r3, r4, r5, r6, r7, r8, r9, r10, r11, r12⟩ := R
      rw [r2]
      refine s_canPlay (by omega) (by decide) r4 r3 r8 r6 hb (fun M1 f1 => ?_)
      have := k M1 (xE_same f1)
      by_cases c : canA D S P b = true
      · rw [if_pos c] at this ⊢; exact k_no (by decide) this
      · rw [if_neg c] at this ⊢; exact k_yes rfl this
    · simp (decide := true) only [false_implies, true_implies, not_false_eq_true, not_true_eq_false, and_true, true_and, forall_const]
      obtain ⟨r1, r2, r3, r4, r5, r6, r7, r8, r9, r10, r11, r12⟩ := Rp_same s1 R
      refine m_canPlay r5 r3 r9 r6 hb (fun M2 f2 => ?_)
      have := k M2 (fr_same f2)
      by_cases c : canA D S P b = true
      · rw [if_pos c] at this ⊢; exact k_no (by decide) this
      · rw [if_neg c] at this ⊢; exact k_yes rfl this
  · exact stp_ro hI (-1) (fun K k => c_isAsker_yes R hb (k_no' (by decide) ⟨fun h => absurd h z0, fun h => absurd h z1, fun h => absurd h z2, fun h => absurd h z3, fun h => absurd h z4, fun h => absurd h z5, fun _ _ _ _ _ _ => k M (same.rf M)⟩)) (fun M1 s1 Q k => m_isAsker_yes (Rp_same s1 R) hb (k_no' (by decide) ⟨fun h => absurd h z0, fun h => absurd h z1, fun h => absurd h z2, fun h => absurd h z3, fun h => absurd h z4, fun h => absurd h z5, fun _ _ _ _ _ _ => k M1 (same.rf M1)⟩))
