/-! full -/
def filA (D S : Nat → Nat) (P : Nat → List Nat) : Prop := ∃ s, s < 2 ^ D 2 ∧ (∀ i, s.testBit i = true → canA D S P i = true) ∧ mnS D S s (D 2) = D 0
noncomputable def pN (p : Prop) : Nat := @ite Nat p (Classical.propDecidable p) 1 0
theorem pN_1 {p : Prop} (h : p) : pN p = 1 := if_pos h
theorem pN_0 {p : Prop} (h : ¬ p) : pN p = 0 := if_neg h
theorem pN_le (p : Prop) : pN p ≤ 1 := by
  by_cases h : p
  · rw [pN_1 h]; exact Nat.le_refl _
  · rw [pN_0 h]; exact Nat.zero_le _
theorem l_sh : ∀ L, L < 64 → ((lN L &&& 63).toBitVec.smod 64).toNat = L := by decide +kernel
theorem l_one (y : Int64) : y &&& 1 = 1 ↔ y.toBitVec.getLsbD 0 = true := by
  rw [← Int64.toBitVec_inj, Int64.toBitVec_and]
  have e1 : (1 : Int64).toBitVec = 1#64 := rfl
  rw [e1]
  constructor
  · intro h
    have := congrArg (fun b => BitVec.getLsbD b 0) h
    simpa using this
  · intro h
    apply BitVec.eq_of_getLsbD_eq
    intro i hi
    rw [BitVec.getLsbD_and, BitVec.getLsbD_one]
    by_cases e : i = 0
    · subst e; rw [h]; decide
    · simp [e]
theorem c_fill5 {M : pm} {t a : Nat} {D S : Nat → Nat} {P : Nat → List Nat} (ht : t + 14 < 45) (ha : 57 ≤ a) (hd : dC M t D P) (hD : okD D P) (hs : sC M a D S) (hS : okS D S) {k47 : Nat → Int64 → pm → Prop} {Q : Int32 → pm → Prop} (k : ∀ M' x, fI xE M M' → (∀ m, m < 64 → (x.toBitVec.getLsbD m = true ↔ ∃ s, s < 2 ^ D 2 ∧ (∀ i, s.testBit i = true → canA D S P i = true) ∧ mnS D S s (D 2) = m)) → k47 t x M') : ∀ (d n b : Nat) (x : Int64) (M1 : pm), b + d = D 2 → d < n → fI xE M M1 → (∀ m, m < 64 → (x.toBitVec.getLsbD m = true ↔ ∃ s, s < 2 ^ b ∧ (∀ i, s.testBit i = true → canA D S P i = true) ∧ mnS D S s b = m)) → w_X1_canFill_5 n t a x (nI b) M1 k47 Q := by
  have h8 := hD.2.2.1
  intro d
  induction d with
  | zero =>
    intro n b x M1 hb hn f1 hx
    obtain ⟨n, rfl⟩ : ∃ n', n = n' + 1 := ⟨n - 1, by omega⟩
    have e : b = D 2 := by omega
    subst e
    unfold w_X1_canFill_5
    have hd1 : dC M1 t D P := dC_c (fun c c1 c2 => f1.2.2.2 c (by unfold xE; omega)) hd
    rw [hd1.2.2.1]
    exact k_yes (nI_le (Nat.le_refl _) (by omega)) (k M1 x f1 hx)
  | succ d ih =>
    intro n b x M1 hb hn f1 hx
    obtain ⟨n, rfl⟩ : ∃ n', n = n' + 1 := ⟨n - 1, by omega⟩
    have hd1 : dC M1 t D P := dC_c (fun c c1 c2 => f1.2.2.2 c (by unfold xE; omega)) hd
    have hs1 : sC M1 a D S := sC_c (fun c c1 c2 => f1.2.2.2 c (by unfold xE; omega)) hs
    have q := hS.2.2 b (by omega)
    have r := hD.2.2.2.2.2.1 _ q.1
    unfold w_X1_canFill_5
    rw [hd1.2.2.1, nI_1]
    refine k_no (nI_ge (by omega) (by omega)) (s_canPlay ht ha hd1 hD hs1 hS (by omega) (fun M2 f2 => ?_))
    by_cases c : canA D S P b = true
    · rw [if_pos c]
      refine k_no (by decide) ⟨vp_in_nI (by omega) (by decide), ?_⟩
      have f12 := f1.tr f2
      have hd2 : dC M2 t D P := dC_c (fun c c1 c2 => f12.2.2.2 c (by unfold xE; omega)) hd
      have hs2 : sC M2 a D S := sC_c (fun c c1 c2 => f12.2.2.2 c (by unfold xE; omega)) hs
      rw [nI_clamp (by omega), (hs2.2.2 b (by omega)).1]
      refine s_longOf hd2 hD q.1 (ih n (b + 1) _ M2 (by omega) (by omega) f12 (fun m hm => ?_))
      rw [nI_l (by omega), Int64.toBitVec_or, Int64.toBitVec_shiftLeft, BitVec.getLsbD_or, BitVec.shiftLeft_eq', l_sh _ (by omega), BitVec.getLsbD_shiftLeft]
      constructor
      · intro h
        rw [Bool.or_eq_true] at h
        rcases h with h | h
        · obtain ⟨s, s1, s2, s3⟩ := (hx m hm).mp h
          exact ⟨s, by rw [Nat.pow_succ]; omega, s2, by rw [mnS_st s1]; exact s3⟩
        · rw [Bool.and_eq_true, Bool.and_eq_true, Bool.not_eq_true', decide_eq_false_iff_not] at h
          obtain ⟨s, s1, s2, s3⟩ := (hx (m - D (10 + S (2 + 5 * b))) (by omega)).mp h.2
          have hL := h.1.2
          refine ⟨s + 2 ^ b, by rw [Nat.pow_succ]; omega, fun i hi => ?_, by rw [mnS_up s1]; omega⟩
          rcases Nat.lt_trichotomy i b with z | z | z
          · rw [tb_lo z] at hi; exact s2 i hi
          · rw [z]; exact c
          · rw [tb_hi s1 z] at hi; exact absurd hi (by decide)
      · rintro ⟨s, s1, s2, s3⟩
        rw [Bool.or_eq_true]
        cases z : s.testBit b with
        | false =>
          left
          have s4 := lo_bits0 z s1
          exact (hx m hm).mpr ⟨s, s4, s2, by rw [mnS_st s4] at s3; exact s3⟩
        | true =>
          right
          obtain ⟨l1, l2⟩ := lo_bits (i := 0) z s1
          have e3 : mnS D S (s - 2 ^ b) b + D (10 + S (2 + 5 * b)) = m := by rw [← mnS_up l1, ← l2]; exact s3
          rw [Bool.and_eq_true, Bool.and_eq_true, Bool.not_eq_true', decide_eq_false_iff_not, decide_eq_true_iff]
          refine ⟨⟨hm, by omega⟩, (hx _ (by omega)).mpr ⟨s - 2 ^ b, l1, fun i hi => ?_, by omega⟩⟩
          refine s2 i ?_
          rw [l2]
          rcases Nat.lt_or_ge i b with y | y
          · rw [tb_lo y]; exact hi
          · rw [tb_ge l1 y] at hi; exact absurd hi (by decide)
    · rw [if_neg c]
      refine k_yes rfl (ih n (b + 1) x M2 (by omega) (by omega) (f1.tr f2) (fun m hm => (hx m hm).trans ?_))
      constructor
      · rintro ⟨s, s1, s2, s3⟩
        exact ⟨s, by rw [Nat.pow_succ]; omega, s2, by rw [mnS_st s1]; exact s3⟩
      · rintro ⟨s, s1, s2, s3⟩
        have z : s.testBit b = false := by
          cases z : s.testBit b with
          | false => rfl
          | true => exact absurd (s2 b z) c
        have s4 := lo_bits0 z s1
        exact ⟨s, s4, s2, by rw [mnS_st s4] at s3; exact s3⟩
theorem c_fill {M : pm} {t a : Nat} {D S : Nat → Nat} {P : Nat → List Nat} (ht : t + 14 < 45) (ha : 57 ≤ a) (hd : dC M t D P) (hD : okD D P) (hs : sC M a D S) (hS : okS D S) {Q : Int32 → pm → Prop} (k : ∀ M', fI xE M M' → Q (nI (pN (filA D S P))) M') : w_X1_canFill t a M Q := by
  have h60 := hD.1
  refine ⟨D 2 + 1, c_fill5 ht ha hd hD hs hS (fun M1 x f1 hx => ?_) (D 2) (D 2 + 1) 0 1 M (by omega) (by omega) (fI.rf M) (fun m hm => ?_)⟩
  · have hd1 : dC M1 t D P := dC_c (fun c c1 c2 => f1.2.2.2 c (by unfold xE; omega)) hd
    have e : (x >>> (Int32.toInt64 (mI M1 t 1) &&& 63)).toBitVec.getLsbD 0 = x.toBitVec.getLsbD (D 0) := by
      rw [hd1.1, nI_l (by omega), Int64.toBitVec_shiftRight, BitVec.sshiftRight', BitVec.getLsbD_sshiftRight, l_sh _ (by omega)]
      simp
      omega
    have kk := k M1 f1
    rw [l_one, e]
    by_cases h : filA D S P
    · rw [pN_1 h] at kk
      exact k_yes' ((hx (D 0) (by omega)).mpr h) kk
    · rw [pN_0 h] at kk
      exact k_no' (fun z => h ((hx (D 0) (by omega)).mp z)) kk
  · have e1 : (1 : Int64).toBitVec = 1#64 := rfl
    rw [e1, BitVec.getLsbD_one]
    constructor
    · intro h
      simp at h
      subst h
      exact ⟨0, by decide, fun i hi => by rw [Nat.zero_testBit] at hi; exact absurd hi (by decide), rfl⟩
    · rintro ⟨s, s1, s2, s3⟩
      have : m = 0 := by rw [← s3]; rfl
      subst this; decide
theorem m_fill {M : pm} {D S : Nat → Nat} {P : Nat → List Nat} (hd : dM M D P) (hD : okD D P) (h1 : 1 ≤ D 0) (hs : sM M D S) (hS : okS D S) (e54 : mI M 277 54 = nI (canB D S P (D 2))) {Q : Int32 → pm → Prop} (k : Q (nI (pN (filA D S P))) M) : w_X8_canBeFull M Q := by
  have h8 := hD.2.2.1
  have h60 := hD.1
  have cb := canB_lt (D := D) (S := S) (P := P) (D 2)
  have p1 : 2 ^ D 2 ≤ 2 ^ 8 := Nat.pow_le_pow_right (by decide) h8
  have p8 : (2 : Nat) ^ 8 = 256 := rfl
  have pz : 0 < 2 ^ D 2 := Nat.two_pow_pos _
  have ml := fun s => mnS_le hD hS s (D 2) (Nat.le_refl _)
  have key : ∀ d n s, s + d = 2 ^ D 2 → d < n → (∀ j, j < s → ¬ ((∀ i, j.testBit i = true → canA D S P i = true) ∧ mnS D S j (D 2) = D 0)) → w_X8_canBeFull_2 n (nI s) M Q := by
    intro d
    induction d with
    | zero =>
      intro n s hs2 hn hj
      obtain ⟨n, rfl⟩ : ∃ n', n = n' + 1 := ⟨n - 1, by omega⟩
      unfold w_X8_canBeFull_2 w_X8_askerMany
      dsimp only
      rw [hd.2.2.1, b_one (by omega)]
      refine k_yes (nI_le (by omega) (by omega)) ?_
      rw [pN_0 (fun ⟨j, j1, j2, j3⟩ => hj j (by omega) ⟨j2, j3⟩)] at k
      exact k
    | succ d ih =>
      intro n s hs2 hn hj
      obtain ⟨n, rfl⟩ : ∃ n', n = n' + 1 := ⟨n - 1, by omega⟩
      have mls := ml s
      unfold w_X8_canBeFull_2 w_X8_askerMany
      dsimp only
      rw [hd.2.2.1, b_one (by omega), e54, nI_1, b_sub (by omega) (by omega)]
      have nx : ¬ ((∀ i, s.testBit i = true → canA D S P i = true) ∧ mnS D S s (D 2) = D 0) → w_X8_canBeFull_2 n (nI (s + 1)) M Q := fun h => ih n (s + 1) (by omega) (by omega) (fun j hj2 => by
        by_cases e : j = s
        · subst e; exact h
        · exact hj j (by omega))
      refine k_no (nI_ge (by omega) (by omega)) ⟨fun hsub => nx (fun z => hsub (fun i hi => (canB_tb (D 2)).mpr ⟨by
          rcases Nat.lt_or_ge i (D 2) with q | q
          · exact q
          · rw [tb_ge (by omega : s < 2 ^ D 2) q] at hi; exact absurd hi (by decide), z.1 i hi⟩)), fun hsub => m_minutesOf hd hD hs hS (by omega) ?_⟩
      rw [hd.1]
      refine pk_ne (mnS D S s (D 2)) (D 0) (fun q => nx (fun z => q z.2)) (fun q => ?_)
      rw [pN_1 ⟨s, by omega, fun i hi => can_in i (hsub i hi), q⟩] at k
      exact k
  refine ⟨2 ^ D 2, key (2 ^ D 2 - 1) (2 ^ D 2) 1 (by omega) (by omega) (fun j hj z => ?_)⟩
  have e : j = 0 := by omega
  subst e
  rw [mnS_0] at z
  omega
/-- what a set of today gives -/
noncomputable def fuV (D S : Nat → Nat) (P : Nat → List Nat) (s : Nat) : Nat := pN (fs D S P s) * (pN (mnS D S s (D 2) = D 0) + pN (filA D (dayA D S P s) P))
noncomputable def fuM (D S : Nat → Nat) (P : Nat → List Nat) : Nat → Nat
  | 0 => 0
  | i + 1 => max (fuM D S P i) (fuV D S P i)
theorem fuV_le (D S : Nat → Nat) (P : Nat → List Nat) (s : Nat) : fuV D S P s ≤ 2 := by
  have h1 := pN_le (fs D S P s)
  have h2 := pN_le (mnS D S s (D 2) = D 0)
  have h3 := pN_le (filA D (dayA D S P s) P)
  unfold fuV
  rcases (show pN (fs D S P s) = 0 ∨ pN (fs D S P s) = 1 from by omega) with e | e
  · rw [e]; omega
  · rw [e]; omega
theorem fuM_le (D S : Nat → Nat) (P : Nat → List Nat) : ∀ i, fuM D S P i ≤ 2
  | 0 => Nat.zero_le _
  | i + 1 => by
    have h1 := fuM_le D S P i
    have h2 := fuV_le D S P i
    show max (fuM D S P i) (fuV D S P i) ≤ 2
    omega
theorem fuM_mono (D S : Nat → Nat) (P : Nat → List Nat) (i : Nat) : ∀ d, fuM D S P i ≤ fuM D S P (i + d)
  | 0 => Nat.le_refl _
  | d + 1 => by
    have h1 := fuM_mono D S P i d
    show _ ≤ max (fuM D S P (i + d)) (fuV D S P (i + d))
    omega
theorem fuV_no {D S : Nat → Nat} {P : Nat → List Nat} {s : Nat} (h : ¬ fs D S P s) : fuV D S P s = 0 := by unfold fuV; rw [pN_0 h, Nat.zero_mul]
theorem fuV_yes {D S : Nat → Nat} {P : Nat → List Nat} {s : Nat} (h : fs D S P s) : fuV D S P s = pN (mnS D S s (D 2) = D 0) + pN (filA D (dayA D S P s) P) := by unfold fuV; rw [pN_1 h, Nat.one_mul]
theorem fuM_hi {D S : Nat → Nat} {P : Nat → List Nat} : ∀ d, fuM D S P (2 ^ D 2 + d) = fuM D S P (2 ^ D 2)
  | 0 => rfl
  | d + 1 => by
    show max (fuM D S P (2 ^ D 2 + d)) (fuV D S P (2 ^ D 2 + d)) = _
    rw [fuV_no (fun z => by have := z.1; omega), fuM_hi d]
    omega
theorem fuM_s (D S : Nat → Nat) (P : Nat → List Nat) (i : Nat) : fuM D S P (i + 1) = max (fuM D S P i) (fuV D S P i) := rfl
theorem p_full (M : pm) (hI : Inv M) : stp Inv w_X7_full w_X8_full M := by
  obtain ⟨t, D, P, S, R⟩ := Rp_of hI
  have h8 := R.2.2.1.2.2.1
  have h60 := R.2.2.1.1
  have hS := R.2.2.2.2.2.1
  have hD := R.2.2.1
  have p1 : 2 ^ D 2 ≤ 2 ^ 8 := Nat.pow_le_pow_right (by decide) h8
  have p8 : (2 : Nat) ^ 8 = 256 := rfl
  have cb := canB_lt (D := D) (S := S) (P := P) (D 2)
  have ml := fun s => mnS_le hD hS s (D 2) (Nat.le_refl _)
  rcases ahd R 1 (lo := 1) (hi := 1) (by decide) (by decide) with h | ⟨q1, q2, q3, q4, n, n1, n2, e, n3, n4⟩
  · have h' : mI M 3 5 = 0 ∨ 999 < mI M 57 0 + 1 := by
      rcases h with h | h | h | h
      · exact Or.inl h
      · exact absurd h (by decide)
      · exact absurd h (by decide)
      · exact Or.inr h
    exact stp_ro hI (-1) (fun K k => c_ahead_no h' (k_yes' rfl (k M (same.rf M)))) (fun M1 s1 Q k => m_isAhead_no (lo := 1) (hi := 1) (by rw [(Rp_50 R s1).1, (Rp_50 R s1).2]; exact h) (k_yes' rfl (k M1 (same.rf M1))))
  have n9 : S 0 + 1 ≤ 999 := by omega
  have fsub : ∀ s, s < 256 → (fs D S P s ↔ s &&& canB D S P (D 2) = s ∧ mnS D S s (D 2) ≤ D 0) := fun s hs => by
    rw [sub_and]
    constructor
    · rintro ⟨a1, a2, a3⟩
      exact ⟨fun i hi => (canB_tb (D 2)).mpr ⟨by
        rcases Nat.lt_or_ge i (D 2) with q | q
        · exact q
        · rw [tb_ge a1 q] at hi; exact absurd hi (by decide), a2 i hi⟩, a3⟩
    · rintro ⟨a1, a2⟩
      refine ⟨?_, fun i hi => can_in i (a1 i hi), a2⟩
      have := Nat.and_lt_two_pow s cb
      rw [sub_and.mpr a1] at this
      exact this
  refine stp_ro hI (nI (fuM D S P 256)) (fun K k => c_ahead_yes q1 q4 (k_no' (by decide) ?_)) (fun M1 s1 Q k => m_isAhead_yes (lo := 1) (hi := 1) (by rw [(Rp_50 R s1).1]; exact q1) (by decide) (by decide) (by rw [(Rp_50 R s1).2]; exact q4) (k_no' (by decide) ?_))
  · obtain ⟨r1, r2, r3, r4, r5, r6, r7, r8, r9, r10, r11, r12⟩ := R
    rw [r2]
    refine s_canBits (by omega) (by decide) r4 r3 r8 r6 (fun M1 f1 => ⟨258, ?_⟩)
    have key : ∀ d m i M2, i + d = 256 → d < m → fI xT M M2 → w_X7_full_30 m (nI (canB D S P (D 2))) (nI (fuM D S P i)) (nI i) M2 K := by
      intro d
      induction d with
      | zero =>
        intro m i M2 hi hm f2
        obtain ⟨m, rfl⟩ : ∃ m', m = m' + 1 := ⟨m - 1, by omega⟩
        have : i = 256 := by omega
        subst this
        unfold w_X7_full_30
        exact k_yes (by decide) (k M2 (fT_same f2))
      | succ d ih =>
        intro m i M2 hi hm f2
        obtain ⟨m, rfl⟩ : ∃ m', m = m' + 1 := ⟨m - 1, by omega⟩
        have fl := fuM_le D S P i
        have mli := ml i
        have hd2 := tC f2 r1 r4
        have hs2 : sC M2 57 D S := sC_c (fun c c1 c2 => f2.2.2.2 c (by unfold xT; omega)) r8
        unfold w_X7_full_30
        refine k_no (nI_ge (b := 256) (by omega) (by decide)) (pk_le 2 (fuM D S P i) (fun q => ?_) (fun q => ?_))
        · have g := fuM_mono D S P i (256 - i)
          rw [show i + (256 - i) = 256 from by omega] at g
          have g2 := fuM_le D S P 256
          rw [show fuM D S P i = fuM D S P 256 from by omega]
          exact k M2 (fT_same f2)
        · have g := fun M3 f3 => ih m (i + 1) M3 (by omega) (by omega) f3
          rw [f2.2.1, r2, nI_1]
          refine s_minutesOf hd2 r3 hs2 r6 (by omega) ?_
          rw [b_and (by omega) (by omega), f2.2.1, r2, hd2.1]
          have al : i &&& canB D S P (D 2) < 2 ^ D 2 := Nat.and_lt_two_pow i cb
          have no : ¬ fs D S P i → w_X7_full_30 m (nI (canB D S P (D 2))) (nI (fuM D S P i)) (nI (i + 1)) M2 K := fun z => by
            have := g M2 f2
            rw [fuM_s, fuV_no z, show max (fuM D S P i) 0 = fuM D S P i from by omega] at this
            exact this
          refine pk_ne (i &&& canB D S P (D 2)) i (fun z => no (fun y => z ((fsub i (by omega)).mp y).1)) (fun z => pk_lt (D 0) (mnS D S i (D 2)) (fun y => no (fun x => by have := x.2.2; omega)) (fun y => ?_))
          have hfs : fs D S P i := (fsub i (by omega)).mpr ⟨z, y⟩
          have yes : ∀ t0, t0 = nI (pN (mnS D S i (D 2) = D 0)) → w_X7_full_96 (nI (canB D S P (D 2))) (nI (fuM D S P i)) (nI i) t0 M2 (fun x1 x2 x3 M => w_X7_full_30 m x1 x2 x3 M K) K := by
            intro t0 et
            subst et
            have l1 := pN_le (mnS D S i (D 2) = D 0)
            have l2 := pN_le (filA D (dayA D S P i) P)
            unfold w_X7_full_96
            refine c_try h8 hs2 (fun M3 f3 s3 => ?_)
            have f23 := f2.tr f3
            have hd3 := tC f23 r1 r4
            rw [f23.2.1, r2]
            refine s_playDay (by omega) (by decide) hd3 r3 s3 r6 (by omega) y (fun M4 f4 s4 _ => ?_)
            rw [dayC_eq (by omega)] at s4
            have f24 := f23.tr (xP_T f4)
            rw [f24.2.1, r2]
            refine c_fill (by omega) (by decide) (tC f24 r1 r4) r3 s4 (okS_A r6 (by omega)) (fun M5 f5 => ?_)
            have gg := g M5 (f24.tr (xC_T (xEC f5)))
            rw [fuM_s, fuV_yes hfs] at gg
            rw [nI_1]
            refine pk_eq (pN (filA D (dayA D S P i) P)) 0 (fun w => ?_) (fun w => ?_)
            · rw [w, Nat.add_zero] at gg
              rw [show nI (pN (mnS D S i (D 2) = D 0)) + 0 = nI (pN (mnS D S i (D 2) = D 0)) from Int32.add_zero _, ← zI_n, ← zI_n]
              refine s_max (by omega) (by omega) (by omega) (by omega) ?_
              rw [show max ((fuM D S P i : Nat) : Int) ((pN (mnS D S i (D 2) = D 0) : Nat) : Int) = ((max (fuM D S P i) (pN (mnS D S i (D 2) = D 0)) : Nat) : Int) from by omega, zI_n]
              exact gg
            · rw [show pN (filA D (dayA D S P i) P) = 1 from by omega] at gg
              rw [nI_1, ← zI_n, ← zI_n]
              refine s_max (by omega) (by omega) (by omega) (by omega) ?_
              rw [show max ((fuM D S P i : Nat) : Int) ((pN (mnS D S i (D 2) = D 0) + 1 : Nat) : Int) = ((max (fuM D S P i) (pN (mnS D S i (D 2) = D 0) + 1) : Nat) : Int) from by omega, zI_n]
              exact gg
          refine pk_ne (mnS D S i (D 2)) (D 0) (fun w => yes 0 (by rw [pN_0 w]; rfl)) (fun w => yes 1 (by rw [pN_1 w]; rfl))
    exact key 256 258 0 M1 (by omega) (by omega) (xC_T (xEC f1))
  · obtain ⟨r1, r2, r3, r4, r5, r6, r7, r8, r9, r10, r11, r12⟩ := Rp_same s1 R
    refine m_putsAside h8 r9 (fun M2 t2 s2 => m_laysCan (thk_d t2 r5) r3 s2 r6 (fun M3 f3 e54 _ => ⟨2 ^ D 2 + 1, ?_⟩))
    have t3 := thk_M t2 f3.M
    have key : ∀ d m i M4, i + d = 2 ^ D 2 → d < m → thk M1 M4 → sM M4 D S → w_X8_full_29 m (nI (fuM D S P i)) (nI (canB D S P (D 2))) (nI i) M4 Q := by
      intro d
      induction d with
      | zero =>
        intro m i M4 hi hm t4 s4
        obtain ⟨m, rfl⟩ : ∃ m', m = m' + 1 := ⟨m - 1, by omega⟩
        have : i = 2 ^ D 2 := by omega
        subst this
        unfold w_X8_full_29 w_X8_askerMany
        dsimp only
        rw [(thk_d t4 r5).2.2.1, b_one (by omega)]
        refine k_yes (nI_le (Nat.le_refl _) (by omega)) (m_takesBack r12 t4 (fun M5 s5 _ _ => ?_))
        have := fuM_hi (D := D) (S := S) (P := P) (256 - 2 ^ D 2)
        rw [show 2 ^ D 2 + (256 - 2 ^ D 2) = 256 from by omega] at this
        rw [← this]
        exact k M5 s5
      | succ d ih =>
        intro m i M4 hi hm t4 s4
        obtain ⟨m, rfl⟩ : ∃ m', m = m' + 1 := ⟨m - 1, by omega⟩
        have fl := fuM_le D S P i
        have mli := ml i
        have hd4 := thk_d t4 r5
        have g := fun M5 t5 s5 => ih m (i + 1) M5 (by omega) (by omega) t5 s5
        have no : ¬ fs D S P i → w_X8_full_29 m (nI (fuM D S P i)) (nI (canB D S P (D 2))) (nI (i + 1)) M4 Q := fun z => by
          have := g M4 t4 s4
          rw [fuM_s, fuV_no z, show max (fuM D S P i) 0 = fuM D S P i from by omega] at this
          exact this
        unfold w_X8_full_29 w_X8_askerMany
        dsimp only
        rw [hd4.2.2.1, b_one (by omega), nI_1, b_sub (by omega) (by omega)]
        refine k_no (nI_ge (by omega) (by omega)) ⟨fun hsub => m_minutesOf hd4 r3 s4 r6 (by omega) ?_, fun hsub => no (fun z => hsub (sub_and.mp ((fsub i (by omega)).mp z).1))⟩
        rw [hd4.1]
        refine pk_le (mnS D S i (D 2)) (D 0) (fun y => ?_) (fun y => no (fun x => by have := x.2.2; omega))
        have hfs : fs D S P i := (fsub i (by omega)).mpr ⟨sub_and.mpr hsub, y⟩
        refine m_dayT hd4 r3 s4 r6 (by omega) y t4.2.2.2.2.2.2.2 (fun M5 f5 s5 => ?_)
        have t5 := thk_D t4 f5
        refine m_laysCan (thk_d t5 r5) r3 s5 (okS_A r6 (by omega)) (fun M6 f6 e6 _ => ?_)
        have t6 := thk_M t5 f6.M
        have hd6 := thk_d t6 r5
        have s6 := fL_s f6 s5
        have fin : ∀ t0 t1, t0 = nI (pN (mnS D S i (D 2) = D 0)) → t1 = nI (pN (filA D (dayA D S P i) P)) → w_X8_full_108 (nI (fuM D S P i)) (nI (canB D S P (D 2))) (nI i) t0 t1 M6 (fun x1 x2 x3 M => w_X8_full_29 m x1 x2 x3 M Q) Q := by
          intro t0 t1 e0 e1
          subst e0 e1
          have l1 := pN_le (mnS D S i (D 2) = D 0)
          have l2 := pN_le (filA D (dayA D S P i) P)
          unfold w_X8_full_108
          refine m_triesAnew t6 (fun M7 t7 e7 _ _ => ?_)
          have gg := g M7 t7 (sM_c e7 r9)
          rw [fuM_s, fuV_yes hfs] at gg
          rw [nI_add, nI_1]
          refine pk_le (pN (mnS D S i (D 2) = D 0) + pN (filA D (dayA D S P i) P)) (fuM D S P i) (fun w => ?_) (fun w => ?_)
          · rw [show max (fuM D S P i) (pN (mnS D S i (D 2) = D 0) + pN (filA D (dayA D S P i) P)) = fuM D S P i from by omega] at gg
            exact gg
          · rw [show max (fuM D S P i) (pN (mnS D S i (D 2) = D 0) + pN (filA D (dayA D S P i) P)) = pN (mnS D S i (D 2) = D 0) + pN (filA D (dayA D S P i) P) from by omega] at gg
            exact gg
        rw [hd6.1]
        have fin2 : ∀ t0, t0 = nI (pN (mnS D S i (D 2) = D 0)) → w_X8_canBeFull M6 (fun y27 M26 => ((y27 = 0 → (w_X8_full_108 (nI (fuM D S P i)) (nI (canB D S P (D 2))) (nI i) t0 0 M26 (fun x1 x2 x3 M => w_X8_full_29 m x1 x2 x3 M Q) Q)) ∧ (¬ y27 = 0 → (w_X8_full_108 (nI (fuM D S P i)) (nI (canB D S P (D 2))) (nI i) t0 1 M26 (fun x1 x2 x3 M => w_X8_full_29 m x1 x2 x3 M Q) Q)))) := by
          intro t0 e0
          have l2 := pN_le (filA D (dayA D S P i) P)
          refine m_fill hd6 r3 n4 s6 (okS_A r6 (by omega)) e6 (pk_eq (pN (filA D (dayA D S P i) P)) 0 (fun w => fin t0 0 e0 (by rw [w]; rfl)) (fun w => fin t0 1 e0 (by rw [show pN (filA D (dayA D S P i) P) = 1 from by omega]; rfl)))
        exact pk_ne (mnS D S i (D 2)) (D 0) (fun w => fin2 0 (by rw [pN_0 w]; rfl)) (fun w => fin2 1 (by rw [pN_1 w]; rfl))
    rw [e54]
    exact key (2 ^ D 2) (2 ^ D 2 + 1) 0 M3 (by omega) (by omega) t3 (fL_s f3 s2)
