/-! has, song, kept, fame -/
def bcE (x0 : Int32) : Int32 := (((((((x0 - (((x0.toUInt32 >>> ((1 : Int32).toUInt32 &&& Int32.toUInt32 31)).toInt32) &&& 1431655765)) &&& 858993459) + ((((x0 - (((x0.toUInt32 >>> ((1 : Int32).toUInt32 &&& Int32.toUInt32 31)).toInt32) &&& 1431655765)).toUInt32 >>> ((2 : Int32).toUInt32 &&& Int32.toUInt32 31)).toInt32) &&& 858993459)) + (((((x0 - (((x0.toUInt32 >>> ((1 : Int32).toUInt32 &&& Int32.toUInt32 31)).toInt32) &&& 1431655765)) &&& 858993459) + ((((x0 - (((x0.toUInt32 >>> ((1 : Int32).toUInt32 &&& Int32.toUInt32 31)).toInt32) &&& 1431655765)).toUInt32 >>> ((2 : Int32).toUInt32 &&& Int32.toUInt32 31)).toInt32) &&& 858993459)).toUInt32 >>> ((4 : Int32).toUInt32 &&& Int32.toUInt32 31)).toInt32)) &&& 252645135) + (((((((x0 - (((x0.toUInt32 >>> ((1 : Int32).toUInt32 &&& Int32.toUInt32 31)).toInt32) &&& 1431655765)) &&& 858993459) + ((((x0 - (((x0.toUInt32 >>> ((1 : Int32).toUInt32 &&& Int32.toUInt32 31)).toInt32) &&& 1431655765)).toUInt32 >>> ((2 : Int32).toUInt32 &&& Int32.toUInt32 31)).toInt32) &&& 858993459)) + (((((x0 - (((x0.toUInt32 >>> ((1 : Int32).toUInt32 &&& Int32.toUInt32 31)).toInt32) &&& 1431655765)) &&& 858993459) + ((((x0 - (((x0.toUInt32 >>> ((1 : Int32).toUInt32 &&& Int32.toUInt32 31)).toInt32) &&& 1431655765)).toUInt32 >>> ((2 : Int32).toUInt32 &&& Int32.toUInt32 31)).toInt32) &&& 858993459)).toUInt32 >>> ((4 : Int32).toUInt32 &&& Int32.toUInt32 31)).toInt32)) &&& 252645135).toUInt32 >>> ((8 : Int32).toUInt32 &&& Int32.toUInt32 31)).toInt32)) + ((((((((x0 - (((x0.toUInt32 >>> ((1 : Int32).toUInt32 &&& Int32.toUInt32 31)).toInt32) &&& 1431655765)) &&& 858993459) + ((((x0 - (((x0.toUInt32 >>> ((1 : Int32).toUInt32 &&& Int32.toUInt32 31)).toInt32) &&& 1431655765)).toUInt32 >>> ((2 : Int32).toUInt32 &&& Int32.toUInt32 31)).toInt32) &&& 858993459)) + (((((x0 - (((x0.toUInt32 >>> ((1 : Int32).toUInt32 &&& Int32.toUInt32 31)).toInt32) &&& 1431655765)) &&& 858993459) + ((((x0 - (((x0.toUInt32 >>> ((1 : Int32).toUInt32 &&& Int32.toUInt32 31)).toInt32) &&& 1431655765)).toUInt32 >>> ((2 : Int32).toUInt32 &&& Int32.toUInt32 31)).toInt32) &&& 858993459)).toUInt32 >>> ((4 : Int32).toUInt32 &&& Int32.toUInt32 31)).toInt32)) &&& 252645135) + (((((((x0 - (((x0.toUInt32 >>> ((1 : Int32).toUInt32 &&& Int32.toUInt32 31)).toInt32) &&& 1431655765)) &&& 858993459) + ((((x0 - (((x0.toUInt32 >>> ((1 : Int32).toUInt32 &&& Int32.toUInt32 31)).toInt32) &&& 1431655765)).toUInt32 >>> ((2 : Int32).toUInt32 &&& Int32.toUInt32 31)).toInt32) &&& 858993459)) + (((((x0 - (((x0.toUInt32 >>> ((1 : Int32).toUInt32 &&& Int32.toUInt32 31)).toInt32) &&& 1431655765)) &&& 858993459) + ((((x0 - (((x0.toUInt32 >>> ((1 : Int32).toUInt32 &&& Int32.toUInt32 31)).toInt32) &&& 1431655765)).toUInt32 >>> ((2 : Int32).toUInt32 &&& Int32.toUInt32 31)).toInt32) &&& 858993459)).toUInt32 >>> ((4 : Int32).toUInt32 &&& Int32.toUInt32 31)).toInt32)) &&& 252645135).toUInt32 >>> ((8 : Int32).toUInt32 &&& Int32.toUInt32 31)).toInt32)).toUInt32 >>> ((16 : Int32).toUInt32 &&& Int32.toUInt32 31)).toInt32)) &&& 63
theorem bcE_s : ∀ s, s < 256 → bcE (nI s) = nI (pc8 s) := by decide +kernel
theorem s_bits {s : Nat} (hs : s < 256) {M : pm} {Q : Int32 → pm → Prop} (k : Q (nI (pc8 s)) M) : w_J6_bitCount_0f7a4 (nI s) M Q := by
  have e : w_J6_bitCount_0f7a4 (nI s) M Q = Q (bcE (nI s)) M := rfl
  rw [e, bcE_s s hs]
  exact k
def ddN (S : Nat → Nat) : Nat → Nat
  | 0 => 0
  | b + 1 => ddN S b + if S (3 + 5 * b) ≤ S 0 then 1 else 0
theorem ddN_le (S : Nat → Nat) : ∀ b, ddN S b ≤ b
  | 0 => Nat.le_refl _
  | b + 1 => by have := ddN_le S b; unfold ddN; split <;> omega
def fgN (S : Nat → Nat) : Nat → Nat
  | 0 => 0
  | b + 1 => fgN S b + if S (4 + 5 * b) = 0 then 1 else 0
theorem ddN_s (S : Nat → Nat) (b : Nat) : ddN S (b + 1) = ddN S b + if S (3 + 5 * b) ≤ S 0 then 1 else 0 := rfl
theorem fgN_s (S : Nat → Nat) (b : Nat) : fgN S (b + 1) = fgN S b + if S (4 + 5 * b) = 0 then 1 else 0 := rfl
theorem s_countLiving {M : pm} {t : Nat} {D S : Nat → Nat} {P : Nat → List Nat} (R : Rp M t D P S) {Q : Int32 → pm → Prop} (k : Q (nI (D 2 - ddN S (D 2))) M) : w_X7_countLiving M Q := by
  obtain ⟨r1, r2, r3, r4, r5, r6, r7, r8, r9, r10, r11, r12⟩ := R
  have h8 := r3.2.2.1
  have key : ∀ d n b, b + d = D 2 → d < n → w_X7_countLiving_4 n (nI (b - ddN S b)) (nI b) M Q := by
    intro d
    induction d with
    | zero =>
      intro n b hb hn
      obtain ⟨n, rfl⟩ : ∃ n', n = n' + 1 := ⟨n - 1, by omega⟩
      unfold w_X7_countLiving_4
      rw [r2, r4.2.2.1]
      refine k_yes (nI_le (by omega) (by omega)) ?_
      rw [show b = D 2 from by omega]; exact k
    | succ d ih =>
      intro n b hb hn
      obtain ⟨n, rfl⟩ : ∃ n', n = n' + 1 := ⟨n - 1, by omega⟩
      have g := ih n (b + 1) (by omega) (by omega)
      have dl := ddN_le S b
      rw [ddN_s] at g
      unfold w_X7_countLiving_4
      rw [r2, r4.2.2.1, nI_1]
      refine k_no (nI_ge (by omega) (by omega)) (s_isDead (by omega) r8 r6 (by omega) ?_)
      by_cases h : S (3 + 5 * b) ≤ S 0
      · rw [if_pos h] at g ⊢
        refine k_no' (by decide) ?_
        rw [show b + 1 - (ddN S b + 1) = b - ddN S b from by omega] at g
        exact g
      · rw [if_neg h] at g ⊢
        refine k_yes' rfl ?_
        rw [nI_1, show b - ddN S b + 1 = b + 1 - (ddN S b + 0) from by omega]
        exact g
  exact ⟨_, key (D 2) (D 2 + 1) 0 (by omega) (by omega)⟩
theorem m_deadMany {M : pm} {D S : Nat → Nat} {P : Nat → List Nat} (hd : dM M D P) (hD : okD D P) (hs : sM M D S) (hS : okS D S) {Q : Int32 → pm → Prop} (k : Q (nI (ddN S (D 2))) M) : w_X8_deadMany M Q := by
  have h8 := hD.2.2.1
  have key : ∀ d n b, b + d = D 2 → d < n → w_X8_deadMany_4 n (nI (ddN S b)) (nI b) M Q := by
    intro d
    induction d with
    | zero =>
      intro n b hb hn
      obtain ⟨n, rfl⟩ : ∃ n', n = n' + 1 := ⟨n - 1, by omega⟩
      unfold w_X8_deadMany_4 w_X8_askerMany
      dsimp only
      rw [hd.2.2.1]
      refine k_yes (nI_le (by omega) (by omega)) ?_
      rw [show b = D 2 from by omega]; exact k
    | succ d ih =>
      intro n b hb hn
      obtain ⟨n, rfl⟩ : ∃ n', n = n' + 1 := ⟨n - 1, by omega⟩
      have g := ih n (b + 1) (by omega) (by omega)
      rw [ddN_s] at g
      unfold w_X8_deadMany_4 w_X8_askerMany
      dsimp only
      rw [hd.2.2.1, nI_1]
      refine k_no (nI_ge (by omega) (by omega)) (m_isDead (by omega) hs hS (by omega) ?_)
      by_cases h : S (3 + 5 * b) ≤ S 0
      · rw [if_pos h] at g ⊢
        refine k_no (by decide) ?_
        rw [nI_1]; exact g
      · rw [if_neg h] at g ⊢
        exact k_yes rfl g
  exact ⟨_, key (D 2) (D 2 + 1) 0 (by omega) (by omega)⟩
theorem s_countForgotten {M : pm} {t : Nat} {D S : Nat → Nat} {P : Nat → List Nat} (R : Rp M t D P S) {Q : Int32 → pm → Prop} (k : Q (nI (fgN S (D 2))) M) : w_X7_countForgotten M Q := by
  obtain ⟨r1, r2, r3, r4, r5, r6, r7, r8, r9, r10, r11, r12⟩ := R
  have h8 := r3.2.2.1
  have key : ∀ d n b, b + d = D 2 → d < n → w_X7_countForgotten_4 n (nI (fgN S b)) (nI b) M Q := by
    intro d
    induction d with
    | zero =>
      intro n b hb hn
      obtain ⟨n, rfl⟩ : ∃ n', n = n' + 1 := ⟨n - 1, by omega⟩
      unfold w_X7_countForgotten_4
      rw [r2, r4.2.2.1]
      refine k_yes (nI_le (by omega) (by omega)) ?_
      rw [show b = D 2 from by omega]; exact k
    | succ d ih =>
      intro n b hb hn
      obtain ⟨n, rfl⟩ : ∃ n', n = n' + 1 := ⟨n - 1, by omega⟩
      have g := ih n (b + 1) (by omega) (by omega)
      have q := r6.2.2 b (by omega)
      rw [fgN_s] at g
      unfold w_X7_countForgotten_4
      rw [r2, r4.2.2.1, nI_1, nI_clamp (by omega), show mI M 60 b = _ from (r8.2.2 b (by omega)).2.2.1]
      refine k_no (nI_ge (by omega) (by omega)) ⟨vp_in_nI (by omega) (by decide), pk_ne (S (4 + 5 * b)) 0 (fun h => ?_) (fun h => ?_)⟩
      · rw [if_neg h] at g; exact g
      · rw [if_pos h] at g; rw [nI_1]; exact g
  exact ⟨_, key (D 2) (D 2 + 1) 0 (by omega) (by omega)⟩
theorem m_forgottenMany {M : pm} {D S : Nat → Nat} {P : Nat → List Nat} (hd : dM M D P) (hD : okD D P) (hs : sM M D S) (hS : okS D S) {Q : Int32 → pm → Prop} (k : Q (nI (fgN S (D 2))) M) : w_X8_forgottenMany M Q := by
  have h8 := hD.2.2.1
  have key : ∀ d n b, b + d = D 2 → d < n → w_X8_forgottenMany_4 n (nI (fgN S b)) (nI b) M Q := by
    intro d
    induction d with
    | zero =>
      intro n b hb hn
      obtain ⟨n, rfl⟩ : ∃ n', n = n' + 1 := ⟨n - 1, by omega⟩
      unfold w_X8_forgottenMany_4 w_X8_askerMany
      dsimp only
      rw [hd.2.2.1]
      refine k_yes (nI_le (by omega) (by omega)) ?_
      rw [show b = D 2 from by omega]; exact k
    | succ d ih =>
      intro n b hb hn
      obtain ⟨n, rfl⟩ : ∃ n', n = n' + 1 := ⟨n - 1, by omega⟩
      have g := ih n (b + 1) (by omega) (by omega)
      have q := hS.2.2 b (by omega)
      rw [fgN_s] at g
      unfold w_X8_forgottenMany_4 w_X8_askerMany
      dsimp only
      rw [hd.2.2.1, nI_1]
      refine k_no (nI_ge (by omega) (by omega)) (m_mindsOf (by omega) hs (by omega) (pk_ne (S (4 + 5 * b)) 0 (fun h => ?_) (fun h => ?_)))
      · rw [if_neg h] at g; exact g
      · rw [if_pos h] at g; rw [nI_1]; exact g
  exact ⟨_, key (D 2) (D 2 + 1) 0 (by omega) (by omega)⟩
theorem p_has (x : Int32) (M : pm) (hI : Inv M) : stp Inv (w_X7_has x) (w_X8_has x) M := by
  obtain ⟨t, D, P, S, R⟩ := Rp_of hI
  have h8 := R.2.2.1.2.2.1
  obtain ⟨-, -, -, -, -, -, -, t', ns, na, ne, hr, -, i9, i10, i11⟩ := id hI
  obtain ⟨c, -, kc1, kc2, -⟩ := i9.2.1
  obtain ⟨r, -, kr1, kr2, -⟩ := i10
  obtain ⟨u, w, -, -, ku1, ku2, -⟩ := i11
  obtain ⟨r1, r2, r3, r4, r5, r6, r7, r8, r9, r10, r11, r12⟩ := id R
  by_cases z0 : x = 0
  · subst z0
    refine stp_ro hI (nI (D 0)) (fun K k => ?_) (fun M1 s1 Q k => ?_)
    · unfold w_X7_has
      simp (decide := true) only [false_implies, true_implies, not_false_eq_true, not_true_eq_false, and_true, true_and, forall_const]
      rw [r2, show mI M t 1 = _ from r4.1]; exact k M (same.rf M)
    · unfold w_X8_has
      simp (decide := true) only [false_implies, true_implies, not_false_eq_true, not_true_eq_false, and_true, true_and, forall_const]
      obtain ⟨q1, q2, q3, q4, q5, q6, q7, q8, q9, q10, q11, q12⟩ := Rp_same s1 R
      rw [q5.1]; exact k M1 (same.rf M1)
  by_cases z1 : x = 1
  · subst z1
    refine stp_ro hI (nI (D 1)) (fun K k => ?_) (fun M1 s1 Q k => ?_)
    · unfold w_X7_has
      simp (decide := true) only [false_implies, true_implies, not_false_eq_true, not_true_eq_false, and_true, true_and, forall_const]
      rw [r2, show mI M t 4 = _ from r4.2.1]; exact k M (same.rf M)
    · unfold w_X8_has
      simp (decide := true) only [false_implies, true_implies, not_false_eq_true, not_true_eq_false, and_true, true_and, forall_const]
      obtain ⟨q1, q2, q3, q4, q5, q6, q7, q8, q9, q10, q11, q12⟩ := Rp_same s1 R
      rw [show ((3 : Int32) + 1 - 1) = nI 3 from by decide, nI_clamp (by decide), show mI M1 309 3 = _ from q5.2.1]
      exact ⟨vp_in_nI (by decide) (by decide), k M1 (same.rf M1)⟩
  by_cases z2 : x = 2
  · subst z2
    refine stp_ro hI (nI (D 2)) (fun K k => ?_) (fun M1 s1 Q k => ?_)
    · unfold w_X7_has
      simp (decide := true) only [false_implies, true_implies, not_false_eq_true, not_true_eq_false, and_true, true_and, forall_const]
      rw [r2, show mI M t 8 = _ from r4.2.2.1]; exact k M (same.rf M)
    · unfold w_X8_has
      simp (decide := true) only [false_implies, true_implies, not_false_eq_true, not_true_eq_false, and_true, true_and, forall_const]
      obtain ⟨q1, q2, q3, q4, q5, q6, q7, q8, q9, q10, q11, q12⟩ := Rp_same s1 R
      rw [show ((3 : Int32) + 2 - 1) = nI 4 from by decide, nI_clamp (by decide), show mI M1 309 4 = _ from q5.2.2.1]
      exact ⟨vp_in_nI (by decide) (by decide), k M1 (same.rf M1)⟩
  by_cases z3 : x = 3
  · subst z3
    refine stp_ro hI (nI (D 3)) (fun K k => ?_) (fun M1 s1 Q k => ?_)
    · unfold w_X7_has
      simp (decide := true) only [false_implies, true_implies, not_false_eq_true, not_true_eq_false, and_true, true_and, forall_const]
      rw [r2, show mI M t 13 = _ from r4.2.2.2.1]; exact k M (same.rf M)
    · unfold w_X8_has
      simp (decide := true) only [false_implies, true_implies, not_false_eq_true, not_true_eq_false, and_true, true_and, forall_const]
      obtain ⟨q1, q2, q3, q4, q5, q6, q7, q8, q9, q10, q11, q12⟩ := Rp_same s1 R
      rw [show ((3 : Int32) + 3 - 1) = nI 5 from by decide, nI_clamp (by decide), show mI M1 309 5 = _ from q5.2.2.2.1]
      exact ⟨vp_in_nI (by decide) (by decide), k M1 (same.rf M1)⟩
  by_cases z4 : x = 4
  · subst z4
    refine stp_ro hI (nI (S 0)) (fun K k => ?_) (fun M1 s1 Q k => ?_)
    · unfold w_X7_has
      simp (decide := true) only [false_implies, true_implies, not_false_eq_true, not_true_eq_false, and_true, true_and, forall_const]
      rw [r8.1]; exact k M (same.rf M)
    · unfold w_X8_has
      simp (decide := true) only [false_implies, true_implies, not_false_eq_true, not_true_eq_false, and_true, true_and, forall_const]
      obtain ⟨q1, q2, q3, q4, q5, q6, q7, q8, q9, q10, q11, q12⟩ := Rp_same s1 R
      rw [show ((4 : Int32) - 4) = nI 0 from by decide, nI_clamp (by decide), q9 0 (by omega)]
      exact ⟨vp_in_nI (by decide) (by decide), k M1 (same.rf M1)⟩
  by_cases z5 : x = 5
  · subst z5
    refine stp_ro hI (nI (S 1)) (fun K k => ?_) (fun M1 s1 Q k => ?_)
    · unfold w_X7_has
      simp (decide := true) only [false_implies, true_implies, not_false_eq_true, not_true_eq_false, and_true, true_and, forall_const]
      rw [r8.2.1]; exact k M (same.rf M)
    · unfold w_X8_has
      simp (decide := true) only [false_implies, true_implies, not_false_eq_true, not_true_eq_false, and_true, true_and, forall_const]
      obtain ⟨q1, q2, q3, q4, q5, q6, q7, q8, q9, q10, q11, q12⟩ := Rp_same s1 R
      rw [show ((5 : Int32) - 4) = nI 1 from by decide, nI_clamp (by decide), q9 1 (by omega)]
      exact ⟨vp_in_nI (by decide) (by decide), k M1 (same.rf M1)⟩
  by_cases z6 : x = 6
  · subst z6
    refine stp_ro hI (nI (ddN S (D 2))) (fun K k => ?_) (fun M1 s1 Q k => ?_)
    · unfold w_X7_has
      simp (decide := true) only [false_implies, true_implies, not_false_eq_true, not_true_eq_false, and_true, true_and, forall_const]
      refine s_countLiving R ?_
      have dl := ddN_le S (D 2)
      rw [r2, r4.2.2.1, pk_sub (by omega), show D 2 - (D 2 - ddN S (D 2)) = ddN S (D 2) from by omega]; exact k M (same.rf M)
    · unfold w_X8_has
      simp (decide := true) only [false_implies, true_implies, not_false_eq_true, not_true_eq_false, and_true, true_and, forall_const]
      obtain ⟨q1, q2, q3, q4, q5, q6, q7, q8, q9, q10, q11, q12⟩ := Rp_same s1 R
      exact m_deadMany q5 q3 q9 q6 (k M1 (same.rf M1))
  by_cases z7 : x = 7
  · subst z7
    refine stp_ro hI (nI (fgN S (D 2))) (fun K k => ?_) (fun M1 s1 Q k => ?_)
    · unfold w_X7_has
      simp (decide := true) only [false_implies, true_implies, not_false_eq_true, not_true_eq_false, and_true, true_and, forall_const]
      exact s_countForgotten R (k M (same.rf M))
    · unfold w_X8_has
      simp (decide := true) only [false_implies, true_implies, not_false_eq_true, not_true_eq_false, and_true, true_and, forall_const]
      obtain ⟨q1, q2, q3, q4, q5, q6, q7, q8, q9, q10, q11, q12⟩ := Rp_same s1 R
      exact m_forgottenMany q5 q3 q9 q6 (k M1 (same.rf M1))
  by_cases z8 : x = 8
  · subst z8
    refine stp_ro hI (nI (pc8 (canB D S P (D 2)))) (fun K k => ?_) (fun M1 s1 Q k => ?_)
    · unfold w_X7_has
      simp (decide := true) only [false_implies, true_implies, not_false_eq_true, not_true_eq_false, and_true, true_and, forall_const]
      rw [r2]
      have cl := canB_lt (D := D) (S := S) (P := P) (D 2)
      have hp2 : 2 ^ D 2 ≤ 2 ^ 8 := Nat.pow_le_pow_right (by decide) h8
      exact s_canBits (by omega) (by decide) r4 r3 r8 r6 (fun M1 f1 => s_bits (by omega) (k M1 (xE_same f1)))
    · unfold w_X8_has
      simp (decide := true) only [false_implies, true_implies, not_false_eq_true, not_true_eq_false, and_true, true_and, forall_const]
      obtain ⟨q1, q2, q3, q4, q5, q6, q7, q8, q9, q10, q11, q12⟩ := Rp_same s1 R
      have cl := canB_lt (D := D) (S := S) (P := P) (D 2)
      have hp2 : 2 ^ D 2 ≤ 2 ^ 8 := Nat.pow_le_pow_right (by decide) h8
      refine m_laysCan q5 q3 q9 q6 (fun M2 f2 e2 _ => ?_)
      rw [e2]
      exact m_bits (by omega) (k M2 (fM_same f2.M))
  by_cases z9 : x = 9
  · subst z9
    refine stp_ro hI (nI c) (fun K k => ?_) (fun M1 s1 Q k => ?_)
    · unfold w_X7_has
      simp (decide := true) only [false_implies, true_implies, not_false_eq_true, not_true_eq_false, and_true, true_and, forall_const]
      rw [kc1]; exact k M (same.rf M)
    · unfold w_X8_has
      simp (decide := true) only [false_implies, true_implies, not_false_eq_true, not_true_eq_false, and_true, true_and, forall_const]
      obtain ⟨q1, q2, q3, q4, q5, q6, q7, q8, q9, q10, q11, q12⟩ := Rp_same s1 R
      rw [s1.2.2.1 317 (by unfold scrA; omega) (by decide), kc2]; exact k M1 (same.rf M1)
  by_cases z10 : x = 10
  · subst z10
    refine stp_ro hI (nI r) (fun K k => ?_) (fun M1 s1 Q k => ?_)
    · unfold w_X7_has
      simp (decide := true) only [false_implies, true_implies, not_false_eq_true, not_true_eq_false, and_true, true_and, forall_const]
      rw [kr1]; exact k M (same.rf M)
    · unfold w_X8_has
      simp (decide := true) only [false_implies, true_implies, not_false_eq_true, not_true_eq_false, and_true, true_and, forall_const]
      obtain ⟨q1, q2, q3, q4, q5, q6, q7, q8, q9, q10, q11, q12⟩ := Rp_same s1 R
      rw [s1.2.2.2.1 63 (by unfold scrK; omega), kr2]; exact k M1 (same.rf M1)
  by_cases z11 : x = 11
  · subst z11
    refine stp_ro hI (nI u) (fun K k => ?_) (fun M1 s1 Q k => ?_)
    · unfold w_X7_has
      simp (decide := true) only [false_implies, true_implies, not_false_eq_true, not_true_eq_false, and_true, true_and, forall_const]
      rw [ku1]; exact k M (same.rf M)
    · unfold w_X8_has
      simp (decide := true) only [false_implies, true_implies, not_false_eq_true, not_true_eq_false, and_true, true_and, forall_const]
      obtain ⟨q1, q2, q3, q4, q5, q6, q7, q8, q9, q10, q11, q12⟩ := Rp_same s1 R
      rw [s1.2.2.2.1 69 (by unfold scrK; omega), ku2]; exact k M1 (same.rf M1)
  exact stp_ro hI (-1) (fun K k => ⟨fun h => absurd h z0, fun h => absurd h z1, fun h => absurd h z2, fun h => absurd h z3, fun h => absurd h z4, fun h => absurd h z5, fun h => absurd h z6, fun h => absurd h z7, fun h => absurd h z8, fun h => absurd h z9, fun h => absurd h z10, fun h => absurd h z11, fun _ _ _ _ _ _ _ _ _ _ _ _ => k M (same.rf M)⟩) (fun M1 s1 Q k => ⟨fun h => absurd h z0, fun h => absurd h z1, fun h => absurd h z2, fun h => absurd h z3, fun h => absurd h z4, fun h => absurd h z5, fun h => absurd h z6, fun h => absurd h z7, fun h => absurd h z8, fun h => absurd h z9, fun h => absurd h z10, fun h => absurd h z11, fun _ _ _ _ _ _ _ _ _ _ _ _ => k M1 (same.rf M1)⟩)
theorem p_song (x z : Int32) (M : pm) (hI : Inv M) : stp Inv (w_X7_song x z) (w_X8_song x z) M := by
  obtain ⟨t, D, P, S, R⟩ := Rp_of hI
  obtain ⟨r1, r2, r3, r4, r5, r6, r7, r8, r9, r10, r11, r12⟩ := id R
  have h6 := r3.2.1
  have no : (x < 0 ∨ (¬ x < 0 ∧ nI (D 1) ≤ x)) → stp Inv (w_X7_song x z) (w_X8_song x z) M := fun h => by
    refine stp_ro hI (-1) (fun K k => ?_) (fun M1 s1 Q k => ?_)
    · refine ⟨fun _ => k_yes' rfl (k M (same.rf M)), fun h1 => ⟨fun _ => k_yes' rfl (k M (same.rf M)), fun h2 => ?_⟩⟩
      rw [r2, r4.2.1] at h2
      rcases h with h | h
      · exact absurd h h1
      · exact absurd h.2 h2
    · unfold w_X8_song w_X8_songMany
      dsimp only
      rw [(Rp_same s1 R).2.2.2.2.1.2.1, j0]
      exact isIn_no (h.elim Or.inl (fun q => Or.inr (le_pred (by omega) q.2))) (k_yes rfl (k M1 (same.rf M1)))
  rcases ix3 x (n := D 1) (by omega) with hx | hx | ⟨b, hb, rfl⟩
  · exact no (Or.inl hx)
  · exact no (Or.inr hx)
  have cls : ∀ {Q : Int32 → pm → Prop}, ((¬ z = 0 → ((¬ z = 1 → (Q (-1) M)) ∧ (z = 1 → (vp_in (nI b) 6 ∧ (Q (mI M ((mR M 3 3) + 3) (nI b).toNatClampNeg) M))))) ∧ (z = 0 → (vp_in (nI b) 6 ∧ (Q (mI M ((mR M 3 3) + 2) (nI b).toNatClampNeg) M)))) → w_X7_song (nI b) z M Q := fun h => by
    refine k_no (nI_pos (by omega)) ?_
    rw [r2, r4.2.1]
    rw [r2] at h
    exact k_no (nI_ge hb (by omega)) (k_no' (by decide) (by rw [r2]; exact h))
  have mod : ∀ {M1 : pm} {Q : Int32 → pm → Prop}, same M M1 → w_X8_isIn (Int32.toInt64 z) (0 : Int64) (1 : Int64) M1 (fun y9 M8 => ((y9 = 0 → (Q (-1) M8)) ∧ (¬ y9 = 0 → (vp_in ((12 + (2 * nI b)) + z) 24 ∧ (Q (mI M8 311 (((12 + (2 * nI b)) + z).toNatClampNeg)) M8))))) → w_X8_song (nI b) z M1 Q := fun s1 h => by
    unfold w_X8_song w_X8_songMany
    dsimp only
    rw [(Rp_same s1 R).2.2.2.2.1.2.1, j0, show nI (D 1) - 1 = nI (D 1 - 1) from pk_sub (a := D 1) (b := 1) (by omega)]
    exact isIn_yes (nI_pos (by omega)) (nI_nlt (by omega) (by omega)) (k_no (by decide) h)
  by_cases z0 : z = 0
  · subst z0
    refine stp_ro hI (nI (D (10 + b))) (fun K k => cls (k_yes' rfl ⟨vp_in_nI (by omega) (by decide), ?_⟩)) (fun M1 s1 Q k => mod s1 ?_)
    · rw [nI_clamp (by omega), r2, (r4.2.2.2.2.2.1 b hb).1]; exact k M (same.rf M)
    · rw [j0, j1]
      refine isIn_yes (by decide) (by decide) (k_no (by decide) ?_)
      rw [show (12 : Int32) + 2 * nI b + 0 = nI (12 + 2 * b) from by rw [show (12 : Int32) + 2 * nI b = nI (12 + 2 * b) from m_ix2 (j := 12) (by omega) (by decide)]; exact nI_add _ 0, nI_clamp (by omega), ((Rp_same s1 R).2.2.2.2.1.2.2.2.2.2.1 b hb).1]
      exact ⟨vp_in_nI (by omega) (by decide), k M1 (same.rf M1)⟩
  by_cases z1 : z = 1
  · subst z1
    refine stp_ro hI (nI (D (20 + b))) (fun K k => cls (k_no' (by decide) (k_yes' rfl ⟨vp_in_nI (by omega) (by decide), ?_⟩))) (fun M1 s1 Q k => mod s1 ?_)
    · rw [nI_clamp (by omega), r2, (r4.2.2.2.2.2.1 b hb).2]; exact k M (same.rf M)
    · rw [j0, j1]
      refine isIn_yes (by decide) (by decide) (k_no (by decide) ?_)
      rw [show (12 : Int32) + 2 * nI b + 1 = nI (13 + 2 * b) from by rw [show (12 : Int32) + 2 * nI b = nI (12 + 2 * b) from m_ix2 (j := 12) (by omega) (by decide), nI_1]; congr 1; omega, nI_clamp (by omega), ((Rp_same s1 R).2.2.2.2.1.2.2.2.2.2.1 b hb).2]
      exact ⟨vp_in_nI (by omega) (by decide), k M1 (same.rf M1)⟩
  · refine stp_ro hI (-1) (fun K k => cls (k_no' z0 (k_no' z1 (k M (same.rf M))))) (fun M1 s1 Q k => mod s1 ?_)
    rw [j0, j1]
    refine isIn_no ?_ (k_yes rfl (k M1 (same.rf M1)))
    rcases ix3 z (n := 2) (by decide) with h | ⟨_, h⟩ | ⟨j, hj, rfl⟩
    · exact Or.inl h
    · exact Or.inr (le_pred (n := 2) (by decide) h)
    · rcases (show j = 0 ∨ j = 1 from by omega) with rfl | rfl
      · exact absurd rfl z0
      · exact absurd rfl z1
theorem p_kept (x z : Int32) (M : pm) (hI : Inv M) : stp Inv (w_X7_kept x z) (w_X8_kept x z) M := by
  obtain ⟨-, -, -, -, -, -, -, t', ns, na, ne, hr, -, i9, -, -⟩ := id hI
  obtain ⟨c, c40, kc1, kc2, kc3⟩ := i9.2.1
  have e317 : ∀ {M1 : pm}, same M M1 → mI M1 317 = mI M 317 := fun s1 => s1.2.2.1 317 (by unfold scrA; omega) (by decide)
  have no : (x < 0 ∨ (¬ x < 0 ∧ nI c ≤ x)) → stp Inv (w_X7_kept x z) (w_X8_kept x z) M := fun h => by
    refine stp_ro hI (-1) (fun K k => ?_) (fun M1 s1 Q k => ?_)
    · refine ⟨fun _ => k M (same.rf M), fun h1 => ⟨fun _ => k M (same.rf M), fun h2 => ?_⟩⟩
      rw [kc1] at h2
      rcases h with h | h
      · exact absurd h h1
      · exact absurd h.2 h2
    · unfold w_X8_kept
      rw [e317 s1, kc2, j0]
      exact isIn_no (h.elim Or.inl (fun q => Or.inr (le_pred (by omega) q.2))) (k_yes rfl (k M1 (same.rf M1)))
  rcases ix3 x (n := c) (by omega) with hx | hx | ⟨b, hb, rfl⟩
  · exact no (Or.inl hx)
  · exact no (Or.inr hx)
  have cls : ∀ {Q : Int32 → pm → Prop}, ((z = 0 → (vp_in (nI b) 40 ∧ (Q (mI M 63 (nI b).toNatClampNeg) M))) ∧ (z = 1 → (vp_in (nI b) 40 ∧ (Q (mI M 64 (nI b).toNatClampNeg) M))) ∧ (z = 2 → (vp_in (nI b) 40 ∧ (Q (mI M 65 (nI b).toNatClampNeg) M))) ∧ (¬ z = 0 → ¬ z = 1 → ¬ z = 2 → (Q (-1) M))) → w_X7_kept (nI b) z M Q := fun h => by
    refine k_no (nI_pos (by omega)) ?_
    rw [kc1]
    exact k_no (nI_ge hb (by omega)) (k_yes (nI_lt (b := 40) (by omega) (by decide)) h)
  have mod : ∀ {M1 : pm} {Q : Int32 → pm → Prop}, same M M1 → w_X8_isIn (Int32.toInt64 z) (0 : Int64) (2 : Int64) M1 (fun y6 M5 => ((y6 = 0 → (Q (-1) M5)) ∧ (¬ y6 = 0 → (vp_in ((43 + (3 * nI b)) + z) 163 ∧ (Q (mI M5 317 (((43 + (3 * nI b)) + z).toNatClampNeg)) M5))))) → w_X8_kept (nI b) z M1 Q := fun s1 h => by
    unfold w_X8_kept
    rw [e317 s1, kc2, j0, show nI c - 1 = nI (c - 1) from pk_sub (a := c) (b := 1) (by omega)]
    exact isIn_yes (nI_pos (by omega)) (nI_nlt (by omega) (by omega)) (k_no (by decide) h)
  have e43 : ∀ j : Nat, (43 : Int32) + 3 * nI b + nI j = nI (43 + 3 * b + j) := fun j => by rw [show (3 : Int32) = nI 3 from rfl, pk_mul, show (43 : Int32) = nI 43 from rfl, nI_add, nI_add]
  have hv : vp_in (nI b) 40 := vp_in_nI (by omega) (by decide)
  by_cases z0 : z = 0
  · subst z0
    refine stp_ro hI (mI M 63 b) (fun K k => cls ?_) (fun M1 s1 Q k => mod s1 ?_)
    · simp (decide := true) only [false_implies, true_implies, not_false_eq_true, not_true_eq_false, and_true, true_and, forall_const]
      rw [nI_clamp (by omega)]; exact ⟨hv, k M (same.rf M)⟩
    · rw [j0, j2]
      refine isIn_yes (by decide) (by decide) (k_no (by decide) ?_)
      rw [show (43 : Int32) + 3 * nI b + 0 = nI (43 + 3 * b + 0) from e43 0, nI_clamp (by omega), e317 s1, show mI M 317 (43 + 3 * b + 0) = mI M 63 b from (kc3 b hb).1.symm]
      exact ⟨vp_in_nI (by omega) (by decide), k M1 (same.rf M1)⟩
  by_cases z1 : z = 1
  · subst z1
    refine stp_ro hI (mI M 64 b) (fun K k => cls ?_) (fun M1 s1 Q k => mod s1 ?_)
    · simp (decide := true) only [false_implies, true_implies, not_false_eq_true, not_true_eq_false, and_true, true_and, forall_const]
      rw [nI_clamp (by omega)]; exact ⟨hv, k M (same.rf M)⟩
    · rw [j0, j2]
      refine isIn_yes (by decide) (by decide) (k_no (by decide) ?_)
      rw [show (43 : Int32) + 3 * nI b + 1 = nI (43 + 3 * b + 1) from e43 1, nI_clamp (by omega), e317 s1, show mI M 317 (43 + 3 * b + 1) = mI M 64 b from by rw [show 43 + 3 * b + 1 = 44 + 3 * b from by omega]; exact (kc3 b hb).2.1.symm]
      exact ⟨vp_in_nI (by omega) (by decide), k M1 (same.rf M1)⟩
  by_cases z2 : z = 2
  · subst z2
    refine stp_ro hI (mI M 65 b) (fun K k => cls ?_) (fun M1 s1 Q k => mod s1 ?_)
    · simp (decide := true) only [false_implies, true_implies, not_false_eq_true, not_true_eq_false, and_true, true_and, forall_const]
      rw [nI_clamp (by omega)]; exact ⟨hv, k M (same.rf M)⟩
    · rw [j0, j2]
      refine isIn_yes (by decide) (by decide) (k_no (by decide) ?_)
      rw [show (43 : Int32) + 3 * nI b + 2 = nI (43 + 3 * b + 2) from e43 2, nI_clamp (by omega), e317 s1, show mI M 317 (43 + 3 * b + 2) = mI M 65 b from by rw [show 43 + 3 * b + 2 = 45 + 3 * b from by omega]; exact (kc3 b hb).2.2.symm]
      exact ⟨vp_in_nI (by omega) (by decide), k M1 (same.rf M1)⟩
  · refine stp_ro hI (-1) (fun K k => cls ⟨fun h => absurd h z0, fun h => absurd h z1, fun h => absurd h z2, fun _ _ _ => k M (same.rf M)⟩) (fun M1 s1 Q k => mod s1 ?_)
    rw [j0, j2]
    refine isIn_no ?_ (k_yes rfl (k M1 (same.rf M1)))
    rcases ix3 z (n := 3) (by decide) with h | ⟨_, h⟩ | ⟨j, hj, rfl⟩
    · exact Or.inl h
    · exact Or.inr (le_pred (n := 3) (by decide) h)
    · rcases (show j = 0 ∨ j = 1 ∨ j = 2 from by omega) with rfl | rfl | rfl
      · exact absurd rfl z0
      · exact absurd rfl z1
      · exact absurd rfl z2
