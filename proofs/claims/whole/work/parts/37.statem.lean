/-! the reference: what is told of an asker -/
theorem m_ix {j b : Nat} (hb : b < 8) (hj : j ≤ 13) : (nI j : Int32) + 5 * nI b = nI (j + 5 * b) := by
  rw [show (5 : Int32) = nI 5 from rfl, pk_mul, nI_add]
theorem m_fld {M : pm} {j b : Nat} {D S : Nat → Nat} (hb8 : b < 8) (hs : sM M D S) (hb : b < D 2) (h2 : 2 ≤ j) (h7 : j < 7) : vp_in (nI j + 5 * nI b) 163 ∧ mI M 317 ((nI j + 5 * nI b).toNatClampNeg) = nI (S (j + 5 * b)) := by
  rw [m_ix hb8 (by omega), nI_clamp (by omega), hs _ (by omega)]
  exact ⟨vp_in_nI (by omega) (by decide), rfl⟩
theorem m_songOf {M : pm} {b : Nat} {D S : Nat → Nat} (hb8 : b < 8) (hs : sM M D S) (hb : b < D 2) {Q : Int32 → pm → Prop} (k : Q (nI (S (2 + 5 * b))) M) : w_X8_songOf (nI b) M Q := by
  have h := m_fld (j := 2) hb8 hs hb (by decide) (by decide)
  exact ⟨h.1, by rw [show mI M 317 ((2 + 5 * nI b).toNatClampNeg) = _ from h.2]; exact k⟩
theorem m_diesOf {M : pm} {b : Nat} {D S : Nat → Nat} (hb8 : b < 8) (hs : sM M D S) (hb : b < D 2) {Q : Int32 → pm → Prop} (k : Q (nI (S (3 + 5 * b))) M) : w_X8_diesOf (nI b) M Q := by
  have h := m_fld (j := 3) hb8 hs hb (by decide) (by decide)
  exact ⟨h.1, by rw [show mI M 317 ((3 + 5 * nI b).toNatClampNeg) = _ from h.2]; exact k⟩
theorem m_mindsOf {M : pm} {b : Nat} {D S : Nat → Nat} (hb8 : b < 8) (hs : sM M D S) (hb : b < D 2) {Q : Int32 → pm → Prop} (k : Q (nI (S (4 + 5 * b))) M) : w_X8_mindsOf (nI b) M Q := by
  have h := m_fld (j := 4) hb8 hs hb (by decide) (by decide)
  exact ⟨h.1, by rw [show mI M 317 ((4 + 5 * nI b).toNatClampNeg) = _ from h.2]; exact k⟩
theorem m_lastOf {M : pm} {b : Nat} {D S : Nat → Nat} (hb8 : b < 8) (hs : sM M D S) (hb : b < D 2) {Q : Int32 → pm → Prop} (k : Q (nI (S (5 + 5 * b))) M) : w_X8_lastOf (nI b) M Q := by
  have h := m_fld (j := 5) hb8 hs hb (by decide) (by decide)
  exact ⟨h.1, by rw [show mI M 317 ((5 + 5 * nI b).toNatClampNeg) = _ from h.2]; exact k⟩
theorem m_playedOf {M : pm} {b : Nat} {D S : Nat → Nat} (hb8 : b < 8) (hs : sM M D S) (hb : b < D 2) {Q : Int32 → pm → Prop} (k : Q (nI (S (6 + 5 * b))) M) : w_X8_playedOf (nI b) M Q := by
  have h := m_fld (j := 6) hb8 hs hb (by decide) (by decide)
  exact ⟨h.1, by rw [show mI M 317 ((6 + 5 * nI b).toNatClampNeg) = _ from h.2]; exact k⟩
theorem m_isDead {M : pm} {b : Nat} {D S : Nat → Nat} (hb8 : b < 8) (hs : sM M D S) (hS : okS D S) (hb : b < D 2) {Q : Int32 → pm → Prop} (k : Q (if S (3 + 5 * b) ≤ S 0 then 1 else 0) M) : w_X8_isDead (nI b) M Q := by
  have q := hS.2.2 b hb
  have q0 := hS.1
  refine m_diesOf hb8 hs hb ?_
  rw [hs 0 (by omega)]
  refine pk_lt (S 0) (S (3 + 5 * b)) (fun h => ?_) (fun h => ?_)
  · rw [if_neg (by omega)] at k; exact k
  · rw [if_pos (by omega)] at k; exact k
theorem m_ageOf {M : pm} {b : Nat} {D S : Nat → Nat} (hb8 : b < 8) (hs : sM M D S) (hS : okS D S) (hb : b < D 2) {Q : Int32 → pm → Prop} (k : Q (nI (S 0 - S (3 + 5 * b))) M) : w_X8_ageOf (nI b) M Q := by
  refine m_isDead hb8 hs hS hb ?_
  by_cases h : S (3 + 5 * b) ≤ S 0
  · rw [if_pos h]
    refine k_no (by decide) (m_diesOf hb8 hs hb ?_)
    rw [hs 0 (by omega), pk_sub h]
    exact k
  · rw [if_neg h]
    rw [show S 0 - S (3 + 5 * b) = 0 from by omega] at k
    exact k_yes rfl k
theorem m_sinceOf {M : pm} {b : Nat} {D S : Nat → Nat} (hb8 : b < 8) (hs : sM M D S) (hS : okS D S) (hb : b < D 2) {Q : Int32 → pm → Prop} (k : Q (nI (sinN S b)) M) : w_X8_sinceOf (nI b) M Q := by
  have q := hS.2.2 b hb
  have q0 := hS.1
  unfold sinN at k
  refine m_lastOf hb8 hs hb (pk_ne (S (5 + 5 * b)) 0 (fun h => ?_) (fun h => ?_))
  · rw [if_neg h] at k
    refine m_lastOf hb8 hs hb ?_
    rw [hs 0 (by omega), nI_1, pk_sub (by omega)]
    refine pk_le (S 0 + 1 - S (5 + 5 * b)) 99 (fun h => ?_) (fun h => ?_)
    · rw [show min 99 (S 0 + 1 - S (5 + 5 * b)) = S 0 + 1 - S (5 + 5 * b) from by omega] at k; exact k
    · rw [show min 99 (S 0 + 1 - S (5 + 5 * b)) = 99 from by omega] at k; exact k
  · rw [if_pos h] at k; exact k
theorem m_ix2 {j s : Nat} (hs : s < 6) (hj : j ≤ 13) : (nI j : Int32) + 2 * nI s = nI (j + 2 * s) := by
  rw [show (2 : Int32) = nI 2 from rfl, pk_mul, nI_add]
theorem m_longOf {M : pm} {b : Nat} {D S : Nat → Nat} {P : Nat → List Nat} (hd : dM M D P) (hD : okD D P) (hs : sM M D S) (hS : okS D S) (hb : b < D 2) {Q : Int32 → pm → Prop} (k : Q (nI (D (10 + S (2 + 5 * b)))) M) : w_X8_longOf (nI b) M Q := by
  have hb8 : b < 8 := by have := hD.2.2.1; omega
  have q := (hS.2.2 b hb).1
  have d1 := hD.2.1
  refine m_songOf hb8 hs hb ?_
  rw [show (12 : Int32) + 2 * nI (S (2 + 5 * b)) = nI (12 + 2 * S (2 + 5 * b)) from m_ix2 (j := 12) (by omega) (by decide), nI_clamp (by omega), (hd.2.2.2.2.2.1 _ q).1]
  exact ⟨vp_in_nI (by omega) (by decide), k⟩
theorem m_styleOf {M : pm} {b : Nat} {D S : Nat → Nat} {P : Nat → List Nat} (hd : dM M D P) (hD : okD D P) (hs : sM M D S) (hS : okS D S) (hb : b < D 2) {Q : Int32 → pm → Prop} (k : Q (nI (D (20 + S (2 + 5 * b)))) M) : w_X8_styleOf (nI b) M Q := by
  have hb8 : b < 8 := by have := hD.2.2.1; omega
  have q := (hS.2.2 b hb).1
  have d1 := hD.2.1
  refine m_songOf hb8 hs hb ?_
  rw [show (13 : Int32) + 2 * nI (S (2 + 5 * b)) = nI (13 + 2 * S (2 + 5 * b)) from m_ix2 (j := 13) (by omega) (by decide), nI_clamp (by omega), (hd.2.2.2.2.2.1 _ q).2]
  exact ⟨vp_in_nI (by omega) (by decide), k⟩
theorem m_part {M : pm} {b j : Nat} {D S : Nat → Nat} {P : Nat → List Nat} (hd : dM M D P) (hD : okD D P) (hs : sM M D S) (hS : okS D S) (hb : b < D 2) (hj : j < 9) {on : Nat} {R : Int64 → pm → Prop} (k : R (zJ (fF D S b on j)) M) : w_X8_qPartOf (nI j) (nI b) M R := by
  have hb8 : b < 8 := by have := hD.2.2.1; omega
  have q := hS.2.2 b hb
  have q0 := hS.1
  have d1 := hD.2.1
  have d2 := hD.2.2.2.2.2.1 _ q.1
  have z : ∀ n : Nat, n < 2 ^ 31 → (nI n).toInt64 = zJ (n : Int) := fun n h => by rw [nI_l h, zJ_n]
  have sn : sinN S b ≤ 99 := by unfold sinN; split <;> omega
  unfold w_X8_qPartOf
  have cs : j = 0 ∨ j = 1 ∨ j = 2 ∨ j = 3 ∨ j = 4 ∨ j = 5 ∨ j = 6 ∨ j = 7 ∨ j = 8 := by omega
  rcases cs with rfl | rfl | rfl | rfl | rfl | rfl | rfl | rfl | rfl
  · simp (decide := true) only [false_implies, true_implies, not_false_eq_true, not_true_eq_false, and_true, true_and, forall_const]
    exact m_mindsOf hb8 hs hb (by rw [z _ (by omega)]; exact k)
  · simp (decide := true) only [false_implies, true_implies, not_false_eq_true, not_true_eq_false, and_true, true_and, forall_const]
    exact m_ageOf hb8 hs hS hb (by rw [z _ (by omega)]; exact k)
  · simp (decide := true) only [false_implies, true_implies, not_false_eq_true, not_true_eq_false, and_true, true_and, forall_const]
    exact m_sinceOf hb8 hs hS hb (by rw [z _ (by omega)]; exact k)
  · simp (decide := true) only [false_implies, true_implies, not_false_eq_true, not_true_eq_false, and_true, true_and, forall_const]
    exact m_playedOf hb8 hs hb (by rw [z _ (by omega)]; exact k)
  · simp (decide := true) only [false_implies, true_implies, not_false_eq_true, not_true_eq_false, and_true, true_and, forall_const]
    rw [hs 0 (by omega), z _ (by omega)]
    exact k
  · simp (decide := true) only [false_implies, true_implies, not_false_eq_true, not_true_eq_false, and_true, true_and, forall_const]
    have := m_longOf (Q := fun x M => R x.toInt64 M) hd hD hs hS hb (by rw [z _ (by omega)]; exact k)
    exact this
  · simp (decide := true) only [false_implies, true_implies, not_false_eq_true, not_true_eq_false, and_true, true_and, forall_const]
    have := m_styleOf (Q := fun x M => R x.toInt64 M) hd hD hs hS hb (by rw [z _ (by omega)]; exact k)
    exact this
  · simp (decide := true) only [false_implies, true_implies, not_false_eq_true, not_true_eq_false, and_true, true_and, forall_const]
    rw [z _ (by omega)]
    exact k
  · simp (decide := true) only [false_implies, true_implies, not_false_eq_true, not_true_eq_false, and_true, true_and, forall_const]
    refine m_isDead hb8 hs hS hb ?_
    have e : fF D S b on 8 = ((if S (3 + 5 * b) ≤ S 0 then 0 else 1 : Nat) : Int) := rfl
    rw [e] at k
    by_cases h : S (3 + 5 * b) ≤ S 0
    · rw [if_pos h] at k ⊢
      exact k_no (by decide) k
    · rw [if_neg h] at k ⊢
      exact k_yes rfl k
theorem fr_d {M M' : pm} (h : fr M M') {D : Nat → Nat} {P : Nat → List Nat} (hd : dM M D P) : dM M' D P := dM_c (fun b b1 b2 _ => h.2.2.1 b (by omega)) hd
theorem fr_s {M M' : pm} (h : fr M M') {D S : Nat → Nat} (hs : sM M D S) : sM M' D S := sM_c (h.2.2.1 317 (by decide)) hs
theorem m_prog {M : pm} {p b : Nat} {D S : Nat → Nat} {P : Nat → List Nat} (hp : p < 3) (hP : prgM M p (P p)) (hd : dM M D P) (hD : okD D P) (hs : sM M D S) (hS : okS D S) (hb : b < D 2) {Q : Int64 → pm → Prop} (k : ∀ M', fr M M' → -1000000 ≤ vA D S P b p → vA D S P b p ≤ 1000000 → (p = 1 → vA D S P b p = 0 ∨ vA D S P b p = 1) → Q (zJ (vA D S P b p)) M') : w_X8_codesTell (nI p) (nI b) M Q := by
  have h0 : 0 < D 2 := by omega
  have hk := hD.2.2.2.2.2.2.2 h0 p hp
  refine s_codesTell (b := decide (p = 1)) (F := fF D S b 0) (w := 0) hp (fF_in hD hS hb (by decide)) hP hk.1 hk.2 (fun j hj M' R h1 h2 => m_part (fr_d h1 hd) hD (fr_s h1 hs) hS hb (by omega) h2) (fun M' v h1 h2 h3 h4 h5 => ?_)
  have e : vA D S P b p = v := by unfold vA; rw [h2]; rfl
  rw [← e]
  rw [← e] at h3 h4 h5
  exact k M' h1 h3 h4 (fun q => h5 (by rw [q]; rfl))
theorem n_m1 {g : Nat} (h : g < 2 ^ 31) : ¬ nI g = -1 := fun e => by
  have := congrArg Int32.toInt e
  rw [nI_toInt h] at this
  have : (-1 : Int32).toInt = -1 := by decide
  omega
theorem vA_1 {D S : Nat → Nat} {P : Nat → List Nat} {b : Nat} (h : P 1 = dfl 1) : vA D S P b 1 = 1 := by unfold vA; rw [h]; rfl
theorem vA_2 {D S : Nat → Nat} {P : Nat → List Nat} {b : Nat} (h : P 2 = dfl 2) : vA D S P b 2 = (S (4 + 5 * b) : Int) := by unfold vA; rw [h]; rfl
theorem vA_0 {D S : Nat → Nat} {P : Nat → List Nat} {b : Nat} (h : P 0 = dfl 0) (hm : S (4 + 5 * b) ≤ 99) : vA D S P b 0 = (S (4 + 5 * b) : Int) - 1 := by
  unfold vA; rw [h]
  show jn 2 (S (4 + 5 * b) : Int) 1 = _
  rw [jn_2, clip_id (by omega) (by omega)]
theorem m_canPlay {M : pm} {b : Nat} {D S : Nat → Nat} {P : Nat → List Nat} (hd : dM M D P) (hD : okD D P) (hs : sM M D S) (hS : okS D S) (hb : b < D 2) {Q : Int32 → pm → Prop} (k : ∀ M', fr M M' → Q (if canA D S P b then 1 else 0) M') : w_X8_canPlay (nI b) M Q := by
  have hb8 : b < 8 := by have := hD.2.2.1; omega
  have q := hS.2.2 b hb
  refine m_isDead hb8 hs hS hb ?_
  unfold canA at k
  by_cases h : S (3 + 5 * b) ≤ S 0
  · rw [if_pos h]
    refine k_no (by decide) (m_mindsOf hb8 hs hb (pk_le (S (4 + 5 * b)) 0 (fun h2 => ?_) (fun h2 => ?_)))
    · have := k M (fr.rf M)
      simp only [h, show S (4 + 5 * b) = 0 from by omega, decide_true, decide_false, Bool.and_false, Bool.false_and, ne_eq, not_true_eq_false, Bool.false_eq_true, if_false] at this
      exact this
    · rcases hd.2.2.2.2.2.2.2 (by omega) 1 (by decide) with ⟨e1, e2⟩ | hP
      · refine k_yes e1 ?_
        have := k M (fr.rf M)
        rw [vA_1 e2] at this
        simp only [h, show ¬ S (4 + 5 * b) = 0 from by omega, decide_true, Bool.and_self, ne_eq, not_false_eq_true, if_true, show ¬ (1 : Int) = 0 from by decide] at this
        exact this
      · obtain ⟨g, g1, g2, g3, -⟩ := id hP
        refine k_no (by rw [show mI M 314 4 = nI g from g1]; exact n_m1 (by omega)) ?_
        refine m_prog (p := 1) (by decide) hP hd hD hs hS hb (fun M2 f2 v1 v2 v3 => ?_)
        have v3 := v3 rfl
        refine kj_ne (vA D S P b 1) 1 (fun e => ?_) (fun e => ?_)
        · have := k M2 f2
          rw [show vA D S P b 1 = 0 from by omega] at this
          simp only [h, decide_true, decide_false, Bool.and_false, ne_eq, not_true_eq_false, Bool.false_eq_true, if_false] at this
          exact this
        · have := k M2 f2
          rw [e] at this
          simp only [h, show ¬ S (4 + 5 * b) = 0 from by omega, decide_true, Bool.and_self, ne_eq, not_false_eq_true, if_true, show ¬ (1 : Int) = 0 from by decide] at this
          exact this
  · rw [if_neg h]
    have := k M (fr.rf M)
    simp only [h, decide_false, Bool.false_and, Bool.false_eq_true, if_false] at this
    exact k_yes rfl this
theorem m_worthOf {M : pm} {b : Nat} {D S : Nat → Nat} {P : Nat → List Nat} (hd : dM M D P) (hD : okD D P) (hs : sM M D S) (hS : okS D S) (hb : b < D 2) {Q : Int64 → pm → Prop} (k : ∀ M', fr M M' → -1000000 ≤ vA D S P b 2 → vA D S P b 2 ≤ 1000000 → Q (zJ (vA D S P b 2)) M') : w_X8_worthOf (nI b) M Q := by
  have hb8 : b < 8 := by have := hD.2.2.1; omega
  have q := hS.2.2 b hb
  rcases hd.2.2.2.2.2.2.2 (by omega) 2 (by decide) with ⟨e1, e2⟩ | hP
  · refine k_yes' e1 (m_mindsOf hb8 hs hb ?_)
    have := k M (fr.rf M) (by rw [vA_2 e2]; omega) (by rw [vA_2 e2]; omega)
    rw [vA_2 e2] at this
    rw [nI_l (by omega), ← zJ_n]
    exact this
  · obtain ⟨g, g1, g2, g3, -⟩ := id hP
    refine k_no' (by rw [show mI M 314 5 = nI g from g1]; exact n_m1 (by omega)) ?_
    exact m_prog (p := 2) (by decide) hP hd hD hs hS hb (fun M2 f2 v1 v2 v3 => k M2 f2 v1 v2)
theorem m_fadedOf {M : pm} {b : Nat} {D S : Nat → Nat} {P : Nat → List Nat} (hd : dM M D P) (hD : okD D P) (hs : sM M D S) (hS : okS D S) (hb : b < D 2) {Q : Int32 → pm → Prop} (k : ∀ M', fr M M' → Q (nI (fadA D S P b)) M') : w_X8_fadedOf (nI b) M Q := by
  have hb8 : b < 8 := by have := hD.2.2.1; omega
  have q := hS.2.2 b hb
  have fin : ∀ M', fr M M' → -1000000 ≤ vA D S P b 0 → vA D S P b 0 ≤ 1000000 → w_X8_fadedOf_27 (zJ (vA D S P b 0)) M' Q := by
    intro M' f v1 v2
    have k := k M' f
    unfold fadA at k
    refine kj_le 0 (vA D S P b 0) (fun h => kj_le (vA D S P b 0) 99 (fun h2 => ?_) (fun h2 => ?_)) (fun h => ?_)
    · rw [if_neg (by omega), if_neg (by omega)] at k
      rw [zJ_i, show vA D S P b 0 = ((vA D S P b 0).toNat : Int) from by omega, zI_n]
      exact k
    · rw [if_neg (by omega), if_pos (by omega)] at k; exact k
    · rw [if_pos (by omega)] at k; exact k
  rcases hd.2.2.2.2.2.2.2 (by omega) 0 (by decide) with ⟨e1, e2⟩ | hP
  · refine k_yes' e1 (m_mindsOf hb8 hs hb ?_)
    have e3 := vA_0 (D := D) e2 q.2.2.1
    have := fin M (fr.rf M) (by rw [e3]; omega) (by rw [e3]; omega)
    rw [e3] at this
    rw [show nI (S (4 + 5 * b)) - 1 = zI ((S (4 + 5 * b) : Int) - 1) from by rw [← zI_n, ← zI_sub]; rfl, zI_l (by omega) (by omega)]
    exact this
  · obtain ⟨g, g1, g2, g3, -⟩ := id hP
    refine k_no' (by rw [show mI M 314 3 = nI g from g1]; exact n_m1 (by omega)) ?_
    exact m_prog (p := 0) (by decide) hP hd hD hs hS hb (fun M2 f2 v1 v2 v3 => fin M2 f2 v1 v2)
