/-! fame, shared -/
noncomputable def oft (D : Nat → Nat) (P : Nat → List Nat) (a : Nat) : Nat → (Nat → Nat) → Nat
  | 0, _ => 0
  | d + 1, S => bst D S P / 2 ^ a % 2 + oft D P a d (dayA D S P (bst D S P))
theorem oft_le (D : Nat → Nat) (P : Nat → List Nat) (a : Nat) : ∀ d S, oft D P a d S ≤ d
  | 0, S => Nat.le_refl _
  | d + 1, S => by
    have h1 := oft_le D P a d (dayA D S P (bst D S P))
    have h2 : bst D S P / 2 ^ a % 2 < 2 := Nat.mod_lt _ (by decide)
    unfold oft; omega
theorem c_plays {M : pm} {t : Nat} {D : Nat → Nat} {P : Nat → List Nat} {a N : Nat} (ha : a < 8) (hN : N ≤ 30) (ht : t = 14 ∨ t = 29) (h3 : mR M 3 3 = t) (hd : dC M t D P) (hD : okD D P) {Q : Int32 → pm → Prop} : ∀ (d n i c : Nat) (S : Nat → Nat) (M1 : pm), i + d = N → d < n → fI xT M M1 → sC M1 66 D S → okS D S → S 0 + d ≤ 999 → (∀ M', fI xT M M' → Q (nI (c + oft D P a d S)) M') → w_X7_countPlays_20 n (nI a) (nI N) (nI c) (nI i) M1 Q := by
  intro d
  induction d with
  | zero =>
    intro n i c S M1 hi hn hf hs hS h9 k
    obtain ⟨n, rfl⟩ : ∃ n', n = n' + 1 := ⟨n - 1, by omega⟩
    unfold w_X7_countPlays_20
    exact k_yes (nI_le (by omega) (by omega)) (k M1 hf)
  | succ d ih =>
    intro n i c S M1 hi hn hf hs hS h9 k
    obtain ⟨n, rfl⟩ : ∃ n', n = n' + 1 := ⟨n - 1, by omega⟩
    unfold w_X7_countPlays_20
    rw [nI_1, hf.2.1, h3]
    refine k_no (nI_ge (by omega) (by omega)) (c_day (R := fun _ _ _ => True) ht (tC hf ht hd) hD hs hS (fun M2 f2 s2 hb pd => ?_))
    have hb2 := best256 hD hb
    rw [f2.2.1, hf.2.1, h3, b_bit (by omega) (by omega), nI_add]
    refine pd _ (fun M3 y f3 s3 => ?_)
    rw [dayC_eq (by omega)] at s3
    have e0 : dayA D S P (bst D S P) 0 = S 0 + 1 := by unfold dayA; rw [if_pos rfl]
    refine ih n (i + 1) _ _ M3 (by omega) (by omega) (hf.tr f3) s3 (okS_A hS (by omega)) (by rw [e0]; omega) (fun M' f' => ?_)
    rw [Nat.add_assoc]
    exact k M' f'
theorem m_often {M0 : pm} {D : Nat → Nat} {P : Nat → List Nat} {a N : Nat} (ha : a < 8) (hN : N ≤ 30) (hd : dM M0 D P) (hD : okD D P) {Q : Int32 → pm → Prop} : ∀ (d n i c : Nat) (S : Nat → Nat) (M1 : pm), i + d = N → d < n → thk M0 M1 → sM M1 D S → okS D S → S 0 + d ≤ 999 → (∀ M', thk M0 M' → Q (nI (c + oft D P a d S)) M') → w_X8_often_5 n (nI a) (nI N) (nI c) (nI i) M1 Q := by
  intro d
  induction d with
  | zero =>
    intro n i c S M1 hi hn ht hs hS h9 k
    obtain ⟨n, rfl⟩ : ∃ n', n = n' + 1 := ⟨n - 1, by omega⟩
    unfold w_X8_often_5
    exact k_yes (nI_le (by omega) (by omega)) (k M1 ht)
  | succ d ih =>
    intro n i c S M1 hi hn ht hs hS h9 k
    obtain ⟨n, rfl⟩ : ∃ n', n = n' + 1 := ⟨n - 1, by omega⟩
    unfold w_X8_often_5
    rw [nI_1]
    refine k_no (nI_ge (by omega) (by omega)) (m_dayGoes ht hd hD hs hS (fun M2 t2 s2 e56 hb _ _ => ?_))
    have hb2 := best256 hD hb
    rw [e56, b_bit (by omega) (by omega), nI_add]
    have e0 : dayA D S P (bst D S P) 0 = S 0 + 1 := by unfold dayA; rw [if_pos rfl]
    refine ih n (i + 1) _ _ M2 (by omega) (by omega) t2 s2 (okS_A hS (by omega)) (by rw [e0]; omega) (fun M' f' => ?_)
    rw [Nat.add_assoc]
    exact k M' f'
/-- the song at which an asker is played most -/
def fmB (c : Nat → Nat) : Nat → Nat × Nat
  | 0 => (0, c 0)
  | s + 1 => if (fmB c s).2 < c (s + 1) then (s + 1, c (s + 1)) else fmB c s
theorem fmB_le {c : Nat → Nat} {m : Nat} (h : ∀ s, c s ≤ m) : ∀ s, (fmB c s).1 ≤ s ∧ (fmB c s).2 ≤ m
  | 0 => ⟨Nat.le_refl _, h 0⟩
  | s + 1 => by
    have g := fmB_le h s
    unfold fmB
    split
    · exact ⟨Nat.le_refl _, h _⟩
    · exact ⟨by omega, g.2⟩
theorem okS_up2 {D S : Nat → Nat} {a s : Nat} (hS : okS D S) (hs : s < D 1) : okS D (up1 S (2 + 5 * a) s) := by
  refine ⟨?_, ?_, fun q hq => ?_⟩
  · unfold up1; rw [if_neg (by omega)]; exact hS.1
  · unfold up1; rw [if_neg (by omega)]; exact hS.2.1
  · have z := hS.2.2 q hq
    unfold up1
    rw [if_neg (by omega : ¬ 3 + 5 * q = 2 + 5 * a), if_neg (by omega : ¬ 4 + 5 * q = 2 + 5 * a), if_neg (by omega : ¬ 5 + 5 * q = 2 + 5 * a), if_neg (by omega : ¬ 6 + 5 * q = 2 + 5 * a), if_neg (by omega : ¬ 0 = 2 + 5 * a)]
    refine ⟨?_, z.2⟩
    split
    · exact hs
    · exact z.1
theorem up1_0 {S : Nat → Nat} {j v : Nat} (h : j ≠ 0) : up1 S j v 0 = S 0 := by unfold up1; rw [if_neg (Ne.symm h)]
theorem p_fame (x y z : Int32) (M : pm) (hI : Inv M) : stp Inv (w_X7_fame x y z) (w_X8_fame x y z) M := by
  obtain ⟨t, D, P, S, R⟩ := Rp_of hI
  have h8 := R.2.2.1.2.2.1
  have h6 := R.2.2.1.2.1
  have no : (x < 0 ∨ (¬ x < 0 ∧ nI (D 2) ≤ x)) → stp Inv (w_X7_fame x y z) (w_X8_fame x y z) M := fun h => stp_ro hI (-1) (fun K k => c_isAsker_no R h (k_yes rfl (k M (same.rf M)))) (fun M1 s1 Q k => m_isAsker_no (Rp_same s1 R) h (k_yes rfl (k M1 (same.rf M1))))
  rcases ix3 x (n := D 2) (by omega) with hx | hx | ⟨a, ha, rfl⟩
  · exact no (Or.inl hx)
  · exact no (Or.inr hx)
  rcases ahd R y (lo := 1) (hi := 30) (by decide) (by decide) with h | ⟨q1, q2, q3, q4, n, n1, n2, rfl, n3, -⟩
  · refine stp_ro hI (-1) (fun K k => c_isAsker_yes R ha (k_no (by decide) ?_)) (fun M1 s1 Q k => m_isAsker_yes (Rp_same s1 R) ha (k_no (by decide) (m_isAhead_no (lo := 1) (hi := 30) (by rw [(Rp_50 R s1).1, (Rp_50 R s1).2]; exact h) (k_yes rfl (k M1 (same.rf M1))))))
    have k := k M (same.rf M)
    refine ⟨fun _ => k, fun h1 => ⟨fun _ => k, fun h2 => ?_⟩⟩
    rcases h with h | h | h | h
    · exact c_ahead_no (Or.inl h) (k_yes rfl k)
    · exact absurd h h1
    · exact absurd h h2
    · exact c_ahead_no (Or.inr h) (k_yes rfl k)
  have cls : ∀ {K : Int32 → pm → Prop}, ((z < 0 → (K (-1) M)) ∧ (¬ z < 0 → ((z ≤ 1 → (∃ n12, w_X7_fame_47 n12 (nI a) (nI n) z 0 (-1) 0 M K)) ∧ (¬ z ≤ 1 → (K (-1) M))))) → w_X7_fame (nI a) (nI n) z M K := fun h => c_isAsker_yes R ha (k_no (by decide) (k_no q2 (k_no q3 (c_ahead_yes q1 q4 (k_no (by decide) h)))))
  have mdl : ∀ {M1 : pm} {Q : Int32 → pm → Prop}, same M M1 → w_X8_isIn (Int32.toInt64 z) (0 : Int64) (1 : Int64) M1 (fun y10 M9 => ((¬ y10 = 0 → (w_X8_putsAside M9 (fun M13 => ∃ n29, w_X8_fame_44 n29 (nI a) (nI n) z (-1) 0 0 M13 Q))) ∧ (y10 = 0 → (Q (-1) M9)))) → w_X8_fame (nI a) (nI n) z M1 Q := fun s1 h => m_isAsker_yes (Rp_same s1 R) ha (k_no (by decide) (m_isAhead_yes (lo := 1) (hi := 30) (by rw [(Rp_50 R s1).1]; exact q1) q2 q3 (by rw [(Rp_50 R s1).2]; exact q4) (k_no (by decide) h)))
  by_cases hz : z < 0 ∨ 1 < z
  · refine stp_ro hI (-1) (fun K k => cls ?_) (fun M1 s1 Q k => mdl s1 ?_)
    · have k := k M (same.rf M)
      refine ⟨fun _ => k, fun h1 => ⟨fun h2 => ?_, fun _ => k⟩⟩
      rcases hz with q | q
      · exact absurd q h1
      · exact absurd h2 (Int32.not_le.mpr q)
    · rw [j0, j1]
      exact isIn_no hz (k_yes' rfl (k M1 (same.rf M1)))
  have z0 : ¬ z < 0 := fun q => hz (Or.inl q)
  have z1 : ¬ 1 < z := fun q => hz (Or.inr q)
  have sa := R.2.2.2.2.2.1.2.2 a ha
  generalize hc : (fun s => oft D P a n (up1 S (2 + 5 * a) s)) = c
  have hcs : ∀ s, oft D P a n (up1 S (2 + 5 * a) s) = c s := fun s => by rw [← hc]
  have cl : ∀ s, c s ≤ n := fun s => by rw [← hcs]; exact oft_le D P a n _
  have fl := fmB_le cl
  refine stp_ro hI (if z = 0 then nI (fmB c (D 1 - 1)).1 else nI (fmB c (D 1 - 1)).2) (fun K k => cls (k_no z0 (k_yes (Int32.not_lt.mp z1) ⟨D 1 + 1, ?_⟩))) (fun M1 s1 Q k => mdl s1 ?_)
  · obtain ⟨r1, r2, r3, r4, r5, r6, r7, r8, r9, r10, r11, r12⟩ := R
    have one : ∀ (s : Nat) (M1 : pm) (Q : Int32 → pm → Prop), s < D 1 → fI xT M M1 → (∀ M', fI xT M M' → Q (nI (c s)) M') → w_X7_countPlays (nI a) (nI s) (nI n) M1 Q := by
      intro s M1 Q hs f1 kk
      refine c_try h8 (sC_c (fun q c1 c2 => f1.2.2.2 q (by unfold xT; omega)) r8) (fun M2 f2 s2 => ⟨vp_in_nI (by omega) (by decide), n + 1, ?_⟩)
      rw [nI_clamp (by omega)]
      refine c_plays (M := M) (by omega) n2 r1 r2 r4 r3 n (n + 1) 0 0 (up1 S (2 + 5 * a) s) _ (by omega) (by omega) ((f1.tr f2).up (Or.inr ⟨by omega, by omega⟩) _ _) (sC_up (i := 2) (by decide) (by decide) s2 rfl) (okS_up2 r6 hs) (by rw [up1_0 (by omega)]; exact n3) (fun M' f' => ?_)
      rw [Nat.zero_add, hcs]
      exact kk M' f'
    have key : ∀ d m s M1, s + 1 + d = D 1 → d < m → fI xT M M1 → w_X7_fame_47 m (nI a) (nI n) z (nI (fmB c s).1) (nI (fmB c s).2) (nI (s + 1)) M1 K := by
      intro d
      induction d with
      | zero =>
        intro m s M1 hs hm f1
        obtain ⟨m, rfl⟩ : ∃ m', m = m' + 1 := ⟨m - 1, by omega⟩
        unfold w_X7_fame_47
        rw [f1.2.1, r2, (tC f1 r1 r4).2.1]
        have kk := k M1 (fT_same f1)
        rw [show D 1 - 1 = s from by omega] at kk
        refine k_yes (nI_le (by omega) (by omega)) ?_
        by_cases e : z = 0
        · rw [if_pos e] at kk; exact k_yes' e kk
        · rw [if_neg e] at kk; exact k_no' e kk
      | succ d ih =>
        intro m s M1 hs hm f1
        obtain ⟨m, rfl⟩ : ∃ m', m = m' + 1 := ⟨m - 1, by omega⟩
        unfold w_X7_fame_47
        rw [f1.2.1, r2, (tC f1 r1 r4).2.1]
        refine k_no (nI_ge (by omega) (by omega)) (one (s + 1) M1 _ (by omega) f1 (fun M2 f2 => ?_))
        have g := ih m (s + 1) M2 (by omega) (by omega) f2
        have l1 := (fl s).2
        have l2 := cl (s + 1)
        rw [nI_1]
        refine pk_le (c (s + 1)) (fmB c s).2 (fun q => ?_) (fun q => ?_)
        · unfold fmB at g; rw [if_neg (by omega)] at g; exact g
        · unfold fmB at g; rw [if_pos q] at g; exact g
    unfold w_X7_fame_47
    rw [r2, r4.2.1]
    refine k_no (nI_nle (by omega) (by omega)) (one 0 M _ (by omega) (fI.rf M) (fun M2 f2 => k_no ?_ ?_))
    · exact fun q => absurd (show nI 0 ≤ (-1 : Int32) from Int32.le_trans (nI_pos' (by have := cl 0; omega)) q) (by decide)
    · exact key (D 1 - 1) (D 1) 0 M2 (by omega) (by omega) f2
  · obtain ⟨r1, r2, r3, r4, r5, r6, r7, r8, r9, r10, r11, r12⟩ := Rp_same s1 R
    rw [j0, j1]
    refine isIn_yes z0 z1 (k_no' (by decide) (m_putsAside h8 r9 (fun M2 t2 s2 => ⟨D 1 + 1, ?_⟩)))
    have one : ∀ (s : Nat) (M3 : pm) (Q : Int32 → pm → Prop), s < D 1 → thk M1 M3 → sM M3 D S → (∀ M', thk M1 M' → sM M' D S → Q (nI (c s)) M') → vp_in (2 + (5 * nI a)) 163 ∧ (w_X8_often (nI a) (nI n) (sI M3 317 ((2 + (5 * nI a)).toNatClampNeg) (nI s)) (fun y24 M23 => w_X8_triesAnew M23 (fun M26 => Q y24 M26))) := by
      intro s M3 Q hs t3 s3 kk
      rw [show (2 : Int32) + 5 * nI a = nI (2 + 5 * a) from m_ix (j := 2) (by omega) (by decide), nI_clamp (by omega)]
      have t4 : thk M1 (sI M3 317 (2 + 5 * a) (nI s)) := thk_D t3 ((fD.rf M3).i (by omega) _)
      refine ⟨vp_in_nI (by omega) (by decide), n + 1, m_often (by omega) n2 r5 r3 n (n + 1) 0 0 (up1 S (2 + 5 * a) s) _ (by omega) (by omega) t4 (sM_up s3 rfl) (okS_up2 r6 hs) (by rw [up1_0 (by omega)]; exact n3) (fun M5 t5 => ?_)⟩
      rw [Nat.zero_add, hcs]
      exact m_triesAnew t5 (fun M6 t6 e6 _ _ => kk M6 t6 (sM_c e6 r9))
    have key : ∀ d m s M3, s + 1 + d = D 1 → d < m → thk M1 M3 → sM M3 D S → w_X8_fame_44 m (nI a) (nI n) z (nI (fmB c s).1) (nI (fmB c s).2) (nI (s + 1)) M3 Q := by
      intro d
      induction d with
      | zero =>
        intro m s M3 hs hm t3 s3
        obtain ⟨m, rfl⟩ : ∃ m', m = m' + 1 := ⟨m - 1, by omega⟩
        unfold w_X8_fame_44 w_X8_songMany
        dsimp only
        rw [(thk_d t3 r5).2.1]
        refine k_yes (nI_le (by omega) (by omega)) (m_takesBack r12 t3 (fun M4 s4 _ _ => ?_))
        have kk := k M4 s4
        rw [show D 1 - 1 = s from by omega] at kk
        by_cases e : z = 0
        · rw [if_pos e] at kk; exact k_yes' e kk
        · rw [if_neg e] at kk; exact k_no' e kk
      | succ d ih =>
        intro m s M3 hs hm t3 s3
        obtain ⟨m, rfl⟩ : ∃ m', m = m' + 1 := ⟨m - 1, by omega⟩
        unfold w_X8_fame_44 w_X8_songMany
        dsimp only
        rw [(thk_d t3 r5).2.1]
        refine k_no (nI_ge (by omega) (by omega)) (one (s + 1) M3 _ (by omega) t3 s3 (fun M4 t4 s4 => ?_))
        have g := ih m (s + 1) M4 (by omega) (by omega) t4 s4
        have l0 := (fl s).1
        have l1 := (fl s).2
        have l2 := cl (s + 1)
        rw [nI_1]
        refine k_no (n_m1 (by omega)) (pk_lt (fmB c s).2 (c (s + 1)) (fun q => ?_) (fun q => ?_))
        · unfold fmB at g; rw [if_pos q] at g; exact g
        · unfold fmB at g; rw [if_neg (by omega)] at g; exact g
    unfold w_X8_fame_44 w_X8_songMany
    dsimp only
    rw [(thk_d t2 r5).2.1]
    refine k_no (nI_nle (by omega) (by omega)) (one 0 M2 _ (by omega) t2 s2 (fun M4 t4 s4 => k_yes rfl ?_))
    exact key (D 1 - 1) (D 1) 0 M4 (by omega) (by omega) t4 s4
/-! shared -/
theorem sp_all {D S : Nat → Nat} {P : Nat → List Nat} : ∀ b, sp D S P b (2 ^ cnt D S P b - 1) = canB D S P b
  | 0 => rfl
  | b + 1 => by
    have h := sp_all (D := D) (S := S) (P := P) b
    have hp : 0 < 2 ^ cnt D S P b := Nat.two_pow_pos _
    rw [sp_s, canB_s, cnt_s]
    by_cases c : canA D S P b = true
    · rw [if_pos c, if_pos c, if_pos c, Nat.pow_succ, if_neg (by omega), show 2 ^ cnt D S P b * 2 - 1 - 2 ^ cnt D S P b = 2 ^ cnt D S P b - 1 from by omega, h]
    · rw [if_neg c, if_neg c, if_neg c, Nat.add_zero, h, Nat.add_zero]
theorem sp_cmp {D S : Nat → Nat} {P : Nat → List Nat} : ∀ (b c : Nat), c < 2 ^ cnt D S P b → wtS D S P (sp D S P b (2 ^ cnt D S P b - 1 - c)) b = wtS D S P (sp D S P b (2 ^ cnt D S P b - 1)) b - wtS D S P (sp D S P b c) b
  | 0, c, h => by
    show (0 : Int) = 0 - 0
    rfl
  | b + 1, c, h => by
    have hp : 0 < 2 ^ cnt D S P b := Nat.two_pow_pos _
    rw [cnt_s] at h ⊢
    by_cases q : canA D S P b = true
    · rw [if_pos q, Nat.pow_succ] at h ⊢
      rw [sp_s, sp_s, sp_s, if_pos q, if_pos q, if_pos q]
      have l : ∀ e, e < 2 ^ cnt D S P b → sp D S P b e < 2 ^ b := fun e he => sp_lt b e he
      rw [if_neg (by omega : ¬ 2 ^ cnt D S P b * 2 - 1 < 2 ^ cnt D S P b), wtS_up (l _ (by omega))]
      by_cases z : c < 2 ^ cnt D S P b
      · have ih := sp_cmp (D := D) (S := S) (P := P) b c z
        rw [if_pos z, if_neg (by omega), wtS_up (l _ (by omega)), wtS_st (l _ z), show 2 ^ cnt D S P b * 2 - 1 - c - 2 ^ cnt D S P b = 2 ^ cnt D S P b - 1 - c from by omega, show 2 ^ cnt D S P b * 2 - 1 - 2 ^ cnt D S P b = 2 ^ cnt D S P b - 1 from by omega, ih]
        omega
      · have ih := sp_cmp (D := D) (S := S) (P := P) b (c - 2 ^ cnt D S P b) (by omega)
        rw [if_neg z, if_pos (by omega), wtS_up (l _ (by omega)), wtS_st (l _ (by omega)), show 2 ^ cnt D S P b * 2 - 1 - c = 2 ^ cnt D S P b - 1 - (c - 2 ^ cnt D S P b) from by omega, show 2 ^ cnt D S P b * 2 - 1 - 2 ^ cnt D S P b = 2 ^ cnt D S P b - 1 from by omega, ih]
        omega
    · rw [if_neg q] at h ⊢
      simp only [Nat.add_zero] at h ⊢
      rw [sp_s, sp_s, sp_s, if_neg q, if_neg q, if_neg q, wtS_st (sp_lt b _ (by omega)), wtS_st (sp_lt b _ (by omega)), wtS_st (sp_lt b _ h)]
      exact sp_cmp b c h
/-- what the poorer side has -/
def lss (D S : Nat → Nat) (P : Nat → List Nat) (s : Nat) : Int := min (wtS D S P s (D 2)) (wtS D S P (canB D S P (D 2)) (D 2) - wtS D S P s (D 2))
def shF (D S : Nat → Nat) (P : Nat → List Nat) (s : Nat) : Prop := s < 2 ^ D 2 ∧ ∀ i, s.testBit i = true → canA D S P i = true
def isShr (D S : Nat → Nat) (P : Nat → List Nat) (b : Nat) : Prop := shF D S P b ∧ ∀ s, shF D S P s → lss D S P s < lss D S P b ∨ (lss D S P s = lss D S P b ∧ b ≤ s)
theorem isShr_un {D S : Nat → Nat} {P : Nat → List Nat} {b b' : Nat} (h : isShr D S P b) (h' : isShr D S P b') : b = b' := by
  have h1 := h.2 b' h'.1
  have h2 := h'.2 b h.1
  omega
noncomputable def shb (D S : Nat → Nat) (P : Nat → List Nat) : Nat := Classical.epsilon (fun x => isShr D S P x)
theorem shb_eq {D S : Nat → Nat} {P : Nat → List Nat} {b : Nat} (h : isShr D S P b) : b = shb D S P := isShr_un h (Classical.epsilon_spec (p := fun x => isShr D S P x) ⟨b, h⟩)
theorem can_in {D S : Nat → Nat} {P : Nat → List Nat} : ∀ i, (canB D S P (D 2)).testBit i = true → canA D S P i = true := fun i h => ((canB_tb (D 2)).mp h).2
theorem lss_in {D S : Nat → Nat} {P : Nat → List Nat} (hD : okD D P) (hv : ∀ b, b < D 2 → canA D S P b = true → vOk D S P b) {s : Nat} (hc : ∀ i, s.testBit i = true → canA D S P i = true) : -16000000 ≤ lss D S P s ∧ lss D S P s ≤ 8000000 := by
  have h1 := wt_in hD hv hc
  have h2 := wt_in hD hv (can_in (D := D) (S := S) (P := P))
  unfold lss; omega
theorem c_share {M : pm} {t a : Nat} {D S : Nat → Nat} {P : Nat → List Nat} (ht : t + 14 < 45) (ha : 57 ≤ a) (hd : dC M t D P) (hD : okD D P) (hs : sC M a D S) (hS : okS D S) {Q : Int32 → pm → Prop} (k : ∀ M', fI xC M M' → Q (nI (shb D S P)) M') : w_X1_shareBits t a M Q := by
  have h8 := hD.2.2.1
  have cl := cnt_le (D := D) (S := S) (P := P) (D 2)
  unfold w_X1_shareBits
  refine s_gather ht ha hd hD hs hS (fun M1 f1 hg hv => ?_)
  have p1 : 2 ^ cnt D S P (D 2) ≤ 2 ^ 8 := Nat.pow_le_pow_right (by decide) (by omega)
  have p0 : 0 < 2 ^ cnt D S P (D 2) := Nat.two_pow_pos _
  have p8 : (2 : Nat) ^ 8 = 256 := rfl
  have spc : ∀ c, c < 2 ^ cnt D S P (D 2) → ∀ i, (sp D S P (D 2) c).testBit i = true → canA D S P i = true := fun c hc i hi => sp_can (D 2) c hc hi
  have lw : ∀ c, c < 2 ^ cnt D S P (D 2) → lss D S P (sp D S P (D 2) c) = min (wtS D S P (sp D S P (D 2) c) (D 2)) (wtS D S P (sp D S P (D 2) (2 ^ cnt D S P (D 2) - 1 - c)) (D 2)) := fun c hc => by
    rw [sp_cmp (D 2) c hc, sp_all]; rfl
  have wi : ∀ c, c < 2 ^ cnt D S P (D 2) → -8000000 ≤ wtS D S P (sp D S P (D 2) c) (D 2) ∧ wtS D S P (sp D S P (D 2) c) (D 2) ≤ 8000000 := fun c hc => wt_in hD hv (spc c hc)
  rw [b_one (by omega), ← zI_n]
  refine s_min (y := 256) (by omega) (by omega) (by omega) (by omega) ?_
  rw [show min ((2 ^ cnt D S P (D 2) : Nat) : Int) 256 = ((2 ^ cnt D S P (D 2) : Nat) : Int) from by omega, zI_n, show nI (2 ^ cnt D S P (D 2)) - 1 = nI (2 ^ cnt D S P (D 2) - 1) from pk_sub (a := 2 ^ cnt D S P (D 2)) (b := 1) (by omega), nI_clamp (by omega), (hg.1 0 p0).2, (hg.1 (2 ^ cnt D S P (D 2) - 1) (by omega)).2]
  have w0 := wi 0 p0
  have wa := wi (2 ^ cnt D S P (D 2) - 1) (by omega)
  refine ⟨vp_in_nI (by omega) (by decide), s_min (by omega) (by omega) (by omega) (by omega) ?_⟩
  have e0 := lw 0 p0
  rw [Nat.sub_zero] at e0
  rw [← e0]
  have key : ∀ d n c i, i + d = 2 ^ cnt D S P (D 2) → d < n → c < i → (∀ j, j < i → lss D S P (sp D S P (D 2) j) < lss D S P (sp D S P (D 2) c) ∨ (lss D S P (sp D S P (D 2) j) = lss D S P (sp D S P (D 2) c) ∧ c ≤ j)) → w_X1_shareBits_44 n (nI (cnt D S P (D 2))) (nI (2 ^ cnt D S P (D 2) - 1)) (nI c) (zI (lss D S P (sp D S P (D 2) c))) (nI i) M1 Q := by
    intro d
    induction d with
    | zero =>
      intro n c i hi hn hc hb
      obtain ⟨n, rfl⟩ : ∃ n', n = n' + 1 := ⟨n - 1, by omega⟩
      unfold w_X1_shareBits_44
      refine k_yes (nI_lt (by omega) (by omega)) (s_spread h8 hg.2 (by omega) ?_)
      have : isShr D S P (sp D S P (D 2) c) := by
        refine ⟨⟨sp_lt (D 2) c (by omega), spc c (by omega)⟩, fun s h => ?_⟩
        obtain ⟨j, hj, rfl⟩ := sp_sur (D 2) s h.1 h.2
        rcases hb j (by omega) with h | h
        · exact Or.inl h
        · exact Or.inr ⟨h.1, sp_mono (D 2) c j h.2 hj⟩
      rw [shb_eq this]
      exact k M1 f1
    | succ d ih =>
      intro n c i hi hn hc hb
      obtain ⟨n, rfl⟩ : ∃ n', n = n' + 1 := ⟨n - 1, by omega⟩
      have wx := wi i (by omega)
      have wy := wi (2 ^ cnt D S P (D 2) - 1 - i) (by omega)
      have li := lss_in hD hv (spc i (by omega))
      have lc := lss_in hD hv (spc c (by omega))
      unfold w_X1_shareBits_44
      rw [nI_1, pk_sub (by omega : i ≤ 2 ^ cnt D S P (D 2) - 1), nI_clamp (by omega), nI_clamp (by omega), (hg.1 i (by omega)).2, (hg.1 (2 ^ cnt D S P (D 2) - 1 - i) (by omega)).2]
      refine k_no (nI_nlt (by omega) (by omega)) ⟨vp_in_nI (by omega) (by decide), vp_in_nI (by omega) (by decide), s_min (by omega) (by omega) (by omega) (by omega) ?_⟩
      rw [← lw i (by omega)]
      refine ki_le (lss D S P (sp D S P (D 2) i)) (lss D S P (sp D S P (D 2) c)) (fun q => ih n c (i + 1) (by omega) (by omega) (by omega) (fun j hj => ?_)) (fun q => ih n i (i + 1) (by omega) (by omega) (by omega) (fun j hj => ?_))
      · by_cases e : j = i
        · subst e; omega
        · exact hb j (by omega)
      · by_cases e : j = i
        · subst e; omega
        · have := hb j (by omega); omega
  exact ⟨_, key (2 ^ cnt D S P (D 2) - 1) (2 ^ cnt D S P (D 2)) 0 1 (by omega) (by omega) (by decide) (fun j hj => by rw [show j = 0 from by omega]; omega)⟩
theorem m_share {M : pm} {D S : Nat → Nat} {P : Nat → List Nat} (hd : dM M D P) (hD : okD D P) (hs : sM M D S) (hS : okS D S) {Q : Int32 → pm → Prop} (k : ∀ M', fL M M' → Q (nI (shb D S P)) M') : w_X8_shared M Q := by
  have h8 := hD.2.2.1
  unfold w_X8_shared
  refine m_laysCan hd hD hs hS (fun M1 f1 e54 hw => ?_)
  have hd1 := fL_d f1 hd
  have hv : ∀ b, b < D 2 → canA D S P b = true → vOk D S P b := fun b hb hc => (hw b hb hc).2
  have cb := canB_lt (D := D) (S := S) (P := P) (D 2)
  have p1 : 2 ^ D 2 ≤ 2 ^ 8 := Nat.pow_le_pow_right (by decide) h8
  have p8 : (2 : Nat) ^ 8 = 256 := rfl
  have wi := wt_in hD hv (can_in (D := D) (S := S) (P := P))
  rw [e54]
  refine m_worthBy (S := S) hd1 hD (fun b hb hc => (hw b hb (can_in b hc)).1) (by omega) ?_
  have step : ∀ d n s M2, M2 = M1 → s + d = 2 ^ D 2 → d < n → (∃ b, b < s ∧ shF D S P b ∧ ∀ j, j < s → shF D S P j → lss D S P j < lss D S P b ∨ (lss D S P j = lss D S P b ∧ b ≤ j)) → ∀ x3 x4, (∀ b, b < s → shF D S P b → (∀ j, j < s → shF D S P j → lss D S P j < lss D S P b ∨ (lss D S P j = lss D S P b ∧ b ≤ j)) → x3 = nI b ∧ x4 = zJ (lss D S P b)) → w_X8_shared_21 n (zJ (wtS D S P (canB D S P (D 2)) (D 2))) x3 x4 (nI s) M2 Q := by
    intro d
    induction d with
    | zero =>
      intro n s M2 e hs2 hn ⟨b, b1, b2, b3⟩ x3 x4 hx
      subst e
      obtain ⟨n, rfl⟩ : ∃ n', n = n' + 1 := ⟨n - 1, by omega⟩
      obtain ⟨rfl, rfl⟩ := hx b b1 b2 b3
      unfold w_X8_shared_21 w_X8_askerMany
      dsimp only
      rw [hd1.2.2.1, b_one (by omega)]
      refine k_yes (nI_le (by omega) (by omega)) ?_
      have : isShr D S P b := ⟨b2, fun s h => b3 s (by have := h.1; omega) h⟩
      rw [shb_eq this]
      exact k M2 f1
    | succ d ih =>
      intro n s M2 e hs2 hn ⟨b, b1, b2, b3⟩ x3 x4 hx
      subst e
      obtain ⟨n, rfl⟩ : ∃ n', n = n' + 1 := ⟨n - 1, by omega⟩
      obtain ⟨rfl, rfl⟩ := hx b b1 b2 b3
      unfold w_X8_shared_21 w_X8_askerMany
      dsimp only
      rw [hd1.2.2.1, b_one (by omega), e54, nI_1]
      refine k_no (nI_ge (by omega) (by omega)) ?_
      rw [b_sub (by omega) (by omega)]
      have un : ∀ b b', b < s + 1 → shF D S P b → (∀ j, j < s + 1 → shF D S P j → lss D S P j < lss D S P b ∨ (lss D S P j = lss D S P b ∧ b ≤ j)) → b' < s + 1 → shF D S P b' → (∀ j, j < s + 1 → shF D S P j → lss D S P j < lss D S P b' ∨ (lss D S P j = lss D S P b' ∧ b' ≤ j)) → b' = b := fun b b' c1 c2 c3 d1 d2 d3 => by
        have g1 := c3 b' d1 d2
        have g2 := d3 b c1 c2
        omega
      refine ⟨fun hsub => ?_, fun hsub => ?_⟩
      · have hsF : shF D S P s := ⟨by omega, fun i hi => can_in i (hsub i hi)⟩
        have ws := wt_in hD hv hsF.2
        have ls := lss_in hD hv hsF.2
        have lb := lss_in hD hv b2.2
        refine m_worthBy (S := S) hd1 hD (fun q hq hc => (hw q hq (hsF.2 q hc)).1) (by omega) ?_
        have fin : ∀ v, v = zJ (lss D S P s) → w_X8_shared_74 (zJ (wtS D S P (canB D S P (D 2)) (D 2))) (nI b) (zJ (lss D S P b)) (nI s) v M2 (fun x1 x3 x4 x6 M => w_X8_shared_21 n x1 x3 x4 x6 M Q) Q := by
          intro v ev
          subst ev
          unfold w_X8_shared_74
          rw [nI_1]
          refine k_no (n_m1 (by omega)) (kj_lt (lss D S P b) (lss D S P s) (fun q => ?_) (fun q => ?_))
          · have g : ∀ j, j < s + 1 → shF D S P j → lss D S P j < lss D S P s ∨ (lss D S P j = lss D S P s ∧ s ≤ j) := fun j hj hf => by
              by_cases e : j = s
              · subst e; omega
              · have := b3 j (by omega) hf; omega
            exact ih n (s + 1) M2 rfl (by omega) (by omega) ⟨s, by omega, hsF, g⟩ _ _ (fun b' c1 c2 c3 => by rw [un s b' (by omega) hsF g c1 c2 c3]; exact ⟨rfl, rfl⟩)
          · have g : ∀ j, j < s + 1 → shF D S P j → lss D S P j < lss D S P b ∨ (lss D S P j = lss D S P b ∧ b ≤ j) := fun j hj hf => by
              by_cases e : j = s
              · subst e; omega
              · exact b3 j (by omega) hf
            exact ih n (s + 1) M2 rfl (by omega) (by omega) ⟨b, by omega, b2, g⟩ _ _ (fun b' c1 c2 c3 => by rw [un b b' (by omega) b2 g c1 c2 c3]; exact ⟨rfl, rfl⟩)
        rw [zJ_sub]
        refine kj_le (wtS D S P (canB D S P (D 2)) (D 2) - wtS D S P s (D 2)) (wtS D S P s (D 2)) (fun q => fin _ ?_) (fun q => fin _ ?_)
        · unfold lss; congr 1; omega
        · unfold lss; congr 1; omega
      · have hn : ¬ shF D S P s := fun z => hsub (fun i hi => (canB_tb (D 2)).mpr ⟨by
          rcases Nat.lt_or_ge i (D 2) with q | q
          · exact q
          · rw [tb_ge z.1 q] at hi; exact absurd hi (by decide), z.2 i hi⟩)
        have g : ∀ j, j < s + 1 → shF D S P j → lss D S P j < lss D S P b ∨ (lss D S P j = lss D S P b ∧ b ≤ j) := fun j hj hf => by
          by_cases e : j = s
          · subst e; exact absurd hf hn
          · exact b3 j (by omega) hf
        exact ih n (s + 1) M2 rfl (by omega) (by omega) ⟨b, by omega, b2, g⟩ _ _ (fun b' c1 c2 c3 => by rw [un b b' (by omega) b2 g c1 c2 c3]; exact ⟨rfl, rfl⟩)
  have pz : 0 < 2 ^ D 2 := Nat.two_pow_pos _
  have z0 : shF D S P 0 := ⟨pz, fun i hi => by rw [Nat.zero_testBit] at hi; exact absurd hi (by decide)⟩
  have l0 := lss_in hD hv z0.2
  have wz := wtS_0 (D := D) (S := S) (P := P) (D 2)
  refine ⟨2 ^ D 2 + 1, ?_⟩
  unfold w_X8_shared_21 w_X8_askerMany
  dsimp only
  rw [hd1.2.2.1, b_one (by omega), e54]
  refine k_no (nI_nle pz (by omega)) ?_
  refine k_yes ((b_sub (s := 0) (by decide) (by omega)).mpr (fun i hi => by rw [Nat.zero_testBit] at hi; exact absurd hi (by decide))) (m_worthBy (s := 0) (S := S) hd1 hD (fun q hq hc => by rw [Nat.zero_testBit] at hc; exact absurd hc (by decide)) (by decide) ?_)
  have go : ∀ v, v = zJ (lss D S P 0) → w_X8_shared_74 (zJ (wtS D S P (canB D S P (D 2)) (D 2))) (-1) (0 : Int64) 0 v M1 (fun x1 x3 x4 x6 M => w_X8_shared_21 (2 ^ D 2) x1 x3 x4 x6 M Q) Q := by
    intro v ev
    subst ev
    unfold w_X8_shared_74
    refine k_yes rfl ?_
    have g : ∀ j, j < 0 + 1 → shF D S P j → lss D S P j < lss D S P 0 ∨ (lss D S P j = lss D S P 0 ∧ 0 ≤ j) := fun j hj _ => by rw [show j = 0 from by omega]; omega
    exact step (2 ^ D 2 - 1) (2 ^ D 2) 1 M1 rfl (by omega) (by omega) ⟨0, by omega, z0, g⟩ _ _ (fun b c1 c2 c3 => by rw [show b = 0 from by omega]; exact ⟨rfl, rfl⟩)
  rw [wz, zJ_sub]
  refine kj_le (wtS D S P (canB D S P (D 2)) (D 2) - 0) 0 (fun q => go _ ?_) (fun q => go _ ?_)
  · unfold lss; rw [wz]; congr 1; omega
  · unfold lss; rw [wz]; show zJ 0 = _; congr 1; omega
theorem p_shared (M : pm) (hI : Inv M) : stp Inv w_X7_shared w_X8_shared M := by
  obtain ⟨t, D, P, S, R⟩ := Rp_of hI
  refine stp_ro hI (nI (shb D S P)) (fun K k => ?_) (fun M1 s1 Q k => ?_)
  · obtain ⟨r1, r2, r3, r4, r5, r6, r7, r8, r9, r10, r11, r12⟩ := R
    unfold w_X7_shared
    rw [r2]
    exact c_share (by omega) (by decide) r4 r3 r8 r6 (fun M1 f1 => k M1 (xC_same f1))
  · obtain ⟨r1, r2, r3, r4, r5, r6, r7, r8, r9, r10, r11, r12⟩ := Rp_same s1 R
    exact m_share r5 r3 r9 r6 (fun M2 f2 => k M2 (fM_same f2.M))
