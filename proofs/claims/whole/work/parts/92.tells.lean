/-! tells -/
noncomputable def plC (D S : Nat → Nat) (P : Nat → List Nat) (r : Nat) (f : Nat → Nat) (a d : Nat) : Nat → Nat
  | 0 => 0
  | v + 1 => plC D S P r f a d v + pN (fitP D S P r f a v) * (bvd D S P a v d / 2 ^ a % 2)
theorem plC_le (D S : Nat → Nat) (P : Nat → List Nat) (r : Nat) (f : Nat → Nat) (a d : Nat) : ∀ v, plC D S P r f a d v ≤ cF D S P r f a v
  | 0 => Nat.le_refl _
  | v + 1 => by
    have h1 := plC_le D S P r f a d v
    have h2 := pN_le (fitP D S P r f a v)
    have h3 : bvd D S P a v d / 2 ^ a % 2 < 2 := Nat.mod_lt _ (by decide)
    unfold plC cF
    rcases (show pN (fitP D S P r f a v) = 0 ∨ pN (fitP D S P r f a v) = 1 from by omega) with e | e
    · rw [e, Nat.zero_mul]; omega
    · rw [e, Nat.one_mul]; omega
theorem c_cfp {D S : Nat → Nat} {P : Nat → List Nat} {r : Nat} {f : Nat → Nat} {a E : Nat} {M : pm} (h : ftC D S P r f a E M 100) (hE : E ≤ 31) {d : Nat} (hd : d < E) {Q : Int32 → pm → Prop} (k : Q (nI (plC D S P r f a d 100)) M) : w_X7_countFittingPlayed (nI d) M Q := by
  have key : ∀ l n v, v + l = 100 → l < n → w_X7_countFittingPlayed_4 n (nI d) (nI (plC D S P r f a d v)) (nI v) M Q := by
    intro l
    induction l with
    | zero =>
      intro n v hv hn
      obtain ⟨n, rfl⟩ : ∃ n', n = n' + 1 := ⟨n - 1, by omega⟩
      have e : v = 100 := by omega
      subst e
      unfold w_X7_countFittingPlayed_4
      exact k_yes (by decide) k
    | succ l ih =>
      intro n v hv hn
      obtain ⟨n, rfl⟩ : ∃ n', n = n' + 1 := ⟨n - 1, by omega⟩
      have g := ih n (v + 1) (by omega) (by omega)
      unfold plC at g
      unfold w_X7_countFittingPlayed_4
      rw [nI_clamp (by omega), nI_1, ft_no h hE (by omega)]
      refine k_no (nI_nlt (a := 99) (by omega) (by decide)) ⟨vp_in_nI (by omega) (by decide), fun z => ?_, fun z => ⟨vp_in_nI (by omega) (by decide), ?_⟩⟩
      · rw [pN_0 z, Nat.zero_mul, Nat.add_zero] at g; exact g
      · have hz : fitP D S P r f a v := Classical.byContradiction z
        have h1 := pbN_lt D S P a v E
        have h2 : 2 ^ E ≤ 2 ^ 31 := Nat.pow_le_pow_right (by decide) hE
        rw [pN_1 hz, Nat.one_mul] at g
        rw [(h v (by omega)).1 hz, b_bit (by omega) (by omega), pbN_bit D S P a v E d hd, nI_add]
        exact g
  exact ⟨101, key 100 101 0 (by omega) (by omega)⟩
theorem m_c58 {D S : Nat → Nat} {P : Nat → List Nat} {r : Nat} {f : Nat → Nat} {a : Nat} {M : pm} (h : ftM D S P r f a M 100) {d : Nat} (hd : d < 31) {x2 x3 x4 : Int32} {k100 : Int32 → Int32 → Int32 → Int32 → Int32 → pm → Prop} {Q : Int32 → pm → Prop} (k : k100 x2 x3 x4 (nI d) (nI (plC D S P r f a d 100)) M) : ∃ n, w_X8_tells_58 n x2 x3 x4 (nI d) 0 0 M k100 Q := by
  have key : ∀ l n v, v + l = 100 → l < n → w_X8_tells_58 n x2 x3 x4 (nI d) (nI (plC D S P r f a d v)) (nI v) M k100 Q := by
    intro l
    induction l with
    | zero =>
      intro n v hv hn
      obtain ⟨n, rfl⟩ : ∃ n', n = n' + 1 := ⟨n - 1, by omega⟩
      have e : v = 100 := by omega
      subst e
      unfold w_X8_tells_58
      exact k_yes (by decide) k
    | succ l ih =>
      intro n v hv hn
      obtain ⟨n, rfl⟩ : ∃ n', n = n' + 1 := ⟨n - 1, by omega⟩
      have g := ih n (v + 1) (by omega) (by omega)
      have pl := pN_le (fitP D S P r f a v)
      have h3 : bvd D S P a v d / 2 ^ a % 2 < 2 := Nat.mod_lt _ (by decide)
      unfold plC at g
      unfold w_X8_tells_58
      rw [nI_clamp (n := v) (by omega), show (31 : Int32) * nI v = nI (31 * v) from pk_mul 31 _, nI_add, nI_clamp (by omega), nI_1, h.2.1 v (by omega), h.2.2 v d (by omega) hd]
      refine k_no (nI_ge (b := 100) (by omega) (by decide)) ⟨vp_in_nI (by omega) (by decide), pk_eq (pN (fitP D S P r f a v)) 0 (fun z => ?_) (fun z => ⟨vp_in_nI (by omega) (by decide), pk_eq (bvd D S P a v d / 2 ^ a % 2) 0 (fun w => ?_) (fun w => ?_)⟩)⟩
      · rw [z, Nat.zero_mul, Nat.add_zero] at g; exact g
      · rw [w, Nat.mul_zero, Nat.add_zero] at g; exact g
      · rw [show pN (fitP D S P r f a v) = 1 from by omega, show bvd D S P a v d / 2 ^ a % 2 = 1 from by omega] at g
        rw [nI_1]; exact g
  exact ⟨101, key 100 101 0 (by omega) (by omega)⟩
/-- the worse half, and the first day on which it is least -/
noncomputable def bwD (D S : Nat → Nat) (P : Nat → List Nat) (r : Nat) (f : Nat → Nat) (a d : Nat) : Nat := if plC D S P r f a d 100 < cF D S P r f a 100 - plC D S P r f a d 100 then cF D S P r f a 100 - plC D S P r f a d 100 else plC D S P r f a d 100
def tlW (w : Nat → Nat) : Nat → Nat × Nat
  | 0 => (0, 0)
  | d + 1 => if (tlW w d).1 = 0 ∨ w d < (tlW w d).2 then (d + 1, w d) else tlW w d
theorem tlW_le {w : Nat → Nat} (hw : ∀ d, w d ≤ 100) : ∀ d, (tlW w d).1 ≤ d ∧ (tlW w d).2 ≤ 100 ∧ (1 ≤ d → 1 ≤ (tlW w d).1)
  | 0 => ⟨Nat.le_refl _, Nat.zero_le _, fun h => absurd h (by decide)⟩
  | d + 1 => by
    have ih := tlW_le hw d
    have h1 := hw d
    unfold tlW
    split
    · exact ⟨Nat.le_refl _, h1, fun _ => Nat.succ_le_succ (Nat.zero_le _)⟩
    · rename_i q
      exact ⟨by omega, ih.2.1, fun _ => by omega⟩
theorem lI_s (v : Nat) : lI (v + 1) = nI v := by unfold lI; rw [← zI_n]; congr 1; omega
theorem lI_eq {x : Nat} (h : x ≤ 1000) : lI x = -1 ↔ x = 0 := by
  unfold lI
  rw [show (-1 : Int32) = zI (-1) from rfl, zI_eq (by omega) (by omega) (by omega) (by omega)]
  omega
theorem bwD_le (D S : Nat → Nat) (P : Nat → List Nat) (r : Nat) (f : Nat → Nat) (a : Nat) : ∀ d, bwD D S P r f a d ≤ 100 := fun d => by
  have h1 := plC_le D S P r f a d 100
  have h2 := cF_le D S P r f a 100
  unfold bwD; split <;> omega
theorem c_t42 {D S : Nat → Nat} {P : Nat → List Nat} {r : Nat} {f : Nat → Nat} {a : Nat} {M : pm} (h : ftC D S P r f a (min 31 (1000 - S 0)) M 100) (hon : ¬ mI M 3 5 = 0) (h57 : mI M 57 0 = nI (S 0)) (h9 : S 0 ≤ 999) {x2 : Int32} {Q : Int32 → pm → Prop} (k : Q (if x2 = 0 then lI (tlW (bwD D S P r f a) (min 31 (1000 - S 0))).1 else nI (tlW (bwD D S P r f a) (min 31 (1000 - S 0))).2) M) : ∃ n, w_X7_tells_42 n x2 (nI (cF D S P r f a 100)) (-1) 0 0 M Q := by
  have c100 := cF_le D S P r f a 100
  have key : ∀ l n d, d + l = min 31 (1000 - S 0) → l < n → w_X7_tells_42 n x2 (nI (cF D S P r f a 100)) (lI (tlW (bwD D S P r f a) d).1) (nI (tlW (bwD D S P r f a) d).2) (nI d) M Q := by
    intro l
    induction l with
    | zero =>
      intro n d hd hn
      obtain ⟨n, rfl⟩ : ∃ n', n = n' + 1 := ⟨n - 1, by omega⟩
      have e : d = min 31 (1000 - S 0) := by omega
      rw [← e] at k
      have fin : (¬ x2 = 0 → Q (nI (tlW (bwD D S P r f a) d).2) M) ∧ (x2 = 0 → Q (lI (tlW (bwD D S P r f a) d).1) M) := ⟨fun z => by rw [if_neg z] at k; exact k, fun z => by rw [if_pos z] at k; exact k⟩
      unfold w_X7_tells_42
      refine pk_lt 30 d (fun _ => fin) (fun q => c_ahead_no (Or.inr ?_) (k_yes rfl fin))
      rw [h57, nI_add]
      exact nI_lt (a := 999) (by omega) (by omega)
    | succ l ih =>
      intro n d hd hn
      obtain ⟨n, rfl⟩ : ∃ n', n = n' + 1 := ⟨n - 1, by omega⟩
      have g := ih n (d + 1) (by omega) (by omega)
      have p1 := plC_le D S P r f a d 100
      have tb := tlW_le (bwD_le D S P r f a) d
      unfold tlW at g
      unfold w_X7_tells_42
      refine k_no (nI_nlt (a := 30) (by omega) (by decide)) (c_ahead_yes hon ?_ (k_no (by decide) (c_cfp h (by omega) (by omega) ?_)))
      · rw [h57, nI_add]
        exact nI_nlt (a := 999) (by omega) (by decide)
      · rw [pk_sub p1, nI_1]
        have fin : ∀ y : Int32, y = nI (bwD D S P r f a d) → ((lI (tlW (bwD D S P r f a) d).1 = (-1) → (w_X7_tells_42 n x2 (nI (cF D S P r f a 100)) (nI d) y (nI (d + 1)) M Q)) ∧ (¬ lI (tlW (bwD D S P r f a) d).1 = (-1) → ((nI (tlW (bwD D S P r f a) d).2 ≤ y → (w_X7_tells_42 n x2 (nI (cF D S P r f a 100)) (lI (tlW (bwD D S P r f a) d).1) (nI (tlW (bwD D S P r f a) d).2) (nI (d + 1)) M Q)) ∧ (¬ nI (tlW (bwD D S P r f a) d).2 ≤ y → (w_X7_tells_42 n x2 (nI (cF D S P r f a 100)) (nI d) y (nI (d + 1)) M Q))))) := fun y ey => by
          have w100 := bwD_le D S P r f a d
          subst ey
          rw [lI_eq (by omega)]
          refine ⟨fun z => ?_, fun z => pk_le _ _ (fun w => ?_) (fun w => ?_)⟩
          · rw [if_pos (Or.inl z)] at g
            have g : w_X7_tells_42 n x2 (nI (cF D S P r f a 100)) (lI (d + 1)) (nI (bwD D S P r f a d)) (nI (d + 1)) M Q := g
            rw [lI_s] at g; exact g
          · rw [if_neg (by omega)] at g; exact g
          · rw [if_pos (Or.inr (by omega))] at g
            have g : w_X7_tells_42 n x2 (nI (cF D S P r f a 100)) (lI (d + 1)) (nI (bwD D S P r f a d)) (nI (d + 1)) M Q := g
            rw [lI_s] at g; exact g
        refine pk_lt (plC D S P r f a d 100) (cF D S P r f a 100 - plC D S P r f a d 100) (fun z => fin _ ?_) (fun z => fin _ ?_)
        · unfold bwD; rw [if_pos z]
        · unfold bwD; rw [if_neg (by omega)]
  exact ⟨_, key (min 31 (1000 - S 0)) (min 31 (1000 - S 0) + 1) 0 (by omega) (by omega)⟩
theorem m_t33 {D S : Nat → Nat} {P : Nat → List Nat} {r : Nat} {f : Nat → Nat} {a : Nat} {M : pm} (h : ftM D S P r f a M 100) (hon : ¬ mI M 277 50 = 0) (h317 : mI M 317 0 = nI (S 0)) (h9 : S 0 ≤ 999) (h0 : cF D S P r f a 100 ≠ 0) {x2 : Int32} {k154 : Int32 → Int32 → Int32 → pm → Prop} {Q : Int32 → pm → Prop} (k : k154 x2 (lI (tlW (bwD D S P r f a) (min 31 (1000 - S 0))).1) (nI (tlW (bwD D S P r f a) (min 31 (1000 - S 0))).2) M) : ∃ n, w_X8_tells_33 n x2 (-1) 0 0 M k154 Q := by
  have c100 := cF_le D S P r f a 100
  have key : ∀ l n d, d + l = min 31 (1000 - S 0) → l < n → w_X8_tells_33 n x2 (lI (tlW (bwD D S P r f a) d).1) (nI (tlW (bwD D S P r f a) d).2) (nI d) M k154 Q := by
    intro l
    induction l with
    | zero =>
      intro n d hd hn
      obtain ⟨n, rfl⟩ : ∃ n', n = n' + 1 := ⟨n - 1, by omega⟩
      have e : d = min 31 (1000 - S 0) := by omega
      rw [← e] at k
      unfold w_X8_tells_33
      rw [h.1]
      refine k_no (fun z => h0 (Nat.le_zero.mp ((nI_leI (b := 0) (by omega) (by decide)).mp z))) (m_isAhead_no ?_ (k_yes rfl k))
      by_cases q : 30 < d
      · exact Or.inr (Or.inr (Or.inl (nI_lt (a := 30) q (by omega))))
      · refine Or.inr (Or.inr (Or.inr ?_))
        rw [h317, nI_add]
        exact nI_lt (a := 999) (by omega) (by omega)
    | succ l ih =>
      intro n d hd hn
      obtain ⟨n, rfl⟩ : ∃ n', n = n' + 1 := ⟨n - 1, by omega⟩
      have g := ih n (d + 1) (by omega) (by omega)
      have p1 := plC_le D S P r f a d 100
      have tb := tlW_le (bwD_le D S P r f a) d
      unfold tlW at g
      unfold w_X8_tells_33
      rw [h.1]
      refine k_no (fun z => h0 (Nat.le_zero.mp ((nI_leI (b := 0) (by omega) (by decide)).mp z))) (m_isAhead_yes hon (nI_pos (by omega)) (nI_nlt (a := 30) (by omega) (by decide)) ?_ (k_no (by decide) (m_c58 h (by omega) ?_)))
      · rw [h317, nI_add]
        exact nI_nlt (a := 999) (by omega) (by decide)
      · rw [h.1, pk_sub p1]
        have fin : ∀ y : Int32, y = nI (bwD D S P r f a d) → w_X8_tells_124 x2 (lI (tlW (bwD D S P r f a) d).1) (nI (tlW (bwD D S P r f a) d).2) (nI d) y M (fun x2 x3 x4 x5 M => w_X8_tells_33 n x2 x3 x4 x5 M k154 Q) k154 Q := fun y ey => by
          have w100 := bwD_le D S P r f a d
          subst ey
          unfold w_X8_tells_124
          rw [lI_eq (by omega), nI_1]
          refine ⟨fun z => ?_, fun z => pk_lt _ _ (fun w => ?_) (fun w => ?_)⟩
          · rw [if_pos (Or.inl z)] at g
            have g : w_X8_tells_33 n x2 (lI (d + 1)) (nI (bwD D S P r f a d)) (nI (d + 1)) M k154 Q := g
            rw [lI_s] at g; exact g
          · rw [if_pos (Or.inr w)] at g
            have g : w_X8_tells_33 n x2 (lI (d + 1)) (nI (bwD D S P r f a d)) (nI (d + 1)) M k154 Q := g
            rw [lI_s] at g; exact g
          · rw [if_neg (by omega)] at g; exact g
        refine pk_le (plC D S P r f a d 100) (cF D S P r f a 100 - plC D S P r f a d 100) (fun z => fin _ ?_) (fun z => fin _ ?_)
        · unfold bwD
          by_cases q : plC D S P r f a d 100 < cF D S P r f a 100 - plC D S P r f a d 100
          · rw [if_pos q]
          · rw [if_neg q]; congr 1; omega
        · unfold bwD; rw [if_neg (by omega)]
  exact ⟨_, key (min 31 (1000 - S 0)) (min 31 (1000 - S 0) + 1) 0 (by omega) (by omega)⟩
theorem p_tells (x z : Int32) (M : pm) (hI : Inv M) : stp Inv (w_X7_tells x z) (w_X8_tells x z) M := by
  obtain ⟨t, D, P, S, R⟩ := Rp_of hI
  obtain ⟨r, f, hsn, hsc, hsm⟩ := seen_of hI R
  have h8 := R.2.2.1.2.2.1
  have no : (x < 0 ∨ (¬ x < 0 ∧ nI (D 2) ≤ x)) → stp Inv (w_X7_tells x z) (w_X8_tells x z) M := fun h => stp_ro hI (-1) (fun K k => c_isAsker_no R h (k_yes rfl (k M (same.rf M)))) (fun M1 s1 Q k => m_isAsker_no (Rp_same s1 R) h (k_yes rfl (k M1 (same.rf M1))))
  rcases ix3 x (n := D 2) (by omega) with hx | hx | ⟨a, ha, rfl⟩
  · exact no (Or.inl hx)
  · exact no (Or.inr hx)
  by_cases hz : z < 0 ∨ 1 < z
  · refine stp_ro hI (-1) (fun K k => c_isAsker_yes R ha (k_no (by decide) ?_)) (fun M1 s1 Q k => m_isAsker_yes (Rp_same s1 R) ha (k_no (by decide) ?_))
    · have k := k M (same.rf M)
      refine ⟨fun _ => k, fun h1 => ⟨fun h2 => ?_, fun _ => k⟩⟩
      rcases hz with q | q
      · exact absurd q h1
      · exact absurd h2 (Int32.not_le.mpr q)
    · rw [j0, j1]
      exact isIn_no hz (k_yes' rfl (k M1 (same.rf M1)))
  have z0 : ¬ z < 0 := fun q => hz (Or.inl q)
  have z1 : ¬ 1 < z := fun q => hz (Or.inr q)
  have ll := lsd_le hsn r (Nat.le_refl _)
  have c100 := cF_le D S P r f a 100
  obtain ⟨-, -, -, -, -, r6, r7, r8, r9, r10, -, -⟩ := id R
  have hon := Rp_on R ha
  refine stp_ro hI (if cF D S P r f a 100 = 0 then -1 else if z = 0 then lI (tlW (bwD D S P r f a) (min 31 (1000 - S 0))).1 else nI (tlW (bwD D S P r f a) (min 31 (1000 - S 0))).2) (fun K k => c_isAsker_yes R ha (k_no (by decide) (k_no z0 (k_yes (Int32.not_lt.mp z1) (c_ff (L := 31) R hon hsn hsc ha ll (Nat.le_refl _) (fun M1 f1 g1 => ?_)))))) (fun M1 s1 Q k => m_isAsker_yes (Rp_same s1 R) ha (k_no (by decide) ?_))
  · have kk := k M1 (fF_same f1)
    refine pk_ne (cF D S P r f a 100) 0 (fun q => ?_) (fun q => ?_)
    · rw [if_neg q] at kk
      refine c_t42 g1 (by rw [f1.2.2.2 3 (by unfold xF xT; omega)]; exact hon) (by rw [f1.2.2.2 57 (by unfold xF xT; omega)]; exact r8.1) r7 kk
    · rw [if_pos q] at kk; exact kk
  · rw [j0, j1]
    refine isIn_yes z0 z1 (k_no' (by decide) (m_laysFits (Rp_same s1 R) hsn (snM_c (s1.2.2.2.1 63 (by unfold scrK; omega)) (s1.2.2.1 322 (by unfold scrA; omega) (by decide)) hsm) ha (fun M2 s2 g2 => ?_)))
    have kk := k M2 s2
    have R2 := Rp_same (s1.tr s2) R
    by_cases q : cF D S P r f a 100 = 0
    · rw [if_pos q] at kk
      refine ⟨1, ?_⟩
      unfold w_X8_tells_33
      rw [g2.1, q]
      exact k_yes (by decide) (k_yes' rfl kk)
    · rw [if_neg q] at kk
      have tb := tlW_le (bwD_le D S P r f a) (min 31 (1000 - S 0))
      refine m_t33 g2 (by rw [← R2.2.2.2.2.2.2.2.2.2.1]; exact Rp_on R2 ha) (R2.2.2.2.2.2.2.2.2.1 0 (by omega)) r7 q ?_
      unfold w_X8_tells_154
      refine k_no' (fun w => absurd ((lI_eq (by omega)).mp w) (by omega)) ⟨fun w => ?_, fun w => ?_⟩
      · rw [if_neg w] at kk; exact kk
      · rw [if_pos w] at kk; exact kk
