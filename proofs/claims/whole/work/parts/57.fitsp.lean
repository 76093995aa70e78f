/-! fits: both sides -/
theorem ft_no {D S : Nat → Nat} {P : Nat → List Nat} {r : Nat} {f : Nat → Nat} {a E n : Nat} {M : pm} (h : ftC D S P r f a E M n) (hE : E ≤ 31) {v : Nat} (hv : v < n) : (mI M 274 v = -1 ↔ ¬ fitP D S P r f a v) := by
  constructor
  · intro e z
    rw [(h v hv).1 z] at e
    have h1 := pbN_lt D S P a v E
    have h2 : 2 ^ E ≤ 2 ^ 31 := Nat.pow_le_pow_right (by decide) hE
    exact n_m1 (by omega) e
  · exact (h v hv).2
/-- the least and the greatest that fit, of those below i -/
noncomputable def gsF (p : Nat → Prop) : Nat → Int32
  | 0 => -1
  | i + 1 => if pN (p i) = 1 then nI i else gsF p i
noncomputable def fsF (p : Nat → Prop) : Nat → Int32
  | 0 => -1
  | i + 1 => if fsF p i = -1 ∧ pN (p i) = 1 then nI i else fsF p i
theorem fsF_st (p : Nat → Prop) {i : Nat} (h : ¬ fsF p i = -1) : ∀ d, fsF p (i + d) = fsF p i
  | 0 => rfl
  | d + 1 => by
    have ih := fsF_st p h d
    show (if fsF p (i + d) = -1 ∧ pN (p (i + d)) = 1 then nI (i + d) else fsF p (i + d)) = _
    rw [if_neg (fun z => h (by rw [← ih]; exact z.1)), ih]
theorem c_least {D S : Nat → Nat} {P : Nat → List Nat} {r : Nat} {f : Nat → Nat} {a E : Nat} {M : pm} (h : ftC D S P r f a E M 100) (hE : E ≤ 31) {Q : Int32 → pm → Prop} (k : Q (fsF (fitP D S P r f a) 100) M) : w_X7_leastFitting M Q := by
  have key : ∀ l n v, v + l = 100 → l < n → fsF (fitP D S P r f a) v = -1 → w_X7_leastFitting_2 n (nI v) M Q := by
    intro l
    induction l with
    | zero =>
      intro n v hv hn hf
      obtain ⟨n, rfl⟩ : ∃ n', n = n' + 1 := ⟨n - 1, by omega⟩
      have e : v = 100 := by omega
      subst e
      rw [hf] at k
      unfold w_X7_leastFitting_2
      exact k_yes (by decide) k
    | succ l ih =>
      intro n v hv hn hf
      obtain ⟨n, rfl⟩ : ∃ n', n = n' + 1 := ⟨n - 1, by omega⟩
      unfold w_X7_leastFitting_2
      rw [nI_clamp (by omega), nI_1, ft_no h hE (by omega)]
      refine k_no (nI_nlt (a := 99) (by omega) (by decide)) ⟨vp_in_nI (by omega) (by decide), fun z => ih n (v + 1) (by omega) (by omega) ?_, fun z => ?_⟩
      · show (if _ then _ else _) = _
        rw [if_neg (fun w => by rw [pN_0 z] at w; exact absurd w.2 (by decide))]; exact hf
      · have hz : fitP D S P r f a v := Classical.byContradiction z
        have e1 : fsF (fitP D S P r f a) (v + 1) = nI v := by
          show (if _ then _ else _) = _
          rw [if_pos ⟨hf, pN_1 hz⟩]
        have e2 := fsF_st (fitP D S P r f a) (i := v + 1) (by rw [e1]; exact n_m1 (by omega)) l
        rw [show v + 1 + l = 100 from by omega, e1] at e2
        rw [e2] at k
        exact k
  exact ⟨101, key 100 101 0 (by omega) (by omega) rfl⟩
theorem c_great {D S : Nat → Nat} {P : Nat → List Nat} {r : Nat} {f : Nat → Nat} {a E : Nat} {M : pm} (h : ftC D S P r f a E M 100) (hE : E ≤ 31) {Q : Int32 → pm → Prop} (k : Q (gsF (fitP D S P r f a) 100) M) : w_X7_greatestFitting M Q := by
  have key : ∀ v n, v ≤ 100 → v < n → Q (gsF (fitP D S P r f a) v) M → w_X7_greatestFitting_3 n (lI v) M Q := by
    intro v
    induction v with
    | zero =>
      intro n _ hn k
      obtain ⟨n, rfl⟩ : ∃ n', n = n' + 1 := ⟨n - 1, by omega⟩
      unfold w_X7_greatestFitting_3
      exact k_yes (by decide) k
    | succ v ih =>
      intro n hv hn k
      obtain ⟨n, rfl⟩ : ∃ n', n = n' + 1 := ⟨n - 1, by omega⟩
      have e1 : lI (v + 1) = nI v := by unfold lI; rw [← zI_n]; congr 1; omega
      have e2 : nI v + (-1) = lI v := by
        unfold lI
        rw [← zI_n, show (-1 : Int32) = zI (-1) from rfl, zI_add]; rfl
      unfold w_X7_greatestFitting_3
      rw [e1, nI_clamp (by omega), e2, ft_no h hE (by omega)]
      unfold gsF at k
      refine k_no (nI_pos (by omega)) ⟨vp_in_nI (by omega) (by decide), fun z => ih n (by omega) (by omega) ?_, fun z => ?_⟩
      · rw [if_neg (by rw [pN_0 z]; decide)] at k; exact k
      · rw [if_pos (pN_1 (Classical.byContradiction z))] at k; exact k
  exact ⟨101, key 100 101 (by omega) (by omega) k⟩
theorem m_fits35 {D S : Nat → Nat} {P : Nat → List Nat} {r : Nat} {f : Nat → Nat} {a : Nat} {M : pm} (h : ftM D S P r f a M 100) {x2 : Int32} {k73 : Int32 → Int32 → Int32 → pm → Prop} {Q : Int32 → pm → Prop} (k : k73 x2 (fsF (fitP D S P r f a) 100) (gsF (fitP D S P r f a) 100) M) : ∃ n, w_X8_fits_35 n x2 (-1) (-1) 0 M k73 Q := by
  have key : ∀ l n v, v + l = 100 → l < n → w_X8_fits_35 n x2 (fsF (fitP D S P r f a) v) (gsF (fitP D S P r f a) v) (nI v) M k73 Q := by
    intro l
    induction l with
    | zero =>
      intro n v hv hn
      obtain ⟨n, rfl⟩ : ∃ n', n = n' + 1 := ⟨n - 1, by omega⟩
      have e : v = 100 := by omega
      subst e
      unfold w_X8_fits_35
      exact k_yes (by decide) k
    | succ l ih =>
      intro n v hv hn
      obtain ⟨n, rfl⟩ : ∃ n', n = n' + 1 := ⟨n - 1, by omega⟩
      have g := ih n (v + 1) (by omega) (by omega)
      have pl := pN_le (fitP D S P r f a v)
      unfold fsF gsF at g
      unfold w_X8_fits_35
      rw [nI_clamp (by omega), nI_1, h.2.1 v (by omega)]
      refine k_no (nI_ge (b := 100) (by omega) (by decide)) ⟨vp_in_nI (by omega) (by decide), pk_ne (pN (fitP D S P r f a v)) 0 (fun z => ?_) (fun z => ?_)⟩
      · rw [show pN (fitP D S P r f a v) = 1 from by omega, if_pos rfl] at g
        refine ⟨fun w => ?_, fun w => ?_⟩
        · rw [if_neg (fun u => w u.1)] at g; exact g
        · rw [if_pos ⟨w, rfl⟩] at g; exact g
      · rw [if_neg (fun u => by rw [z] at u; exact absurd u.2 (by decide)), if_neg (by rw [z]; decide)] at g
        exact g
  exact ⟨101, key 100 101 0 (by omega) (by omega)⟩
theorem Rp_on {M : pm} {t : Nat} {D S : Nat → Nat} {P : Nat → List Nat} (R : Rp M t D P S) {a : Nat} (ha : a < D 2) : ¬ mI M 3 5 = 0 := by
  rcases R.2.2.2.2.2.2.2.2.2.2.1 with h | h
  · omega
  · rw [h.1]; decide
theorem p_fits (x z : Int32) (M : pm) (hI : Inv M) : stp Inv (w_X7_fits x z) (w_X8_fits x z) M := by
  obtain ⟨t, D, P, S, R⟩ := Rp_of hI
  obtain ⟨r, f, hsn, hsc, hsm⟩ := seen_of hI R
  have h8 := R.2.2.1.2.2.1
  have no : (x < 0 ∨ (¬ x < 0 ∧ nI (D 2) ≤ x)) → stp Inv (w_X7_fits x z) (w_X8_fits x z) M := fun h => stp_ro hI (-1) (fun K k => c_isAsker_no R h (k_yes rfl (k M (same.rf M)))) (fun M1 s1 Q k => m_isAsker_no (Rp_same s1 R) h (k_yes rfl (k M1 (same.rf M1))))
  rcases ix3 x (n := D 2) (by omega) with hx | hx | ⟨a, ha, rfl⟩
  · exact no (Or.inl hx)
  · exact no (Or.inr hx)
  by_cases hz : z < 0 ∨ 2 < z
  · refine stp_ro hI (-1) (fun K k => c_isAsker_yes R ha (k_no (by decide) ?_)) (fun M1 s1 Q k => m_isAsker_yes (Rp_same s1 R) ha (k_no (by decide) ?_))
    · have k := k M (same.rf M)
      refine ⟨fun _ => k, fun h1 => ⟨fun h2 => ?_, fun _ => k⟩⟩
      rcases hz with q | q
      · exact absurd q h1
      · exact absurd h2 (Int32.not_le.mpr q)
    · rw [j0, j2]
      exact isIn_no hz (k_yes' rfl (k M1 (same.rf M1)))
  have z0 : ¬ z < 0 := fun q => hz (Or.inl q)
  have z1 : ¬ 2 < z := fun q => hz (Or.inr q)
  have ll := lsd_le hsn r (Nat.le_refl _)
  refine stp_ro hI (if z = 0 then nI (cF D S P r f a 100) else if z = 1 then fsF (fitP D S P r f a) 100 else gsF (fitP D S P r f a) 100) (fun K k => c_isAsker_yes R ha (k_no (by decide) (k_no z0 (k_yes (Int32.not_lt.mp z1) (c_lsd hsn hsc (c_ff R (Rp_on R ha) hsn hsc ha (Nat.le_refl _) ll (fun M1 f1 g1 => ?_))))))) (fun M1 s1 Q k => m_isAsker_yes (Rp_same s1 R) ha (k_no (by decide) ?_))
  · have kk := k M1 (fF_same f1)
    have hE : min (lsd f r) (1000 - S 0) ≤ 31 := by omega
    by_cases e0 : z = 0
    · rw [if_pos e0] at kk; exact k_yes' e0 kk
    · rw [if_neg e0] at kk
      refine k_no' e0 ?_
      by_cases e1 : z = 1
      · rw [if_pos e1] at kk; exact k_yes' e1 (c_least g1 hE kk)
      · rw [if_neg e1] at kk; exact k_no' e1 (c_great g1 hE kk)
  · rw [j0, j2]
    refine isIn_yes z0 z1 (k_no' (by decide) (m_laysFits (Rp_same s1 R) hsn (snM_c (s1.2.2.2.1 63 (by unfold scrK; omega)) (s1.2.2.1 322 (by unfold scrA; omega) (by decide)) hsm) ha (fun M2 s2 g2 => m_fits35 g2 ?_)))
    have kk := k M2 s2
    by_cases e0 : z = 0
    · rw [if_pos e0] at kk; refine k_yes' e0 ?_; rw [g2.1]; exact kk
    · rw [if_neg e0] at kk
      refine k_no' e0 ?_
      by_cases e1 : z = 1
      · rw [if_pos e1] at kk; exact k_yes' e1 kk
      · rw [if_neg e1] at kk; exact k_no' e1 kk
