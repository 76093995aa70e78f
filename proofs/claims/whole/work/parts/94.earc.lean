/-! heard: the class -/
def pbE (D S : Nat → Nat) (e a : Nat) : Nat := 9 - ((D (20 + S (2 + 5 * a)) - D (30 + e)) + (D (30 + e) - D (20 + S (2 + 5 * a))))
theorem pbE_le (D S : Nat → Nat) : ∀ e a, pbE D S e a ≤ 9 := fun e a => by unfold pbE; omega
theorem abs9 : ∀ x, x < 10 → ∀ y, y < 10 → (0 ≤ nI x - nI y ∧ 9 - (nI x - nI y) = nI (9 - ((x - y) + (y - x)))) ∨ (¬ 0 ≤ nI x - nI y ∧ 9 - (-(nI x - nI y)) = nI (9 - ((x - y) + (y - x)))) := by decide +kernel
theorem t255 : ∀ i, i < 8 → Nat.testBit 255 i = true := by decide
theorem andn {s u : Nat} (hs : s < 256) (hu : u < 256) : nI s &&& (nI u ^^^ (-1)) = nI (s &&& (255 ^^^ u)) := by
  apply Int32.toBitVec_inj.mp
  show (BitVec.ofNat 32 s &&& (BitVec.ofNat 32 u ^^^ BitVec.allOnes 32)) = BitVec.ofNat 32 (s &&& (255 ^^^ u))
  apply BitVec.eq_of_getLsbD_eq
  intro i hi
  rw [BitVec.getLsbD_and, BitVec.getLsbD_xor, BitVec.getLsbD_allOnes, BitVec.getLsbD_ofNat, BitVec.getLsbD_ofNat, BitVec.getLsbD_ofNat, Nat.testBit_and, Nat.testBit_xor]
  by_cases h : i < 8
  · rw [t255 i h, decide_eq_true hi, Bool.true_and, Bool.true_and, Bool.true_and, Bool.xor_true, Bool.true_xor]
  · have e : s.testBit i = false := Nat.testBit_lt_two_pow (Nat.lt_of_lt_of_le (show s < 2 ^ 8 from hs) (Nat.pow_le_pow_right (by decide) (by omega)))
    rw [e, Bool.and_false, Bool.false_and, Bool.false_and, Bool.and_false]
theorem andn_tb {s u a : Nat} (ha : a < 8) : (s &&& (255 ^^^ u)).testBit a = oka s u a := by
  unfold oka
  rw [Nat.testBit_and, Nat.testBit_xor, t255 a ha, Bool.true_xor]
theorem andn_lt {s u : Nat} (hs : s < 256) : s &&& (255 ^^^ u) < 2 ^ 31 := Nat.lt_of_le_of_lt Nat.and_le_left (by omega)
theorem or_256 {u a : Nat} (hu : u < 256) (ha : a < 8) : u ||| 2 ^ a < 256 := Nat.or_lt_two_pow (n := 8) hu (Nat.pow_lt_pow_right (by decide) ha)
theorem or_nI {u a : Nat} (hu : u < 256) (ha : a < 8) : nI u ||| ((1 : Int32) <<< (nI a &&& 31)) = nI (u ||| 2 ^ a) := by
  have h2 : 2 ^ a < 2 ^ 8 := Nat.pow_lt_pow_right (by decide) ha
  rw [b_one (by omega), b_or (by omega) (by omega)]
theorem c_pleasedBy {M : pm} {t e a : Nat} {D S : Nat → Nat} {P : Nat → List Nat} (hd : dC M t D P) (hD : okD D P) (hs : sC M 57 D S) (hS : okS D S) (ha : a < D 2) (he : e < D 3) {Q : Int32 → pm → Prop} (k : Q (nI (pbE D S e a)) M) : w_X1_pleasedBy t 57 (nI e) (nI a) M Q := by
  have h8 := hD.2.2.1
  have h5 := hD.2.2.2.1
  have q := (hS.2.2 a ha).1
  have x9 := (hD.2.2.2.2.2.1 _ q).2.2
  have y9 := hD.2.2.2.2.2.2.1 e he
  unfold w_X1_pleasedBy
  refine ⟨vp_in_nI (by omega) (by decide), ?_⟩
  rw [nI_clamp (by omega), show mI M (57 + 1) a = nI (S (2 + 5 * a)) from (hs.2.2 a ha).1]
  refine s_styleOf hd hD q ⟨vp_in_nI (by omega) (by decide), ?_⟩
  rw [nI_clamp (by omega), hd.2.2.2.2.2.2.1 e he]
  unfold pbE at k
  rcases abs9 (D (20 + S (2 + 5 * a))) (by omega) (D (30 + e)) (by omega) with h | h
  · rw [← h.2] at k; exact k_yes h.1 k
  · rw [← h.2] at k; exact k_no h.1 k
theorem c_pleased {M : pm} {e u v : Nat} (he : e ≤ 5) (hu : u < 256) (h : mI M (51 + e) u = nI v) {Q : Int32 → pm → Prop} (k : Q (nI v) M) : w_X1_pleased (nI e) (nI u) M Q := by
  unfold w_X1_pleased
  rw [nI_clamp (by omega), nI_clamp (by omega), h]
  exact k_no (nI_pos (by omega)) (k_no (nI_nlt (a := 5) he (by decide)) (k_no (nI_pos (by omega)) (k_no (nI_ge (b := 256) hu (by decide)) ⟨vp_in_nI (by omega) (by decide), vp_in_nI hu (by decide), k⟩)))
/-- the class's rows from e on -/
def tbl (M : pm) (D S : Nat → Nat) (s e : Nat) : Prop := ∀ e', e ≤ e' → e' ≤ 5 → ∀ u, u < 256 → mI M (51 + e') u = nI (wD (pbE D S) s (D 2) (D 3 - e') e' u)
theorem c_pe49 {M : pm} {t e u s : Nat} {D S : Nat → Nat} {P : Nat → List Nat} (hd : dC M t D P) (hD : okD D P) (hs : sC M 57 D S) (hS : okS D S) (hs8 : s < 256) (hu : u < 256) (he : e < D 3) (ht : tbl M D S s (e + 1)) {k120 : Nat → Nat → Int32 → Int32 → Int32 → Int32 → pm → Prop} {Q : pm → Prop} (kk : k120 t 57 (nI s) (nI e) (nI u) (nI (wA (pbE D S) s (wD (pbE D S) s (D 2) (D 3 - (e + 1)) (e + 1)) e u (D 2))) M) : ∀ l m a, a + l = D 2 → l < m → w_X1_pleaseEars_49 m t 57 (nI s) (nI e) (nI u) (nI (wA (pbE D S) s (wD (pbE D S) s (D 2) (D 3 - (e + 1)) (e + 1)) e u a)) (nI a) M k120 Q := by
  have h8 := hD.2.2.1
  have h5 := hD.2.2.2.1
  have wl := wD_le (s := s) (na := D 2) (pbE_le D S) (D 3 - (e + 1)) (e + 1)
  intro l
  induction l with
  | zero =>
    intro m a ha hm
    obtain ⟨m, rfl⟩ : ∃ m', m = m' + 1 := ⟨m - 1, by omega⟩
    have e2 : a = D 2 := by omega
    unfold w_X1_pleaseEars_49
    rw [hd.2.2.1, e2]
    exact k_yes (nI_le (Nat.le_refl _) (by omega)) kk
  | succ l ih =>
    intro m a ha hm
    obtain ⟨m, rfl⟩ : ∃ m', m = m' + 1 := ⟨m - 1, by omega⟩
    have g := ih m (a + 1) (by omega) (by omega)
    have wo := wA_or (pb := pbE D S) (s := s) (W := wD (pbE D S) s (D 2) (D 3 - (e + 1)) (e + 1)) (e := e) (u := u) a
    unfold wA at g
    unfold w_X1_pleaseEars_49
    rw [hd.2.2.1, hd.2.2.2.1, andn hs8 hu, or_nI hu (by omega), nI_1, nI_1]
    refine k_no (nI_ge (by omega) (by omega)) (k_no (nI_ge he (by omega)) (b_if (andn_lt hs8) (by omega) (fun z => ?_) (fun z => ?_)))
    · rw [andn_tb (by omega)] at z
      rw [if_pos z] at g
      refine c_pleasedBy hd hD hs hS (by omega) he (c_pleased (by omega) (or_256 hu (by omega)) (ht (e + 1) (Nat.le_refl _) (by omega) _ (or_256 hu (by omega))) ?_)
      rw [nI_add]
      have w2 := wl (u ||| 2 ^ a)
      have w3 := wl u
      have p9 := pbE_le D S e a
      have wb : wA (pbE D S) s (wD (pbE D S) s (D 2) (D 3 - (e + 1)) (e + 1)) e u a < 2 ^ 31 := by
        rcases wo with h | ⟨b, h1, h2, h3⟩
        · rw [h]; omega
        · have := wl (u ||| 2 ^ b)
          have := pbE_le D S e b
          rw [h3]; omega
      refine pk_lt _ _ (fun h => ?_) (fun h => ?_)
      · rw [Nat.max_eq_right (by omega)] at g; exact g
      · rw [Nat.max_eq_left (by omega)] at g; exact g
    · rw [andn_tb (by omega)] at z
      rw [if_neg (by rw [z]; decide)] at g
      exact g
theorem c_pe11 {M0 : pm} {t e s : Nat} {D S : Nat → Nat} {P : Nat → List Nat} (ht : t = 14 ∨ t = 29) (hd : dC M0 t D P) (hD : okD D P) (hs : sC M0 57 D S) (hS : okS D S) (hs8 : s < 256) (he : e ≤ 5) (htb : tbl M0 D S s (e + 1)) {k138 : Nat → Nat → Int32 → Int32 → pm → Prop} {Q : pm → Prop} (kk : ∀ M', fI (fun a => a = 51 + e) M0 M' → tbl M' D S s e → k138 t 57 (nI s) (nI e) M') : ∀ l m u M, u + l = 256 → l < m → fI (fun a => a = 51 + e) M0 M → (∀ v, v < u → mI M (51 + e) v = nI (wD (pbE D S) s (D 2) (D 3 - e) e v)) → w_X1_pleaseEars_11 m t 57 (nI s) (nI e) (nI u) M k138 Q := by
  have h8 := hD.2.2.1
  have h5 := hD.2.2.2.1
  have tb : ∀ {M}, fI (fun a => a = 51 + e) M0 M → tbl M D S s (e + 1) := fun f e' h1 h2 v hv => by rw [f.2.2.2 (51 + e') (by omega)]; exact htb e' h1 h2 v hv
  intro l
  induction l with
  | zero =>
    intro m u M hu hm f h
    obtain ⟨m, rfl⟩ : ∃ m', m = m' + 1 := ⟨m - 1, by omega⟩
    unfold w_X1_pleaseEars_11
    refine k_yes (nI_le (a := 256) (by omega) (by omega)) (kk M f (fun e' h1 h2 v hv => ?_))
    by_cases q : e' = e
    · subst q; exact h v (by omega)
    · exact tb f e' (by omega) h2 v hv
  | succ l ih =>
    intro m u M hu hm f h
    obtain ⟨m, rfl⟩ : ∃ m', m = m' + 1 := ⟨m - 1, by omega⟩
    have d1 : dC M t D P := dC_c (fun b b1 b2 => f.2.2.2 b (by omega)) hd
    have s1 : sC M 57 D S := sC_c (fun b b1 b2 => f.2.2.2 b (by omega)) hs
    have go : ∀ x, x = wD (pbE D S) s (D 2) (D 3 - e) e u → w_X1_pleaseEars_11 m t 57 (nI s) (nI e) (nI (u + 1)) (sI M (51 + e) u (nI x)) k138 Q := fun x ex => by
      refine ih m (u + 1) _ (by omega) (by omega) (f.up rfl _ _) (fun v hv => ?_)
      by_cases q : v = u
      · subst q; rw [rIs, ex]
      · rw [rI (by omega)]; exact h v (by omega)
    have v6 : vp_in (nI e) 6 := vp_in_nI (by omega) (by decide)
    have vu : vp_in (nI u) 256 := vp_in_nI (by omega) (by decide)
    have fin : ∀ x, x = wD (pbE D S) s (D 2) (D 3 - e) e u → vp_in (nI e) 6 ∧ (vp_in (nI u) 256 ∧ w_X1_pleaseEars_11 m t 57 (nI s) (nI e) (nI u + 1) (sI M (51 + (nI e).toNatClampNeg) (nI u).toNatClampNeg (nI x)) k138 Q) := fun x ex => by
      rw [nI_clamp (n := e) (by omega), nI_clamp (n := u) (by omega), nI_1]
      exact ⟨v6, vu, go x ex⟩
    unfold w_X1_pleaseEars_11
    rw [d1.2.2.2.1]
    refine k_no (nI_ge (b := 256) (by omega) (by decide)) (pk_le (D 3) e (fun q => ⟨1, ?_⟩) (fun q => ?_))
    · have f0 := fin 0 (by rw [show D 3 - e = 0 from by omega]; rfl)
      unfold w_X1_pleaseEars_49
      rw [d1.2.2.2.1]
      exact ⟨fun _ => f0, fun _ => k_yes (nI_le q (by omega)) f0⟩
    · rw [nI_1, nI_clamp (n := e + 1) (by omega), nI_clamp (n := u) (by omega)]
      refine ⟨vp_in_nI (by omega) (by decide), vu, D 2 + 1, ?_⟩
      rw [tb f (e + 1) (Nat.le_refl _) (by omega) u (by omega)]
      refine c_pe49 d1 hD s1 hS hs8 (by omega) q (tb f) (fin _ ?_) (D 2) (D 2 + 1) 0 (by omega) (by omega)
      rw [show D 3 - e = D 3 - (e + 1) + 1 from by omega]
      rfl
theorem lI_p (v : Nat) : nI v + (-1) = lI v := by
  unfold lI
  rw [← zI_n, show (-1 : Int32) = zI (-1) from rfl, zI_add]; rfl
theorem c_pleaseEars {M : pm} {t s : Nat} {D S : Nat → Nat} {P : Nat → List Nat} (ht : t = 14 ∨ t = 29) (hd : dC M t D P) (hD : okD D P) (hs : sC M 57 D S) (hS : okS D S) (hs8 : s < 256) {Q : pm → Prop} (kk : ∀ M', fI xC M M' → tbl M' D S s 0 → Q M') : w_X1_pleaseEars t 57 (nI s) M Q := by
  have key : ∀ j m M1, j ≤ 6 → j < m → fI xC M M1 → tbl M1 D S s j → w_X1_pleaseEars_3 m t 57 (nI s) (lI j) M1 Q := by
    intro j
    induction j with
    | zero =>
      intro m M1 hj hm f h
      obtain ⟨m, rfl⟩ : ∃ m', m = m' + 1 := ⟨m - 1, by omega⟩
      unfold w_X1_pleaseEars_3
      exact k_yes (by decide) (kk M1 f h)
    | succ j ih =>
      intro m M1 hj hm f h
      obtain ⟨m, rfl⟩ : ∃ m', m = m' + 1 := ⟨m - 1, by omega⟩
      unfold w_X1_pleaseEars_3
      rw [lI_s]
      refine k_no (nI_pos (by omega)) ⟨257, c_pe11 ht (dC_c (fun b b1 b2 => f.2.2.2 b (by unfold xC; omega)) hd) hD (sC_c (fun b b1 b2 => f.2.2.2 b (by unfold xC; omega)) hs) hS hs8 (by omega) h (fun M2 f2 h2 => ?_) 256 257 0 M1 (by omega) (by omega) (fI.rf _) (fun v hv => absurd hv (Nat.not_lt_zero _))⟩
      rw [lI_p]
      exact ih m M2 (by omega) (by omega) (f.tr (f2.mo (fun a ha => by unfold xC; omega))) h2
  exact ⟨7, key 6 7 M (by omega) (by omega) (fI.rf M) (fun e' h1 h2 => absurd h1 (by omega))⟩
theorem fA_st {pb : Nat → Nat → Nat} {s : Nat} {W : Nat → Nat} {w e u a : Nat} (h : fA pb s W w e u a ≠ 0) : ∀ d, fA pb s W w e u (a + d) = fA pb s W w e u a
  | 0 => rfl
  | d + 1 => by
    have ih := fA_st h d
    show (if fA pb s W w e u (a + d) = 0 then _ else fA pb s W w e u (a + d)) = _
    rw [ih, if_neg h]
