/-! the history: remember, keeps; acts -/
def eqS (M : pm) (a : Nat) (M' : pm) (a' : Nat) : Prop := mI M' a' 0 = mI M a 0 ∧ mI M' a' 1 = mI M a 1 ∧ mI M' a' 7 = mI M a 7 ∧ (∀ i b, 1 ≤ i → i ≤ 5 → b < 8 → mI M' (a' + i) b = mI M (a + i) b) ∧ ∀ i k, 6 ≤ i → i ≤ 8 → k < 40 → mI M' (a' + i) k = mI M (a + i) k
theorem stR_eq {M M' : pm} {a a' : Nat} {g g' : Nat → Int32} {ns na : Nat} (h8 : na ≤ 8) (e : eqS M a M' a') (eg : ∀ k, k < 42 → g' k = g k) (h : stR M a g ns na) : stR M' a' g' ns na := by
  obtain ⟨d, sl, h1, h2, h3, h4, h5, h6, h7⟩ := h
  refine ⟨d, sl, h1, h2, by rw [e.1]; exact h3, by rw [eg 0 (by decide)]; exact h4, by rw [e.2.1]; exact h5, by rw [eg 1 (by decide)]; exact h6, fun b hb => ?_⟩
  have q := h7 b hb
  rw [e.2.2.2.1 1 b (by decide) (by decide) (by omega), e.2.2.2.1 2 b (by decide) (by decide) (by omega), e.2.2.2.1 3 b (by decide) (by decide) (by omega), e.2.2.2.1 4 b (by decide) (by decide) (by omega), e.2.2.2.1 5 b (by decide) (by decide) (by omega), eg (2 + 5 * b) (by omega), eg (3 + 5 * b) (by omega), eg (4 + 5 * b) (by omega), eg (5 + 5 * b) (by omega), eg (6 + 5 * b) (by omega)]
  exact q
theorem ktR_eq {M M' : pm} {a a' : Nat} {g g' : Nat → Int32} (e : eqS M a M' a') (eg : ∀ k, k < 163 → g' k = g k) (h : ktR M a g) : ktR M' a' g' := by
  obtain ⟨c, h1, h2, h3, h4⟩ := h
  refine ⟨c, h1, by rw [e.2.2.1]; exact h2, by rw [eg 42 (by decide)]; exact h3, fun k hk => ?_⟩
  rw [e.2.2.2.2 6 k (by decide) (by decide) (by omega), e.2.2.2.2 7 k (by decide) (by decide) (by omega), e.2.2.2.2 8 k (by decide) (by decide) (by omega), eg (43 + 3 * k) (by omega), eg (44 + 3 * k) (by omega), eg (45 + 3 * k) (by omega)]
  exact h4 k hk
theorem ktR_k {M M' : pm} {a : Nat} {g g' : Nat → Int32} (e7 : mI M' a 7 = mI M a 7) (e : ∀ i, 6 ≤ i → i ≤ 8 → mI M' (a + i) = mI M (a + i)) (eg : ∀ k, 42 ≤ k → k < 163 → g' k = g k) (h : ktR M a g) : ktR M' a g' := by
  obtain ⟨c, h1, h2, h3, h4⟩ := h
  refine ⟨c, h1, by rw [e7]; exact h2, by rw [eg 42 (by decide) (by decide)]; exact h3, fun k hk => ?_⟩
  rw [e 6 (by decide) (by decide), e 7 (by decide) (by decide), e 8 (by decide) (by decide), eg (43 + 3 * k) (by omega) (by omega), eg (44 + 3 * k) (by omega) (by omega), eg (45 + 3 * k) (by omega) (by omega)]
  exact h4 k hk
theorem c_copyAll {M : pm} {a0 a1 : Nat} (h : a0 + 9 ≤ a1 ∨ a1 + 9 ≤ a0) {Q : pm → Prop} (k : ∀ M', mL M' = mL M → mR M' = mR M → mJ M' = mJ M → (∀ c, (c < a0 ∨ a0 + 9 ≤ c) → mI M' c = mI M c) → eqS M a1 M' a0 → Q M') : w_X4_copyAll a0 a1 M Q := by
  unfold w_X4_copyAll w_X4_copyNow
  have off : ∀ (M1 : pm) (a b n c j : Nat), c ≠ b → mI (cpI M1 a b 0 0 n) c j = mI M1 c j := fun M1 a b n c j h => by rw [mI_cpI, if_neg (fun q => h q.1)]
  have on : ∀ (M1 : pm) (a b n j : Nat), j < n → mI (cpI M1 a b 0 0 n) b j = mI M1 a j := fun M1 a b n j h => by rw [mI_cpI, if_pos ⟨rfl, by omega, by omega⟩]; congr 1; omega
  refine k _ rfl rfl rfl (fun c hc => funext fun j => ?_) ⟨?_, ?_, ?_, fun i b h1 h2 hb => ?_, fun i b h1 h2 hb => ?_⟩
  · rw [off _ _ _ _ _ _ (by omega), off _ _ _ _ _ _ (by omega), off _ _ _ _ _ _ (by omega), rI (by omega), off _ _ _ _ _ _ (by omega), off _ _ _ _ _ _ (by omega), off _ _ _ _ _ _ (by omega), off _ _ _ _ _ _ (by omega), off _ _ _ _ _ _ (by omega), rI (by omega), rI (by omega)]
  · rw [off _ _ _ _ _ _ (by omega), off _ _ _ _ _ _ (by omega), off _ _ _ _ _ _ (by omega), rI (by omega), off _ _ _ _ _ _ (by omega), off _ _ _ _ _ _ (by omega), off _ _ _ _ _ _ (by omega), off _ _ _ _ _ _ (by omega), off _ _ _ _ _ _ (by omega), rI (by omega), rIs]
  · rw [off _ _ _ _ _ _ (by omega), off _ _ _ _ _ _ (by omega), off _ _ _ _ _ _ (by omega), rI (by omega), off _ _ _ _ _ _ (by omega), off _ _ _ _ _ _ (by omega), off _ _ _ _ _ _ (by omega), off _ _ _ _ _ _ (by omega), off _ _ _ _ _ _ (by omega), rIs, rI (by omega)]
  · rw [off _ _ _ _ _ _ (by omega), off _ _ _ _ _ _ (by omega), off _ _ _ _ _ _ (by omega), rIs, off _ _ _ _ _ _ (by omega), off _ _ _ _ _ _ (by omega), off _ _ _ _ _ _ (by omega), off _ _ _ _ _ _ (by omega), off _ _ _ _ _ _ (by omega), rI (by omega), rI (by omega)]
  · rw [off _ _ _ _ _ _ (by omega), off _ _ _ _ _ _ (by omega), off _ _ _ _ _ _ (by omega), rI (by omega)]
    rcases (show i = 1 ∨ i = 2 ∨ i = 3 ∨ i = 4 ∨ i = 5 from by omega) with rfl | rfl | rfl | rfl | rfl
    · rw [off _ _ _ _ _ _ (by omega), off _ _ _ _ _ _ (by omega), off _ _ _ _ _ _ (by omega), off _ _ _ _ _ _ (by omega), on _ _ _ _ _ hb, rI (by omega), rI (by omega)]
    · rw [off _ _ _ _ _ _ (by omega), off _ _ _ _ _ _ (by omega), off _ _ _ _ _ _ (by omega), on _ _ _ _ _ hb, off _ _ _ _ _ _ (by omega), rI (by omega), rI (by omega)]
    · rw [off _ _ _ _ _ _ (by omega), off _ _ _ _ _ _ (by omega), on _ _ _ _ _ hb, off _ _ _ _ _ _ (by omega), off _ _ _ _ _ _ (by omega), rI (by omega), rI (by omega)]
    · rw [off _ _ _ _ _ _ (by omega), on _ _ _ _ _ hb, off _ _ _ _ _ _ (by omega), off _ _ _ _ _ _ (by omega), off _ _ _ _ _ _ (by omega), rI (by omega), rI (by omega)]
    · rw [on _ _ _ _ _ hb, off _ _ _ _ _ _ (by omega), off _ _ _ _ _ _ (by omega), off _ _ _ _ _ _ (by omega), off _ _ _ _ _ _ (by omega), rI (by omega), rI (by omega)]
  · have low : ∀ c j, (c < a0 ∨ a0 + 6 ≤ c) → mI (sI (cpI (cpI (cpI (cpI (cpI (sI (sI M a0 0 (mI M a1 0)) a0 1 (mI (sI M a0 0 (mI M a1 0)) a1 1)) (a1 + 1) (a0 + 1) 0 0 8) (a1 + 2) (a0 + 2) 0 0 8) (a1 + 3) (a0 + 3) 0 0 8) (a1 + 4) (a0 + 4) 0 0 8) (a1 + 5) (a0 + 5) 0 0 8) a0 7 (mI (cpI (cpI (cpI (cpI (cpI (sI (sI M a0 0 (mI M a1 0)) a0 1 (mI (sI M a0 0 (mI M a1 0)) a1 1)) (a1 + 1) (a0 + 1) 0 0 8) (a1 + 2) (a0 + 2) 0 0 8) (a1 + 3) (a0 + 3) 0 0 8) (a1 + 4) (a0 + 4) 0 0 8) (a1 + 5) (a0 + 5) 0 0 8) a1 7)) c j = mI M c j := fun c j hc => by
      rw [rI (by omega), off _ _ _ _ _ _ (by omega), off _ _ _ _ _ _ (by omega), off _ _ _ _ _ _ (by omega), off _ _ _ _ _ _ (by omega), off _ _ _ _ _ _ (by omega), rI (by omega), rI (by omega)]
    rcases (show i = 6 ∨ i = 7 ∨ i = 8 from by omega) with rfl | rfl | rfl
    · rw [off _ _ _ _ _ _ (by omega), off _ _ _ _ _ _ (by omega), on _ _ _ _ _ hb, low _ _ (by omega)]
    · rw [off _ _ _ _ _ _ (by omega), on _ _ _ _ _ hb, off _ _ _ _ _ _ (by omega), low _ _ (by omega)]
    · rw [on _ _ _ _ _ hb, off _ _ _ _ _ _ (by omega), off _ _ _ _ _ _ (by omega), low _ _ (by omega)]
/-- the references to the states: all twenty of them, each once -/
def prm (M : pm) : Prop := ∃ σ : Nat → Nat, (∀ i, i < 20 → σ i < 20 ∧ mR M 76 i = 77 + 9 * σ i) ∧ ∀ i j, i < 20 → j < 20 → σ i = σ j → i = j
/-- the class's history in M', one act behind M (u acts there) -/
def remC (M M' : pm) (u : Nat) : Prop := mI M' 75 1 = nI (min 20 (u + 1)) ∧ prm M' ∧ eqS M 57 M' (mR M' 76 (min 20 (u + 1) - 1)) ∧ ∀ j, 1 ≤ j → j < min 20 (u + 1) → mR M' 76 (min 20 (u + 1) - 1 - j) = mR M 76 (u - j) ∧ ∀ b, b < 9 → mI M' (mR M 76 (u - j) + b) = mI M (mR M 76 (u - j) + b)
theorem c_rot {M : pm} {Q : pm → Prop} {a1 a2 : Nat} {k44 : Nat → Nat → pm → Prop} (k : ∀ M', mL M' = mL M → mJ M' = mJ M → mI M' = mI M → (∀ c, c ≠ 76 → mR M' c = mR M c) → (∀ i, i < 19 → mR M' 76 i = mR M 76 (i + 1)) → k44 a1 a2 M') : ∃ n, w_X0_remember_18 n a1 a2 1 M k44 Q := by
  have key : ∀ d n i M1, i + d = 20 → 1 ≤ i → d < n → mL M1 = mL M → mJ M1 = mJ M → mI M1 = mI M → (∀ c, c ≠ 76 → mR M1 c = mR M c) → (∀ j, j + 1 < i → mR M1 76 j = mR M 76 (j + 1)) → (∀ j, i ≤ j + 1 → mR M1 76 j = mR M 76 j) → w_X0_remember_18 n a1 a2 (nI i) M1 k44 Q := by
    intro d
    induction d with
    | zero =>
      intro n i M1 hi h1 hn e1 e2 e3 e4 e5 e6
      obtain ⟨n, rfl⟩ : ∃ n', n = n' + 1 := ⟨n - 1, by omega⟩
      unfold w_X0_remember_18
      exact k_yes (nI_le (a := 20) (by omega) (by omega)) (k M1 e1 e2 e3 e4 (fun j hj => e5 j (by omega)))
    | succ d ih =>
      intro n i M1 hi h1 hn e1 e2 e3 e4 e5 e6
      obtain ⟨n, rfl⟩ : ∃ n', n = n' + 1 := ⟨n - 1, by omega⟩
      unfold w_X0_remember_18
      have e : nI i - 1 = nI (i - 1) := pk_sub (a := i) (b := 1) h1
      rw [e, nI_1, nI_clamp (by omega), nI_clamp (by omega)]
      refine k_no (nI_ge (b := 20) (by omega) (by decide)) ⟨vp_in_nI (by omega) (by decide), vp_in_nI (by omega) (by decide), ih n (i + 1) _ (by omega) (by omega) (by omega) e1 e2 e3 (fun c hc => by rw [mR_off hc]; exact e4 c hc) (fun j hj => ?_) (fun j hj => ?_)⟩
      · rw [mR_sR]
        by_cases q : j = i - 1
        · rw [if_pos ⟨rfl, q⟩, e6 i (by omega)]; congr 1; omega
        · rw [if_neg (fun z => q z.2)]; exact e5 j (by omega)
      · rw [mR_sR, if_neg (by omega)]; exact e6 j (by omega)
  exact ⟨20, key 19 20 1 M (by omega) (by omega) (by omega) rfl rfl rfl (fun _ _ => rfl) (fun j hj => by omega) (fun _ _ => rfl)⟩
theorem c_remember {M : pm} {u : Nat} (hu : u ≤ 20) (h75 : mI M 75 1 = nI u) (hp : prm M) {Q : pm → Prop} (k : ∀ M', mL M' = mL M → mJ M' = mJ M → (∀ c, c ≠ 76 → mR M' c = mR M c) → (∀ c, c < 75 ∨ 257 ≤ c → mI M' c = mI M c) → remC M M' u → Q M') : w_X0_remember 57 M Q := by
  obtain ⟨σ, h1, h2⟩ := hp
  by_cases h : u < 20
  · refine k_yes (by rw [h75]; exact nI_lt (b := 20) h (by decide)) ?_
    unfold w_X0_remember_58
    rw [h75, nI_clamp (by omega), (h1 u h).2]
    have hs := (h1 u h).1
    refine ⟨vp_in_nI (by omega) (by decide), c_copyAll (by omega) (fun M' e1 e2 e3 e4 e5 => ?_)⟩
    have em : min 20 (u + 1) = u + 1 := by omega
    refine k _ e1 e3 (fun c _ => by rw [show mR (sI M' 75 1 (mI M' 75 1 + 1)) c = mR M' c from rfl, e2]) (fun c hc => by rw [mI_off (by omega)]; exact e4 c (by omega)) ?_
    have e75 : mI M' 75 = mI M 75 := e4 75 (by omega)
    have fI : ∀ c, c ≠ 75 → mI (sI M' 75 1 (mI M' 75 1 + 1)) c = mI M' c := fun c hc => mI_off hc
    unfold remC
    rw [em, show u + 1 - 1 = u from rfl]
    refine ⟨by rw [rIs, e75, h75, nI_1], ⟨σ, fun i hi => ⟨(h1 i hi).1, by rw [show mR (sI M' 75 1 (mI M' 75 1 + 1)) 76 i = mR M' 76 i from rfl, e2]; exact (h1 i hi).2⟩, h2⟩, ?_, fun j j1 j2 => ⟨?_, fun b hb => ?_⟩⟩
    · rw [show mR (sI M' 75 1 (mI M' 75 1 + 1)) 76 u = mR M' 76 u from rfl, e2, (h1 u h).2]
      obtain ⟨g1, g2, g3, g4, g5⟩ := e5
      refine ⟨by rw [fI _ (by omega)]; exact g1, by rw [fI _ (by omega)]; exact g2, by rw [fI _ (by omega)]; exact g3, fun i b i1 i2 hb => by rw [fI _ (by omega)]; exact g4 i b i1 i2 hb, fun i b i1 i2 hb => by rw [fI _ (by omega)]; exact g5 i b i1 i2 hb⟩
    · rw [show mR (sI M' 75 1 (mI M' 75 1 + 1)) 76 (u - j) = mR M' 76 (u - j) from rfl, e2]
    · have hj := h1 (u - j) (by omega)
      have ne : σ (u - j) ≠ σ u := fun q => by have := h2 _ _ (by omega) h q; omega
      rw [hj.2, fI _ (by omega)]
      exact e4 _ (by omega)
  · have hu20 : u = 20 := by omega
    subst hu20
    refine k_no (by rw [h75]; decide) (c_rot (fun M1 e1 e2 e3 e4 e5 => ?_))
    have hs := (h1 0 (by decide)).1
    have m19 : mR (sI (sR M1 76 19 (mR M 76 0)) 75 1 19) 76 19 = 77 + 9 * σ 0 := by
      rw [show mR (sI (sR M1 76 19 (mR M 76 0)) 75 1 19) 76 19 = mR (sR M1 76 19 (mR M 76 0)) 76 19 from rfl, mR_sR, if_pos ⟨rfl, rfl⟩]
      exact (h1 0 (by decide)).2
    have mlo : ∀ i, i < 19 → mR (sI (sR M1 76 19 (mR M 76 0)) 75 1 19) 76 i = mR M 76 (i + 1) := fun i hi => by
      rw [show mR (sI (sR M1 76 19 (mR M 76 0)) 75 1 19) 76 i = mR (sR M1 76 19 (mR M 76 0)) 76 i from rfl, mR_sR, if_neg (by omega)]
      exact e5 i hi
    have mI1 : ∀ c, c ≠ 75 → mI (sI (sR M1 76 19 (mR M 76 0)) 75 1 19) c = mI M c := fun c hc => by
      rw [mI_off hc]
      show mI M1 c = _
      rw [e3]
    unfold w_X0_remember_58
    rw [rIs, show (19 : Int32).toNatClampNeg = 19 from by decide, m19]
    refine ⟨vp_in_nI (n := 19) (by decide) (by decide), c_copyAll (by omega) (fun M' g1 g2 g3 g4 g5 => ?_)⟩
    have fI : ∀ c, c ≠ 75 → mI (sI M' 75 1 (mI M' 75 1 + 1)) c = mI M' c := fun c hc => mI_off hc
    have e75 : mI M' 75 1 = 19 := by rw [g4 75 (by omega), rIs]
    have m' : ∀ c i, mR (sI M' 75 1 (mI M' 75 1 + 1)) c i = mR (sI (sR M1 76 19 (mR M 76 0)) 75 1 19) c i := fun c i => by
      show mR M' c i = _
      rw [g2]
    refine k _ (by show mL M' = _; rw [g1]; exact e1) (by show mJ M' = _; rw [g3]; exact e2) (fun c hc => funext fun i => by rw [m' c i]; show mR (sR M1 76 19 (mR M 76 0)) c i = _; rw [mR_off hc, e4 c hc]) (fun c hc => by rw [fI _ (by omega), g4 c (by omega)]; exact mI1 c (by omega)) ?_
    unfold remC
    rw [show min 20 (20 + 1) = 20 from rfl, show 20 - 1 = 19 from rfl]
    refine ⟨by rw [rIs, e75]; rfl, ⟨fun i => if i < 19 then σ (i + 1) else σ 0, fun i hi => ?_, fun i j hi hj hij => ?_⟩, ?_, fun j j1 j2 => ⟨?_, fun b hb => ?_⟩⟩
    · rw [m']
      dsimp only
      by_cases q : i < 19
      · rw [if_pos q, mlo i q]; exact h1 (i + 1) (by omega)
      · rw [if_neg q, show i = 19 from by omega, m19]; exact ⟨hs, rfl⟩
    · dsimp only at hij
      by_cases q : i < 19
      · rw [if_pos q] at hij
        by_cases q2 : j < 19
        · rw [if_pos q2] at hij
          have := h2 _ _ (by omega) (by omega) hij; omega
        · rw [if_neg q2] at hij
          have := h2 _ _ (by omega) (by omega) hij; omega
      · rw [if_neg q] at hij
        by_cases q2 : j < 19
        · rw [if_pos q2] at hij
          have := h2 _ _ (by omega) (by omega) hij; omega
        · omega
    · rw [m', m19]
      obtain ⟨k1, k2, k3, k4, k5⟩ := g5
      refine ⟨by rw [fI _ (by omega), k1, mI1 _ (by omega)], by rw [fI _ (by omega), k2, mI1 _ (by omega)], by rw [fI _ (by omega), k3, mI1 _ (by omega)], fun i b i1 i2 hb => by rw [fI _ (by omega), k4 i b i1 i2 hb, mI1 _ (by omega)], fun i b i1 i2 hb => by rw [fI _ (by omega), k5 i b i1 i2 hb, mI1 _ (by omega)]⟩
    · rw [m', mlo _ (by omega)]; congr 1; omega
    · have hj := h1 (20 - j) (by omega)
      have ne : σ (20 - j) ≠ σ 0 := fun q => by have := h2 _ _ (by omega) (by decide) q; omega
      rw [hj.2, fI _ (by omega), g4 _ (by omega)]
      exact mI1 _ (by omega)
/-- the reference's history in M', one act behind M -/
def remM (M M' : pm) (u w : Nat) : Prop := mI M' 277 69 = nI (min 20 (u + 1)) ∧ mI M' 277 70 = nI ((w + 1) % 20) ∧ ∀ j, mI M' 325 j = if 163 * ((w + 1) % 20) ≤ j ∧ j < 163 * ((w + 1) % 20) + 163 then mI M 317 (j - 163 * ((w + 1) % 20)) else mI M 325 j
theorem irm_n {a d : Nat} (ha : a < 2 ^ 31) (h0 : 0 < d) (hd : d < 2 ^ 31) : irm (nI a) (nI d) = nI (a % d) := pk_rem ha h0 hd
theorem m_keeps {M : pm} {u w : Nat} (hu : u ≤ 20) (hw : w < 20) (h69 : mI M 277 69 = nI u) (h70 : mI M 277 70 = nI w) {Q : pm → Prop} (k : ∀ M', mL M' = mL M → mR M' = mR M → mJ M' = mJ M → (∀ c, c ≠ 277 → c ≠ 325 → mI M' c = mI M c) → (∀ j, j ≠ 69 → j ≠ 70 → mI M' 277 j = mI M 277 j) → remM M M' u w → Q M') : w_X8_keeps M Q := by
  have hw' : (w + 1) % 20 < 20 := Nat.mod_lt _ (by decide)
  have key : ∀ d n i M1, i + d = 163 → d < n → mL M1 = mL M → mR M1 = mR M → mJ M1 = mJ M → (∀ c, c ≠ 277 → c ≠ 325 → mI M1 c = mI M c) → (∀ j, j ≠ 70 → mI M1 277 j = mI M 277 j) → mI M1 277 70 = nI ((w + 1) % 20) → (∀ j, mI M1 325 j = if 163 * ((w + 1) % 20) ≤ j ∧ j < 163 * ((w + 1) % 20) + i then mI M 317 (j - 163 * ((w + 1) % 20)) else mI M 325 j) → w_X8_keeps_15 n (nI i) M1 Q := by
    intro d
    induction d with
    | zero =>
      intro n i M1 hi hn e1 e2 e3 e4 e5 e6 e7
      obtain ⟨n, rfl⟩ : ∃ n', n = n' + 1 := ⟨n - 1, by omega⟩
      have hi' : i = 163 := by omega
      subst hi'
      unfold w_X8_keeps_15
      rw [e5 69 (by decide), h69]
      refine k_yes (by decide) (pk_le 20 u (fun q => ?_) (fun q => ?_))
      · refine k M1 e1 e2 e3 e4 (fun j _ hj => e5 j hj) ⟨?_, e6, e7⟩
        rw [e5 69 (by decide), h69]; congr 1; omega
      · refine k _ e1 e2 e3 (fun c h1 h2 => by rw [mI_off h1]; exact e4 c h1 h2) (fun j h1 h2 => by rw [rI (by omega)]; exact e5 j h2) ⟨?_, ?_, fun j => ?_⟩
        · rw [rIs, nI_1]; congr 1; omega
        · rw [rI (by omega)]; exact e6
        · rw [rI (by omega)]; exact e7 j
    | succ d ih =>
      intro n i M1 hi hn e1 e2 e3 e4 e5 e6 e7
      obtain ⟨n, rfl⟩ : ∃ n', n = n' + 1 := ⟨n - 1, by omega⟩
      unfold w_X8_keeps_15
      have ei : (163 : Int32) * nI ((w + 1) % 20) + nI i = nI (163 * ((w + 1) % 20) + i) := by rw [show (163 : Int32) = nI 163 from rfl, pk_mul, nI_add]
      rw [e6, ei, nI_1, nI_clamp (by omega), nI_clamp (by omega)]
      refine k_no (nI_ge (b := 163) (by omega) (by decide)) ⟨vp_in_nI (by omega) (by decide), vp_in_nI (by omega) (by decide), ih n (i + 1) _ (by omega) (by omega) e1 e2 e3 (fun c h1 h2 => by rw [mI_off h2]; exact e4 c h1 h2) (fun j hj => by rw [rI (by omega)]; exact e5 j hj) (by rw [rI (by omega)]; exact e6) (fun j => ?_)⟩
      rw [mI_sI]
      by_cases q : j = 163 * ((w + 1) % 20) + i
      · rw [if_pos ⟨rfl, q⟩, if_pos (by omega), e4 317 (by decide) (by decide)]; congr 1; omega
      · rw [if_neg (fun z => q z.2), e7 j]
        by_cases q2 : 163 * ((w + 1) % 20) ≤ j ∧ j < 163 * ((w + 1) % 20) + i
        · rw [if_pos q2, if_pos (by omega)]
        · rw [if_neg q2, if_neg (by omega)]
  unfold w_X8_keeps
  rw [h70, nI_1, show irm (nI (w + 1)) 20 = nI ((w + 1) % 20) from irm_n (d := 20) (by omega) (by decide) (by decide)]
  refine ⟨164, key 163 164 0 _ (by omega) (by omega) rfl rfl rfl (fun c h1 _ => mI_off h1) (fun j hj => rI (by omega)) (rIs _ _ _ _) (fun j => ?_)⟩
  rw [rI (by omega), if_neg (by omega)]
/-- the two histories go on together -/
theorem hist_step {M M2 : pm} {ns na u w : Nat} (h8 : na ≤ 8) (hu : u ≤ 20) (hw : w < 20) (hst : stR M 57 (mI M 317) ns na) (hkt : ktR M 57 (mI M 317)) (hj : ∀ j, j < u → stR M (mR M 76 (u - 1 - j)) (fun k => mI M 325 (163 * ((w + 20 - j) % 20) + k)) ns na ∧ ktR M (mR M 76 (u - 1 - j)) (fun k => mI M 325 (163 * ((w + 20 - j) % 20) + k))) (c : remC M M2 u) (m : remM M M2 u w) : iHist M2 ns na := by
  have hw' : (w + 1) % 20 < 20 := Nat.mod_lt _ (by decide)
  obtain ⟨m1, m2, m3⟩ := m
  obtain ⟨c1, c2, c3, c4⟩ := c
  refine ⟨min 20 (u + 1), (w + 1) % 20, by omega, hw', c1, m1, m2, c2, fun j hj2 => ?_⟩
  by_cases q : j = 0
  · subst q
    have eg : ∀ k, k < 163 → (fun k => mI M2 325 (163 * (((w + 1) % 20 + 20 - 0) % 20) + k)) k = mI M 317 k := fun k hk => by
      dsimp only
      rw [show ((w + 1) % 20 + 20 - 0) % 20 = (w + 1) % 20 from by omega, m3, if_pos (by omega)]; congr 1; omega
    rw [show min 20 (u + 1) - 1 - 0 = min 20 (u + 1) - 1 from rfl]
    exact ⟨stR_eq h8 c3 (fun k hk => eg k (by omega)) hst, ktR_eq c3 eg hkt⟩
  · obtain ⟨d1, d2⟩ := c4 j (by omega) hj2
    obtain ⟨g1, g2⟩ := hj (j - 1) (by omega)
    rw [show u - 1 - (j - 1) = u - j from by omega] at g1 g2
    have er : ((w + 1) % 20 + 20 - j) % 20 = (w + 20 - (j - 1)) % 20 := by omega
    have ne : ((w + 1) % 20 + 20 - j) % 20 ≠ (w + 1) % 20 := by omega
    have lt : ((w + 1) % 20 + 20 - j) % 20 < 20 := Nat.mod_lt _ (by decide)
    have eg : ∀ k, k < 163 → (fun k => mI M2 325 (163 * (((w + 1) % 20 + 20 - j) % 20) + k)) k = (fun k => mI M 325 (163 * ((w + 20 - (j - 1)) % 20) + k)) k := fun k hk => by
      dsimp only
      rw [m3, if_neg (by omega), er]
    have es : eqS M (mR M 76 (u - j)) M2 (mR M 76 (u - j)) := by
      have d0 := d2 0 (by decide)
      rw [Nat.add_zero] at d0
      exact ⟨by rw [d0], by rw [d0], by rw [d0], fun i b _ h2 _ => by rw [d2 i (by omega)], fun i b _ h2 _ => by rw [d2 i (by omega)]⟩
    rw [d1]
    exact ⟨stR_eq h8 es (fun k hk => eg k (by omega)) g1, ktR_eq es eg g2⟩
/-- the state as both sides have it -/
theorem stR_of {M : pm} {D S : Nat → Nat} (hc : sC M 57 D S) (hm : sM M D S) (hS : okS D S) (h9 : S 0 ≤ 999) : stR M 57 (mI M 317) (D 1) (D 2) := by
  refine ⟨S 0, S 1, h9, hS.2.1, hc.1, hm 0 (by omega), hc.2.1, hm 1 (by omega), fun b hb => ?_⟩
  obtain ⟨s1, s2, s3, s4, s5⟩ := hS.2.2 b hb
  obtain ⟨c1, c2, c3, c4, c5⟩ := hc.2.2 b hb
  exact ⟨_, _, _, _, _, s1, s2, s3, s4, s5, c1, hm _ (by omega), c2, hm _ (by omega), c3, hm _ (by omega), c4, hm _ (by omega), c5, hm _ (by omega)⟩
/-- what an act may change -/
def actA (a : Nat) : Prop := scrA a ∨ (57 ≤ a ∧ a < 66) ∨ (75 ≤ a ∧ a < 257) ∨ a = 317 ∨ a = 325 ∨ a = 277 ∨ a = 3
def actK (k : Nat) : Prop := scrK k ∨ k = 69 ∨ k = 70
theorem Inv_act {M M2 : pm} (hI : Inv M) (hL : mL M2 = mL M) (hR : ∀ c, c ≠ 76 → mR M2 c = mR M c) (hA : ∀ a, ¬ actA a → mI M2 a = mI M a) (hK : ∀ k, ¬ actK k → mI M2 277 k = mI M 277 k) (h3 : ∀ k, k ≠ 18 → mI M2 3 k = mI M 3 k) (hJ : mJ M2 310 = mJ M 310) (hs : iSeed M2) (hn : ∀ t ns na ne hr, iSta M t ns na ne hr → iNow M ns na → iHist M ns na → iNow M2 ns na ∧ iHist M2 ns na) : Inv M2 := by
  obtain ⟨i1, i2, i3, i4, i5, i6, i7, t, ns, na, ne, hr, i8, i9, i10, i11⟩ := hI
  have r : ∀ a, ¬ scrA a → ¬ ((57 ≤ a ∧ a < 66) ∨ (75 ≤ a ∧ a < 257) ∨ a = 317 ∨ a = 325 ∨ a = 277 ∨ a = 3) → mI M2 a = mI M a := fun a h1 h2 => hA a (fun q => q.elim h1 h2)
  have k : ∀ j, ¬ scrK j → j ≠ 69 → j ≠ 70 → mI M2 277 j = mI M 277 j := fun j h1 h2 h3 => hK j (fun q => q.elim h1 (fun z => z.elim h2 h3))
  have ht : t = 14 ∨ t = 29 := by rcases i8.1 with h | h <;> omega
  obtain ⟨n1, n2⟩ := hn t ns na ne hr i8 i9 i11
  exact ⟨by rw [hL]; exact i1, iTape_c (h3 1 (by decide)) (k 1 (by unfold scrK; omega) (by decide) (by decide)) (r 4 (by unfold scrA; omega) (by omega)) (r 278 (by unfold scrA; omega) (by omega)) i2, iFlt_c (h3 6 (by decide)) (h3 7 (by decide)) (k 7 (by unfold scrK; omega) (by decide) (by decide)) (k 8 (by unfold scrK; omega) (by decide) (by decide)) i3, iRef_c (r 276 (by unfold scrA; omega) (by omega)) (r 279 (by unfold scrA; omega) (by omega)) i4, hs, iPic_c (h3 16 (by decide)) (k 106 (by unfold scrK; omega) (by decide) (by decide)) (r 275 (by unfold scrA; omega) (by omega)) (r 352 (by unfold scrA; omega) (by omega)) i6, iWrd_c (r 7 (by unfold scrA; omega) (by omega)) (fun a ha => r a (by unfold scrA; omega) (by omega)) i7, t, ns, na, ne, hr, iSta_c (fun b b1 b2 => r b (by unfold scrA; omega) (by omega)) (fun b b1 b2 b3 => r b (by unfold scrA; omega) (by omega)) hJ (h3 5 (by decide)) (k 50 (by unfold scrK; omega) (by decide) (by decide)) (by rw [hR 3 (by decide)]) (by rw [hR 3 (by decide)]) i8, n1, iSeen_c (fun b b1 b2 => r b (by unfold scrA; omega) (by omega)) (r 322 (by unfold scrA; omega) (by omega)) (h3 13 (by decide)) (k 63 (by unfold scrK; omega) (by decide) (by decide)) i10, n2⟩
