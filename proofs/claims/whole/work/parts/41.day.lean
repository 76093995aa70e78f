/-! a day: what it makes of a state -/
def dyR (S : Nat → Nat) (set b k : Nat) : Nat := if 2 ≤ k ∧ (k - 2) / 5 < b ∧ set.testBit ((k - 2) / 5) = true then (if (k - 2) % 5 = 3 then S 0 + 1 else if (k - 2) % 5 = 4 then min 999 (S k + 1) else S k) else S k
def silA (D S : Nat → Nat) (set : Nat) : Nat := min (D 0 - mnS D S set (D 2)) (S 1)
def dy1 (D S : Nat → Nat) (set k : Nat) : Nat := if k = 1 then S 1 - silA D S set else dyR S set (D 2) k
def dyQ (D S : Nat → Nat) (P : Nat → List Nat) (set b k : Nat) : Nat := if 2 ≤ k ∧ (k - 2) / 5 < b ∧ (k - 2) % 5 = 2 ∧ S (3 + 5 * ((k - 2) / 5)) ≤ S 0 then fadA D (dy1 D S set) P ((k - 2) / 5) else dy1 D S set k
def dayA (D S : Nat → Nat) (P : Nat → List Nat) (set k : Nat) : Nat := if k = 0 then S 0 + 1 else dyQ D S P set (D 2) k
def dayC (D S : Nat → Nat) (P : Nat → List Nat) (set k : Nat) : Nat := if k = 0 then min 999 (S 0 + 1) else dyQ D S P set (D 2) k
theorem dayC_eq {D S : Nat → Nat} {P : Nat → List Nat} {set : Nat} (h : S 0 < 999) : dayC D S P set = dayA D S P set := by
  funext k
  unfold dayC dayA
  rw [show min 999 (S 0 + 1) = S 0 + 1 from by omega]
theorem ix_d {j b : Nat} (h1 : 2 ≤ j) (h2 : j < 7) : 2 ≤ j + 5 * b ∧ (j + 5 * b - 2) / 5 = b ∧ (j + 5 * b - 2) % 5 = j - 2 := by omega
theorem dyR_j {S : Nat → Nat} {set b q j : Nat} (h1 : 2 ≤ j) (h2 : j < 7) : dyR S set b (j + 5 * q) = if q < b ∧ set.testBit q = true then (if j = 5 then S 0 + 1 else if j = 6 then min 999 (S (j + 5 * q) + 1) else S (j + 5 * q)) else S (j + 5 * q) := by
  unfold dyR
  obtain ⟨e1, e2, e3⟩ := ix_d (b := q) h1 h2
  rw [e2, e3]
  by_cases h : q < b ∧ set.testBit q = true
  · rw [if_pos h, if_pos ⟨e1, h⟩]
    by_cases q5 : j = 5
    · rw [if_pos (by omega), if_pos q5]
    · rw [if_neg (by omega), if_neg q5]
      by_cases q6 : j = 6
      · rw [if_pos (by omega), if_pos q6]
      · rw [if_neg (by omega), if_neg q6]
  · rw [if_neg h, if_neg (fun z => h z.2)]
theorem dyR_2 {S : Nat → Nat} {set b q : Nat} : dyR S set b (2 + 5 * q) = S (2 + 5 * q) := by
  rw [dyR_j (by decide) (by decide)]
  split <;> rfl
theorem dyR_3 {S : Nat → Nat} {set b q : Nat} : dyR S set b (3 + 5 * q) = S (3 + 5 * q) := by
  rw [dyR_j (by decide) (by decide)]
  split <;> rfl
theorem dyR_4 {S : Nat → Nat} {set b q : Nat} : dyR S set b (4 + 5 * q) = S (4 + 5 * q) := by
  rw [dyR_j (by decide) (by decide)]
  split <;> rfl
theorem dyR_5 {S : Nat → Nat} {set b q : Nat} : dyR S set b (5 + 5 * q) = if q < b ∧ set.testBit q = true then S 0 + 1 else S (5 + 5 * q) := by
  rw [dyR_j (by decide) (by decide)]
  split <;> rfl
theorem dyR_6 {S : Nat → Nat} {set b q : Nat} : dyR S set b (6 + 5 * q) = if q < b ∧ set.testBit q = true then min 999 (S (6 + 5 * q) + 1) else S (6 + 5 * q) := by
  rw [dyR_j (by decide) (by decide)]
  split <;> rfl
theorem dyR_0 {S : Nat → Nat} {set b : Nat} : dyR S set b 0 = S 0 := by unfold dyR; rw [if_neg (by omega)]
theorem dyR_1 {S : Nat → Nat} {set b : Nat} : dyR S set b 1 = S 1 := by unfold dyR; rw [if_neg (by omega)]
theorem dy1_0 {D S : Nat → Nat} {set : Nat} : dy1 D S set 0 = S 0 := by unfold dy1; rw [if_neg (by decide)]; exact dyR_0
theorem dy1_j {D S : Nat → Nat} {set b j : Nat} (h : 2 ≤ j) : dy1 D S set (j + 5 * b) = dyR S set (D 2) (j + 5 * b) := by unfold dy1; rw [if_neg (by omega)]
theorem dyQ_j {D S : Nat → Nat} {P : Nat → List Nat} {set b q j : Nat} (h1 : 2 ≤ j) (h2 : j < 7) : dyQ D S P set b (j + 5 * q) = if q < b ∧ j = 4 ∧ S (3 + 5 * q) ≤ S 0 then fadA D (dy1 D S set) P q else dy1 D S set (j + 5 * q) := by
  unfold dyQ
  obtain ⟨e1, e2, e3⟩ := ix_d (b := q) h1 h2
  rw [e2, e3]
  by_cases h : q < b ∧ j = 4 ∧ S (3 + 5 * q) ≤ S 0
  · rw [if_pos h, if_pos ⟨e1, h.1, by omega, h.2.2⟩]
  · rw [if_neg h, if_neg (fun z => h ⟨z.2.1, by omega, z.2.2.2⟩)]
theorem dyQ_2 {D S : Nat → Nat} {P : Nat → List Nat} {set b q : Nat} : dyQ D S P set b (2 + 5 * q) = dy1 D S set (2 + 5 * q) := by rw [dyQ_j (by decide) (by decide), if_neg (by omega)]
theorem dyQ_3 {D S : Nat → Nat} {P : Nat → List Nat} {set b q : Nat} : dyQ D S P set b (3 + 5 * q) = dy1 D S set (3 + 5 * q) := by rw [dyQ_j (by decide) (by decide), if_neg (by omega)]
theorem dyQ_5 {D S : Nat → Nat} {P : Nat → List Nat} {set b q : Nat} : dyQ D S P set b (5 + 5 * q) = dy1 D S set (5 + 5 * q) := by rw [dyQ_j (by decide) (by decide), if_neg (by omega)]
theorem dyQ_6 {D S : Nat → Nat} {P : Nat → List Nat} {set b q : Nat} : dyQ D S P set b (6 + 5 * q) = dy1 D S set (6 + 5 * q) := by rw [dyQ_j (by decide) (by decide), if_neg (by omega)]
theorem dyQ_4 {D S : Nat → Nat} {P : Nat → List Nat} {set b q : Nat} : dyQ D S P set b (4 + 5 * q) = if q < b ∧ S (3 + 5 * q) ≤ S 0 then fadA D (dy1 D S set) P q else dy1 D S set (4 + 5 * q) := by
  rw [dyQ_j (by decide) (by decide)]
  by_cases h : q < b ∧ S (3 + 5 * q) ≤ S 0
  · rw [if_pos h, if_pos ⟨h.1, rfl, h.2⟩]
  · rw [if_neg h, if_neg (fun z => h ⟨z.1, z.2.2⟩)]
theorem dyQ_0 {D S : Nat → Nat} {P : Nat → List Nat} {set b : Nat} : dyQ D S P set b 0 = S 0 := by unfold dyQ; rw [if_neg (by omega)]; exact dy1_0
theorem dyQ_1 {D S : Nat → Nat} {P : Nat → List Nat} {set b : Nat} : dyQ D S P set b 1 = S 1 - silA D S set := by unfold dyQ dy1; rw [if_neg (by omega), if_pos rfl]
theorem dyQ_z {D S : Nat → Nat} {P : Nat → List Nat} {set : Nat} : dyQ D S P set 0 = dy1 D S set := by funext k; unfold dyQ; rw [if_neg (by omega)]
theorem dyR_z {S : Nat → Nat} {set : Nat} : dyR S set 0 = S := by funext k; unfold dyR; rw [if_neg (by omega)]
theorem fadA_le {D S : Nat → Nat} {P : Nat → List Nat} {b : Nat} : fadA D S P b ≤ 99 := by unfold fadA; split <;> (try split) <;> omega
theorem okS_R {D S : Nat → Nat} {set b : Nat} (h : okS D S) : okS D (dyR S set b) := by
  refine ⟨by rw [dyR_0]; exact h.1, by rw [dyR_1]; exact h.2.1, fun q hq => ?_⟩
  have := h.2.2 q hq
  rw [dyR_0, dyR_2, dyR_3, dyR_4, dyR_5, dyR_6]
  refine ⟨this.1, this.2.1, this.2.2.1, ?_, ?_⟩ <;> split <;> omega
theorem okS_1 {D S : Nat → Nat} {set : Nat} (h : okS D S) : okS D (dy1 D S set) := by
  have h' := okS_R (set := set) (b := D 2) h
  refine ⟨by rw [dy1_0]; exact h.1, ?_, fun q hq => ?_⟩
  · unfold dy1; rw [if_pos rfl]; have := h.2.1; omega
  · have := h'.2.2 q hq
    rw [dyR_0] at this
    rw [dy1_0, dy1_j (by decide), dy1_j (by decide), dy1_j (by decide), dy1_j (by decide), dy1_j (by decide)]
    exact this
theorem okS_Q {D S : Nat → Nat} {P : Nat → List Nat} {set b : Nat} (h : okS D S) : okS D (dyQ D S P set b) := by
  have h' := okS_1 (set := set) h
  refine ⟨by rw [dyQ_0]; exact h.1, ?_, fun q hq => ?_⟩
  · rw [dyQ_1]; have := h.2.1; omega
  · have := h'.2.2 q hq
    rw [dy1_0] at this
    rw [dyQ_0, dyQ_2, dyQ_3, dyQ_4, dyQ_5, dyQ_6]
    refine ⟨this.1, this.2.1, ?_, this.2.2.2⟩
    split
    · exact fadA_le
    · exact this.2.2.1
theorem dayA_j {D S : Nat → Nat} {P : Nat → List Nat} {set q j : Nat} (h1 : 2 ≤ j) : dayA D S P set (j + 5 * q) = dyQ D S P set (D 2) (j + 5 * q) := by unfold dayA; rw [if_neg (by omega)]
theorem okS_A {D S : Nat → Nat} {P : Nat → List Nat} {set : Nat} (h : okS D S) (h2 : S 0 < 2000) : okS D (dayA D S P set) := by
  have h' := okS_Q (P := P) (set := set) (b := D 2) h
  have e0 : dayA D S P set 0 = S 0 + 1 := if_pos rfl
  refine ⟨by rw [e0]; omega, ?_, fun q hq => ?_⟩
  · have := h'.2.1
    unfold dayA; rw [if_neg (by decide)]; exact this
  · have := h'.2.2 q hq
    rw [dyQ_0] at this
    rw [e0, dayA_j (by decide), dayA_j (by decide), dayA_j (by decide), dayA_j (by decide), dayA_j (by decide)]
    omega
theorem fF_c {D S S' : Nat → Nat} {b on : Nat} (h0 : S' 0 = S 0) (hj : ∀ j, 2 ≤ j → j < 7 → S' (j + 5 * b) = S (j + 5 * b)) : fF D S' b on = fF D S b on := by
  funext k
  unfold fF fFN sinN
  rw [h0, hj 2 (by decide) (by decide), hj 3 (by decide) (by decide), hj 4 (by decide) (by decide), hj 5 (by decide) (by decide), hj 6 (by decide) (by decide)]
theorem vA_c {D S S' : Nat → Nat} {P : Nat → List Nat} {b p : Nat} (h0 : S' 0 = S 0) (hj : ∀ j, 2 ≤ j → j < 7 → S' (j + 5 * b) = S (j + 5 * b)) : vA D S' P b p = vA D S P b p := by
  unfold vA
  rw [fF_c h0 hj]
theorem dyQ_v {D S : Nat → Nat} {P : Nat → List Nat} {set b p : Nat} : vA D (dyQ D S P set b) P b p = vA D (dy1 D S set) P b p := by
  refine vA_c (by rw [dyQ_0, dy1_0]) (fun j h1 h2 => ?_)
  rw [dyQ_j h1 h2, if_neg (by omega)]
theorem dyQ_f {D S : Nat → Nat} {P : Nat → List Nat} {set b : Nat} : fadA D (dyQ D S P set b) P b = fadA D (dy1 D S set) P b := by unfold fadA; rw [dyQ_v]
/-! the class's day -/
def xP (a c : Nat) : Prop := xE c ∨ c = a ∨ (a + 3 ≤ c ∧ c < a + 6)
theorem fP_d {M M' : pm} {a t : Nat} (ht : t + 14 < 45) (ha : 57 ≤ a) (h : fI (xP a) M M') {D : Nat → Nat} {P : Nat → List Nat} (hd : dC M t D P) : dC M' t D P := dC_c (fun c c1 c2 => h.2.2.2 c (by unfold xP xE; omega)) hd
theorem z999 {n : Nat} (h : n ≤ 999) : nI n + 1 = zI ((n : Int) + 1) := by rw [← zI_n, ← zI_add]; rfl
theorem s_playDay {M : pm} {t a set : Nat} {D S : Nat → Nat} {P : Nat → List Nat} (ht : t + 14 < 45) (ha : 57 ≤ a) (hd : dC M t D P) (hD : okD D P) (hs : sC M a D S) (hS : okS D S) (hset : set < 2 ^ 31) (hmn : mnS D S set (D 2) ≤ D 0) {Q : Int32 → pm → Prop} (k : ∀ M', fI (xP a) M M' → sC M' a D (dayC D S P set) → mI M' a 7 = mI M a 7 → Q (nI (silA D S set)) M') : w_X1_playDay t a (nI set) M Q := by
  have h8 := hD.2.2.1
  have h60 := hD.1
  have s0 := hS.1
  have s1 := hS.2.1
  refine s_minutesOf hd hD hs hS hset ?_
  -- the second loop
  have k2 : ∀ d n b M1, b + d = D 2 → d < n → fI (xP a) M M1 → sC M1 a D (dyQ D S P set b) → mI M1 a 7 = mI M a 7 → w_X1_playDay_104 n t a (nI (silA D S set)) (nI b) M1 Q := by
    intro d
    induction d with
    | zero =>
      intro n b M1 hb hn hf hs1 h7
      obtain ⟨n, rfl⟩ : ∃ n', n = n' + 1 := ⟨n - 1, by omega⟩
      unfold w_X1_playDay_104
      rw [(fP_d ht ha hf hd).2.2.1, hs1.1, dyQ_0, ← zI_n (S 0), show zI (S 0 : Int) + 1 = zI ((S 0 : Int) + 1) from zI_add _ 1]
      refine k_yes (nI_le (by omega) (by omega)) (s_min (x := 999) (by omega) (by omega) (by omega) (by omega) ?_)
      rw [show min (999 : Int) (↑(S 0) + 1) = ((min 999 (S 0 + 1) : Nat) : Int) from by omega, zI_n]
      refine k _ (hf.up (Or.inr (Or.inl rfl)) _ _) ⟨?_, ?_, fun q hq => ?_⟩ ?_
      · rw [rIs]; unfold dayC; rw [if_pos rfl]
      · rw [rI (by omega), hs1.2.1, show b = D 2 from by omega]; unfold dayC; rw [if_neg (by decide)]
      · have := hs1.2.2 q hq
        rw [show b = D 2 from by omega] at this
        rw [rI (by omega), rI (by omega), rI (by omega), rI (by omega), rI (by omega)]
        unfold dayC
        rw [if_neg (by omega), if_neg (by omega), if_neg (by omega), if_neg (by omega), if_neg (by omega)]
        exact this
      · rw [rI (by omega)]; exact h7
    | succ d ih =>
      intro n b M1 hb hn hf hs1 h7
      obtain ⟨n, rfl⟩ : ∃ n', n = n' + 1 := ⟨n - 1, by omega⟩
      have hS1 := okS_Q (P := P) (set := set) (b := b) hS
      have hd1 := fP_d ht ha hf hd
      have e3 : dyQ D S P set b (3 + 5 * b) = S (3 + 5 * b) := by rw [dyQ_3, dy1_j (by decide), dyR_3]
      unfold w_X1_playDay_104
      rw [hd1.2.2.1, nI_1]
      refine k_no (nI_ge (by omega) (by omega)) (s_isDead (by omega) hs1 hS1 (by omega) ?_)
      rw [e3, dyQ_0]
      by_cases hdead : S (3 + 5 * b) ≤ S 0
      · rw [if_pos hdead]
        refine k_no (by decide) (s_lookAt ht ha hd1 hD hs1 hS1 (by omega) (fun M2 f2 g2 _ => ?_))
        have hd2 : dC M2 t D P := dC_c (fun c c1 c2 => f2.2.2.2 c (by unfold xE; omega)) hd1
        refine s_prog (p := 0) ht (by decide) hd2 hD hS1 (by omega) g2 (fun M3 f3 v1 v2 _ => ?_)
        refine s_min (x := 99) (by omega) (by omega) (by omega) (by omega) (s_max (x := 0) (by omega) (by omega) (by omega) (by omega) ⟨vp_in_nI (by omega) (by decide), ?_⟩)
        have ef : zI (max 0 (min 99 (vA D (dyQ D S P set b) P b 0))) = nI (fadA D (dy1 D S set) P b) := by
          rw [dyQ_v, ← zI_n]
          congr 1
          unfold fadA
          split <;> (try split) <;> omega
        rw [ef, nI_clamp (by omega)]
        have f23 : fI (xP a) M1 M3 := (f2.tr f3).mo (fun c hc => Or.inl hc)
        have hs3 : sC M3 a D (dyQ D S P set b) := sC_c (fun c c1 c2 => (f2.tr f3).2.2.2 c (by unfold xE; omega)) hs1
        refine ih n (b + 1) _ (by omega) (by omega) ((hf.tr f23).up (Or.inr (Or.inr ⟨by omega, by omega⟩)) _ _) ⟨?_, ?_, fun q hq => ?_⟩ ?_
        · rw [rI (by omega), hs3.1, dyQ_0, dyQ_0]
        · rw [rI (by omega), hs3.2.1, dyQ_1, dyQ_1]
        · have := hs3.2.2 q hq
          rw [dyQ_2, dyQ_3, dyQ_4, dyQ_5, dyQ_6] at this
          rw [dyQ_2, dyQ_3, dyQ_4, dyQ_5, dyQ_6]
          refine ⟨by rw [rI (by omega)]; exact this.1, by rw [rI (by omega)]; exact this.2.1, ?_, by rw [rI (by omega)]; exact this.2.2.2.1, by rw [rI (by omega)]; exact this.2.2.2.2⟩
          by_cases e : q = b
          · subst e
            rw [rIs, if_pos ⟨by omega, hdead⟩]
          · rw [rI (by omega), this.2.2.1]
            by_cases c : q < b ∧ S (3 + 5 * q) ≤ S 0
            · rw [if_pos c, if_pos ⟨by omega, c.2⟩]
            · rw [if_neg c, if_neg (fun z => c ⟨by omega, z.2⟩)]
        · rw [rI (by omega), (f2.tr f3).2.2.2 a (by unfold xE; omega)]; exact h7
      · rw [if_neg hdead]
        refine k_yes rfl (ih n (b + 1) M1 (by omega) (by omega) hf ?_ h7)
        have : dyQ D S P set (b + 1) = dyQ D S P set b := by
          funext j
          unfold dyQ
          by_cases c : 2 ≤ j ∧ (j - 2) / 5 < b ∧ (j - 2) % 5 = 2 ∧ S (3 + 5 * ((j - 2) / 5)) ≤ S 0
          · rw [if_pos c, if_pos ⟨c.1, by omega, c.2.2⟩]
          · rw [if_neg c, if_neg (fun z => c ⟨z.1, by
              rcases Nat.lt_or_ge ((j - 2) / 5) b with q | q
              · exact q
              · exact absurd (show S (3 + 5 * b) ≤ S 0 from by rw [show b = (j - 2) / 5 from by omega]; exact z.2.2.2) hdead, z.2.2⟩)]
        rw [this]
        exact hs1
  -- between
  have k1 : ∀ M1, fI (xP a) M M1 → sC M1 a D (dyR S set (D 2)) → mI M1 a 7 = mI M a 7 → w_J9_min_7cf53 (nI (D 0) - nI (mnS D S set (D 2))) (mI M1 a 1) M1 (fun y13 M12 => w_J9_max_7cf53 0 y13 M12 (fun y16 M15 => ∃ n38, w_X1_playDay_104 n38 t a y16 0 (sI M15 a 1 ((mI M15 a 1) - y16)) Q)) := by
    intro M1 hf hs1 h7
    rw [pk_sub hmn, hs1.2.1, dyR_1, ← zI_n, ← zI_n (S 1)]
    refine s_min (by omega) (by omega) (by omega) (by omega) (s_max (x := 0) (by omega) (by omega) (by omega) (by omega) ?_)
    rw [show max (0 : Int) (min ((D 0 - mnS D S set (D 2) : Nat) : Int) (S 1 : Int)) = ((silA D S set : Nat) : Int) from by unfold silA; omega, zI_n, hs1.2.1, dyR_1, pk_sub (by unfold silA; omega)]
    refine ⟨D 2 + 1, k2 (D 2) (D 2 + 1) 0 _ (by omega) (by omega) (hf.up (Or.inr (Or.inl rfl)) _ _) ?_ ?_⟩
    · rw [dyQ_z]
      refine ⟨?_, ?_, fun q hq => ?_⟩
      · rw [rI (by omega), hs1.1, dyR_0, dy1_0]
      · rw [rIs]; unfold dy1; rw [if_pos rfl]
      · rw [rI (by omega), rI (by omega), rI (by omega), rI (by omega), rI (by omega), dy1_j (by decide), dy1_j (by decide), dy1_j (by decide), dy1_j (by decide), dy1_j (by decide)]
        exact hs1.2.2 q hq
    · rw [rI (by omega)]; exact h7
  -- the first loop
  have key : ∀ d n b M1, b + d = D 2 → d < n → fI (xP a) M M1 → sC M1 a D (dyR S set b) → mI M1 a 7 = mI M a 7 → w_X1_playDay_17 n t a (nI set) (nI (D 0) - nI (mnS D S set (D 2))) (nI b) M1 (fun a1 a2 x4 M11 => w_J9_min_7cf53 x4 (mI M11 a2 1) M11 (fun y13 M12 => w_J9_max_7cf53 0 y13 M12 (fun y16 M15 => ∃ n38, w_X1_playDay_104 n38 a1 a2 y16 0 (sI M15 a2 1 ((mI M15 a2 1) - y16)) Q))) Q := by
    intro d
    induction d with
    | zero =>
      intro n b M1 hb hn hf hs1 h7
      obtain ⟨n, rfl⟩ : ∃ n', n = n' + 1 := ⟨n - 1, by omega⟩
      unfold w_X1_playDay_17
      rw [(fP_d ht ha hf hd).2.2.1]
      refine k_yes (nI_le (by omega) (by omega)) ?_
      rw [show b = D 2 from by omega] at hs1
      exact k1 M1 hf hs1 h7
    | succ d ih =>
      intro n b M1 hb hn hf hs1 h7
      obtain ⟨n, rfl⟩ : ∃ n', n = n' + 1 := ⟨n - 1, by omega⟩
      have hd1 := fP_d ht ha hf hd
      have sb := hS.2.2 b (by omega)
      unfold w_X1_playDay_17
      rw [hd1.2.2.1, nI_1]
      refine k_no (nI_ge (by omega) (by omega)) (b_if hset (by omega) (fun h => ⟨vp_in_nI (by omega) (by decide), ?_⟩) (fun h => ?_))
      · rw [nI_clamp (by omega), (hs1.2.2 b (by omega)).2.2.2.2, dyR_6, if_neg (by omega), z999 (by omega)]
        refine s_min (x := 999) (by omega) (by omega) (by omega) (by omega) ⟨vp_in_nI (by omega) (by decide), vp_in_nI (by omega) (by decide), ?_⟩
        rw [show min (999 : Int) (↑(S (6 + 5 * b)) + 1) = ((min 999 (S (6 + 5 * b) + 1) : Nat) : Int) from by omega, zI_n]
        refine ih n (b + 1) _ (by omega) (by omega) ((hf.up (Or.inr (Or.inr ⟨by omega, by omega⟩)) _ _).up (Or.inr (Or.inr ⟨by omega, by omega⟩)) _ _) ⟨?_, ?_, fun q hq => ?_⟩ ?_
        · rw [rI (by omega), rI (by omega), hs1.1, dyR_0, dyR_0]
        · rw [rI (by omega), rI (by omega), hs1.2.1, dyR_1, dyR_1]
        · have := hs1.2.2 q hq
          rw [dyR_2, dyR_3, dyR_4, dyR_5, dyR_6] at this
          rw [dyR_2, dyR_3, dyR_4, dyR_5, dyR_6]
          refine ⟨by rw [rI (by omega), rI (by omega)]; exact this.1, by rw [rI (by omega), rI (by omega)]; exact this.2.1, by rw [rI (by omega), rI (by omega)]; exact this.2.2.1, ?_, ?_⟩
          · by_cases e : q = b
            · subst e
              rw [rIs, if_pos ⟨by omega, h⟩, rI (by omega), hs1.1, dyR_0]
              exact (nI_pred _).symm
            · rw [rI (by omega), rI (by omega), this.2.2.2.1]
              by_cases c : q < b ∧ set.testBit q = true
              · rw [if_pos c, if_pos ⟨by omega, c.2⟩]
              · rw [if_neg c, if_neg (fun z => c ⟨by omega, z.2⟩)]
          · by_cases e : q = b
            · subst e
              rw [rI (by omega), rIs, if_pos ⟨by omega, h⟩]
            · rw [rI (by omega), rI (by omega), this.2.2.2.2]
              by_cases c : q < b ∧ set.testBit q = true
              · rw [if_pos c, if_pos ⟨by omega, c.2⟩]
              · rw [if_neg c, if_neg (fun z => c ⟨by omega, z.2⟩)]
        · rw [rI (by omega), rI (by omega)]; exact h7
      · refine ih n (b + 1) M1 (by omega) (by omega) hf ?_ h7
        have : dyR S set (b + 1) = dyR S set b := by
          funext j
          unfold dyR
          by_cases c : 2 ≤ j ∧ (j - 2) / 5 < b ∧ set.testBit ((j - 2) / 5) = true
          · rw [if_pos c, if_pos ⟨c.1, by omega, c.2.2⟩]
          · rw [if_neg c, if_neg (fun z => c ⟨z.1, by
              rcases Nat.lt_or_ge ((j - 2) / 5) b with q | q
              · exact q
              · have := z.2.2; rw [show (j - 2) / 5 = b from by omega, h] at this; exact absurd this (by decide), z.2.2⟩)]
        rw [this]
        exact hs1
  rw [hd.1]
  exact ⟨_, key (D 2) (D 2 + 1) 0 M (by omega) (by omega) (fI.rf M) (by rw [dyR_z]; exact hs) rfl⟩
