/-! the reference's day -/
def pc8 (s : Nat) : Nat := s % 2 + s / 2 % 2 + s / 4 % 2 + s / 8 % 2 + s / 16 % 2 + s / 32 % 2 + s / 64 % 2 + s / 128 % 2
theorem pc8_s : ∀ s, s < 256 → s ≠ 0 → pc8 (s &&& (s - 1)) + 1 = pc8 s ∧ s &&& (s - 1) < s := by decide +kernel
theorem m_bits {s : Nat} (hs : s < 256) {M : pm} {Q : Int32 → pm → Prop} (k : Q (nI (pc8 s)) M) : w_X8_bits (nI s) M Q := by
  have key : ∀ d n r c, r ≤ d → d < n → r < 256 → c + pc8 r = pc8 s → w_X8_bits_4 n (nI c) (nI r) M Q := by
    intro d
    induction d with
    | zero =>
      intro n r c hr hn h2 hc
      obtain ⟨n, rfl⟩ : ∃ n', n = n' + 1 := ⟨n - 1, by omega⟩
      have : r = 0 := by omega
      subst this
      unfold w_X8_bits_4
      refine k_yes rfl ?_
      rw [show pc8 0 = 0 from rfl, Nat.add_zero] at hc
      rw [hc]; exact k
    | succ d ih =>
      intro n r c hr hn h2 hc
      obtain ⟨n, rfl⟩ : ∃ n', n = n' + 1 := ⟨n - 1, by omega⟩
      unfold w_X8_bits_4
      refine pk_eq r 0 (fun h => ?_) (fun h => ?_)
      · subst h
        rw [show pc8 0 = 0 from rfl, Nat.add_zero] at hc
        rw [hc]; exact k
      · have := pc8_s r h2 h
        rw [nI_1, show nI r - 1 = nI (r - 1) from pk_sub (a := r) (b := 1) (by omega), b_and (by omega) (by omega)]
        exact ih n _ (c + 1) (by omega) (by omega) (by omega) (by omega)
  exact ⟨_, key s (s + 1) s 0 (Nat.le_refl _) (by omega) hs (by omega)⟩
def fD (M M' : pm) : Prop := mL M' = mL M ∧ mR M' = mR M ∧ (∀ a, a ≠ 277 → a ≠ 317 → mI M' a = mI M a) ∧ (∀ k, k ≠ 51 → k ≠ 59 → k ≠ 102 → mI M' 277 k = mI M 277 k) ∧ (∀ a, a ≠ 351 → mJ M' a = mJ M a) ∧ ∀ j, 42 ≤ j → mI M' 317 j = mI M 317 j
theorem fD.rf (M : pm) : fD M M := ⟨rfl, rfl, fun _ _ _ => rfl, fun _ _ _ _ => rfl, fun _ _ => rfl, fun _ _ => rfl⟩
theorem fD.tr {M M1 M2 : pm} (h : fD M M1) (g : fD M1 M2) : fD M M2 := ⟨g.1.trans h.1, g.2.1.trans h.2.1, fun a h1 h2 => (g.2.2.1 a h1 h2).trans (h.2.2.1 a h1 h2), fun k h1 h2 h3 => (g.2.2.2.1 k h1 h2 h3).trans (h.2.2.2.1 k h1 h2 h3), fun a h1 => (g.2.2.2.2.1 a h1).trans (h.2.2.2.2.1 a h1), fun j hj => (g.2.2.2.2.2 j hj).trans (h.2.2.2.2.2 j hj)⟩
theorem fr.D {M M' : pm} (h : fr M M') : fD M M' := ⟨h.1, h.2.1, fun a h1 _ => h.2.2.1 a h1, fun k h1 _ h2 => h.2.2.2.1 k h1 h2, h.2.2.2.2, fun j _ => by rw [h.2.2.1 317 (by decide)]⟩
theorem fD.i {M M1 : pm} (h : fD M M1) {k : Nat} (hk : k < 42) (v : Int32) : fD M (sI M1 317 k v) := ⟨h.1, h.2.1, fun a h1 h2 => by rw [← h.2.2.1 a h1 h2]; exact mI_off h2, fun j h1 h2 h3 => by rw [← h.2.2.2.1 j h1 h2 h3]; exact rI (by omega), h.2.2.2.2.1, fun j hj => by rw [← h.2.2.2.2.2 j hj]; exact rI (by omega)⟩
theorem fD_d {M M' : pm} (h : fD M M') {D : Nat → Nat} {P : Nat → List Nat} (hd : dM M D P) : dM M' D P := dM_c (fun b b1 b2 _ => h.2.2.1 b (by omega) (by omega)) hd
theorem mnS_S {D S S' : Nat → Nat} {s : Nat} : ∀ {b : Nat}, (∀ q, q < b → S' (2 + 5 * q) = S (2 + 5 * q)) → mnS D S' s b = mnS D S s b
  | 0, _ => rfl
  | b + 1, h => by unfold mnS; rw [h b (Nat.lt_succ_self b), mnS_S (fun i hi => h i (Nat.lt_succ_of_lt hi))]
theorem m_dayBy {M : pm} {set : Nat} {D S : Nat → Nat} {P : Nat → List Nat} (hd : dM M D P) (hD : okD D P) (hs : sM M D S) (hS : okS D S) (hset : set < 256) (hmn : mnS D S set (D 2) ≤ D 0) {Q : pm → Prop} (k : ∀ M', fD M M' → sM M' D (dyQ D S P set (D 2)) → mI M' 277 59 = mI M 277 59 + nI (pc8 set) → w_X8_isKept (nI set) (nI (silA D S set)) M' (fun M31 => Q (sI M31 317 0 ((mI M31 317 0) + 1)))) : w_X8_dayBy (nI set) M Q := by
  have h8 := hD.2.2.1
  have h60 := hD.1
  have s0 := hS.1
  have s1 := hS.2.1
  have k2 : ∀ d n b M1, b + d = D 2 → d < n → fD M M1 → sM M1 D (dyQ D S P set b) → mI M1 277 59 = mI M 277 59 → w_X8_dayBy_118 n (nI set) (nI (silA D S set)) (nI b) M1 (fun x1 x3 M27 => w_X8_bits x1 M27 (fun y29 M28 => w_X8_isKept x1 x3 (sI M28 277 59 ((mI M27 277 59) + y29)) (fun M31 => Q (sI M31 317 0 ((mI M31 317 0) + 1))))) Q := by
    intro d
    induction d with
    | zero =>
      intro n b M1 hb hn hf hs1 h59
      obtain ⟨n, rfl⟩ : ∃ n', n = n' + 1 := ⟨n - 1, by omega⟩
      unfold w_X8_dayBy_118 w_X8_askerMany
      dsimp only
      rw [(fD_d hf hd).2.2.1]
      refine k_yes (nI_le (by omega) (by omega)) (m_bits hset (k _ ?_ ?_ ?_))
      · exact ⟨hf.1, hf.2.1, fun a h1 h2 => by rw [← hf.2.2.1 a h1 h2]; exact mI_off h1, fun j h1 h2 h3 => by rw [← hf.2.2.2.1 j h1 h2 h3]; exact rI (by omega), hf.2.2.2.2.1, fun j hj => by rw [← hf.2.2.2.2.2 j hj]; exact rI (by omega)⟩
      · rw [show b = D 2 from by omega] at hs1
        exact sM_c (mI_off (by decide)) hs1
      · rw [rIs, h59]
    | succ d ih =>
      intro n b M1 hb hn hf hs1 h59
      obtain ⟨n, rfl⟩ : ∃ n', n = n' + 1 := ⟨n - 1, by omega⟩
      have hS1 := okS_Q (P := P) (set := set) (b := b) hS
      have hd1 := fD_d hf hd
      have e3 : dyQ D S P set b (3 + 5 * b) = S (3 + 5 * b) := by rw [dyQ_3, dy1_j (by decide), dyR_3]
      unfold w_X8_dayBy_118 w_X8_askerMany
      dsimp only
      rw [hd1.2.2.1, nI_1]
      refine k_no (nI_ge (by omega) (by omega)) (m_isDead (by omega) hs1 hS1 (by omega) ?_)
      rw [e3, dyQ_0]
      by_cases hdead : S (3 + 5 * b) ≤ S 0
      · rw [if_pos hdead]
        refine k_no (by decide) (m_fadedOf hd1 hD hs1 hS1 (by omega) (fun M2 f2 => ?_))
        rw [dyQ_f, show (4 : Int32) + 5 * nI b = nI (4 + 5 * b) from m_ix (j := 4) (by omega) (by decide), nI_clamp (by omega)]
        refine ⟨vp_in_nI (by omega) (by decide), ih n (b + 1) _ (by omega) (by omega) ((hf.tr f2.D).i (by omega) _) (fun j hj => ?_) ?_⟩
        · have hs2 := fr_s f2 hs1
          by_cases e : j = 4 + 5 * b
          · subst e
            rw [rIs, dyQ_4, if_pos ⟨by omega, hdead⟩]
          · rw [rI (by omega), hs2 j hj]
            congr 1
            unfold dyQ
            by_cases c : 2 ≤ j ∧ (j - 2) / 5 < b ∧ (j - 2) % 5 = 2 ∧ S (3 + 5 * ((j - 2) / 5)) ≤ S 0
            · rw [if_pos c, if_pos ⟨c.1, by omega, c.2.2⟩]
            · rw [if_neg c, if_neg (fun z => c ⟨z.1, by omega, z.2.2⟩)]
        · rw [rI (by omega), f2.2.2.2.1 59 (by decide) (by decide)]; exact h59
      · rw [if_neg hdead]
        refine k_yes rfl (ih n (b + 1) M1 (by omega) (by omega) hf ?_ h59)
        have : dyQ D S P set (b + 1) = dyQ D S P set b := by
          funext j
          unfold dyQ
          by_cases c : 2 ≤ j ∧ (j - 2) / 5 < b ∧ (j - 2) % 5 = 2 ∧ S (3 + 5 * ((j - 2) / 5)) ≤ S 0
          · rw [if_pos c, if_pos ⟨c.1, by omega, c.2.2⟩]
          · rw [if_neg c, if_neg (fun z => c ⟨z.1, by
              rcases Nat.lt_or_ge ((j - 2) / 5) b with q | q
              · exact q
              · exact absurd (show S (3 + 5 * b) ≤ S 0 from by rw [show b = (j - 2) / 5 from by omega]; exact z.2.2.2) hdead, z.2.2⟩)]
        rw [this]
        exact hs1
  have key : ∀ d n b M1, b + d = D 2 → d < n → fD M M1 → sM M1 D (dyR S set b) → mI M1 277 59 = mI M 277 59 → w_X8_dayBy_2 n (nI set) (nI b) M1 (fun x1 M11 => w_X8_minutesOf x1 M11 (fun y13 M12 => (((mI M12 317 1) ≤ ((mI M11 308 3) - y13) → (∃ n26, w_X8_dayBy_118 n26 x1 (mI M12 317 1) 0 (sI M12 317 1 ((mI M12 317 1) - (mI M12 317 1))) (fun x1 x3 M27 => w_X8_bits x1 M27 (fun y29 M28 => w_X8_isKept x1 x3 (sI M28 277 59 ((mI M27 277 59) + y29)) (fun M31 => Q (sI M31 317 0 ((mI M31 317 0) + 1))))) Q)) ∧ (¬ (mI M12 317 1) ≤ ((mI M11 308 3) - y13) → (∃ n34, w_X8_dayBy_118 n34 x1 ((mI M11 308 3) - y13) 0 (sI M12 317 1 ((mI M12 317 1) - ((mI M11 308 3) - y13))) (fun x1 x3 M35 => w_X8_bits x1 M35 (fun y37 M36 => w_X8_isKept x1 x3 (sI M36 277 59 ((mI M35 277 59) + y37)) (fun M39 => Q (sI M39 317 0 ((mI M39 317 0) + 1))))) Q))))) Q := by
    intro d
    induction d with
    | zero =>
      intro n b M1 hb hn hf hs1 h59
      obtain ⟨n, rfl⟩ : ∃ n', n = n' + 1 := ⟨n - 1, by omega⟩
      have hd1 := fD_d hf hd
      unfold w_X8_dayBy_2 w_X8_askerMany
      dsimp only
      rw [hd1.2.2.1]
      refine k_yes (nI_le (by omega) (by omega)) ?_
      rw [show b = D 2 from by omega] at hs1
      refine m_minutesOf hd1 hD hs1 (okS_R hS) (by omega) ?_
      rw [mnS_S (S := S) (fun q _ => dyR_2), hd1.1, hs1 1 (by omega), dyR_1, pk_sub hmn]
      have go : ∀ x : Nat, x = silA D S set → ∃ n26, w_X8_dayBy_118 n26 (nI set) (nI x) 0 (sI M1 317 1 (nI (S 1) - nI x)) (fun x1 x3 M27 => w_X8_bits x1 M27 (fun y29 M28 => w_X8_isKept x1 x3 (sI M28 277 59 ((mI M27 277 59) + y29)) (fun M31 => Q (sI M31 317 0 ((mI M31 317 0) + 1))))) Q := by
        intro x hx
        subst hx
        refine ⟨D 2 + 1, k2 (D 2) (D 2 + 1) 0 _ (by omega) (by omega) (hf.i (by decide) _) (fun j hj => ?_) ?_⟩
        · rw [dyQ_z]
          by_cases e : j = 1
          · subst e
            rw [rIs, pk_sub (by unfold silA; omega)]
            unfold dy1; rw [if_pos rfl]
          · rw [rI (by omega), hs1 j hj]
            unfold dy1; rw [if_neg e]
        · rw [rI (by omega)]; exact h59
      exact pk_le (S 1) (D 0 - mnS D S set (D 2)) (fun h => go _ (by unfold silA; omega)) (fun h => go _ (by unfold silA; omega))
    | succ d ih =>
      intro n b M1 hb hn hf hs1 h59
      obtain ⟨n, rfl⟩ : ∃ n', n = n' + 1 := ⟨n - 1, by omega⟩
      have hd1 := fD_d hf hd
      have sb := hS.2.2 b (by omega)
      unfold w_X8_dayBy_2 w_X8_askerMany
      dsimp only
      rw [hd1.2.2.1, nI_1, b_bit (by omega) (by omega)]
      refine k_no (nI_ge (by omega) (by omega)) (pk_ne (set / 2 ^ b % 2) 0 (fun h => ?_) (fun h => ?_))
      · have ht : set.testBit b = true := (b_tb set b).mpr (by omega)
        rw [show (5 : Int32) + 5 * nI b = nI (5 + 5 * b) from m_ix (j := 5) (by omega) (by decide), show (6 : Int32) + 5 * nI b = nI (6 + 5 * b) from m_ix (j := 6) (by omega) (by decide), nI_clamp (by omega), nI_clamp (by omega), hs1 0 (by omega), dyR_0, nI_1]
        have e6 : mI (sI M1 317 (5 + 5 * b) (nI (S 0 + 1))) 317 (6 + 5 * b) = nI (S (6 + 5 * b)) := by rw [rI (by omega), hs1 _ (by omega), dyR_6, if_neg (by omega)]
        have fin : ∀ M2, fD M M2 → mI M2 277 59 = mI M 277 59 → (∀ j, j < 2 + 5 * D 2 → mI M2 317 j = if j = 5 + 5 * b then nI (S 0 + 1) else if j = 6 + 5 * b then nI (min 999 (S (6 + 5 * b) + 1)) else mI M1 317 j) → sM M2 D (dyR S set (b + 1)) := by
          intro M2 f2 _ e j hj
          rw [e j hj]
          by_cases c5 : j = 5 + 5 * b
          · rw [if_pos c5, c5, dyR_5, if_pos ⟨by omega, ht⟩]
          · rw [if_neg c5]
            by_cases c6 : j = 6 + 5 * b
            · rw [if_pos c6, c6, dyR_6, if_pos ⟨by omega, ht⟩]
            · rw [if_neg c6, hs1 j hj]
              congr 1
              unfold dyR
              by_cases c : 2 ≤ j ∧ (j - 2) / 5 < b ∧ set.testBit ((j - 2) / 5) = true
              · rw [if_pos c, if_pos (show 2 ≤ j ∧ (j - 2) / 5 < b + 1 ∧ set.testBit ((j - 2) / 5) = true from ⟨c.1, by omega, c.2.2⟩)]
              · rw [if_neg c]
                by_cases c' : 2 ≤ j ∧ (j - 2) / 5 < b + 1 ∧ set.testBit ((j - 2) / 5) = true
                · rw [if_pos c']
                  have : (j - 2) / 5 = b := by
                    rcases Nat.lt_or_ge ((j - 2) / 5) b with q | q
                    · exact absurd ⟨c'.1, q, c'.2.2⟩ c
                    · omega
                  rw [if_neg (by omega), if_neg (by omega)]
                · rw [if_neg c']
        unfold w_X8_playedOf
        rw [show (6 : Int32) + 5 * nI b = nI (6 + 5 * b) from m_ix (j := 6) (by omega) (by decide), nI_clamp (by omega), e6]
        refine ⟨vp_in_nI (by omega) (by decide), vp_in_nI (by omega) (by decide), pk_le 999 (S (6 + 5 * b)) (fun hp => ?_) (fun hp => ⟨vp_in_nI (by omega) (by decide), vp_in_nI (by omega) (by decide), ?_⟩)⟩
        · refine ih n (b + 1) _ (by omega) (by omega) (hf.i (by omega) _) (fin _ (hf.i (by omega) _) ?_ (fun j hj => ?_)) ?_
          · rw [rI (by omega)]; exact h59
          · by_cases c5 : j = 5 + 5 * b
            · rw [if_pos c5, c5, rIs]
            · rw [if_neg c5, rI (by omega)]
              by_cases c6 : j = 6 + 5 * b
              · rw [if_pos c6, c6, hs1 _ (by omega), dyR_6, if_neg (by omega)]
                congr 1
                omega
              · rw [if_neg c6]
          · rw [rI (by omega)]; exact h59
        · rw [e6, nI_1]
          refine ih n (b + 1) _ (by omega) (by omega) ((hf.i (by omega) _).i (by omega) _) (fin _ ((hf.i (by omega) _).i (by omega) _) ?_ (fun j hj => ?_)) ?_
          · rw [rI (by omega), rI (by omega)]; exact h59
          · by_cases c5 : j = 5 + 5 * b
            · rw [if_pos c5, c5, rI (by omega), rIs]
            · rw [if_neg c5]
              by_cases c6 : j = 6 + 5 * b
              · rw [if_pos c6, c6, rIs]
                congr 1
                omega
              · rw [if_neg c6, rI (by omega), rI (by omega)]
          · rw [rI (by omega), rI (by omega)]; exact h59
      · have hfalse : set.testBit b = false := Bool.eq_false_iff.mpr (fun q => by rw [b_tb] at q; omega)
        refine ih n (b + 1) M1 (by omega) (by omega) hf ?_ h59
        have : dyR S set (b + 1) = dyR S set b := by
          funext j
          unfold dyR
          by_cases c : 2 ≤ j ∧ (j - 2) / 5 < b ∧ set.testBit ((j - 2) / 5) = true
          · rw [if_pos c, if_pos ⟨c.1, by omega, c.2.2⟩]
          · rw [if_neg c, if_neg (fun z => c ⟨z.1, by
              rcases Nat.lt_or_ge ((j - 2) / 5) b with q | q
              · exact q
              · have := z.2.2; rw [show (j - 2) / 5 = b from by omega, hfalse] at this; exact absurd this (by decide), z.2.2⟩)]
        rw [this]
        exact hs1
  exact ⟨_, key (D 2) (D 2 + 1) 0 M (by omega) (by omega) (fD.rf M) (by rw [dyR_z]; exact hs) rfl⟩
/-- a day thought: nothing is kept -/
theorem m_dayT {M : pm} {set : Nat} {D S : Nat → Nat} {P : Nat → List Nat} (hd : dM M D P) (hD : okD D P) (hs : sM M D S) (hS : okS D S) (hset : set < 256) (hmn : mnS D S set (D 2) ≤ D 0) (ht : mI M 277 58 = 1) {Q : pm → Prop} (k : ∀ M', fD M M' → sM M' D (dayA D S P set) → Q M') : w_X8_dayBy (nI set) M Q := by
  refine m_dayBy hd hD hs hS hset hmn (fun M1 f1 s1 _ => ?_)
  refine k_no (by rw [f1.2.2.2.1 58 (by decide) (by decide) (by decide), ht]; decide) (k _ (f1.i (by decide) _) (fun j hj => ?_))
  by_cases e : j = 0
  · subst e
    rw [rIs, s1 0 (by omega), dyQ_0, nI_1]
    unfold dayA; rw [if_pos rfl]
  · rw [rI (by omega), s1 j hj]
    unfold dayA; rw [if_neg e]
