/-! the class finds the best programme -/
theorem s_minutesOf {M : pm} {t a s : Nat} {D S : Nat → Nat} {P : Nat → List Nat} (hd : dC M t D P) (hD : okD D P) (hs : sC M a D S) (hS : okS D S) (hs31 : s < 2 ^ 31) {Q : Int32 → pm → Prop} (k : Q (nI (mnS D S s (D 2))) M) : w_X1_minutesOf t a (nI s) M Q := by
  have h8 := hD.2.2.1
  have key : ∀ d n b, b + d = D 2 → d < n → w_X1_minutesOf_6 n t a (nI s) (nI (mnS D S s b)) (nI b) M Q := by
    intro d
    induction d with
    | zero =>
      intro n b hb hn
      obtain ⟨n, rfl⟩ : ∃ n', n = n' + 1 := ⟨n - 1, by omega⟩
      unfold w_X1_minutesOf_6
      rw [hd.2.2.1]
      refine k_yes (nI_le (by omega) (by omega)) ?_
      rw [show b = D 2 from by omega]
      exact k
    | succ d ih =>
      intro n b hb hn
      obtain ⟨n, rfl⟩ : ∃ n', n = n' + 1 := ⟨n - 1, by omega⟩
      have g := ih n (b + 1) (by omega) (by omega)
      unfold w_X1_minutesOf_6
      rw [hd.2.2.1, nI_1]
      refine k_no (nI_ge (by omega) (by omega)) (b_if hs31 (by omega) (fun h => ⟨vp_in_nI (by omega) (by decide), ?_⟩) (fun h => ?_))
      · rw [nI_clamp (by omega), (hs.2.2 b (by omega)).1]
        refine s_longOf hd hD (hS.2.2 b (by omega)).1 ?_
        rw [nI_add]
        unfold mnS at g
        rw [h, if_pos rfl] at g
        exact g
      · unfold mnS at g
        rw [h] at g
        exact g
  exact ⟨_, key (D 2) (D 2 + 1) 0 (by omega) (by omega)⟩
theorem canB_or {D S : Nat → Nat} {P : Nat → List Nat} (b : Nat) : canB D S P b ||| 2 ^ b = canB D S P b + 2 ^ b := by
  have := Nat.two_pow_add_eq_or_of_lt (canB_lt (D := D) (S := S) (P := P) b) 1
  rw [Nat.mul_one] at this
  rw [Nat.or_comm, ← this, Nat.add_comm]
theorem s_canBits {M : pm} {t a : Nat} {D S : Nat → Nat} {P : Nat → List Nat} (ht : t + 14 < 45) (ha : 57 ≤ a) (hd : dC M t D P) (hD : okD D P) (hs : sC M a D S) (hS : okS D S) {Q : Int32 → pm → Prop} (k : ∀ M', fI xE M M' → Q (nI (canB D S P (D 2))) M') : w_X1_canBits t a M Q := by
  have h8 := hD.2.2.1
  have key : ∀ d n b M1, b + d = D 2 → d < n → fI xE M M1 → w_X1_canBits_5 n t a (nI (canB D S P b)) (nI b) M1 Q := by
    intro d
    induction d with
    | zero =>
      intro n b M1 hb hn hf
      obtain ⟨n, rfl⟩ : ∃ n', n = n' + 1 := ⟨n - 1, by omega⟩
      have hd1 : dC M1 t D P := dC_c (fun c c1 c2 => hf.2.2.2 c (by unfold xE; omega)) hd
      unfold w_X1_canBits_5
      rw [hd1.2.2.1]
      refine k_yes (nI_le (by omega) (by omega)) ?_
      rw [show b = D 2 from by omega]
      exact k M1 hf
    | succ d ih =>
      intro n b M1 hb hn hf
      obtain ⟨n, rfl⟩ : ∃ n', n = n' + 1 := ⟨n - 1, by omega⟩
      have hd1 : dC M1 t D P := dC_c (fun c c1 c2 => hf.2.2.2 c (by unfold xE; omega)) hd
      have hs1 : sC M1 a D S := sC_c (fun c c1 c2 => hf.2.2.2 c (by unfold xE; omega)) hs
      unfold w_X1_canBits_5
      rw [hd1.2.2.1, nI_1]
      refine k_no (nI_ge (by omega) (by omega)) (s_canPlay ht ha hd1 hD hs1 hS (by omega) (fun M2 f2 => ?_))
      have g := ih n (b + 1) M2 (by omega) (by omega) (hf.tr f2)
      unfold canB at g
      have hl := canB_lt (D := D) (S := S) (P := P) b
      have h2 : 2 ^ b ≤ 2 ^ 8 := Nat.pow_le_pow_right (by decide) (by omega)
      by_cases hc : canA D S P b = true
      · rw [if_pos hc] at g ⊢
        refine k_no (by decide) ?_
        rw [b_one (by omega), b_or (by omega) (by omega), canB_or]
        exact g
      · rw [if_neg hc] at g ⊢
        exact k_yes rfl g
  exact ⟨_, key (D 2) (D 2 + 1) 0 M (by omega) (by omega) (fI.rf M)⟩
def x89 (a : Nat) : Prop := a = 48 ∨ a = 49
theorem s_addToSets {M : pm} {bit : Nat} {x y : Int32} (hb : bit ≤ 128) {Q : pm → Prop} (k : ∀ M', fI x89 M M' → (∀ c, c < bit → mI M' 48 c = mI M 48 c ∧ mI M' 49 c = mI M 49 c) → (∀ r, r < bit → mI M' 48 (bit + r) = mI M 48 r + x ∧ mI M' 49 (bit + r) = mI M 49 r + y) → Q M') : w_X1_addToSets (nI bit) x y M Q := by
  have key : ∀ d n r M1, r + d = bit → d < n → fI x89 M M1 → (∀ c, c < bit → mI M1 48 c = mI M 48 c ∧ mI M1 49 c = mI M 49 c) → (∀ q, q < r → mI M1 48 (bit + q) = mI M 48 q + x ∧ mI M1 49 (bit + q) = mI M 49 q + y) → w_X1_addToSets_3 n (nI bit) x y (nI r) M1 Q := by
    intro d
    induction d with
    | zero =>
      intro n r M1 hr hn hf h1 h2
      obtain ⟨n, rfl⟩ : ∃ n', n = n' + 1 := ⟨n - 1, by omega⟩
      unfold w_X1_addToSets_3
      refine k_yes (nI_le (by omega) (by omega)) (k M1 hf h1 ?_)
      rw [show bit = r from by omega]
      rw [show bit = r from by omega] at h2
      exact h2
    | succ d ih =>
      intro n r M1 hr hn hf h1 h2
      obtain ⟨n, rfl⟩ : ∃ n', n = n' + 1 := ⟨n - 1, by omega⟩
      unfold w_X1_addToSets_3
      rw [nI_add, nI_1, nI_clamp (by omega), nI_clamp (by omega)]
      refine k_no (nI_ge (by omega) (by omega)) (k_no (nI_ge (b := 256) (by omega) (by decide)) ⟨vp_in_nI (by omega) (by decide), vp_in_nI (by omega) (by decide), vp_in_nI (by omega) (by decide), vp_in_nI (by omega) (by decide), ?_⟩)
      refine ih n (r + 1) _ (by omega) (by omega) ((hf.up (Or.inl rfl) _ _).up (Or.inr rfl) _ _) (fun c hc => ?_) (fun q hq => ?_)
      · rw [rI (by omega), rI (by omega), rI (by omega), rI (by omega)]
        exact h1 c hc
      · by_cases e : q = r
        · subst e
          rw [rI (by omega), rIs, rIs, (h1 q (by omega)).1, (h1 q (by omega)).2]
          exact ⟨rfl, rfl⟩
        · rw [rI (by omega), rI (by omega), rI (by omega), rI (by omega)]
          exact h2 q (by omega)
  exact ⟨_, key bit (bit + 1) 0 M (by omega) (by omega) (fI.rf M) (fun c hc => ⟨rfl, rfl⟩) (fun q hq => absurd hq (by omega))⟩
/-- what gather has laid for the first b askers -/
def gth (M : pm) (D S : Nat → Nat) (P : Nat → List Nat) (b : Nat) : Prop := (∀ c, c < 2 ^ cnt D S P b → mI M 48 c = nI (mnS D S (sp D S P b c) b) ∧ mI M 49 c = zI (wtS D S P (sp D S P b c) b)) ∧ ∀ q, q < b → canA D S P q = true → mI M 47 (cnt D S P q) = nI q
def vOk (D S : Nat → Nat) (P : Nat → List Nat) (b : Nat) : Prop := -1000000 ≤ vA D S P b 2 ∧ vA D S P b 2 ≤ 1000000
theorem cnt_mono {D S : Nat → Nat} {P : Nat → List Nat} {q b : Nat} (h : q < b) (hc : canA D S P q = true) : cnt D S P q < cnt D S P b := by
  induction b with
  | zero => omega
  | succ b ih =>
    rw [cnt_s]
    by_cases e : q = b
    · subst e; rw [if_pos hc]; omega
    · have := ih (by omega); omega
theorem s_gather {M : pm} {t a : Nat} {D S : Nat → Nat} {P : Nat → List Nat} (ht : t + 14 < 45) (ha : 57 ≤ a) (hd : dC M t D P) (hD : okD D P) (hs : sC M a D S) (hS : okS D S) {Q : Int32 → pm → Prop} (k : ∀ M', fI xC M M' → gth M' D S P (D 2) → (∀ b, b < D 2 → canA D S P b = true → vOk D S P b) → Q (nI (cnt D S P (D 2))) M') : w_X1_gather t a M Q := by
  have h8 := hD.2.2.1
  have key : ∀ d n b M1, b + d = D 2 → d < n → fI xC M M1 → gth M1 D S P b → (∀ q, q < b → canA D S P q = true → vOk D S P q) → w_X1_gather_19 n t a (nI (cnt D S P b)) (nI b) M1 Q := by
    intro d
    induction d with
    | zero =>
      intro n b M1 hb hn hf hg hv
      obtain ⟨n, rfl⟩ : ∃ n', n = n' + 1 := ⟨n - 1, by omega⟩
      have hd1 : dC M1 t D P := dC_c (fun c c1 c2 => hf.2.2.2 c (by unfold xC; omega)) hd
      unfold w_X1_gather_19
      rw [hd1.2.2.1]
      refine k_yes (nI_le (by omega) (by omega)) ?_
      rw [show b = D 2 from by omega] at hg hv ⊢
      exact k M1 hf hg hv
    | succ d ih =>
      intro n b M1 hb hn hf hg hv
      obtain ⟨n, rfl⟩ : ∃ n', n = n' + 1 := ⟨n - 1, by omega⟩
      have hd1 : dC M1 t D P := dC_c (fun c c1 c2 => hf.2.2.2 c (by unfold xC; omega)) hd
      have hs1 : sC M1 a D S := sC_c (fun c c1 c2 => hf.2.2.2 c (by unfold xC; omega)) hs
      have hcl := cnt_le (D := D) (S := S) (P := P) b
      have hp2 : 2 ^ cnt D S P b ≤ 2 ^ 7 := Nat.pow_le_pow_right (by decide) (by omega)
      unfold w_X1_gather_19
      rw [hd1.2.2.1, nI_1]
      refine k_no (nI_ge (by omega) (by omega)) (k_no (nI_ge (b := 8) (by omega) (by decide)) (s_canPlay ht ha hd1 hD hs1 hS (by omega) (fun M2 f2 => ?_)))
      have hf2 := hf.tr (xEC f2)
      have e47 : mI M2 47 = mI M1 47 := f2.2.2.2 47 (by unfold xE; omega)
      have e48 : mI M2 48 = mI M1 48 := f2.2.2.2 48 (by unfold xE; omega)
      have e49 : mI M2 49 = mI M1 49 := f2.2.2.2 49 (by unfold xE; omega)
      by_cases hc : canA D S P b = true
      · rw [if_pos hc]
        refine k_no (by decide) ⟨vp_in_nI (by omega) (by decide), vp_in_nI (by omega) (by decide), ?_⟩
        rw [nI_clamp (by omega), nI_clamp (by omega)]
        have hf3 : fI xC M (sI M2 47 (cnt D S P b) (nI b)) := hf2.up (by unfold xC; omega) _ _
        have hs3 : sC (sI M2 47 (cnt D S P b) (nI b)) a D S := sC_c (fun c c1 c2 => hf3.2.2.2 c (by unfold xC; omega)) hs
        have hd3 : dC (sI M2 47 (cnt D S P b) (nI b)) t D P := dC_c (fun c c1 c2 => hf3.2.2.2 c (by unfold xC; omega)) hd
        rw [(hs3.2.2 b (by omega)).1]
        refine s_longOf hd3 hD (hS.2.2 b (by omega)).1 (s_worthOf ht ha hd3 hD hs3 hS (by omega) (fun M4 f4 v1 v2 => ?_))
        rw [b_one (by omega)]
        refine s_addToSets (by omega) (fun M5 f5 a1 a2 => ?_)
        have hf5 : fI xC M M5 := (hf3.tr (xEC f4)).tr (f5.mo (fun c hc => by unfold x89 at hc; unfold xC; omega))
        have g48 : mI M4 48 = mI M1 48 := by rw [f4.2.2.2 48 (by unfold xE; omega), ← e48]; exact mI_off (by decide)
        have g49 : mI M4 49 = mI M1 49 := by rw [f4.2.2.2 49 (by unfold xE; omega), ← e49]; exact mI_off (by decide)
        have g47 : mI M5 47 = mI (sI M2 47 (cnt D S P b) (nI b)) 47 := by rw [f5.2.2.2 47 (by unfold x89; omega), f4.2.2.2 47 (by unfold xE; omega)]
        have ec : cnt D S P (b + 1) = cnt D S P b + 1 := by rw [cnt_s, if_pos hc]
        have g := ih n (b + 1) M5 (by omega) (by omega) hf5 ⟨fun c hc2 => ?_, fun q hq hqc => ?_⟩ (fun q hq hqc => ?_)
        · rw [ec, ← nI_1] at g
          exact g
        · rw [ec, Nat.pow_succ] at hc2
          rw [sp_s, if_pos hc]
          by_cases h2 : c < 2 ^ cnt D S P b
          · have hl := sp_lt (D := D) (S := S) (P := P) b c h2
            rw [if_pos h2, (a1 c h2).1, (a1 c h2).2, g48, g49, (hg.1 c h2).1, (hg.1 c h2).2, mnS_st hl, wtS_st hl]
            exact ⟨rfl, rfl⟩
          · have h3 : c - 2 ^ cnt D S P b < 2 ^ cnt D S P b := by omega
            have hl := sp_lt (D := D) (S := S) (P := P) b _ h3
            have a3 := a2 _ h3
            rw [show 2 ^ cnt D S P b + (c - 2 ^ cnt D S P b) = c from by omega] at a3
            rw [if_neg h2, a3.1, a3.2, g48, g49, (hg.1 _ h3).1, (hg.1 _ h3).2, mnS_up hl, wtS_up hl, nI_add, zI_add]
            exact ⟨rfl, rfl⟩
        · rw [g47]
          by_cases e : q = b
          · subst e; exact rIs _ _ _ _
          · have := cnt_mono (show q < b from by omega) hqc
            rw [rI (by omega), e47]
            exact hg.2 q (by omega) hqc
        · by_cases e : q = b
          · subst e; exact ⟨v1, v2⟩
          · exact hv q (by omega) hqc
      · rw [if_neg hc]
        have ec : cnt D S P (b + 1) = cnt D S P b := by rw [cnt_s, if_neg hc]; rfl
        have g := ih n (b + 1) M2 (by omega) (by omega) hf2 ⟨fun c hc2 => ?_, fun q hq hqc => ?_⟩ (fun q hq hqc => ?_)
        · rw [ec] at g
          exact k_yes rfl g
        · rw [ec] at hc2
          have hl := sp_lt (D := D) (S := S) (P := P) b c hc2
          rw [sp_s, if_neg hc, e48, e49, (hg.1 c hc2).1, (hg.1 c hc2).2, mnS_st hl, wtS_st hl]
          exact ⟨rfl, rfl⟩
        · rw [e47]
          by_cases e : q = b
          · subst e; exact absurd hqc hc
          · exact hg.2 q (by omega) hqc
        · by_cases e : q = b
          · subst e; exact absurd hqc hc
          · exact hv q (by omega) hqc
  refine ⟨_, key (D 2) (D 2 + 1) 0 _ (by omega) (by omega) (((fI.rf M).up (by unfold xC; omega) _ _).up (by unfold xC; omega) _ _) ⟨fun c hc => ?_, fun q hq => absurd hq (by omega)⟩ (fun q hq => absurd hq (by omega))⟩
  have : c = 0 := by rw [show cnt D S P 0 = 0 from rfl, Nat.pow_zero] at hc; omega
  subst this
  exact ⟨by rw [rI (by omega), rIs]; rfl, by rw [rIs]; rfl⟩
theorem mod_b {c i : Nat} : c % 2 ^ (i + 1) = c % 2 ^ i + (c / 2 ^ i % 2) * 2 ^ i := by
  rw [Nat.pow_succ, Nat.mod_mul]
  rw [Nat.mul_comm]
theorem s_spread {M : pm} {c : Nat} {D S : Nat → Nat} {P : Nat → List Nat} (h8 : D 2 ≤ 8) (hg : ∀ q, q < D 2 → canA D S P q = true → mI M 47 (cnt D S P q) = nI q) (hc : c < 2 ^ cnt D S P (D 2)) {Q : Int32 → pm → Prop} (k : Q (nI (sp D S P (D 2) c)) M) : w_X1_spread (nI c) (nI (cnt D S P (D 2))) M Q := by
  have hcl := cnt_le (D := D) (S := S) (P := P) (D 2)
  have hc8 : c < 2 ^ 8 := Nat.lt_of_lt_of_le hc (Nat.pow_le_pow_right (by decide) (by omega))
  have key : ∀ d n b, b + d = D 2 → d < n → w_X1_spread_5 n (nI c) (nI (cnt D S P (D 2))) (nI (sp D S P b (c % 2 ^ cnt D S P b))) (nI (cnt D S P b)) M Q := by
    intro d
    induction d with
    | zero =>
      intro n b hb hn
      obtain ⟨n, rfl⟩ : ∃ n', n = n' + 1 := ⟨n - 1, by omega⟩
      rw [show b = D 2 from by omega]
      unfold w_X1_spread_5
      refine k_yes (nI_le (by omega) (by omega)) ?_
      rw [Nat.mod_eq_of_lt hc]
      exact k
    | succ d ih =>
      intro n b hb hn
      have hcb := cnt_le (D := D) (S := S) (P := P) b
      by_cases hca : canA D S P b = true
      · obtain ⟨n, rfl⟩ : ∃ n', n = n' + 1 := ⟨n - 1, by omega⟩
        have hm := cnt_mono (show b < D 2 from by omega) hca
        have ec : cnt D S P (b + 1) = cnt D S P b + 1 := by rw [cnt_s, if_pos hca]
        have g := ih n (b + 1) (by omega) (by omega)
        unfold w_X1_spread_5
        rw [nI_1, nI_clamp (by omega), hg b (by omega) hca, b_bit (by omega) (by omega)]
        refine k_no (nI_ge hm (by omega)) (k_no (nI_ge (b := 8) (by omega) (by decide)) ⟨vp_in_nI (by omega) (by decide), ?_⟩)
        have hbit : c / 2 ^ cnt D S P b % 2 < 2 := Nat.mod_lt _ (by decide)
        have hpb : 2 ^ b ≤ 2 ^ 7 := Nat.pow_le_pow_right (by decide) (by omega)
        have hmul : (c / 2 ^ cnt D S P b % 2) * 2 ^ b ≤ 2 ^ b := by
          have : (c / 2 ^ cnt D S P b % 2) * 2 ^ b ≤ 1 * 2 ^ b := Nat.mul_le_mul_right _ (by omega)
          omega
        have hlt : c % 2 ^ cnt D S P b < 2 ^ cnt D S P b := Nat.mod_lt _ (Nat.two_pow_pos _)
        have hsl := sp_lt (D := D) (S := S) (P := P) b _ hlt
        rw [pk_shlN _ b (b_s (by omega)) (by omega), b_or (by omega) (by omega)]
        have eor : sp D S P b (c % 2 ^ cnt D S P b) ||| (c / 2 ^ cnt D S P b % 2) * 2 ^ b = sp D S P (b + 1) (c % 2 ^ cnt D S P (b + 1)) := by
          rw [sp_s, if_pos hca, ec, mod_b]
          have := Nat.two_pow_add_eq_or_of_lt hsl (c / 2 ^ cnt D S P b % 2)
          rw [Nat.or_comm, Nat.mul_comm, ← this]
          rcases (show c / 2 ^ cnt D S P b % 2 = 0 ∨ c / 2 ^ cnt D S P b % 2 = 1 from by omega) with e | e
          · rw [e, Nat.mul_zero, Nat.zero_mul, Nat.add_zero, Nat.zero_add, if_pos hlt]
          · rw [e, Nat.mul_one, Nat.one_mul, if_neg (by omega), Nat.add_sub_cancel, Nat.add_comm]
        rw [eor, ← ec]
        exact g
      · have g := ih n (b + 1) (by omega) (by omega)
        rw [sp_s, if_neg hca, cnt_s, if_neg hca, Nat.add_zero] at g
        exact g
  have := key (D 2) (D 2 + 1) 0 (by omega) (by omega)
  rw [show sp D S P 0 (c % 2 ^ cnt D S P 0) = 0 from rfl, show cnt D S P 0 = 0 from rfl] at this
  exact ⟨_, this⟩
/-- bestBits -/
theorem s_bestBits {M : pm} {t a : Nat} {D S : Nat → Nat} {P : Nat → List Nat} (ht : t + 14 < 45) (ha : 57 ≤ a) (hd : dC M t D P) (hD : okD D P) (hs : sC M a D S) (hS : okS D S) {Q : Int32 → pm → Prop} (k : ∀ M', fI xC M M' → isBest D S P (bst D S P) → Q (nI (bst D S P)) M') : w_X1_bestBits t a M Q := by
  have h8 := hD.2.2.1
  have h60 := hD.1
  refine s_gather ht ha hd hD hs hS (fun M1 hf hg hv => ?_)
  have hd1 : dC M1 t D P := dC_c (fun c c1 c2 => hf.2.2.2 c (by unfold xC; omega)) hd
  have hcl := cnt_le (D := D) (S := S) (P := P) (D 2)
  have hp2 : 2 ^ cnt D S P (D 2) ≤ 2 ^ 8 := Nat.pow_le_pow_right (by decide) (by omega)
  have hpos : 0 < 2 ^ cnt D S P (D 2) := Nat.two_pow_pos _
  have mnb : ∀ c, mnS D S (sp D S P (D 2) c) (D 2) ≤ 480 := fun c => by have := mnS_le hD hS (sp D S P (D 2) c) (D 2) (Nat.le_refl _); omega
  have wtb : ∀ c, c < 2 ^ cnt D S P (D 2) → -8000000 ≤ wtS D S P (sp D S P (D 2) c) (D 2) ∧ wtS D S P (sp D S P (D 2) c) (D 2) ≤ 8000000 := fun c hc => by
    have : ∀ b, b ≤ D 2 → -(1000000 * (b : Int)) ≤ wtS D S P (sp D S P (D 2) c) b ∧ wtS D S P (sp D S P (D 2) c) b ≤ 1000000 * (b : Int) := by
      intro b
      induction b with
      | zero => intro _; simp [wtS]
      | succ b ih =>
        intro hb
        have i1 := ih (by omega)
        unfold wtS
        by_cases e : (sp D S P (D 2) c).testBit b = true
        · rw [if_pos e]
          have := hv b (by omega) (sp_can _ _ hc e)
          unfold vOk at this
          omega
        · rw [if_neg e]
          omega
    have := this (D 2) (Nat.le_refl _)
    omega
  have key : ∀ d n c b, c + d = 2 ^ cnt D S P (D 2) → d < n → b < c → mnS D S (sp D S P (D 2) b) (D 2) ≤ D 0 → (∀ e, e < c → mnS D S (sp D S P (D 2) e) (D 2) ≤ D 0 → wtS D S P (sp D S P (D 2) e) (D 2) < wtS D S P (sp D S P (D 2) b) (D 2) ∨ (wtS D S P (sp D S P (D 2) e) (D 2) = wtS D S P (sp D S P (D 2) b) (D 2) ∧ (mnS D S (sp D S P (D 2) b) (D 2) < mnS D S (sp D S P (D 2) e) (D 2) ∨ (mnS D S (sp D S P (D 2) b) (D 2) = mnS D S (sp D S P (D 2) e) (D 2) ∧ b ≤ e)))) → w_X1_bestBits_13 n t (nI (cnt D S P (D 2))) (nI b) (nI c) M1 Q := by
    intro d
    induction d with
    | zero =>
      intro n c b hc hn hb h1 h2
      obtain ⟨n, rfl⟩ : ∃ n', n = n' + 1 := ⟨n - 1, by omega⟩
      unfold w_X1_bestBits_13
      rw [b_one (by omega)]
      refine k_yes (nI_le (by omega) (by omega)) (s_spread h8 hg.2 (by omega) ?_)
      have hb2 := best_sp (D := D) (S := S) (P := P) (c := b) (by omega) h1 (fun e he => h2 e (by omega))
      have e := bst_eq hb2
      rw [e] at hb2 ⊢
      exact k M1 hf hb2
    | succ d ih =>
      intro n c b hc hn hb h1 h2
      obtain ⟨n, rfl⟩ : ∃ n', n = n' + 1 := ⟨n - 1, by omega⟩
      have gc := hg.1 c (by omega)
      have gb := hg.1 b (by omega)
      have m1 := mnb c
      have m2 := mnb b
      have w1 := wtb c (by omega)
      have w2 := wtb b (by omega)
      have stay : (mnS D S (sp D S P (D 2) c) (D 2) ≤ D 0 → wtS D S P (sp D S P (D 2) c) (D 2) < wtS D S P (sp D S P (D 2) b) (D 2) ∨ (wtS D S P (sp D S P (D 2) c) (D 2) = wtS D S P (sp D S P (D 2) b) (D 2) ∧ (mnS D S (sp D S P (D 2) b) (D 2) ≤ mnS D S (sp D S P (D 2) c) (D 2)))) → w_X1_bestBits_13 n t (nI (cnt D S P (D 2))) (nI b) (nI (c + 1)) M1 Q := by
        intro hst
        refine ih n (c + 1) b (by omega) (by omega) (by omega) h1 (fun e he hm => ?_)
        by_cases q : e = c
        · subst q
          have := hst hm
          omega
        · exact h2 e (by omega) hm
      have goes : mnS D S (sp D S P (D 2) c) (D 2) ≤ D 0 → wtS D S P (sp D S P (D 2) b) (D 2) < wtS D S P (sp D S P (D 2) c) (D 2) ∨ (wtS D S P (sp D S P (D 2) c) (D 2) = wtS D S P (sp D S P (D 2) b) (D 2) ∧ (mnS D S (sp D S P (D 2) c) (D 2) < mnS D S (sp D S P (D 2) b) (D 2))) → w_X1_bestBits_13 n t (nI (cnt D S P (D 2))) (nI c) (nI (c + 1)) M1 Q := by
        intro hm hst
        refine ih n (c + 1) c (by omega) (by omega) (by omega) hm (fun e he hm => ?_)
        by_cases q : e = c
        · subst q
          omega
        · have := h2 e (by omega) hm
          omega
      unfold w_X1_bestBits_13
      rw [b_one (by omega), nI_1, nI_clamp (by omega), gc.1, hd1.1]
      refine k_no (nI_ge (by omega) (by omega)) (k_no (nI_ge (b := 256) (by omega) (by decide)) ⟨vp_in_nI (by omega) (by decide), ?_⟩)
      refine pk_lt (D 0) (mnS D S (sp D S P (D 2) c) (D 2)) (fun q => stay (fun q2 => absurd q2 (by omega))) (fun q => ?_)
      unfold w_X1_isBetter
      rw [nI_clamp (by omega), nI_clamp (by omega), gc.1, gb.1, gc.2, gb.2]
      refine ⟨vp_in_nI (by omega) (by decide), vp_in_nI (by omega) (by decide), ?_⟩
      refine ki_lt (wtS D S P (sp D S P (D 2) b) (D 2)) (wtS D S P (sp D S P (D 2) c) (D 2)) (fun q1 => k_no (by decide) (goes q (Or.inl q1))) (fun q1 => ⟨vp_in_nI (by omega) (by decide), vp_in_nI (by omega) (by decide), ki_ne (wtS D S P (sp D S P (D 2) c) (D 2)) (wtS D S P (sp D S P (D 2) b) (D 2)) (fun q2 => k_yes rfl (stay (fun _ => Or.inl (by omega)))) (fun q2 => ⟨vp_in_nI (by omega) (by decide), vp_in_nI (by omega) (by decide), pk_le (mnS D S (sp D S P (D 2) b) (D 2)) (mnS D S (sp D S P (D 2) c) (D 2)) (fun q3 => k_yes rfl (stay (fun _ => Or.inr ⟨q2, q3⟩))) (fun q3 => k_no (by decide) (goes q (Or.inr ⟨q2, q3⟩)))⟩)⟩)
  have s0 : sp D S P (D 2) 0 = 0 := by
    have : ∀ b, sp D S P b 0 = 0 := by
      intro b
      induction b with
      | zero => rfl
      | succ b ih => rw [sp_s, if_pos (Nat.two_pow_pos _), ih]; split <;> rfl
    exact this (D 2)
  refine ⟨_, key (2 ^ cnt D S P (D 2) - 1) (2 ^ cnt D S P (D 2) + 1) 1 0 (by omega) (by omega) (by omega) (by rw [s0, mnS_0]; omega) (fun e he hm => ?_)⟩
  rw [show e = 0 from by omega]
  exact Or.inr ⟨rfl, Or.inr ⟨rfl, Nat.le_refl _⟩⟩
