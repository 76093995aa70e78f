/-! the reference finds the best programme -/
theorem m_minutesOf {M : pm} {s : Nat} {D S : Nat → Nat} {P : Nat → List Nat} (hd : dM M D P) (hD : okD D P) (hs : sM M D S) (hS : okS D S) (hs31 : s < 2 ^ 31) {Q : Int32 → pm → Prop} (k : Q (nI (mnS D S s (D 2))) M) : w_X8_minutesOf (nI s) M Q := by
  have h8 := hD.2.2.1
  have key : ∀ d n b, b + d = D 2 → d < n → w_X8_minutesOf_4 n (nI s) (nI (mnS D S s b)) (nI b) M Q := by
    intro d
    induction d with
    | zero =>
      intro n b hb hn
      obtain ⟨n, rfl⟩ : ∃ n', n = n' + 1 := ⟨n - 1, by omega⟩
      unfold w_X8_minutesOf_4 w_X8_askerMany
      dsimp only
      rw [hd.2.2.1]
      refine k_yes (nI_le (by omega) (by omega)) ?_
      rw [show b = D 2 from by omega]
      exact k
    | succ d ih =>
      intro n b hb hn
      obtain ⟨n, rfl⟩ : ∃ n', n = n' + 1 := ⟨n - 1, by omega⟩
      have g := ih n (b + 1) (by omega) (by omega)
      unfold w_X8_minutesOf_4 w_X8_askerMany
      dsimp only
      rw [hd.2.2.1, nI_1]
      refine k_no (nI_ge (by omega) (by omega)) (b_if hs31 (by omega) (fun h => ?_) (fun h => ?_))
      · refine m_longOf hd hD hs hS (by omega) ?_
        rw [nI_add]
        unfold mnS at g
        rw [h, if_pos rfl] at g
        exact g
      · unfold mnS at g
        rw [h] at g
        exact g
  exact ⟨_, key (D 2) (D 2 + 1) 0 (by omega) (by omega)⟩
theorem m_worthBy {M : pm} {s : Nat} {D S : Nat → Nat} {P : Nat → List Nat} (hd : dM M D P) (hD : okD D P) (hw : ∀ b, b < D 2 → s.testBit b = true → mJ M 319 b = zJ (vA D S P b 2)) (hs31 : s < 2 ^ 31) {Q : Int64 → pm → Prop} (k : Q (zJ (wtS D S P s (D 2))) M) : w_X8_worthBy (nI s) M Q := by
  have h8 := hD.2.2.1
  have key : ∀ d n b, b + d = D 2 → d < n → w_X8_worthBy_5 n (nI s) (zJ (wtS D S P s b)) (nI b) M Q := by
    intro d
    induction d with
    | zero =>
      intro n b hb hn
      obtain ⟨n, rfl⟩ : ∃ n', n = n' + 1 := ⟨n - 1, by omega⟩
      unfold w_X8_worthBy_5 w_X8_askerMany
      dsimp only
      rw [hd.2.2.1]
      refine k_yes (nI_le (by omega) (by omega)) ?_
      rw [show b = D 2 from by omega]
      exact k
    | succ d ih =>
      intro n b hb hn
      obtain ⟨n, rfl⟩ : ∃ n', n = n' + 1 := ⟨n - 1, by omega⟩
      have g := ih n (b + 1) (by omega) (by omega)
      unfold w_X8_worthBy_5 w_X8_askerMany
      dsimp only
      rw [hd.2.2.1, nI_1]
      refine k_no (nI_ge (by omega) (by omega)) (b_if hs31 (by omega) (fun h => ?_) (fun h => ?_))
      · rw [nI_clamp (by omega), hw b (by omega) h, zJ_add]
        unfold wtS at g
        rw [h, if_pos rfl] at g
        exact ⟨vp_in_nI (by omega) (by decide), g⟩
      · unfold wtS at g
        rw [h, if_neg (by decide), Int.add_zero] at g
        exact g
  exact ⟨_, key (D 2) (D 2 + 1) 0 (by omega) (by omega)⟩
/-- all but the pile, the kind of the text, who can and what they are worth the same -/
theorem canB_s (D S : Nat → Nat) (P : Nat → List Nat) (b : Nat) : canB D S P (b + 1) = canB D S P b + if canA D S P b then 2 ^ b else 0 := rfl
def fL (M M' : pm) : Prop := mL M' = mL M ∧ mR M' = mR M ∧ (∀ a, a ≠ 277 → mI M' a = mI M a) ∧ (∀ k, k ≠ 51 → k ≠ 54 → k ≠ 102 → mI M' 277 k = mI M 277 k) ∧ ∀ a, a ≠ 319 → a ≠ 351 → mJ M' a = mJ M a
theorem fL.rf (M : pm) : fL M M := ⟨rfl, rfl, fun _ _ => rfl, fun _ _ _ _ => rfl, fun _ _ _ => rfl⟩
theorem fL.tr {M M1 M2 : pm} (h : fL M M1) (g : fL M1 M2) : fL M M2 := ⟨g.1.trans h.1, g.2.1.trans h.2.1, fun a h1 => (g.2.2.1 a h1).trans (h.2.2.1 a h1), fun k h1 h2 h3 => (g.2.2.2.1 k h1 h2 h3).trans (h.2.2.2.1 k h1 h2 h3), fun a h1 h2 => (g.2.2.2.2 a h1 h2).trans (h.2.2.2.2 a h1 h2)⟩
theorem fr.L {M M' : pm} (h : fr M M') : fL M M' := ⟨h.1, h.2.1, h.2.2.1, fun k h1 _ h2 => h.2.2.2.1 k h1 h2, fun a _ h2 => h.2.2.2.2 a h2⟩
theorem fL.i {M M1 : pm} (h : fL M M1) (v : Int32) : fL M (sI M1 277 54 v) := ⟨h.1, h.2.1, fun a ha => by rw [← h.2.2.1 a ha]; exact mI_off ha, fun k h1 h2 h3 => by rw [← h.2.2.2.1 k h1 h2 h3]; exact rI (by omega), h.2.2.2.2⟩
theorem fL.j {M M1 : pm} (h : fL M M1) (k : Nat) (v : Int64) : fL M (sJ M1 319 k v) := ⟨h.1, h.2.1, h.2.2.1, h.2.2.2.1, fun a h1 h2 => by rw [← h.2.2.2.2 a h1 h2]; exact mJ_off h1⟩
theorem fL_d {M M' : pm} (h : fL M M') {D : Nat → Nat} {P : Nat → List Nat} (hd : dM M D P) : dM M' D P := dM_c (fun b b1 b2 _ => h.2.2.1 b (by omega)) hd
theorem fL_s {M M' : pm} (h : fL M M') {D S : Nat → Nat} (hs : sM M D S) : sM M' D S := sM_c (h.2.2.1 317 (by decide)) hs
theorem m_laysCan {M : pm} {D S : Nat → Nat} {P : Nat → List Nat} (hd : dM M D P) (hD : okD D P) (hs : sM M D S) (hS : okS D S) {Q : pm → Prop} (k : ∀ M', fL M M' → mI M' 277 54 = nI (canB D S P (D 2)) → (∀ b, b < D 2 → canA D S P b = true → mJ M' 319 b = zJ (vA D S P b 2) ∧ vOk D S P b) → Q M') : w_X8_laysCan M Q := by
  have h8 := hD.2.2.1
  have key : ∀ d n b M1, b + d = D 2 → d < n → fL M M1 → mI M1 277 54 = nI (canB D S P b) → (∀ q, q < b → canA D S P q = true → mJ M1 319 q = zJ (vA D S P q 2) ∧ vOk D S P q) → w_X8_laysCan_7 n (nI b) M1 Q := by
    intro d
    induction d with
    | zero =>
      intro n b M1 hb hn hf h1 h2
      obtain ⟨n, rfl⟩ : ∃ n', n = n' + 1 := ⟨n - 1, by omega⟩
      unfold w_X8_laysCan_7 w_X8_askerMany
      dsimp only
      rw [(fL_d hf hd).2.2.1]
      refine k_yes (nI_le (by omega) (by omega)) ?_
      rw [show b = D 2 from by omega] at h1 h2
      exact k M1 hf h1 h2
    | succ d ih =>
      intro n b M1 hb hn hf h1 h2
      obtain ⟨n, rfl⟩ : ∃ n', n = n' + 1 := ⟨n - 1, by omega⟩
      unfold w_X8_laysCan_7 w_X8_askerMany
      dsimp only
      rw [(fL_d hf hd).2.2.1, nI_1]
      refine k_no (nI_ge (by omega) (by omega)) (m_canPlay (fL_d hf hd) hD (fL_s hf hs) hS (by omega) (fun M2 f2 => ?_))
      have hf2 := hf.tr f2.L
      have e54 : mI M2 277 54 = nI (canB D S P b) := by rw [f2.2.2.2.1 54 (by decide) (by decide)]; exact h1
      have e319 : mJ M2 319 = mJ M1 319 := f2.2.2.2.2 319 (by decide)
      have hl := canB_lt (D := D) (S := S) (P := P) b
      have hp2 : 2 ^ b ≤ 2 ^ 8 := Nat.pow_le_pow_right (by decide) (by omega)
      by_cases hc : canA D S P b = true
      · rw [if_pos hc]
        refine k_no (by decide) ?_
        rw [e54, b_one (by omega), b_or (by omega) (by omega), canB_or]
        have hf3 := hf2.i (nI (canB D S P b + 2 ^ b))
        refine m_worthOf (fL_d hf3 hd) hD (fL_s hf3 hs) hS (by omega) (fun M4 f4 v1 v2 => ?_)
        rw [nI_clamp (by omega)]
        refine ⟨vp_in_nI (by omega) (by decide), ih n (b + 1) _ (by omega) (by omega) ((hf3.tr f4.L).j _ _) ?_ (fun q hq hqc => ?_)⟩
        · show mI M4 277 54 = _
          rw [f4.2.2.2.1 54 (by decide) (by decide), rIs]
          rw [canB_s, if_pos hc]
        · by_cases e : q = b
          · subst e; exact ⟨rJs _ _ _ _, v1, v2⟩
          · rw [rJ (by omega), f4.2.2.2.2 319 (by decide)]
            show mJ M2 319 q = _ ∧ _
            rw [e319]
            exact h2 q (by omega) hqc
      · rw [if_neg hc]
        refine k_yes rfl (ih n (b + 1) M2 (by omega) (by omega) hf2 ?_ (fun q hq hqc => ?_))
        · rw [e54, canB_s, if_neg hc]; rfl
        · by_cases e : q = b
          · subst e; exact absurd hqc hc
          · rw [e319]; exact h2 q (by omega) hqc
  exact ⟨_, key (D 2) (D 2 + 1) 0 _ (by omega) (by omega) ((fL.rf M).i _) (rIs _ _ _ _) (fun q hq => absurd hq (by omega))⟩
def fM (M M' : pm) : Prop := mL M' = mL M ∧ mR M' = mR M ∧ (∀ a, a ≠ 277 → mI M' a = mI M a) ∧ (∀ k, k ≠ 51 → k ≠ 54 → k ≠ 56 → k ≠ 57 → k ≠ 102 → mI M' 277 k = mI M 277 k) ∧ ∀ a, a ≠ 319 → a ≠ 351 → mJ M' a = mJ M a
theorem fM.rf (M : pm) : fM M M := ⟨rfl, rfl, fun _ _ => rfl, fun _ _ _ _ _ _ => rfl, fun _ _ _ => rfl⟩
theorem fM.tr {M M1 M2 : pm} (h : fM M M1) (g : fM M1 M2) : fM M M2 := ⟨g.1.trans h.1, g.2.1.trans h.2.1, fun a h1 => (g.2.2.1 a h1).trans (h.2.2.1 a h1), fun k h1 h2 h3 h4 h5 => (g.2.2.2.1 k h1 h2 h3 h4 h5).trans (h.2.2.2.1 k h1 h2 h3 h4 h5), fun a h1 h2 => (g.2.2.2.2 a h1 h2).trans (h.2.2.2.2 a h1 h2)⟩
theorem fL.M {M M' : pm} (h : fL M M') : fM M M' := ⟨h.1, h.2.1, h.2.2.1, fun k h1 h2 _ _ h5 => h.2.2.2.1 k h1 h2 h5, h.2.2.2.2⟩
theorem fM.i {M M1 : pm} (h : fM M M1) {k : Nat} (hk : k = 56 ∨ k = 57) (v : Int32) : fM M (sI M1 277 k v) := ⟨h.1, h.2.1, fun a ha => by rw [← h.2.2.1 a ha]; exact mI_off ha, fun j h1 h2 h3 h4 h5 => by rw [← h.2.2.2.1 j h1 h2 h3 h4 h5]; exact rI (by omega), h.2.2.2.2⟩
theorem fM_d {M M' : pm} (h : fM M M') {D : Nat → Nat} {P : Nat → List Nat} (hd : dM M D P) : dM M' D P := dM_c (fun b b1 b2 _ => h.2.2.1 b (by omega)) hd
theorem fM_s {M M' : pm} (h : fM M M') {D S : Nat → Nat} (hs : sM M D S) : sM M' D S := sM_c (h.2.2.1 317 (by decide)) hs
theorem wt_in {D S : Nat → Nat} {P : Nat → List Nat} (hD : okD D P) (hv : ∀ b, b < D 2 → canA D S P b = true → vOk D S P b) {s : Nat} (hc : ∀ i, s.testBit i = true → canA D S P i = true) : -8000000 ≤ wtS D S P s (D 2) ∧ wtS D S P s (D 2) ≤ 8000000 := by
  have h8 := hD.2.2.1
  have : ∀ b, b ≤ D 2 → -(1000000 * (b : Int)) ≤ wtS D S P s b ∧ wtS D S P s b ≤ 1000000 * (b : Int) := by
    intro b
    induction b with
    | zero => intro _; simp [wtS]
    | succ b ih =>
      intro hb
      have i1 := ih (by omega)
      unfold wtS
      by_cases e : s.testBit b = true
      · rw [if_pos e]
        have := hv b (by omega) (hc b e)
        unfold vOk at this
        omega
      · rw [if_neg e]
        omega
  have := this (D 2) (Nat.le_refl _)
  omega
theorem m_laysBest {M : pm} {D S : Nat → Nat} {P : Nat → List Nat} (hd : dM M D P) (hD : okD D P) (hs : sM M D S) (hS : okS D S) {Q : pm → Prop} (k : ∀ M', fM M M' → isBest D S P (bst D S P) → mI M' 277 56 = nI (bst D S P) → mI M' 277 57 = nI (mnS D S (bst D S P) (D 2)) → mI M' 277 54 = nI (canB D S P (D 2)) → Q M') : w_X8_laysBest M Q := by
  have h8 := hD.2.2.1
  have h60 := hD.1
  have hp2 : 2 ^ D 2 ≤ 2 ^ 8 := Nat.pow_le_pow_right (by decide) h8
  have hpos : 0 < 2 ^ D 2 := Nat.two_pow_pos _
  refine m_laysCan hd hD hs hS (fun M1 hf h54 hw => ?_)
  have mnb : ∀ s, mnS D S s (D 2) ≤ 480 := fun s => by have := mnS_le hD hS s (D 2) (Nat.le_refl _); omega
  have hcl := canB_lt (D := D) (S := S) (P := P) (D 2)
  have key : ∀ d n s b M2, s + d = 2 ^ D 2 → d < n → b < s → fM M1 M2 → mI M2 277 54 = mI M1 277 54 → mJ M2 319 = mJ M1 319 → mI M2 277 56 = nI b → mI M2 277 57 = nI (mnS D S b (D 2)) → fs D S P b → (∀ e, e < s → fs D S P e → wtS D S P e (D 2) < wtS D S P b (D 2) ∨ (wtS D S P e (D 2) = wtS D S P b (D 2) ∧ (mnS D S b (D 2) < mnS D S e (D 2) ∨ (mnS D S b (D 2) = mnS D S e (D 2) ∧ b ≤ e)))) → w_X8_laysBest_18 n (zJ (wtS D S P b (D 2))) (nI s) M2 Q := by
    intro d
    induction d with
    | zero =>
      intro n s b M2 hc hn hb f2 e54 e319 e56 e57 hfb h2
      obtain ⟨n, rfl⟩ : ∃ n', n = n' + 1 := ⟨n - 1, by omega⟩
      unfold w_X8_laysBest_18 w_X8_askerMany
      dsimp only
      rw [(fM_d (hf.M.tr f2) hd).2.2.1, b_one (by omega)]
      refine k_yes (nI_le (by omega) (by omega)) ?_
      have hbb : isBest D S P b := ⟨hfb, fun e he => h2 e (by have := he.1; omega) he⟩
      have e := bst_eq hbb
      rw [e] at e56 e57 hbb
      exact k M2 (hf.M.tr f2) hbb e56 e57 (by rw [e54]; exact h54)
    | succ d ih =>
      intro n s b M2 hc hn hb f2 e54 e319 e56 e57 hfb h2
      obtain ⟨n, rfl⟩ : ∃ n', n = n' + 1 := ⟨n - 1, by omega⟩
      have hd2 := fM_d (hf.M.tr f2) hd
      have hs2 := fM_s (hf.M.tr f2) hs
      have m1 := mnb s
      have m2 := mnb b
      have stay : (fs D S P s → wtS D S P s (D 2) < wtS D S P b (D 2) ∨ (wtS D S P s (D 2) = wtS D S P b (D 2) ∧ mnS D S b (D 2) ≤ mnS D S s (D 2))) → w_X8_laysBest_18 n (zJ (wtS D S P b (D 2))) (nI (s + 1)) M2 Q := by
        intro hst
        refine ih n (s + 1) b M2 (by omega) (by omega) (by omega) f2 e54 e319 e56 e57 hfb (fun e he hm => ?_)
        by_cases q : e = s
        · subst q
          have := hst hm
          omega
        · exact h2 e (by omega) hm
      unfold w_X8_laysBest_18 w_X8_askerMany
      dsimp only
      rw [hd2.2.2.1, b_one (by omega), nI_1, e54, h54]
      refine k_no (nI_ge (by omega) (by omega)) ?_
      rw [b_sub (by omega) (by omega)]
      refine ⟨fun hsub => ?_, fun hsub => stay (fun q => absurd (fun i hi => (canB_tb (D 2)).mpr ⟨?_, q.2.1 i hi⟩) hsub)⟩
      · have hcan : ∀ i, s.testBit i = true → canA D S P i = true := fun i hi => ((canB_tb (D 2)).mp (hsub i hi)).2
        have w1 := wt_in hD (fun b hb hc => (hw b hb hc).2) hcan
        have w2 := wt_in hD (fun b hb hc => (hw b hb hc).2) hfb.2.1
        refine m_minutesOf hd2 hD hs2 hS (by omega) ?_
        rw [hd2.1]
        refine pk_le (mnS D S s (D 2)) (D 0) (fun q => ?_) (fun q => stay (fun q2 => absurd q2.2.2 (by omega)))
        have hfs : fs D S P s := ⟨by omega, hcan, q⟩
        refine m_worthBy hd2 hD (fun b hb hc => by rw [e319]; exact (hw b hb (hcan b hc)).1) (by omega) ?_
        have goes : wtS D S P b (D 2) < wtS D S P s (D 2) ∨ (wtS D S P s (D 2) = wtS D S P b (D 2) ∧ mnS D S s (D 2) < mnS D S b (D 2)) → w_X8_laysBest_18 n (zJ (wtS D S P s (D 2))) (nI (s + 1)) (sI (sI M2 277 56 (nI s)) 277 57 (nI (mnS D S s (D 2)))) Q := by
          intro hst
          refine ih n (s + 1) s _ (by omega) (by omega) (by omega) ((f2.i (Or.inl rfl) _).i (Or.inr rfl) _) ?_ e319 ?_ (rIs _ _ _ _) hfs (fun e he hm => ?_)
          · rw [rI (by omega), rI (by omega)]; exact e54
          · rw [rI (by omega)]; exact rIs _ _ _ _
          · by_cases q : e = s
            · subst q
              omega
            · have := h2 e (by omega) hm
              omega
        rw [e57]
        exact kj_lt (wtS D S P s (D 2)) (wtS D S P b (D 2)) (fun q1 => stay (fun _ => Or.inl q1)) (fun q1 => kj_ne (wtS D S P s (D 2)) (wtS D S P b (D 2)) (fun q2 => goes (Or.inl (by omega))) (fun q2 => pk_lt (mnS D S s (D 2)) (mnS D S b (D 2)) (fun q3 => goes (Or.inr ⟨q2, q3⟩)) (fun q3 => stay (fun _ => Or.inr ⟨q2, q3⟩))))
      · rcases Nat.lt_or_ge i (D 2) with h | h
        · exact h
        · rw [tb_ge q.1 h] at hi; exact absurd hi (by decide)
  have k0 := key (2 ^ D 2 - 1) (2 ^ D 2 + 1) 1 0 (sI (sI M1 277 56 0) 277 57 0) (by omega) (by omega) (by omega) (((fM.rf M1).i (Or.inl rfl) _).i (Or.inr rfl) _) (by rw [rI (by omega), rI (by omega)]) rfl (by rw [rI (by omega)]; exact rIs _ _ _ _) (by rw [mnS_0]; exact rIs _ _ _ _) ⟨hpos, fun i hi => by rw [Nat.zero_testBit] at hi; exact absurd hi (by decide), by rw [mnS_0]; omega⟩ (fun e he hm => by rw [show e = 0 from by omega]; exact Or.inr ⟨rfl, Or.inr ⟨rfl, Nat.le_refl _⟩⟩)
  rw [wtS_0] at k0
  exact ⟨_, k0⟩
