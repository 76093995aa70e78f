/-! a station told, by the class: the whole call -/
theorem c_begin {M : pm} {t : Nat} (ht : tOk t) {Q : pm → Prop} (kk : ∀ M', fG (fun a k => 57 ≤ a ∧ a < 63) M M' → mI M' 57 0 = 0 → mI M' 57 1 = mI M t 2 → mI M' 57 7 = 0 → (∀ b, b < 8 → mI M' (57 + 1) b = mI M (t + 5) b ∧ mI M' (57 + 2) b = mI M (t + 6) b ∧ mI M' (57 + 3) b = mI M (t + 7) b ∧ mI M' (57 + 4) b = -1 ∧ mI M' (57 + 5) b = 0) → Q M') : w_X4_begin 57 t M Q := by
  unfold tOk at ht
  have key : ∀ d m i M1, i + d = 8 → d < m → fG (fun a k => 57 ≤ a ∧ a < 63) M M1 → mI M1 57 0 = 0 → mI M1 57 1 = mI M t 2 → mI M1 57 7 = 0 → (∀ b, b < i → mI M1 (57 + 1) b = mI M (t + 5) b ∧ mI M1 (57 + 2) b = mI M (t + 6) b ∧ mI M1 (57 + 3) b = mI M (t + 7) b ∧ mI M1 (57 + 4) b = -1 ∧ mI M1 (57 + 5) b = 0) → w_X4_begin_20 m 57 t (nI i) M1 Q := by
    intro d
    induction d with
    | zero =>
      intro m i M1 hi hm f e0 e1 e7 e
      obtain ⟨m, rfl⟩ : ∃ m', m = m' + 1 := ⟨m - 1, by omega⟩
      unfold w_X4_begin_20
      exact k_yes (nI_le (a := 8) (by omega) (by omega)) (kk M1 f e0 e1 e7 (fun b hb => e b (by omega)))
    | succ d ih =>
      intro m i M1 hi hm f e0 e1 e7 e
      obtain ⟨m, rfl⟩ : ∃ m', m = m' + 1 := ⟨m - 1, by omega⟩
      unfold w_X4_begin_20
      rw [nI_clamp (by omega), nI_1]
      have v : vp_in (nI i) 8 := vp_in_nI (by omega) (by decide)
      refine k_no (nI_ge (b := 8) (by omega) (by decide)) ⟨v, v, v, v, v, v, v, v, ih m (i + 1) _ (by omega) (by omega) (((((f.up ⟨by omega, by omega⟩ _).up ⟨by omega, by omega⟩ _).up ⟨by omega, by omega⟩ _).up ⟨by omega, by omega⟩ _).up ⟨by omega, by omega⟩ _) ?_ ?_ ?_ (fun b hb => ?_)⟩
      · rw [rI (by omega), rI (by omega), rI (by omega), rI (by omega), rI (by omega)]; exact e0
      · rw [rI (by omega), rI (by omega), rI (by omega), rI (by omega), rI (by omega)]; exact e1
      · rw [rI (by omega), rI (by omega), rI (by omega), rI (by omega), rI (by omega)]; exact e7
      · have g : ∀ a, a = t + 5 ∨ a = t + 6 ∨ a = t + 7 → mI M1 a i = mI M a i := fun a ha => f.2.2.2 a i (by omega)
        by_cases q : b = i
        · subst q
          refine ⟨?_, ?_, ?_, ?_, rIs _ _ _ _⟩
          · rw [rI (by omega), rI (by omega), rI (by omega), rI (by omega), rIs]; exact g _ (by omega)
          · rw [rI (by omega), rI (by omega), rI (by omega), rIs, rI (by omega)]; exact g _ (by omega)
          · rw [rI (by omega), rI (by omega), rIs, rI (by omega), rI (by omega)]; exact g _ (by omega)
          · rw [rI (by omega), rIs]
        · have z : ∀ a, mI (sI (sI (sI (sI (sI M1 (57 + 1) i (mI M1 (t + 5) i)) (57 + 2) i (mI (sI M1 (57 + 1) i (mI M1 (t + 5) i)) (t + 6) i)) (57 + 3) i (mI (sI (sI M1 (57 + 1) i (mI M1 (t + 5) i)) (57 + 2) i (mI (sI M1 (57 + 1) i (mI M1 (t + 5) i)) (t + 6) i)) (t + 7) i)) (57 + 4) i (-1)) (57 + 5) i 0) a b = mI M1 a b := fun a => by
            rw [rI (by omega), rI (by omega), rI (by omega), rI (by omega), rI (by omega)]
          rw [z, z, z, z, z]
          exact e b (by omega)
  refine ⟨9, key 8 9 0 _ (by omega) (by omega) ((((fG.rf M).up ⟨by omega, by omega⟩ _).up ⟨by omega, by omega⟩ _).up ⟨by omega, by omega⟩ _) ?_ ?_ (rIs _ _ _ _) (fun b hb => absurd hb (Nat.not_lt_zero _))⟩
  · rw [rI (by omega), rI (by omega), rIs]
  · rw [rI (by omega), rIs, rI (by omega)]
/-- behind the class's call: refused -/
def stFl (M M1 : pm) (t : Nat) (e : Nat × Nat) : Prop := mL M1 = mL M ∧ mJ M1 = mJ M ∧ (∀ a k, ¬ ((a = 5 ∧ k = 2) ∨ (a = 6 ∧ k = 1)) → mR M1 a k = mR M a k) ∧ (∀ a k, ¬ (a = 5 ∨ a = 6 ∨ (t ≤ a ∧ a < t + 15) ∨ (a = 3 ∧ (k = 1 ∨ k = 6 ∨ k = 7)) ∨ (a = 276 ∧ k = 1)) → mI M1 a k = mI M a k) ∧ mI M1 3 1 = 0 ∧ mI M1 3 6 = nI e.1 ∧ mI M1 3 7 = nI e.2 ∧ mI M1 276 1 = mI M 276 1 + 1
/-- or done: u is the station before, t the one told -/
def stGd (M M1 : pm) (u t k : Nat) (σ : sg) : Prop := mL M1 = mL M ∧ mJ M1 = mJ M ∧ (∀ a k, ¬ ((a = 5 ∧ k = 2) ∨ (a = 6 ∧ k = 1) ∨ (a = 3 ∧ (k = 3 ∨ k = 4))) → mR M1 a k = mR M a k) ∧ (mR M1 3 3 = t ∧ mR M1 3 4 = u) ∧ (∀ a k, ¬ (a = 5 ∨ a = 6 ∨ (t ≤ a ∧ a < t + 15) ∨ (57 ≤ a ∧ a < 63) ∨ (a = 75 ∧ k = 1) ∨ (a = 3 ∧ (k = 1 ∨ k = 5 ∨ k = 6 ∨ k = 7 ∨ k = 13))) → mI M1 a k = mI M a k) ∧ (mI M1 3 1 = 0 ∧ mI M1 3 5 = 1 ∧ mI M1 3 6 = 0 ∧ mI M1 3 7 = -1 ∧ mI M1 3 13 = 0 ∧ mI M1 75 1 = 0) ∧ (mI M1 57 0 = 0 ∧ mI M1 57 1 = nI σ.1.2.1 ∧ mI M1 57 7 = 0) ∧ (∀ b, b < 8 → mI M1 (57 + 1) b = mI M1 (t + 5) b ∧ mI M1 (57 + 2) b = mI M1 (t + 6) b ∧ mI M1 (57 + 3) b = mI M1 (t + 7) b ∧ mI M1 (57 + 4) b = -1 ∧ mI M1 (57 + 5) b = 0) ∧ cHd M1 t k σ ∧ cRw M1 t σ ∧ okG (dfA σ) ∧ ∃ L, L ≤ 1600 ∧ ∀ p, p < 3 → cPt M1 t L p ((dfA σ).2.2.2.2 p)
theorem c_station {M : pm} {u t : Nat} {T : Nat → Nat} {n : Nat} (ht : tOk t) (h34 : mR M 3 4 = t) (h33 : mR M 3 3 = u) (h1 : mI M 3 1 = nI n) (hT : tpC M T) (hn : n ≤ 1600) (hw : wdC M) {K : Int32 → pm → Prop} (k1 : ∀ e M1, sWh T n = .inl e → stFl M M1 t e → K (-1) M1) (k2 : ∀ k σ s M1, sWh T n = .inr ((k, σ), s) → stGd M M1 u t k σ → K (nI k) M1) : w_X7_station M K := by
  have tt := ht
  unfold tOk at tt
  unfold w_X7_station w_X7_takeTape
  rw [h1]
  show w_X3_readStation 4 (nI n) (mR M 3 4) (sI M 3 1 0) _
  rw [h34]
  refine c_readSt ht (tpC_c (mI_off (by decide)) hT) hn (fun w h => by rw [mI_off (by decide)]; exact hw w h) (fun M4 f4 t4 g4 => ?_)
  unfold w_X7_keepFault
  dsimp only
  generalize hM7 : sI (sI M4 3 6 (mI M4 6 7)) 3 7 (mI M4 6 8) = M7
  have e4 : ∀ a k, ¬ (a = 3 ∧ (k = 6 ∨ k = 7)) → mI M7 a k = mI M4 a k := fun a k h => by rw [← hM7, rI (by omega), rI (by omega)]
  have e7 : ∀ a k, ¬ (a = 5 ∨ a = 6 ∨ (t ≤ a ∧ a < t + 15)) → ¬ (a = 3 ∧ (k = 1 ∨ k = 6 ∨ k = 7)) → mI M7 a k = mI M a k := fun a k h1 h2 => by
    rw [e4 a k (by omega), f4.2.2.2 a k h1, rI (by omega)]
  have v1 : mI M7 3 1 = 0 := by rw [e4 3 1 (by omega), f4.2.2.2 3 1 (by omega), rIs]
  have v6 : mI M7 3 6 = mI M4 6 7 := by rw [← hM7, rI (by omega), rIs]
  have v7 : mI M7 3 7 = mI M4 6 8 := by rw [← hM7, rIs]
  have vL : mL M7 = mL M := by rw [← hM7]; exact f4.1
  have vJ : mJ M7 = mJ M := by rw [← hM7]; exact f4.2.1
  have vR : ∀ a k, ¬ ((a = 5 ∧ k = 2) ∨ (a = 6 ∧ k = 1)) → mR M7 a k = mR M a k := fun a k h => by rw [← hM7]; exact f4.2.2.1 a k h
  cases hr : sWh T n with
  | inl e =>
    rw [hr] at t4
    obtain ⟨s1, s2, s3, s4, s5⟩ := t4
    refine k_no (by rw [v6, s2]; exact nI_ne0 (by omega) (by omega)) (s_refuse (j := 1) (by decide) (k1 e _ hr ⟨vL, vJ, vR, fun a k h => ?_, ?_, ?_, ?_, ?_⟩))
    · rw [rI (by omega)]; exact e7 a k (by omega) (by omega)
    · rw [rI (by omega)]; exact v1
    · rw [rI (by omega), v6]; exact s2
    · rw [rI (by omega), v7]; exact s3
    · rw [rIs, e7 276 1 (by omega) (by omega)]
  | inr x =>
    obtain ⟨⟨k, σ⟩, s⟩ := x
    rw [hr] at t4
    obtain ⟨-, -, -, -, -, -, s7, s8⟩ := t4
    obtain ⟨L, c1, c2, c3, c4, c5, c6, c7, c8⟩ := g4 k σ s hr
    refine k_yes (by rw [v6]; exact s7) ?_
    have q33 : mR (sR (sR M7 3 3 (mR M7 3 4)) 3 4 (mR M7 3 3)) 3 3 = t := by
      rw [mR_sR, if_neg (by decide), mR_sR, if_pos ⟨rfl, rfl⟩, vR 3 4 (by omega), h34]
    rw [q33]
    generalize hM8 : sI (sR (sR M7 3 3 (mR M7 3 4)) 3 4 (mR M7 3 3)) 3 5 1 = M8
    have r8 : ∀ a k, mR M8 a k = if a = 3 ∧ k = 4 then u else if a = 3 ∧ k = 3 then t else mR M7 a k := fun a k => by
      rw [← hM8]
      show mR (sR (sR M7 3 3 (mR M7 3 4)) 3 4 (mR M7 3 3)) a k = _
      rw [mR_sR, mR_sR, vR 3 3 (by omega), h33, vR 3 4 (by omega), h34]
    have e8 : ∀ a k, ¬ (a = 3 ∧ k = 5) → mI M8 a k = mI M7 a k := fun a k h => by rw [← hM8, rI h]; rfl
    refine c_begin ht (fun M12 f12 b0 b1 b7 b8 => ?_)
    unfold w_X0_forget
    have r12 : mR (sI M12 75 1 0) 3 3 = t := by
      show mR M12 3 3 = t
      rw [f12.2.1, r8, if_neg (by decide), if_pos ⟨rfl, rfl⟩]
    show K (mI (sI (sI M12 75 1 0) 3 13 0) (mR (sI M12 75 1 0) 3 3) 0) (sI (sI M12 75 1 0) 3 13 0)
    rw [r12]
    generalize hM9 : sI (sI M12 75 1 0) 3 13 0 = M9
    have e9 : ∀ a k, ¬ (a = 75 ∧ k = 1) → ¬ (a = 3 ∧ k = 13) → mI M9 a k = mI M12 a k := fun a k h1 h2 => by rw [← hM9, rI h2, rI h1]
    have et : ∀ a k, t ≤ a → a < t + 15 → mI M9 a k = mI M4 a k := fun a k h1 h2 => by
      rw [e9 a k (by omega) (by omega), f12.2.2.2 a k (by omega), e8 a k (by omega), e4 a k (by omega)]
    have c1t := c3.1
    rw [et t 0 (by omega) (by omega), c1t]
    refine k2 k σ s M9 hr ⟨?_, ?_, fun a j h => ?_, ⟨?_, ?_⟩, fun a j h => ?_, ⟨?_, ?_, ?_, ?_, ?_, ?_⟩, ⟨?_, ?_, ?_⟩, fun b hb => ?_, ?_, ?_, c7, L, c5.2.2.2, fun p hp => ?_⟩
    · rw [← hM9]; show mL M12 = _; rw [f12.1, ← hM8]; exact vL
    · rw [← hM9]; show mJ M12 = _; rw [f12.2.2.1, ← hM8]; exact vJ
    · rw [← hM9]; show mR M12 a j = _; rw [f12.2.1, r8, if_neg (by omega), if_neg (by omega)]; exact vR a j (by omega)
    · rw [← hM9]; exact r12
    · rw [← hM9]; show mR M12 3 4 = _; rw [f12.2.1, r8, if_pos ⟨rfl, rfl⟩]
    · rw [e9 a j (by omega) (by omega), f12.2.2.2 a j (by omega), e8 a j (by omega), e7 a j (by omega) (by omega)]
    · rw [e9 3 1 (by omega) (by omega), f12.2.2.2 3 1 (by omega), e8 3 1 (by omega)]; exact v1
    · rw [e9 3 5 (by omega) (by omega), f12.2.2.2 3 5 (by omega), ← hM8, rIs]
    · rw [e9 3 6 (by omega) (by omega), f12.2.2.2 3 6 (by omega), e8 3 6 (by omega), v6]; exact s7
    · rw [e9 3 7 (by omega) (by omega), f12.2.2.2 3 7 (by omega), e8 3 7 (by omega), v7]; exact s8
    · rw [← hM9, rIs]
    · rw [← hM9, rI (by omega), rIs]
    · rw [e9 57 0 (by omega) (by omega)]; exact b0
    · rw [e9 57 1 (by omega) (by omega), b1, e8 t 2 (by omega), e4 t 2 (by omega)]; exact c3.2.2.1
    · rw [e9 57 7 (by omega) (by omega)]; exact b7
    · have h := b8 b hb
      have z : ∀ a, t ≤ a → a < t + 15 → mI M9 a b = mI M8 a b := fun a h1 h2 => by rw [e9 a b (by omega) (by omega), f12.2.2.2 a b (by omega)]
      rw [z (t + 5) (by omega) (by omega), z (t + 6) (by omega) (by omega), z (t + 7) (by omega) (by omega), e9 (57 + 1) b (by omega) (by omega), e9 (57 + 2) b (by omega) (by omega), e9 (57 + 3) b (by omega) (by omega), e9 (57 + 4) b (by omega) (by omega), e9 (57 + 5) b (by omega) (by omega)]
      exact h
    · have c3' : cHd M4 t k σ := c3
      unfold cHd at c3' ⊢
      rw [et t 0 (by omega) (by omega), et t 1 (by omega) (by omega), et t 2 (by omega) (by omega), et t 3 (by omega) (by omega), et t 4 (by omega) (by omega), et t 8 (by omega) (by omega), et t 13 (by omega) (by omega)]
      exact c3'
    · have c4' : cRw M4 t σ := c4
      have er : ∀ a, t ≤ a → a < t + 15 → mI M9 a = mI M4 a := fun a h1 h2 => funext fun j => et a j h1 h2
      unfold cRw at c4' ⊢
      rw [er (t + 1) (by omega) (by omega), er (t + 2) (by omega) (by omega), er (t + 3) (by omega) (by omega), er (t + 4) (by omega) (by omega), er (t + 5) (by omega) (by omega), er (t + 6) (by omega) (by omega), er (t + 7) (by omega) (by omega), er (t + 8) (by omega) (by omega), er (t + 9) (by omega) (by omega)]
      exact c4'
    · exact cPt_c (fun a h1 h2 => funext fun j => et a j (by omega) (by omega)) (c8 p hp)
