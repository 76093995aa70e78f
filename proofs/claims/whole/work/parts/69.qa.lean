/-! the reference reads SUMS: what it does at each token -/
def qwV (w : Nat) : Int32 := if w = 7 then 0 else if w = 15 then 1 else if w = 16 then 2 else if w = 17 then 3 else if w = 18 then 4 else if w = 2 then 5 else if w = 3 then 6 else if w = 19 then 7 else if w = 20 then 8 else if w = 21 then 9 else if w = 5 then 10 else -1
theorem m_qWord {M : pm} {T : Nat → Nat} {n : Nat} {s : ts} (h : tkL M T n s) {Q : Int32 → pm → Prop} (k : Q (qwV (kwN T n s)) M) : w_X8_qWordHere M Q := (m_isHereL h 338 7 (by decide) (fun q0 => k_no (by decide) (by unfold qwV at k; rw [if_pos q0] at k; exact k)) (fun q0 => k_yes rfl (m_isHereL h 339 15 (by decide) (fun q1 => k_no (by decide) (by unfold qwV at k; rw [if_neg q0, if_pos q1] at k; exact k)) (fun q1 => k_yes rfl (m_isHereL h 340 16 (by decide) (fun q2 => k_no (by decide) (by unfold qwV at k; rw [if_neg q0, if_neg q1, if_pos q2] at k; exact k)) (fun q2 => k_yes rfl (m_isHereL h 341 17 (by decide) (fun q3 => k_no (by decide) (by unfold qwV at k; rw [if_neg q0, if_neg q1, if_neg q2, if_pos q3] at k; exact k)) (fun q3 => k_yes rfl (m_isHereL h 342 18 (by decide) (fun q4 => k_no (by decide) (by unfold qwV at k; rw [if_neg q0, if_neg q1, if_neg q2, if_neg q3, if_pos q4] at k; exact k)) (fun q4 => k_yes rfl (m_isHereL h 343 2 (by decide) (fun q5 => k_no (by decide) (by unfold qwV at k; rw [if_neg q0, if_neg q1, if_neg q2, if_neg q3, if_neg q4, if_pos q5] at k; exact k)) (fun q5 => k_yes rfl (m_isHereL h 344 3 (by decide) (fun q6 => k_no (by decide) (by unfold qwV at k; rw [if_neg q0, if_neg q1, if_neg q2, if_neg q3, if_neg q4, if_neg q5, if_pos q6] at k; exact k)) (fun q6 => k_yes rfl (m_isHereL h 345 19 (by decide) (fun q7 => k_no (by decide) (by unfold qwV at k; rw [if_neg q0, if_neg q1, if_neg q2, if_neg q3, if_neg q4, if_neg q5, if_neg q6, if_pos q7] at k; exact k)) (fun q7 => k_yes rfl (m_isHereL h 346 20 (by decide) (fun q8 => k_no (by decide) (by unfold qwV at k; rw [if_neg q0, if_neg q1, if_neg q2, if_neg q3, if_neg q4, if_neg q5, if_neg q6, if_neg q7, if_pos q8] at k; exact k)) (fun q8 => k_yes rfl (m_isHereL h 347 21 (by decide) (fun q9 => k_no (by decide) (by unfold qwV at k; rw [if_neg q0, if_neg q1, if_neg q2, if_neg q3, if_neg q4, if_neg q5, if_neg q6, if_neg q7, if_neg q8, if_pos q9] at k; exact k)) (fun q9 => k_yes rfl (m_isHereL h 348 5 (by decide) (fun q10 => k_no (by decide) (by unfold qwV at k; rw [if_neg q0, if_neg q1, if_neg q2, if_neg q3, if_neg q4, if_neg q5, if_neg q6, if_neg q7, if_neg q8, if_neg q9, if_pos q10] at k; exact k)) (fun q10 => k_yes rfl (by unfold qwV at k; rw [if_neg q0, if_neg q1, if_neg q2, if_neg q3, if_neg q4, if_neg q5, if_neg q6, if_neg q7, if_neg q8, if_neg q9, if_neg q10] at k; exact k)))))))))))))))))))))))
theorem m_qW1 {M : pm} {T : Nat → Nat} {n tk : Nat} {s : ts} (h : tkL M T n s) (htk : tk ≤ 2) (h51 : mI M 277 51 = nI tk) {Q : Int32 → pm → Prop} (k1 : tk = 2 ∧ kwN T n s = 5 → Q 10 M) (k0 : ¬ (tk = 2 ∧ kwN T n s = 5) → Q (-1) M) : w_X8_qWordOf 10 11 M Q := by
  refine m_qWord h ?_
  have hk := kwN_le T n s
  by_cases q : kwN T n s = 5
  · rw [q, show qwV 5 = 10 from by decide]
    refine k_no (by decide) (k_no (by decide) ?_)
    unfold w_X8_isAllowed
    rw [h51]
    rcases (show tk = 0 ∨ tk = 1 ∨ tk = 2 from by omega) with e | e | e
    · rw [e]; exact k_no (by decide) (k_yes' (by decide) (k_yes (by decide) (k_yes rfl (k0 (by omega)))))
    · rw [e]; exact k_no (by decide) (k_no' (by decide) (k_yes (by decide) (k_yes rfl (k0 (by omega)))))
    · rw [e]; exact k_yes (by decide) (k_no (by decide) (k1 ⟨e, q⟩))
  · have k0 := k0 (fun z => q z.2)
    refine ⟨fun _ => k0, fun q2 => ⟨fun _ => k0, fun q3 => ?_⟩⟩
    exfalso
    unfold qwV at q2 q3
    repeat' split at q2
    all_goals first | exact absurd (by decide) q2 | skip
    all_goals first | omega | (apply q2; decide) | skip
theorem m_qW0 {M : pm} {T : Nat → Nat} {n tk : Nat} {s : ts} (h : tkL M T n s) (htk : tk ≤ 2) (h51 : mI M 277 51 = nI tk) {Q : Int32 → pm → Prop} (k1 : fcW tk (kwN T n s) < 10 → Q (nI (fcW tk (kwN T n s))) M) (k0 : 10 ≤ fcW tk (kwN T n s) → Q (-1) M) : w_X8_qWordOf 0 10 M Q := by
  refine m_qWord h ?_
  have hk := kwN_le T n s
  have t3 : tk = 0 ∨ tk = 1 ∨ tk = 2 := by omega
  generalize kwN T n s = w at *
  by_cases q : w = 2 ∨ w = 3 ∨ w = 7 ∨ w = 15 ∨ w = 16 ∨ w = 17 ∨ w = 18 ∨ w = 19 ∨ w = 20 ∨ w = 21
  · have al : ∀ v : Nat, v < 10 → qwV w = nI v → (v < 5 ∨ (v < 7 ∧ 1 ≤ tk) ∨ tk = 2 → fcW tk w = v) → (¬ (v < 5 ∨ (v < 7 ∧ 1 ≤ tk) ∨ tk = 2) → fcW tk w = 10) → (((qwV w) < 0 → (Q (-1) M)) ∧ (¬ (qwV w) < 0 → ((10 ≤ (qwV w) → (Q (-1) M)) ∧ (¬ 10 ≤ (qwV w) → (w_X8_isAllowed (qwV w) M (fun y5 M4 => ((y5 = 0 → (Q (-1) M4)) ∧ (¬ y5 = 0 → (Q (qwV w) M4))))))))) := by
      intro v hv e f1 f0
      rw [e]
      refine k_no (nI_pos (by omega)) (k_no (nI_ge (b := 10) hv (by decide)) ?_)
      unfold w_X8_isAllowed
      rw [h51]
      rcases t3 with z | z | z
      · subst z
        refine k_no (by decide) (k_yes' (by decide) (pk_le 5 v (fun y => k_yes rfl (k0 (by rw [f0 (by omega)]; exact Nat.le_refl _))) (fun y => k_no (by decide) ?_)))
        have := k1 (by rw [f1 (by omega)]; exact hv)
        rw [f1 (by omega)] at this; exact this
      · subst z
        refine k_no (by decide) (k_no' (by decide) (pk_le 7 v (fun y => k_yes rfl (k0 (by rw [f0 (by omega)]; exact Nat.le_refl _))) (fun y => k_no (by decide) ?_)))
        have := k1 (by rw [f1 (by omega)]; exact hv)
        rw [f1 (by omega)] at this; exact this
      · subst z
        refine k_yes (by decide) (k_no (by decide) ?_)
        have := k1 (by rw [f1 (by omega)]; exact hv)
        rw [f1 (by omega)] at this; exact this
    rcases q with rfl | rfl | rfl | rfl | rfl | rfl | rfl | rfl | rfl | rfl
    · exact al 5 (by decide) (by decide) (by rcases t3 with rfl | rfl | rfl <;> decide) (by rcases t3 with rfl | rfl | rfl <;> decide)
    · exact al 6 (by decide) (by decide) (by rcases t3 with rfl | rfl | rfl <;> decide) (by rcases t3 with rfl | rfl | rfl <;> decide)
    · exact al 0 (by decide) (by decide) (by rcases t3 with rfl | rfl | rfl <;> decide) (by rcases t3 with rfl | rfl | rfl <;> decide)
    · exact al 1 (by decide) (by decide) (by rcases t3 with rfl | rfl | rfl <;> decide) (by rcases t3 with rfl | rfl | rfl <;> decide)
    · exact al 2 (by decide) (by decide) (by rcases t3 with rfl | rfl | rfl <;> decide) (by rcases t3 with rfl | rfl | rfl <;> decide)
    · exact al 3 (by decide) (by decide) (by rcases t3 with rfl | rfl | rfl <;> decide) (by rcases t3 with rfl | rfl | rfl <;> decide)
    · exact al 4 (by decide) (by decide) (by rcases t3 with rfl | rfl | rfl <;> decide) (by rcases t3 with rfl | rfl | rfl <;> decide)
    · exact al 7 (by decide) (by decide) (by rcases t3 with rfl | rfl | rfl <;> decide) (by rcases t3 with rfl | rfl | rfl <;> decide)
    · exact al 8 (by decide) (by decide) (by rcases t3 with rfl | rfl | rfl <;> decide) (by rcases t3 with rfl | rfl | rfl <;> decide)
    · exact al 9 (by decide) (by decide) (by rcases t3 with rfl | rfl | rfl <;> decide) (by rcases t3 with rfl | rfl | rfl <;> decide)
  · have f0 : fcW tk w = 10 := by
      unfold fcW
      rw [if_neg (by omega), if_neg (by omega), if_neg (by omega), if_neg (by omega), if_neg (by omega), if_neg (by omega), if_neg (by omega), if_neg (by omega), if_neg (by omega), if_neg (by omega)]
    have kz := k0 (by omega)
    by_cases q5 : w = 5
    · rw [q5]
      exact k_no (by decide) (k_yes (by decide) kz)
    · have e : qwV w = -1 := by
        unfold qwV
        rw [if_neg (by omega), if_neg (by omega), if_neg (by omega), if_neg (by omega), if_neg (by omega), if_neg (by omega), if_neg (by omega), if_neg (by omega), if_neg (by omega), if_neg (by omega), if_neg q5]
      rw [e]
      exact k_yes (by decide) kz
/-- the word of a part taken -/
def fcA : List Nat := [338, 339, 340, 341, 342, 343, 344, 345, 346, 347]
def fcK : List Nat := [7, 15, 16, 17, 18, 2, 3, 19, 20, 21]
theorem fc_kw {tk w : Nat} (h : fcW tk w < 10) : fcK.getD (fcW tk w) 0 = w := by
  unfold fcW at h ⊢
  repeat' split at h
  all_goals first | omega | skip
  all_goals simp_all (decide := true) <;> rfl
theorem q_askW {M : pm} {v : Nat} (hv : v < 10) {R : pm → Prop} (k : w_X8_asks (fcA.getD v 0) M R) : w_X8_qAsksWord (nI v) M R := by
  unfold w_X8_qAsksWord
  rcases (show v = 0 ∨ v = 1 ∨ v = 2 ∨ v = 3 ∨ v = 4 ∨ v = 5 ∨ v = 6 ∨ v = 7 ∨ v = 8 ∨ v = 9 from by omega) with rfl | rfl | rfl | rfl | rfl | rfl | rfl | rfl | rfl | rfl
  all_goals (simp (decide := true) only [false_implies, true_implies, not_false_eq_true, not_true_eq_false, and_true, true_and, forall_const]; exact k)
theorem fcA_ok : ∀ v, v < 10 → (fcA.getD v 0, fcK.getD v 0) ∈ waL := by decide
def zG (x1 : Int32) (K : Int32 → pm → Prop) (Q : pm → Prop) (m : Nat) : Int32 → pm → Prop := fun y5 M4 => ((y5 = 0 → (w_X8_qSums_15 m x1 0 M4 K Q)) ∧ (¬ y5 = 0 → (w_X8_qSums_15 m x1 1 M4 K Q)))
def zO (x1 : Int32) (K : Int32 → pm → Prop) (Q : pm → Prop) (m : Nat) : pm → Prop := fun M1 => ((¬ (mI M1 277 5) = 0 → (w_X8_qSums_15 m x1 0 M1 K Q)) ∧ ((mI M1 277 5) = 0 → (w_X8_qGoesOn M1 (zG x1 K Q m))))
def zA (x1 : Int32) (K : Int32 → pm → Prop) (Q : pm → Prop) (m nn : Nat) (M : pm) : Prop := w_X8_qPartTold_2 nn 1 M (fun M53 => w_X8_qPartTold_186 M53 (zO x1 K Q m)) (zO x1 K Q m)
def zB (x1 : Int32) (K : Int32 → pm → Prop) (Q : pm → Prop) (m nn : Nat) (M : pm) : Prop := w_X8_qGoesOn_0 nn M (fun M34 => w_X8_qGoesOn_122 M34 (zG x1 K Q m)) (zG x1 K Q m)
def gA (M0 : pm) (T : Nat → Nat) (n tk b : Nat) (x1 : Int32) (K : Int32 → pm → Prop) (Q : pm → Prop) (s : ts) (W : List Nat) (o : Nat) (C : List Nat) : Prop := ∀ (M : pm) (m nn : Nat), qS M0 M T n tk s W o b C → C.length + W.length ≤ s.1 → n + 3 ≤ m + s.1 → n + 3 ≤ nn + s.1 → zA x1 K Q m nn M
def gB (M0 : pm) (T : Nat → Nat) (n tk b : Nat) (x1 : Int32) (K : Int32 → pm → Prop) (Q : pm → Prop) (s : ts) (W : List Nat) (o : Nat) (C : List Nat) : Prop := ∀ (M : pm) (m nn : Nat), qS M0 M T n tk s W o b C → C.length + W.length ≤ s.1 → n + 3 ≤ m + s.1 → n + 3 ≤ nn + s.1 → zB x1 K Q m nn M
def gE (M0 : pm) (T : Nat → Nat) (n tk b : Nat) (x1 : Int32) (K : Int32 → pm → Prop) (Q : pm → Prop) (s : ts) (W : List Nat) (o : Nat) (C : List Nat) : Prop := ∀ (M : pm) (m nn : Nat) (R : pm → Prop), qS M0 M T n tk s W o b C → C.length + W.length ≤ s.1 → n + 3 ≤ m + s.1 → n + 3 ≤ nn + s.1 → (∀ M', mI M' 277 5 = 0 → zB x1 K Q m nn M' → R M') → w_X8_qEndsPart M R
def gF (M0 : pm) (x1 : Int32) (K : Int32 → pm → Prop) (e : Nat × Nat) : Prop := ∀ M, qF M0 M e → K x1 M
theorem qF_n {M0 M : pm} {e : Nat × Nat} (h : qF M0 M e) : ¬ mI M 277 5 = 0 := tkF_n h.2.1
theorem zO_F {M0 : pm} {x1 : Int32} {K : Int32 → pm → Prop} {Q : pm → Prop} {M : pm} {m : Nat} {e : Nat × Nat} (h : qF M0 M e) (hF : gF M0 x1 K e) (hm : 1 ≤ m) : zO x1 K Q m M := by
  obtain ⟨m, rfl⟩ : ∃ m', m = m' + 1 := ⟨m - 1, by omega⟩
  refine k_no' (qF_n h) ?_
  unfold w_X8_qSums_15
  exact k_yes rfl (hF M h)
theorem zA_F {M0 : pm} {x1 : Int32} {K : Int32 → pm → Prop} {Q : pm → Prop} {M : pm} {m nn : Nat} {e : Nat × Nat} (h : qF M0 M e) (hF : gF M0 x1 K e) (hm : 1 ≤ m) (hn : 1 ≤ nn) : zA x1 K Q m nn M := by
  obtain ⟨nn, rfl⟩ : ∃ m', nn = m' + 1 := ⟨nn - 1, by omega⟩
  unfold zA w_X8_qPartTold_2
  exact k_no (by decide) (k_no' (qF_n h) (k_no (qF_n h) (zO_F h hF hm)))
theorem zG_1 {x1 : Int32} {K : Int32 → pm → Prop} {Q : pm → Prop} {M : pm} {m nn : Nat} (h5 : mI M 277 5 = 0) (h : zA x1 K Q m nn M) : zG x1 K Q (m + 1) 1 M := by
  refine k_no (by decide) ?_
  unfold w_X8_qSums_15
  exact k_no (by decide) (k_yes' h5 ⟨nn, h⟩)
theorem zG_0 {x1 : Int32} {K : Int32 → pm → Prop} {Q : pm → Prop} {M : pm} {m : Nat} (hm : 1 ≤ m) (h : K x1 M) : zG x1 K Q m 0 M := by
  obtain ⟨m, rfl⟩ : ∃ m', m = m' + 1 := ⟨m - 1, by omega⟩
  refine k_yes rfl ?_
  unfold w_X8_qSums_15
  exact k_yes rfl h
theorem zO_B {x1 : Int32} {K : Int32 → pm → Prop} {Q : pm → Prop} {M : pm} {m nn : Nat} (h5 : mI M 277 5 = 0) (h : zB x1 K Q m nn M) : zO x1 K Q m M := k_yes' h5 ⟨nn, h⟩
theorem gE_60 {M0 : pm} {T : Nat → Nat} {n tk b : Nat} {x1 : Int32} {K : Int32 → pm → Prop} {Q : pm → Prop} {s : ts} {W : List Nat} {o : Nat} {C : List Nat} (hE : gE M0 T n tk b x1 K Q s W o (C ++ [60])) (hb : b ≤ W.length) : gE M0 T n tk b x1 K Q s (60 :: W) (o + 1) C := by
  intro M m nn R h hl hm hn k
  have ho := h.2.2.2.2.2.2.2.2.2.1
  obtain ⟨M2, s2, r2⟩ := q_drop (qS_o h (o' := o) (by omega)) hb
  obtain ⟨q, hq⟩ := hE M2 m nn R s2 (by rw [List.length_append]; rw [List.length_cons] at hl; show C.length + 1 + W.length ≤ s.1; omega) hm hn k
  obtain ⟨h1, h2, h3, h4, h5, h6, h7, h8, h9, h10, h11, h12, h13⟩ := h
  rw [List.length_cons] at h6 h13
  refine ⟨q + 1, ?_⟩
  unfold w_X8_qEndsPart_0
  rw [h6, h8, h9, nI_pred, nI_pred, nI_clamp (by omega), h7.1]
  exact k_yes' h2.2.2.1 (k_no (nI_ge (by omega) (by omega)) ⟨vp_in_nI (by omega) (by decide), k_no (by decide) (r2 _ hq)⟩)
theorem gE_B {M0 : pm} {T : Nat → Nat} {n tk b : Nat} {x1 : Int32} {K : Int32 → pm → Prop} {Q : pm → Prop} {s : ts} {W : List Nat} {o : Nat} {C : List Nat} (hB : gB M0 T n tk b x1 K Q s W o C) (hW : W.length = b ∨ ∃ x W1, W = x :: W1 ∧ x < 60) : gE M0 T n tk b x1 K Q s W o C := by
  intro M m nn R h hl hm hn k
  obtain ⟨h1, h2, h3, h4, h5, h6, h7, h8, h9, h10, h11, h12, h13⟩ := id h
  have kk := k M h2.2.2.1 (hB M m nn h hl hm hn)
  refine ⟨1, ?_⟩
  unfold w_X8_qEndsPart_0
  rw [h6, h9]
  refine k_yes' h2.2.2.1 ?_
  rcases hW with e | ⟨x, W1, rfl, hx⟩
  · exact k_yes (nI_le (by omega) (by omega)) kk
  · rw [List.length_cons] at h11 h13 ⊢
    rw [nI_pred, nI_clamp (by omega), h7.1]
    exact ⟨fun _ => kk, fun _ => ⟨vp_in_nI (by omega) (by decide), k_yes (nI_lt (b := 60) hx (by decide)) kk⟩⟩
theorem qF_at {M0 M : pm} {e : Nat × Nat} (h : qF M0 M e) (v : Int32) : qF M0 (sI M 277 2 v) e := by
  obtain ⟨h1, h2, c, h3, h4⟩ := h
  exact ⟨h1.up (Or.inl ⟨rfl, Or.inl rfl⟩) _, ⟨by rw [rI (by omega)]; exact h2.1, by rw [rI (by omega)]; exact h2.2.1, h2.2.2⟩, c, h3, by rw [rI (by omega)]; exact h4⟩
/-- the token where a part begins -/
theorem A_piece {M0 : pm} {T : Nat → Nat} {n tk b : Nat} {x1 : Int32} {K : Int32 → pm → Prop} {Q : pm → Prop} (htk : tk ≤ 2) {s : ts} {W : List Nat} {o : Nat} {C : List Nat}
    (hpar : tS T n s = 40 → (o < 6 → gA M0 T n tk b x1 K Q (tX T n s) (20 :: W) (o + 1) C) ∧ (¬ o < 6 → gF M0 x1 K (4, sk T n s.1)))
    (hmm : kwN T n s = 26 ∨ kwN T n s = 27 → (tS T n (tX T n s) = 40 → (o < 6 → gA M0 T n tk b x1 K Q (tX T n (tX T n s)) ((if kwN T n s = 26 then 21 else 22) :: W) (o + 1) C) ∧ (¬ o < 6 → gF M0 x1 K (4, sk T n (tX T n s).1))) ∧ (tS T n (tX T n s) ≠ 40 → gF M0 x1 K (1, sk T n (tX T n s).1)))
    (hwa : tk = 2 ∧ kwN T n s = 5 → (o < 6 → gA M0 T n tk b x1 K Q (tX T n s) (60 :: W) (o + 1) C) ∧ (¬ o < 6 → gF M0 x1 K (4, sk T n s.1)))
    (hfc : fcW tk (kwN T n s) < 10 → gE M0 T n tk b x1 K Q (tX T n s) W o (C ++ [40 + fcW tk (kwN T n s)]))
    (hnu : tS T n s ≠ 40 → ¬ (kwN T n s = 26 ∨ kwN T n s = 27) → ¬ (tk = 2 ∧ kwN T n s = 5) → 10 ≤ fcW tk (kwN T n s) → (∀ v s', rNum T n 0 9999 s = .inr (v, s') → gE M0 T n tk b x1 K Q s' W o (C ++ [1000 + v])) ∧ ∀ e, rNum T n 0 9999 s = .inl e → gF M0 x1 K e) : gA M0 T n tk b x1 K Q s W o C := by
  intro M m nn h hl hm hn
  have hsn := h.2.1.2.1
  have h16 := h.2.1.1.2.1
  obtain ⟨nn, rfl⟩ : ∃ m', nn = m' + 1 := ⟨nn - 1, by omega⟩
  unfold zA w_X8_qPartTold_2
  refine k_no (by decide) (k_yes' h.2.1.2.2.1 (m_look h.2.1 (fun M1 f1 t1 => ?_)))
  have q1 := qS_tok h f1 t1.1
  have h51 := q1.2.2.1
  have tx := t1.1.1
  -- min and max
  have p78 : kwN T n s = 26 ∨ kwN T n s = 27 → w_X8_qPartTold_78 1 M1 (fun x1_1 M => w_X8_qPartTold_2 nn x1_1 M (fun M53 => w_X8_qPartTold_186 M53 (zO x1 K Q m)) (zO x1 K Q m)) (fun M53 => w_X8_qPartTold_186 M53 (zO x1 K Q m)) (zO x1 K Q m) := by
    intro hk
    have hh := hmm hk
    have hgt := op_k1 (T := T) (n := n) (s := s) (by omega)
    have p118 : ∀ (y : Int32) (x : Nat) (M2 : pm), (y = 1 ∧ x = 21 ∧ kwN T n s = 26 ∨ y = 0 ∧ x = 22 ∧ kwN T n s ≠ 26) → qS M0 M2 T n tk (tX T n s) W o b C → w_X8_look M2 (fun y16 M15 => ((¬ y16 = 40 → (w_X8_qPartTold_118 1 y (-1) M15 (fun x1_1 M => w_X8_qPartTold_2 nn x1_1 M (fun M53 => w_X8_qPartTold_186 M53 (zO x1 K Q m)) (zO x1 K Q m)) (fun M53 => w_X8_qPartTold_186 M53 (zO x1 K Q m)) (zO x1 K Q m))) ∧ (y16 = 40 → (w_X8_qPartTold_118 1 y (mI M15 277 2) M15 (fun x1_1 M => w_X8_qPartTold_2 nn x1_1 M (fun M53 => w_X8_qPartTold_186 M53 (zO x1 K Q m)) (zO x1 K Q m)) (fun M53 => w_X8_qPartTold_186 M53 (zO x1 K Q m)) (zO x1 K Q m))))) := by
      intro y x M2 hy q2
      refine m_look q2.2.1 (fun M3 f3 t3 => ?_)
      have q3 := qS_tok q2 f3 t3.1
      have e40 : lkV T n (tX T n s) = 40 ↔ tS T n (tX T n s) = 40 := lk_c t3.1.1 (c := 40) (by decide) (by decide) (by decide) (by decide)
      rw [e40]
      refine ⟨fun p => ?_, fun p => ?_⟩
      · refine k_yes rfl (m_asksSign (A := Unit) (r := .inr ((), tX T n s)) t3.1 40 (by decide) (by decide) (by decide) (by decide) (fun M4 f4 t4 => ?_))
        have e : rTh (.inr ((), tX T n s)) (rSgn T n 40) = (.inl (1, sk T n (tX T n s).1) : rs Unit) := by
          show rB (rSgn T n 40 (tX T n s)) _ = _
          unfold rSgn
          rw [if_neg p]; rfl
        rw [e] at t4
        exact zA_F (qS_F q3 f4 t4) (hh.2 p) (by omega) (by omega)
      · have hh := hh.1 p
        rw [t3.2]
        have tail : ∀ M4, qS M0 M4 T n tk (tX T n s) (x :: W) (o + 1) b C → o < 6 → w_X8_asksSign 40 M4 (fun M24 => w_X8_qPartTold_2 nn 1 M24 (fun M53 => w_X8_qPartTold_186 M53 (zO x1 K Q m)) (zO x1 K Q m)) := by
          intro M4 q4 h6
          refine m_asksSign (A := Unit) (r := .inr ((), tX T n s)) q4.2.1 40 (by decide) (by decide) (by decide) (by decide) (fun M5 f5 t5 => ?_)
          have e : rTh (.inr ((), tX T n s)) (rSgn T n 40) = (.inr ((), tX T n (tX T n s)) : rs Unit) := by
            show rB (rSgn T n 40 (tX T n s)) _ = _
            unfold rSgn
            rw [if_pos p]; rfl
          rw [e] at t5
          have hg2 := op_k3 (T := T) (n := n) (by decide) p
          have g := hh.1 h6
          have ex : (if kwN T n s = 26 then 21 else 22) = x := by
            rcases hy with ⟨_, e2, e3⟩ | ⟨_, e2, e3⟩
            · rw [if_pos e3, e2]
            · rw [if_neg e3, e2]
          rw [ex] at g
          exact g M5 m nn (qS_tok q4 f5 t5) (by rw [List.length_cons]; omega) (by omega) (by omega)
        have bad : ∀ M4, ¬ o < 6 → qF M0 M4 (4, sk T n (tX T n s).1) → w_X8_asksSign 40 M4 (fun M24 => w_X8_qPartTold_2 nn 1 M24 (fun M53 => w_X8_qPartTold_186 M53 (zO x1 K Q m)) (zO x1 K Q m)) := fun M4 h6 q4 => k_no' (qF_n q4) (zA_F q4 (hh.2 h6) (by omega) (by omega))
        have hsk := sk_le (T := T) (tX_le (T := T) hsn)
        refine k_no (n_m1 (by omega)) ?_
        rcases hy with ⟨rfl, rfl, _⟩ | ⟨rfl, rfl, _⟩
        · exact k_no (by decide) (q_opens (x := 21) q3 (by decide) (by omega) rfl (fun h6 M4 _ q4 => tail M4 q4 h6) (fun h6 M4 q4 => bad M4 h6 q4))
        · exact k_yes rfl (q_opens (x := 22) q3 (by decide) (by omega) rfl (fun h6 M4 _ q4 => tail M4 q4 h6) (fun h6 M4 q4 => bad M4 h6 q4))
    unfold w_X8_qPartTold_78
    refine m_takesL t1 336 26 (by decide) (fun q M2 f2 t2 => k_no' (by decide) (p118 1 21 M2 (Or.inl ⟨rfl, rfl, q⟩) (qS_tok q1 f2 t2))) (fun q => k_yes' rfl (m_asks (A := Unit) (r := .inr ((), s)) t1.1 337 27 (by decide) (fun M2 f2 t2 => p118 0 22 M2 (Or.inr ⟨rfl, rfl, q⟩) (qS_tok q1 f2 ?_))))
    have e : rTh (.inr ((), s)) (rWrd T n 27) = (.inr ((), tX T n s) : rs Unit) := by
      show rB (rWrd T n 27 s) _ = _
      unfold rWrd
      rw [if_pos (by omega)]; rfl
    rw [e] at t2
    exact t2
  have main : ∀ y5 : Int32, (y5 = 10 ∧ (tk = 2 ∧ kwN T n s = 5) ∨ y5 = -1 ∧ ¬ (tk = 2 ∧ kwN T n s = 5)) → ((¬ (lkV T n s) = 40 → (w_X8_isHere 336 M1 (fun y8 M7 => ((¬ y8 = 0 → (w_X8_qPartTold_78 1 M7 (fun x1_1 M => w_X8_qPartTold_2 nn x1_1 M (fun M53 => w_X8_qPartTold_186 M53 (zO x1 K Q m)) (zO x1 K Q m)) (fun M53 => w_X8_qPartTold_186 M53 (zO x1 K Q m)) (zO x1 K Q m))) ∧ (y8 = 0 → (w_X8_isHere 337 M7 (fun y40 M39 => ((y40 = 0 → ((y5 = (-1) → (w_X8_qPartTold_2 nn 0 M39 (fun M53 => w_X8_qPartTold_186 M53 (zO x1 K Q m)) (zO x1 K Q m))) ∧ (¬ y5 = (-1) → (w_X8_qOpens ((60 + y5) - 10) (mI M39 277 2) M39 (fun M43 => w_X8_qAsksWord y5 M43 (fun M46 => w_X8_qPartTold_2 nn 1 M46 (fun M53 => w_X8_qPartTold_186 M53 (zO x1 K Q m)) (zO x1 K Q m))))))) ∧ (¬ y40 = 0 → (w_X8_qPartTold_78 1 M39 (fun x1_1 M => w_X8_qPartTold_2 nn x1_1 M (fun M53 => w_X8_qPartTold_186 M53 (zO x1 K Q m)) (zO x1 K Q m)) (fun M53 => w_X8_qPartTold_186 M53 (zO x1 K Q m)) (zO x1 K Q m))))))))))) ∧ (lkV T n s = 40 → (w_X8_qOpens 20 (mI M1 277 2) M1 (fun M49 => w_X8_qPartTold_2 nn 1 (sI M49 277 2 ((mI M49 277 2) + 1)) (fun M53 => w_X8_qPartTold_186 M53 (zO x1 K Q m)) (zO x1 K Q m))))) := by
    intro y5 hy5
    have e40 : lkV T n s = 40 ↔ tS T n s = 40 := lk_c tx (c := 40) (by decide) (by decide) (by decide) (by decide)
    rw [e40]
    refine ⟨fun p => m_isHereL t1 336 26 (by decide) (fun q => k_no' (by decide) (p78 (Or.inl q))) (fun q26 => k_yes' rfl (m_isHereL t1 337 27 (by decide) (fun q => k_no (by decide) (p78 (Or.inr q))) (fun q27 => k_yes rfl ?_))), fun p => ?_⟩
    · rcases hy5 with ⟨rfl, hw5⟩ | ⟨rfl, hw5⟩
      · refine k_no (by decide) ?_
        rw [show ((60 : Int32) + 10) - 10 = nI 60 from by decide]
        have hh := hwa hw5
        have hgt := op_k1 (T := T) (n := n) (s := s) (by omega)
        have e : rTh (.inr ((), s)) (rWrd T n 5) = (.inr ((), tX T n s) : rs Unit) := by
          show rB (rWrd T n 5 s) _ = _
          unfold rWrd
          rw [if_pos hw5.2]; rfl
        refine q_opens (x := 60) q1 (by decide) (by omega) t1.2 (fun h6 M2 _ q2 => ?_) (fun h6 M2 q2 => ?_)
        · unfold w_X8_qAsksWord
          refine ⟨fun z => absurd z (by decide), fun z => absurd z (by decide), fun z => absurd z (by decide), fun z => absurd z (by decide), fun z => absurd z (by decide), fun z => absurd z (by decide), fun z => absurd z (by decide), fun z => absurd z (by decide), fun z => absurd z (by decide), fun z => absurd z (by decide), fun _ _ _ _ _ _ _ _ _ _ => ?_⟩
          refine m_asks (A := Unit) (r := .inr ((), s)) q2.2.1 348 5 (by decide) (fun M3 f3 t3 => ?_)
          rw [e] at t3
          exact hh.1 h6 M3 m nn (qS_tok q2 f3 t3) (by rw [List.length_cons]; omega) (by omega) (by omega)
        · unfold w_X8_qAsksWord
          refine ⟨fun z => absurd z (by decide), fun z => absurd z (by decide), fun z => absurd z (by decide), fun z => absurd z (by decide), fun z => absurd z (by decide), fun z => absurd z (by decide), fun z => absurd z (by decide), fun z => absurd z (by decide), fun z => absurd z (by decide), fun z => absurd z (by decide), fun _ _ _ _ _ _ _ _ _ _ => ?_⟩
          exact k_no' (qF_n q2) (zA_F q2 (hh.2 h6) (by omega) (by omega))
      · refine k_yes rfl ?_
        obtain ⟨nn, rfl⟩ : ∃ m', nn = m' + 1 := ⟨nn - 1, by omega⟩
        unfold w_X8_qPartTold_2
        refine k_yes rfl (k_yes t1.1.2.2.1 (m_qW0 t1 htk h51 (fun qf => k_no (n_m1 (by omega)) (q_askW qf ?_)) (fun qf => k_yes rfl (k_yes rfl ?_))))
        · have hkw := fc_kw qf
          have hgt := op_k1 (T := T) (n := n) (s := s) (fcW_34 qf)
          have hle := tX_le (T := T) hsn
          refine m_asks (A := Unit) (r := .inr ((), s)) t1.1 _ _ (fcA_ok _ qf) (fun M2 f2 t2 => ?_)
          have e : rTh (.inr ((), s)) (rWrd T n (fcK.getD (fcW tk (kwN T n s)) 0)) = (.inr ((), tX T n s) : rs Unit) := by
            show rB (rWrd T n _ s) _ = _
            unfold rWrd
            rw [if_pos hkw.symm]; rfl
          rw [e] at t2
          obtain ⟨M3, q3, r3⟩ := q_code (qS_tok q1 f2 t2) (by omega) (40 + fcW tk (kwN T n s))
          refine k_no (n_m1 (by omega)) ?_
          rw [show (40 : Int32) + nI (fcW tk (kwN T n s)) = nI (40 + fcW tk (kwN T n s)) from nI_add 40 _]
          refine r3 _ (hfc qf M3 m (n + 3) _ q3 ?_ (by omega) (by omega) (fun M' b5 zb => zO_B b5 zb))
          rw [List.length_append]
          show C.length + 1 + W.length ≤ _
          omega
        · have hh := hnu p (by omega) hw5 qf
          refine m_num0 t1.1 0 9999 (by decide) (by decide) (fun v s' hr M2 f2 t2 => ?_) (fun e hr M2 v f2 t2 hv => ?_)
          · have hi := rNum_inv hr
            have hgt := tX_gt (T := T) (n := n) (s := s) (by omega)
            have hle := tX_le (T := T) hsn
            rw [← hi.2.1] at hgt hle
            obtain ⟨M3, q3, r3⟩ := q_code (qS_tok q1 f2 t2) (by omega) (1000 + v)
            rw [show (1000 : Int32) + nI v = nI (1000 + v) from nI_add 1000 _]
            refine r3 _ (hh.1 v s' hr M3 m (n + 3) _ q3 ?_ (by omega) (by omega) (fun M' b5 zb => zO_B b5 zb))
            rw [List.length_append]
            show C.length + 1 + W.length ≤ _
            omega
          · have q2 := qS_F q1 f2 t2
            have h96 : mI M2 277 96 = nI C.length := by rw [f2.2.2.2 277 96 (by unfold fU; omega)]; exact q1.2.2.2.1
            have h13 := q1.2.2.2.2.2.2.2.2.2.2.2.2
            unfold w_X8_qCode
            rw [h96, nI_clamp (by omega), nI_1]
            refine ⟨vp_in_nI (by omega) (by decide), 1, ?_⟩
            have q3 : qF M0 (sI (sI M2 349 C.length (1000 + v)) 277 96 (nI (C.length + 1))) e := ⟨(q2.1.up (Or.inr (Or.inr (Or.inl rfl))) _).up (Or.inr (Or.inl ⟨rfl, Or.inl rfl⟩)) _, ⟨by rw [rI (by omega), rI (by omega)]; exact q2.2.1.1, by rw [rI (by omega), rI (by omega)]; exact q2.2.1.2.1, q2.2.1.2.2⟩, C.length + 1, by omega, rIs _ _ _ _⟩
            exact k_no' (qF_n q3) (zO_F q3 (hh.2 e hr) (by omega))
    · have hh := hpar p
      have hgt := op_k3 (T := T) (n := n) (by decide) p
      have hsk := sk_le (T := T) hsn
      refine q_opens (x := 20) q1 (by decide) (by omega) t1.2 (fun h6 M2 e2 q2 => ?_) (fun h6 M2 q2 => ?_)
      · have tl2 : tkL M2 T n s := ⟨q2.2.1, by rw [e2 2 (by decide) (by decide)]; exact t1.2⟩
        obtain ⟨f3, t3, _⟩ := m_passS tl2 (tS_k (by decide) p).1
        exact hh.1 h6 _ m nn (qS_tok q2 f3 t3) (by rw [List.length_cons]; omega) (by omega) (by omega)
      · exact zA_F (qF_at q2 _) (hh.2 h6) (by omega) (by omega)
  exact m_qW1 t1 htk h51 (fun q => main 10 (Or.inl ⟨rfl, q⟩)) (fun q => main (-1) (Or.inr ⟨rfl, q⟩))

