/-! the reference's names -/
theorem own299_1 {M : pm} {Q : Int32 → pm → Prop} (k : Q 1 M) : w_X8_isOwnHere_299 1 M Q := k_no' (by decide) k
theorem own223_1 {M : pm} {Q : Int32 → pm → Prop} (k : Q 1 M) : w_X8_isOwnHere_223 1 M Q := k_no' (by decide) (own299_1 k)
theorem own147_1 {M : pm} {Q : Int32 → pm → Prop} (k : Q 1 M) : w_X8_isOwnHere_147 1 M Q := k_no' (by decide) (own223_1 k)
theorem own71_1 {M : pm} {Q : Int32 → pm → Prop} (k : Q 1 M) : w_X8_isOwnHere_71 1 M Q := k_no' (by decide) (own147_1 k)
theorem own299_0 {M : pm} {T : Nat → Nat} {n : Nat} {s : ts} (h : tkL M T n s) {Q : Int32 → pm → Prop} (hk : 24 ≤ kwN T n s) (k1 : kwN T n s < 28 → Q 1 M) (k0 : 28 ≤ kwN T n s → Q 0 M) : w_X8_isOwnHere_299 0 M Q := k_yes' rfl (m_isHereL h 304 24 (by decide) (fun q => k_no' (by decide) (id (k1 (by omega)))) (fun q24 => k_yes' rfl (m_isHereL h 305 25 (by decide) (fun q => k_no' (by decide) (id (k1 (by omega)))) (fun q25 => k_yes' rfl (m_isHereL h 306 26 (by decide) (fun q => k_no' (by decide) (id (k1 (by omega)))) (fun q26 => k_yes' rfl (m_isHereL h 307 27 (by decide) (fun q => k_no (by decide) (k1 (by omega))) (fun q27 => k_yes rfl (k0 (by have := kwN_le T n s; omega))))))))))
theorem own223_0 {M : pm} {T : Nat → Nat} {n : Nat} {s : ts} (h : tkL M T n s) {Q : Int32 → pm → Prop} (hk : 18 ≤ kwN T n s) (k1 : kwN T n s < 28 → Q 1 M) (k0 : 28 ≤ kwN T n s → Q 0 M) : w_X8_isOwnHere_223 0 M Q := k_yes' rfl (m_isHereL h 298 18 (by decide) (fun q => k_no' (by decide) (own299_1 (k1 (by omega)))) (fun q18 => k_yes' rfl (m_isHereL h 299 19 (by decide) (fun q => k_no' (by decide) (own299_1 (k1 (by omega)))) (fun q19 => k_yes' rfl (m_isHereL h 300 20 (by decide) (fun q => k_no' (by decide) (own299_1 (k1 (by omega)))) (fun q20 => k_yes' rfl (m_isHereL h 301 21 (by decide) (fun q => k_no' (by decide) (own299_1 (k1 (by omega)))) (fun q21 => k_yes' rfl (m_isHereL h 302 22 (by decide) (fun q => k_no' (by decide) (own299_1 (k1 (by omega)))) (fun q22 => k_yes' rfl (m_isHereL h 303 23 (by decide) (fun q => k_no (by decide) (own299_1 (k1 (by omega)))) (fun q23 => k_yes rfl (own299_0 h (by have := kwN_le T n s; omega) k1 k0)))))))))))))
theorem own147_0 {M : pm} {T : Nat → Nat} {n : Nat} {s : ts} (h : tkL M T n s) {Q : Int32 → pm → Prop} (hk : 12 ≤ kwN T n s) (k1 : kwN T n s < 28 → Q 1 M) (k0 : 28 ≤ kwN T n s → Q 0 M) : w_X8_isOwnHere_147 0 M Q := k_yes' rfl (m_isHereL h 292 12 (by decide) (fun q => k_no' (by decide) (own223_1 (k1 (by omega)))) (fun q12 => k_yes' rfl (m_isHereL h 293 13 (by decide) (fun q => k_no' (by decide) (own223_1 (k1 (by omega)))) (fun q13 => k_yes' rfl (m_isHereL h 294 14 (by decide) (fun q => k_no' (by decide) (own223_1 (k1 (by omega)))) (fun q14 => k_yes' rfl (m_isHereL h 295 15 (by decide) (fun q => k_no' (by decide) (own223_1 (k1 (by omega)))) (fun q15 => k_yes' rfl (m_isHereL h 296 16 (by decide) (fun q => k_no' (by decide) (own223_1 (k1 (by omega)))) (fun q16 => k_yes' rfl (m_isHereL h 297 17 (by decide) (fun q => k_no (by decide) (own223_1 (k1 (by omega)))) (fun q17 => k_yes rfl (own223_0 h (by have := kwN_le T n s; omega) k1 k0)))))))))))))
theorem own71_0 {M : pm} {T : Nat → Nat} {n : Nat} {s : ts} (h : tkL M T n s) {Q : Int32 → pm → Prop} (hk : 6 ≤ kwN T n s) (k1 : kwN T n s < 28 → Q 1 M) (k0 : 28 ≤ kwN T n s → Q 0 M) : w_X8_isOwnHere_71 0 M Q := k_yes' rfl (m_isHereL h 286 6 (by decide) (fun q => k_no' (by decide) (own147_1 (k1 (by omega)))) (fun q6 => k_yes' rfl (m_isHereL h 287 7 (by decide) (fun q => k_no' (by decide) (own147_1 (k1 (by omega)))) (fun q7 => k_yes' rfl (m_isHereL h 288 8 (by decide) (fun q => k_no' (by decide) (own147_1 (k1 (by omega)))) (fun q8 => k_yes' rfl (m_isHereL h 289 9 (by decide) (fun q => k_no' (by decide) (own147_1 (k1 (by omega)))) (fun q9 => k_yes' rfl (m_isHereL h 290 10 (by decide) (fun q => k_no' (by decide) (own147_1 (k1 (by omega)))) (fun q10 => k_yes' rfl (m_isHereL h 291 11 (by decide) (fun q => k_no (by decide) (own147_1 (k1 (by omega)))) (fun q11 => k_yes rfl (own147_0 h (by have := kwN_le T n s; omega) k1 k0)))))))))))))
theorem m_own {M : pm} {T : Nat → Nat} {n : Nat} {s : ts} (h : tkL M T n s) {Q : Int32 → pm → Prop} (k1 : kwN T n s < 28 → Q 1 M) (k0 : 28 ≤ kwN T n s → Q 0 M) : w_X8_isOwnHere M Q := (m_isHereL h 280 0 (by decide) (fun q => k_no' (by decide) (own71_1 (k1 (by omega)))) (fun q0 => k_yes' rfl (m_isHereL h 281 1 (by decide) (fun q => k_no' (by decide) (own71_1 (k1 (by omega)))) (fun q1 => k_yes' rfl (m_isHereL h 282 2 (by decide) (fun q => k_no' (by decide) (own71_1 (k1 (by omega)))) (fun q2 => k_yes' rfl (m_isHereL h 283 3 (by decide) (fun q => k_no' (by decide) (own71_1 (k1 (by omega)))) (fun q3 => k_yes' rfl (m_isHereL h 284 4 (by decide) (fun q => k_no' (by decide) (own71_1 (k1 (by omega)))) (fun q4 => k_yes' rfl (m_isHereL h 285 5 (by decide) (fun q => k_no (by decide) (own71_1 (k1 (by omega)))) (fun q5 => k_yes rfl (own71_0 h (by have := kwN_le T n s; omega) k1 k0)))))))))))))
theorem b27_app (l : List Nat) (x : Nat) : b27 (l ++ [x]) = 27 * b27 l + x := by unfold b27; rw [List.foldl_append]; rfl
theorem b27_lt {l : List Nat} (h6 : l.length ≤ 6) (hl : ∀ x ∈ l, 1 ≤ x ∧ x ≤ 26) : b27 l < 27 ^ 6 := by
  have hr : ∀ x ∈ l.reverse, 1 ≤ x ∧ x ≤ 26 := fun x hx => hl x (List.mem_reverse.mp hx)
  rw [b27_r]
  have h1 := v27_lt l.reverse hr
  have h2 : 27 ^ l.reverse.length ≤ 27 ^ 6 := Nat.pow_le_pow_right (by decide) (by rw [List.length_reverse]; exact h6)
  omega
theorem v27_inj : ∀ {l r : List Nat}, (∀ x ∈ l, 1 ≤ x ∧ x ≤ 26) → (∀ x ∈ r, 1 ≤ x ∧ x ≤ 26) → v27 l = v27 r → l = r
  | [], [], _, _, _ => rfl
  | [], y :: t, _, h2, e => by
    have := h2 y (List.mem_cons_self ..)
    have e : 0 = y + 27 * v27 t := e
    omega
  | x :: s, [], h1, _, e => by
    have := h1 x (List.mem_cons_self ..)
    have e : x + 27 * v27 s = 0 := e
    omega
  | x :: s, y :: t, h1, h2, e => by
    have a := h1 x (List.mem_cons_self ..)
    have b := h2 y (List.mem_cons_self ..)
    have e : x + 27 * v27 s = y + 27 * v27 t := e
    have e2 : v27 s = v27 t := by omega
    rw [v27_inj (fun z hz => h1 z (List.mem_cons_of_mem _ hz)) (fun z hz => h2 z (List.mem_cons_of_mem _ hz)) e2, show x = y from by omega]
theorem b27_inj {l r : List Nat} (h1 : ∀ x ∈ l, 1 ≤ x ∧ x ≤ 26) (h2 : ∀ x ∈ r, 1 ≤ x ∧ x ≤ 26) (e : b27 l = b27 r) : l = r := by
  rw [b27_r, b27_r] at e
  have := v27_inj (fun x hx => h1 x (List.mem_reverse.mp hx)) (fun x hx => h2 x (List.mem_reverse.mp hx)) e
  exact List.reverse_inj.mp this
theorem m_nam0 {M : pm} {T : Nat → Nat} {n : Nat} {s : ts} (h : tkM M T n s) {Q : Int64 → pm → Prop} (k1 : rNam T n s = .inr (tW T n s, tX T n s) → ∀ M', fG fU M M' → tkM M' T n (tX T n s) → mI M' 277 38 = nI (sk T n s.1) → Q (lN (b27 (tW T n s))) M') (k0 : ∀ e, rNam T n s = .inl e → ∀ M', fG fU M M' → tkF M' e → Q 0 M') : w_X8_name M Q := by
  refine k_yes h.2.2.1 (m_look h (fun M1 f1 t1 => ?_))
  obtain ⟨⟨⟨hT, h16, hw, h3⟩, hn, h5, h6, -, z, z1, z2, z3, z4⟩, h2⟩ := id t1
  have hq := sk_le (T := T) hn
  have hge := sk_ge T n s.1
  have hte := tE_le (T := T) hn
  have no : ¬ (tK T n s = 1 ∧ 28 ≤ kwN T n s) → w_X8_fail 1 (mI M1 277 2) M1 (fun M8 => Q 0 M8) := fun q => m_fail h5 1 (sk T n s.1) rfl h2 (by decide) (by decide) (fun M2 f2 t2 => k0 _ (by unfold rNam; rw [if_neg q]) M2 (f1.tr f2) t2)
  refine m_word (A := (((mI M1 277 2) = (mI M1 277 4) → (w_X8_fail 1 (mI M1 277 2) M1 (fun M11 => Q (0 : Int64) M11))) ∧ (¬ (mI M1 277 2) = (mI M1 277 4) → (w_X8_isOwnHere M1 (fun y15 M14 => ((y15 = 0 → (∃ n27, w_X8_name_58 n27 (0 : Int64) (sI M14 277 38 (mI M14 277 2)) Q)) ∧ (¬ y15 = 0 → (w_X8_fail 1 (mI M14 277 2) M14 (fun M28 => Q (0 : Int64) M28))))))))) t1 (fun q => k_no (by decide) q) (fun q => k_yes rfl (no (fun y => q y.1))) (fun g => ⟨fun e => no (fun y => g.mp y.1 e), fun e => m_own t1 (fun q => k_no (by decide) (no (fun y => by omega))) (fun q => k_yes rfl ?_)⟩)
  have h1 : tK T n s = 1 := g.mpr e
  have he := tE_1 h1
  rw [h2]
  have f0 : fG fU M1 (sI M1 277 38 (nI (sk T n s.1))) := (fG.rf M1).up ⟨rfl, by omega⟩ _
  have key : ∀ d m j M2, j + d = 7 → d < m → sk T n s.1 + j ≤ tE T n s → j ≤ 6 → fG (fun a k => a = 277 ∧ (k = 2 ∨ k = 38)) M1 M2 → mI M2 277 2 = nI (sk T n s.1 + j) → mI M2 277 38 = nI (sk T n s.1) → w_X8_name_58 m (lN (b27 (ltr T (sk T n s.1) j))) M2 Q := by
    intro d
    induction d with
    | zero => intro m j M2 hj hm hje hj4; omega
    | succ d ih =>
      intro m j M2 hj hm hje hj4 f2 e2 e38
      obtain ⟨m, rfl⟩ : ∃ m', m = m' + 1 := ⟨m - 1, by omega⟩
      have fU1 : fG fU M1 M2 := ⟨f2.1, f2.2.1, f2.2.2.1, fun a j ha => f2.2.2.2 a j (fun q => ha ⟨q.1, by omega⟩)⟩
      have m5 : mI M2 277 5 = 0 := by rw [f2.2.2.2 277 5 (by omega)]; exact h5
      have m6 : mI M2 277 6 = -1 := by rw [f2.2.2.2 277 6 (by omega)]; exact h6
      have fin : sk T n s.1 + j = tE T n s → Q (lN (b27 (ltr T (sk T n s.1) j))) (sI M2 277 4 (nI (sk T n s.1 + j))) := fun y => by
        have ej : tE T n s - sk T n s.1 = j := by omega
        have f3 : fG fU M1 (sI M2 277 4 (nI (sk T n s.1 + j))) := fU1.up ⟨rfl, by omega⟩ _
        have ew : ltr T (sk T n s.1) j = tW T n s := by unfold tW; rw [if_pos h1, ej]
        rw [ew]
        refine k1 (by unfold rNam; rw [if_pos ⟨h1, q⟩, if_neg (by omega)]) _ (f1.tr f3) ⟨txM_f f3 fU_a fU_3 t1.1.1, hte, ?_, ?_, Or.inl ?_, tE T n s, by omega, by show ((tE T n s : Nat) : Int) ≤ ((tE T n s : Nat) : Int); omega, ?_, ?_⟩ ?_
        · rw [rI (by omega)]; exact m5
        · rw [rI (by omega)]; exact m6
        · rw [rI (by omega), e2, y]; rfl
        · rw [rIs, y, zI_n]
        · show decide (tK T n s = 1 ∨ tK T n s = 2) = true ↔ _
          rw [decide_eq_true_iff]
          exact ⟨fun _ => rfl, fun _ => Or.inl h1⟩
        · rw [rI (by omega)]; exact e38
      unfold w_X8_name_58
      rw [f2.2.2.2 277 3 (by omega), h3, e2, nI_clamp (by omega), f2.2.2.2 278 _ (by omega)]
      by_cases y : n ≤ sk T n s.1 + j
      · exact k_yes (nI_le y (by omega)) (fin (by omega))
      · obtain ⟨hb, ht⟩ := hT (sk T n s.1 + j) (by omega)
        rw [ht]
        refine k_no (nI_ge (by omega) (by omega)) ⟨vp_in_nI (by omega) (by decide), m_isL hb (fun g => k_no (by decide) ?_) (fun g => k_yes rfl ?_)⟩
        · have hne : sk T n s.1 + j ≠ tE T n s := fun y2 => by
            have e9 := he.1
            have : tE T n s < n := by omega
            rw [e9] at this
            have := rn_at (f := fun k => isL (T k)) this
            have e8 : rn (fun k => isL (T k)) n (sk T n s.1) = sk T n s.1 + j := by rw [y2, e9]; rfl
            rw [e8] at this
            rw [this] at g; exact absurd g (by decide)
          have gr := isL_r g
          rw [e2, e38, pk_sub (by omega), show sk T n s.1 + j - sk T n s.1 = j from by omega]
          refine pk_ne j 6 (fun y4 => ⟨vp_in_nI (by omega) (by decide), ?_⟩) (fun y4 => m_fail m5 1 (sk T n s.1 + 6) rfl (by rw [y4]) (by decide) (by decide) (fun M3 f3 t3 => k0 _ (by unfold rNam; rw [if_pos ⟨h1, q⟩, if_pos (by omega)]) M3 (f1.tr (fU1.tr f3)) t3))
          have g2 := ih m (j + 1) (sI M2 277 2 (nI (sk T n s.1 + j + 1))) (by omega) (by omega) (by omega) (by omega) (f2.up ⟨rfl, Or.inl rfl⟩ _) (rIs _ _ _ _) (by rw [rI (by omega)]; exact e38)
          rw [nI_clamp (by omega), f2.2.2.2 278 _ (by omega), ht, nI_l (by omega), show (27 : Int64) = lN 27 from rfl, lN_mul, lN_add, show (97 : Int64) = lN 97 from rfl, lN_sub (by omega), lN_1, nI_1]
          have eb : b27 (ltr T (sk T n s.1) (j + 1)) = 27 * b27 (ltr T (sk T n s.1) j) + T (sk T n s.1 + j) - 97 + 1 := by
            show b27 (ltr T (sk T n s.1) j ++ [T (sk T n s.1 + j) - 96]) = _
            rw [b27_app]; omega
          rw [← eb]
          exact g2
        · rw [e2]
          refine fin ?_
          apply Nat.le_antisymm hje
          apply Nat.le_of_not_lt
          intro y2
          have e9 := he.1
          unfold wE at e9
          have := rn_in (f := fun k => isL (T k)) (n := n) (p := sk T n s.1) (q := sk T n s.1 + j) (by omega) (by omega)
          rw [g] at this; exact absurd this (by decide)
  exact ⟨8, key 7 8 0 _ (by omega) (by omega) (by omega) (by omega) ((fG.rf M1).up ⟨rfl, Or.inr rfl⟩ _) (by rw [rI (by omega)]; exact h2) (rIs _ _ _ _)⟩
theorem m_namF {M : pm} {e : Nat × Nat} (h : tkF M e) {Q : Int64 → pm → Prop} (k : Q 0 M) : w_X8_name M Q := k_no (tkF_n h) k
