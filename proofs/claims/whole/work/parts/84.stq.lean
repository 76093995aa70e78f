/-! the reference: what was told stands -/
theorem m_s7 {M : pm} {K Q : pm → Prop} (kk : ∀ M', fG (fun a k => (a = 308 ∨ a = 309 ∨ a = 314 ∨ a = 315) ∧ 3 ≤ k) M M' → (∀ j, j < 3 → mI M' 308 (3 + j) = mI M 308 j ∧ mI M' 309 (3 + j) = mI M 309 j ∧ mI M' 314 (3 + j) = mI M 314 j ∧ mI M' 315 (3 + j) = mI M 315 j) → K M') : ∃ n, w_X8_stands_7 n 0 M K Q := by
  have key : ∀ d m i M1, i + d = 3 → d < m → fG (fun a k => (a = 308 ∨ a = 309 ∨ a = 314 ∨ a = 315) ∧ 3 ≤ k) M M1 → (∀ j, j < i → mI M1 308 (3 + j) = mI M 308 j ∧ mI M1 309 (3 + j) = mI M 309 j ∧ mI M1 314 (3 + j) = mI M 314 j ∧ mI M1 315 (3 + j) = mI M 315 j) → w_X8_stands_7 m (nI i) M1 K Q := by
    intro d
    induction d with
    | zero =>
      intro m i M1 hi hm f e
      obtain ⟨m, rfl⟩ : ∃ m', m = m' + 1 := ⟨m - 1, by omega⟩
      unfold w_X8_stands_7
      exact k_yes (nI_le (a := 3) (by omega) (by omega)) (kk M1 f (fun j hj => e j (by omega)))
    | succ d ih =>
      intro m i M1 hi hm f e
      obtain ⟨m, rfl⟩ : ∃ m', m = m' + 1 := ⟨m - 1, by omega⟩
      unfold w_X8_stands_7
      rw [show (3 : Int32) + nI i = nI (3 + i) from nI_add 3 i, nI_clamp (n := i) (by omega), nI_clamp (by omega), nI_1]
      have v1 : vp_in (nI i) 6 := vp_in_nI (by omega) (by decide)
      have v2 : vp_in (nI (3 + i)) 6 := vp_in_nI (by omega) (by decide)
      refine k_no (nI_ge (b := 3) (by omega) (by decide)) ⟨v1, v2, v1, v2, v1, v2, v1, v2, ih m (i + 1) _ (by omega) (by omega) ((((f.up ⟨by omega, by omega⟩ _).up ⟨by omega, by omega⟩ _).up ⟨by omega, by omega⟩ _).up ⟨by omega, by omega⟩ _) (fun j hj => ?_)⟩
      by_cases q : j = i
      · subst q
        refine ⟨?_, ?_, ?_, ?_⟩
        · rw [rI (by omega), rI (by omega), rI (by omega), rIs]; exact f.2.2.2 308 j (by omega)
        · rw [rI (by omega), rI (by omega), rIs]; exact f.2.2.2 309 j (by omega)
        · rw [rI (by omega), rIs]; exact f.2.2.2 314 j (by omega)
        · rw [rIs]; exact f.2.2.2 315 j (by omega)
      · rw [rI (by omega), rI (by omega), rI (by omega), rI (by omega), rI (by omega), rI (by omega), rI (by omega), rI (by omega), rI (by omega), rI (by omega), rI (by omega), rI (by omega), rI (by omega), rI (by omega), rI (by omega), rI (by omega)]
        exact e j (by omega)
  exact ⟨4, key 3 4 0 M (by omega) (by omega) (fG.rf _) (fun j hj => absurd hj (Nat.not_lt_zero _))⟩
theorem m_s76 {M : pm} {K Q : pm → Prop} (kk : ∀ M', mL M' = mL M → mR M' = mR M → mI M' = mI M → (∀ a k, ¬ (a = 310 ∧ 24 ≤ k) → mJ M' a k = mJ M a k) → (∀ j, j < 24 → mJ M' 310 (24 + j) = mJ M 310 j) → K M') : ∃ n, w_X8_stands_76 n 0 M K Q := by
  have key : ∀ d m i M1, i + d = 24 → d < m → mL M1 = mL M → mR M1 = mR M → mI M1 = mI M → (∀ a k, ¬ (a = 310 ∧ 24 ≤ k) → mJ M1 a k = mJ M a k) → (∀ j, j < i → mJ M1 310 (24 + j) = mJ M 310 j) → w_X8_stands_76 m (nI i) M1 K Q := by
    intro d
    induction d with
    | zero =>
      intro m i M1 hi hm f1 f2 f3 f4 e
      obtain ⟨m, rfl⟩ : ∃ m', m = m' + 1 := ⟨m - 1, by omega⟩
      unfold w_X8_stands_76
      exact k_yes (nI_le (a := 24) (by omega) (by omega)) (kk M1 f1 f2 f3 f4 (fun j hj => e j (by omega)))
    | succ d ih =>
      intro m i M1 hi hm f1 f2 f3 f4 e
      obtain ⟨m, rfl⟩ : ∃ m', m = m' + 1 := ⟨m - 1, by omega⟩
      unfold w_X8_stands_76
      rw [show (24 : Int32) + nI i = nI (24 + i) from nI_add 24 i, nI_clamp (n := i) (by omega), nI_clamp (by omega), nI_1]
      refine k_no (nI_ge (b := 24) (by omega) (by decide)) ⟨vp_in_nI (by omega) (by decide), vp_in_nI (by omega) (by decide), ih m (i + 1) _ (by omega) (by omega) f1 f2 f3 (fun a k h => ?_) (fun j hj => ?_)⟩
      · rw [rJ (by omega)]; exact f4 a k h
      · by_cases q : j = i
        · subst q
          rw [rJs]; exact f4 310 j (by omega)
        · rw [rJ (by omega)]; exact e j (by omega)
  exact ⟨25, key 24 25 0 M (by omega) (by omega) rfl rfl rfl (fun _ _ _ => rfl) (fun j hj => absurd hj (Nat.not_lt_zero _))⟩
theorem m_s105 {M : pm} {K Q : pm → Prop} (kk : ∀ M', fG (fun a k => a = 311 ∧ 12 ≤ k) M M' → (∀ j, j < 12 → mI M' 311 (12 + j) = mI M 311 j) → K M') : ∃ n, w_X8_stands_105 n 0 M K Q := by
  have key : ∀ d m i M1, i + d = 12 → d < m → fG (fun a k => a = 311 ∧ 12 ≤ k) M M1 → (∀ j, j < i → mI M1 311 (12 + j) = mI M 311 j) → w_X8_stands_105 m (nI i) M1 K Q := by
    intro d
    induction d with
    | zero =>
      intro m i M1 hi hm f e
      obtain ⟨m, rfl⟩ : ∃ m', m = m' + 1 := ⟨m - 1, by omega⟩
      unfold w_X8_stands_105
      exact k_yes (nI_le (a := 12) (by omega) (by omega)) (kk M1 f (fun j hj => e j (by omega)))
    | succ d ih =>
      intro m i M1 hi hm f e
      obtain ⟨m, rfl⟩ : ∃ m', m = m' + 1 := ⟨m - 1, by omega⟩
      unfold w_X8_stands_105
      rw [show (12 : Int32) + nI i = nI (12 + i) from nI_add 12 i, nI_clamp (n := i) (by omega), nI_clamp (by omega), nI_1]
      refine k_no (nI_ge (b := 12) (by omega) (by decide)) ⟨vp_in_nI (by omega) (by decide), vp_in_nI (by omega) (by decide), ih m (i + 1) _ (by omega) (by omega) (f.up ⟨rfl, by omega⟩ _) (fun j hj => ?_)⟩
      by_cases q : j = i
      · subst q
        rw [rIs]; exact f.2.2.2 311 j (by omega)
      · rw [rI (by omega)]; exact e j (by omega)
  exact ⟨13, key 12 13 0 M (by omega) (by omega) (fG.rf _) (fun j hj => absurd hj (Nat.not_lt_zero _))⟩
theorem m_s134 {M : pm} {K Q : pm → Prop} (kk : ∀ M', fG (fun a k => a = 313 ∧ 5 ≤ k) M M' → (∀ j, j < 5 → mI M' 313 (5 + j) = mI M 313 j) → K M') : ∃ n, w_X8_stands_134 n 0 M K Q := by
  have key : ∀ d m i M1, i + d = 5 → d < m → fG (fun a k => a = 313 ∧ 5 ≤ k) M M1 → (∀ j, j < i → mI M1 313 (5 + j) = mI M 313 j) → w_X8_stands_134 m (nI i) M1 K Q := by
    intro d
    induction d with
    | zero =>
      intro m i M1 hi hm f e
      obtain ⟨m, rfl⟩ : ∃ m', m = m' + 1 := ⟨m - 1, by omega⟩
      unfold w_X8_stands_134
      exact k_yes (nI_le (a := 5) (by omega) (by omega)) (kk M1 f (fun j hj => e j (by omega)))
    | succ d ih =>
      intro m i M1 hi hm f e
      obtain ⟨m, rfl⟩ : ∃ m', m = m' + 1 := ⟨m - 1, by omega⟩
      unfold w_X8_stands_134
      rw [show (5 : Int32) + nI i = nI (5 + i) from nI_add 5 i, nI_clamp (n := i) (by omega), nI_clamp (by omega), nI_1]
      refine k_no (nI_ge (b := 5) (by omega) (by decide)) ⟨vp_in_nI (by omega) (by decide), vp_in_nI (by omega) (by decide), ih m (i + 1) _ (by omega) (by omega) (f.up ⟨rfl, by omega⟩ _) (fun j hj => ?_)⟩
      by_cases q : j = i
      · subst q
        rw [rIs]; exact f.2.2.2 313 j (by omega)
      · rw [rI (by omega)]; exact e j (by omega)
  exact ⟨6, key 5 6 0 M (by omega) (by omega) (fG.rf _) (fun j hj => absurd hj (Nat.not_lt_zero _))⟩
theorem m_s161 {M : pm} {cd : Nat} (hcd : cd ≤ 1600) (h48 : mI M 277 48 = nI cd) {K Q : pm → Prop} (kk : ∀ M', fG (fun a k => a = 316 ∧ 1600 ≤ k) M M' → (∀ j, j < cd → mI M' 316 (1600 + j) = mI M 316 j) → K M') : ∃ n, w_X8_stands_161 n 0 M K Q := by
  have key : ∀ d m i M1, i + d = cd → d < m → fG (fun a k => a = 316 ∧ 1600 ≤ k) M M1 → (∀ j, j < i → mI M1 316 (1600 + j) = mI M 316 j) → w_X8_stands_161 m (nI i) M1 K Q := by
    intro d
    induction d with
    | zero =>
      intro m i M1 hi hm f e
      obtain ⟨m, rfl⟩ : ∃ m', m = m' + 1 := ⟨m - 1, by omega⟩
      unfold w_X8_stands_161
      rw [f.2.2.2 277 48 (by omega), h48]
      exact k_yes (nI_le (by omega) (by omega)) (kk M1 f (fun j hj => e j (by omega)))
    | succ d ih =>
      intro m i M1 hi hm f e
      obtain ⟨m, rfl⟩ : ∃ m', m = m' + 1 := ⟨m - 1, by omega⟩
      unfold w_X8_stands_161
      rw [f.2.2.2 277 48 (by omega), h48, show (1600 : Int32) + nI i = nI (1600 + i) from nI_add 1600 i, nI_clamp (n := i) (by omega), nI_clamp (by omega), nI_1]
      refine k_no (nI_ge (by omega) (by omega)) ⟨vp_in_nI (by omega) (by decide), vp_in_nI (by omega) (by decide), ih m (i + 1) _ (by omega) (by omega) (f.up ⟨rfl, by omega⟩ _) (fun j hj => ?_)⟩
      by_cases q : j = i
      · subst q
        rw [rIs]; exact f.2.2.2 316 j (by omega)
      · rw [rI (by omega)]; exact e j (by omega)
  exact ⟨cd + 1, key cd (cd + 1) 0 M (by omega) (by omega) (fG.rf _) (fun j hj => absurd hj (Nat.not_lt_zero _))⟩
theorem m_s193 {M : pm} {K Q : pm → Prop} (kk : ∀ M', fG (fun a k => a = 317) M M' → (∀ j, j < 163 → mI M' 317 j = 0) → K M') : ∃ n, w_X8_stands_193 n 0 M K Q := by
  have key : ∀ d m i M1, i + d = 163 → d < m → fG (fun a k => a = 317) M M1 → (∀ j, j < i → mI M1 317 j = 0) → w_X8_stands_193 m (nI i) M1 K Q := by
    intro d
    induction d with
    | zero =>
      intro m i M1 hi hm f e
      obtain ⟨m, rfl⟩ : ∃ m', m = m' + 1 := ⟨m - 1, by omega⟩
      unfold w_X8_stands_193
      exact k_yes (nI_le (a := 163) (by omega) (by omega)) (kk M1 f (fun j hj => e j (by omega)))
    | succ d ih =>
      intro m i M1 hi hm f e
      obtain ⟨m, rfl⟩ : ∃ m', m = m' + 1 := ⟨m - 1, by omega⟩
      unfold w_X8_stands_193
      rw [nI_clamp (by omega), nI_1]
      refine k_no (nI_ge (b := 163) (by omega) (by decide)) ⟨vp_in_nI (by omega) (by decide), ih m (i + 1) _ (by omega) (by omega) (f.up rfl _) (fun j hj => ?_)⟩
      by_cases q : j = i
      · subst q
        rw [rIs]
      · rw [rI (by omega)]; exact e j (by omega)
  exact ⟨164, key 163 164 0 M (by omega) (by omega) (fG.rf _) (fun j hj => absurd hj (Nat.not_lt_zero _))⟩
theorem m_s239 {M : pm} {i : Nat} (hi8 : i < 8) {K : Int32 → pm → Prop} {Q : pm → Prop} (kk : ∀ M', fG (fun a k => a = 317 ∧ 2 + 5 * i ≤ k ∧ k < 5 + 5 * i) M M' → (∀ j, j < 3 → mI M' 317 (2 + 5 * i + j) = mI M 312 (3 * i + j)) → K (nI i) M') : ∃ n, w_X8_stands_239 n (nI i) 0 M K Q := by
  have key : ∀ d m j M1, j + d = 3 → d < m → fG (fun a k => a = 317 ∧ 2 + 5 * i ≤ k ∧ k < 5 + 5 * i) M M1 → (∀ l, l < j → mI M1 317 (2 + 5 * i + l) = mI M 312 (3 * i + l)) → w_X8_stands_239 m (nI i) (nI j) M1 K Q := by
    intro d
    induction d with
    | zero =>
      intro m j M1 hj hm f e
      obtain ⟨m, rfl⟩ : ∃ m', m = m' + 1 := ⟨m - 1, by omega⟩
      unfold w_X8_stands_239
      exact k_yes (nI_le (a := 3) (by omega) (by omega)) (kk M1 f (fun l hl => e l (by omega)))
    | succ d ih =>
      intro m j M1 hj hm f e
      obtain ⟨m, rfl⟩ : ∃ m', m = m' + 1 := ⟨m - 1, by omega⟩
      unfold w_X8_stands_239
      rw [show (3 : Int32) * nI i = nI (3 * i) from pk_mul 3 _, show (5 : Int32) * nI i = nI (5 * i) from pk_mul 5 _, show (2 : Int32) + nI (5 * i) = nI (2 + 5 * i) from nI_add 2 _, nI_add, nI_add, nI_clamp (n := 3 * i + j) (by omega), nI_clamp (by omega), nI_1]
      refine k_no (nI_ge (b := 3) (by omega) (by decide)) ⟨vp_in_nI (by omega) (by decide), vp_in_nI (by omega) (by decide), ih m (j + 1) _ (by omega) (by omega) (f.up ⟨rfl, by omega, by omega⟩ _) (fun l hl => ?_)⟩
      by_cases q : l = j
      · subst q
        rw [rIs]; exact f.2.2.2 312 _ (by omega)
      · rw [rI (by omega)]; exact e l (by omega)
  exact ⟨4, key 3 4 0 M (by omega) (by omega) (fG.rf _) (fun j hj => absurd hj (Nat.not_lt_zero _))⟩
theorem m_s227 {M : pm} {na : Nat} (hna : na ≤ 8) (h309 : mI M 309 1 = nI na) {Q : pm → Prop} (kk : ∀ M', fG (fun a k => a = 317 ∧ ∃ b, b < na ∧ 2 + 5 * b ≤ k ∧ k < 5 + 5 * b) M M' → (∀ b j, b < na → j < 3 → mI M' 317 (2 + 5 * b + j) = mI M 312 (3 * b + j)) → Q (sI (sI M' 277 69 0) 277 63 0)) : ∃ n, w_X8_stands_227 n 0 M Q := by
  have key : ∀ d m i M1, i + d = na → d < m → fG (fun a k => a = 317 ∧ ∃ b, b < na ∧ 2 + 5 * b ≤ k ∧ k < 5 + 5 * b) M M1 → (∀ b j, b < i → j < 3 → mI M1 317 (2 + 5 * b + j) = mI M 312 (3 * b + j)) → w_X8_stands_227 m (nI i) M1 Q := by
    intro d
    induction d with
    | zero =>
      intro m i M1 hi hm f e
      obtain ⟨m, rfl⟩ : ∃ m', m = m' + 1 := ⟨m - 1, by omega⟩
      unfold w_X8_stands_227
      rw [f.2.2.2 309 1 (fun z => absurd z.1 (by decide)), h309]
      exact k_yes (nI_le (by omega) (by omega)) (kk M1 f (fun b j hb hj => e b j (by omega) hj))
    | succ d ih =>
      intro m i M1 hi hm f e
      obtain ⟨m, rfl⟩ : ∃ m', m = m' + 1 := ⟨m - 1, by omega⟩
      unfold w_X8_stands_227
      rw [f.2.2.2 309 1 (fun z => absurd z.1 (by decide)), h309]
      refine k_no (nI_ge (by omega) (by omega)) (m_s239 (by omega) (fun M2 f2 e2 => ?_))
      rw [nI_1]
      refine ih m (i + 1) M2 (by omega) (by omega) ⟨f2.1.trans f.1, f2.2.1.trans f.2.1, f2.2.2.1.trans f.2.2.1, fun a k h => (f2.2.2.2 a k (fun z => h ⟨z.1, i, by omega, z.2⟩)).trans (f.2.2.2 a k h)⟩ (fun b j hb hj => ?_)
      by_cases q : b = i
      · subst q
        rw [e2 j hj]; exact f.2.2.2 312 _ (fun z => absurd z.1 (by decide))
      · rw [f2.2.2.2 317 _ (by omega)]; exact e b j (by omega) hj
  exact ⟨na + 1, key na (na + 1) 0 M (by omega) (by omega) (fG.rf _) (fun b j hb => absurd hb (Nat.not_lt_zero _))⟩
def vAr (a k : Nat) : Prop := (a = 277 ∧ (k = 50 ∨ k = 63 ∨ k = 69)) ∨ ((a = 308 ∨ a = 309 ∨ a = 314 ∨ a = 315) ∧ 3 ≤ k) ∨ (a = 311 ∧ 12 ≤ k) ∨ (a = 313 ∧ 5 ≤ k) ∨ (a = 316 ∧ 1600 ≤ k) ∨ a = 317
def fV (M M' : pm) : Prop := mL M' = mL M ∧ mR M' = mR M ∧ (∀ a k, ¬ (a = 310 ∧ 24 ≤ k) → mJ M' a k = mJ M a k) ∧ ∀ a k, ¬ vAr a k → mI M' a k = mI M a k
def sV (M M' : pm) (cd na : Nat) : Prop := fV M M' ∧ (mI M' 277 50 = 1 ∧ mI M' 277 63 = 0 ∧ mI M' 277 69 = 0) ∧ (∀ j, j < 3 → mI M' 308 (3 + j) = mI M 308 j ∧ mI M' 309 (3 + j) = mI M 309 j ∧ mI M' 314 (3 + j) = mI M 314 j ∧ mI M' 315 (3 + j) = mI M 315 j) ∧ (∀ j, j < 24 → mJ M' 310 (24 + j) = mJ M 310 j) ∧ (∀ j, j < 12 → mI M' 311 (12 + j) = mI M 311 j) ∧ (∀ j, j < 5 → mI M' 313 (5 + j) = mI M 313 j) ∧ (∀ j, j < cd → mI M' 316 (1600 + j) = mI M 316 j) ∧ mI M' 317 1 = mI M 308 1 ∧ (∀ b j, b < na → j < 3 → mI M' 317 (2 + 5 * b + j) = mI M 312 (3 * b + j)) ∧ ∀ k, k < 163 → k ≠ 1 → (∀ b, b < na → ¬ (2 + 5 * b ≤ k ∧ k < 5 + 5 * b)) → mI M' 317 k = 0
theorem m_stands {M : pm} {cd na : Nat} (hcd : cd ≤ 1600) (h48 : mI M 277 48 = nI cd) (hna : na ≤ 8) (h309 : mI M 309 1 = nI na) {Q : pm → Prop} (kk : ∀ M', sV M M' cd na → Q M') : w_X8_stands M Q := by
  unfold w_X8_stands
  refine m_s7 (fun M1 f1 e1 => m_s76 (fun M2 l2 r2 i2 j2 e2 => m_s105 (fun M3 f3 e3 => m_s134 (fun M4 f4 e4 => ?_))))
  have b4 : ∀ a k, ¬ ((a = 308 ∨ a = 309 ∨ a = 314 ∨ a = 315) ∧ 3 ≤ k) → ¬ (a = 311 ∧ 12 ≤ k) → ¬ (a = 313 ∧ 5 ≤ k) → ¬ (a = 277 ∧ k = 50) → mI M4 a k = mI M a k := fun a k h1 h2 h3 h4 => by
    rw [f4.2.2.2 a k h3, f3.2.2.2 a k h2, i2, f1.2.2.2 a k h1, rI h4]
  refine m_s161 hcd (by rw [b4 277 48 (by omega) (by omega) (by omega) (by omega)]; exact h48) (fun M5 f5 e5 => m_s193 (fun M6 f6 e6 => ?_))
  have b6 : ∀ a k, ¬ ((a = 308 ∨ a = 309 ∨ a = 314 ∨ a = 315) ∧ 3 ≤ k) → ¬ (a = 311 ∧ 12 ≤ k) → ¬ (a = 313 ∧ 5 ≤ k) → ¬ (a = 277 ∧ k = 50) → ¬ (a = 316 ∧ 1600 ≤ k) → a ≠ 317 → mI M6 a k = mI M a k := fun a k h1 h2 h3 h4 h5 h6 => by
    rw [f6.2.2.2 a k h6, f5.2.2.2 a k h5, b4 a k h1 h2 h3 h4]
  refine m_s227 hna (by rw [rI (by omega), b6 309 1 (by omega) (by omega) (by omega) (by omega) (by omega) (by omega)]; exact h309) (fun M8 f8 e8 => kk _ ?_)
  have t8 : ∀ a k, a ≠ 317 → ¬ (a = 277 ∧ (k = 69 ∨ k = 63)) → mI (sI (sI M8 277 69 0) 277 63 0) a k = mI M5 a k := fun a k h1 h2 => by
    rw [rI (by omega), rI (by omega), f8.2.2.2 a k (fun z => h1 z.1), rI (by omega), f6.2.2.2 a k h1]
  refine ⟨⟨?_, ?_, fun a k h => ?_, fun a k h => ?_⟩, ⟨?_, rIs _ _ _ _, by rw [rI (by omega), rIs]⟩, fun j hj => ?_, fun j hj => ?_, fun j hj => ?_, fun j hj => ?_, fun j hj => ?_, ?_, fun b j hb hj => ?_, fun k h1 h2 h3 => ?_⟩
  · exact f8.1.trans (f6.1.trans (f5.1.trans (f4.1.trans (f3.1.trans (l2.trans f1.1)))))
  · exact f8.2.1.trans (f6.2.1.trans (f5.2.1.trans (f4.2.1.trans (f3.2.1.trans (r2.trans f1.2.1)))))
  · show mJ M8 a k = _
    rw [f8.2.2.1]
    show mJ M6 a k = _
    rw [f6.2.2.1, f5.2.2.1, f4.2.2.1, f3.2.2.1, j2 a k h, f1.2.2.1]
    rfl
  · unfold vAr at h
    rw [t8 a k (by omega) (by omega), f5.2.2.2 a k (by omega), b4 a k (by omega) (by omega) (by omega) (by omega)]
  · rw [t8 277 50 (by decide) (by omega), f5.2.2.2 277 50 (by omega), f4.2.2.2 277 50 (by omega), f3.2.2.2 277 50 (by omega), i2, f1.2.2.2 277 50 (by omega), rIs]
  · have h := e1 j hj
    have z : ∀ a, (a = 308 ∨ a = 309 ∨ a = 314 ∨ a = 315) → mI (sI (sI M8 277 69 0) 277 63 0) a (3 + j) = mI M1 a (3 + j) := fun a ha => by
      rw [t8 a _ (by omega) (by omega), f5.2.2.2 a _ (by omega), f4.2.2.2 a _ (by omega), f3.2.2.2 a _ (by omega), i2]
    rw [z 308 (by omega), z 309 (by omega), z 314 (by omega), z 315 (by omega), h.1, h.2.1, h.2.2.1, h.2.2.2, rI (by omega), rI (by omega), rI (by omega), rI (by omega)]
    exact ⟨rfl, rfl, rfl, rfl⟩
  · show mJ M8 310 (24 + j) = _
    rw [f8.2.2.1]
    show mJ M6 310 (24 + j) = _
    rw [f6.2.2.1, f5.2.2.1, f4.2.2.1, f3.2.2.1, e2 j hj, f1.2.2.1]
    rfl
  · rw [t8 311 _ (by decide) (by omega), f5.2.2.2 311 _ (by omega), f4.2.2.2 311 _ (by omega), e3 j hj, i2, f1.2.2.2 311 j (by omega), rI (by omega)]
  · rw [t8 313 _ (by decide) (by omega), f5.2.2.2 313 _ (by omega), e4 j hj, f3.2.2.2 313 j (by omega), i2, f1.2.2.2 313 j (by omega), rI (by omega)]
  · rw [t8 316 _ (by decide) (by omega), e5 j hj, b4 316 j (by omega) (by omega) (by omega) (by omega)]
  · rw [rI (by omega), rI (by omega), f8.2.2.2 317 1 (fun z => by obtain ⟨z1, b, z2, z3, z4⟩ := z; omega), rIs, b6 308 1 (by omega) (by omega) (by omega) (by omega) (by omega) (by omega)]
  · rw [rI (by omega), rI (by omega), e8 b j hb hj, rI (by omega), b6 312 _ (by omega) (by omega) (by omega) (by omega) (by omega) (by omega)]
  · rw [rI (by omega), rI (by omega), f8.2.2.2 317 k (fun z => by obtain ⟨z1, b, z2, z3⟩ := z; exact h3 b z2 z3), rI (by omega), e6 k h1]
