/-! the reference's tokens -/
def fU (a k : Nat) : Prop := a = 277 ∧ (k = 2 ∨ k = 4 ∨ k = 5 ∨ k = 6 ∨ k = 38)
/-- where its words lie -/
def waL : List (Nat × Nat) := [(280, 0), (281, 1), (282, 2), (283, 3), (284, 4), (285, 5), (286, 6), (287, 7), (288, 8), (289, 9), (290, 10), (291, 11), (292, 12), (293, 13), (294, 14), (295, 15), (296, 16), (297, 17), (298, 18), (299, 19), (300, 20), (301, 21), (302, 22), (303, 23), (304, 24), (305, 25), (306, 26), (307, 27), (326, 28), (327, 29), (328, 30), (329, 31), (330, 32), (331, 33), (332, 24), (333, 23), (334, 22), (335, 25), (336, 26), (337, 27), (338, 7), (339, 15), (340, 16), (341, 17), (342, 18), (343, 2), (344, 3), (345, 19), (346, 20), (347, 21), (348, 5)]
set_option maxRecDepth 100000 in
theorem wa_ok : ∀ q ∈ waL, (lay q.1).2 = (wdA q.2).length ∧ q.2 < 34 ∧ ((280 ≤ q.1 ∧ q.1 < 308) ∨ (326 ≤ q.1 ∧ q.1 < 349)) := by decide +kernel
theorem wa_p {a w : Nat} (h : (a, w) ∈ waL) : (lay a).2 = (wdA w).length ∧ w < 34 := ⟨(wa_ok (a, w) h).1, (wa_ok (a, w) h).2.1⟩
set_option maxRecDepth 100000 in
theorem pM2_v : ∀ q ∈ waL, ∀ i, i < (wdA q.2).length → mI pM2 q.1 i = nI (96 + (wdA q.2).getD i 0) := by decide +kernel
def wdM (M : pm) : Prop := ∀ q ∈ waL, ∀ i, i < (wdA q.2).length → mI M q.1 i = nI (96 + (wdA q.2).getD i 0)
theorem wdM_of {M : pm} (h : iWrd M) : wdM M := fun q hq i hi => by rw [h.2 q.1 (wa_ok q hq).2.2]; exact pM2_v q hq i hi
def txM (M : pm) (T : Nat → Nat) (n : Nat) : Prop := tpM M T ∧ n ≤ 1600 ∧ wdM M ∧ mI M 277 3 = nI n
def tkM (M : pm) (T : Nat → Nat) (n : Nat) (s : ts) : Prop := txM M T n ∧ s.1 ≤ n ∧ mI M 277 5 = 0 ∧ mI M 277 6 = -1 ∧ (mI M 277 2 = nI s.1 ∨ mI M 277 2 = nI (sk T n s.1)) ∧ ∃ z : Int, -1 ≤ z ∧ z ≤ s.1 ∧ mI M 277 4 = zI z ∧ (s.2 = true ↔ z = s.1)
def tkL (M : pm) (T : Nat → Nat) (n : Nat) (s : ts) : Prop := tkM M T n s ∧ mI M 277 2 = nI (sk T n s.1)
def tkF (M : pm) (e : Nat × Nat) : Prop := mI M 277 5 = nI e.1 ∧ mI M 277 6 = nI e.2 ∧ 1 ≤ e.1 ∧ e.1 < 6
def tkH {A : Type} (M : pm) (T : Nat → Nat) (n : Nat) (r : rs A) : Prop := match r with
  | .inl e => tkF M e
  | .inr (_, s) => tkM M T n s
theorem txM_c {M M' : pm} {T : Nat → Nat} {n : Nat} (e : mI M' 278 = mI M 278) (ew : ∀ a, (280 ≤ a ∧ a < 308) ∨ (326 ≤ a ∧ a < 349) → mI M' a = mI M a) (e3 : mI M' 277 3 = mI M 277 3) (h : txM M T n) : txM M' T n :=
  ⟨tpM_c e h.1, h.2.1, fun q hq i hi => by rw [ew q.1 (wa_ok q hq).2.2]; exact h.2.2.1 q hq i hi, by rw [e3]; exact h.2.2.2⟩
theorem txM_f {A : Nat → Nat → Prop} {M M' : pm} {T : Nat → Nat} {n : Nat} (f : fG A M M') (a : ∀ b k, (b = 278 ∨ (280 ≤ b ∧ b < 308) ∨ (326 ≤ b ∧ b < 349)) → ¬ A b k) (a3 : ¬ A 277 3) (h : txM M T n) : txM M' T n := txM_c (f.row (fun k => a 278 k (Or.inl rfl))) (fun b hb => f.row (fun k => a b k (Or.inr hb))) (f.2.2.2 277 3 a3) h
theorem fU_a : ∀ b k, (b = 278 ∨ (280 ≤ b ∧ b < 308) ∨ (326 ≤ b ∧ b < 349)) → ¬ fU b k := fun b k h q => by unfold fU at q; omega
theorem fU_3 : ¬ fU 277 3 := by unfold fU; omega
/-- what stands there -/
def lkV (T : Nat → Nat) (n : Nat) (s : ts) : Int32 := if n ≤ sk T n s.1 then -1 else nI (T (sk T n s.1))
theorem m_lookB {M : pm} {T : Nat → Nat} {n : Nat} {s : ts} (h : tkL M T n s) {Q : Int32 → pm → Prop} (k : Q (lkV T n s) M) : w_X8_look_52 M Q := by
  obtain ⟨⟨⟨hT, h16, -, h3⟩, hn, -⟩, h2⟩ := h
  have hq := sk_le (T := T) hn
  unfold lkV at k
  unfold w_X8_look_52
  rw [h2, h3]
  refine pk_le n (sk T n s.1) (fun q => ?_) (fun q => ⟨vp_in_nI (by omega) (by decide), ?_⟩)
  · rw [if_pos q] at k; exact k
  · rw [if_neg (by omega)] at k
    rw [nI_clamp (by omega), (hT _ (by omega)).2]; exact k
theorem m_look {M : pm} {T : Nat → Nat} {n : Nat} {s : ts} (h : tkM M T n s) {Q : Int32 → pm → Prop} (k : ∀ M', fG fU M M' → tkL M' T n s → Q (lkV T n s) M') : w_X8_look M Q := by
  obtain ⟨⟨hT, h16, hw, h3⟩, hn, h5, h6, h2, z, z1, z2, z3, z4⟩ := id h
  have hq := sk_le (T := T) hn
  have key : ∀ d m p M1, n - p = d → s.1 ≤ p → p ≤ n → d < m → sk T n p = sk T n s.1 → fG (fun a k => a = 277 ∧ k = 2) M M1 → mI M1 277 2 = nI p → w_X8_look_0 m M1 (fun M4 => w_X8_look_52 M4 Q) Q := by
    intro d
    induction d with
    | zero =>
      intro m p M1 hd hp1 hp hm hs f h2
      obtain ⟨m, rfl⟩ : ∃ m', m = m' + 1 := ⟨m - 1, by omega⟩
      have e : sk T n p = p := rn_no (fun h => absurd h (by omega))
      have fU1 : fG fU M M1 := ⟨f.1, f.2.1, f.2.2.1, fun a j ha => f.2.2.2 a j (fun q => ha ⟨q.1, Or.inl q.2⟩)⟩
      have t1 : tkL M1 T n s := ⟨⟨txM_f f (fun b k hb => by omega) (by omega) h.1, hn, by rw [f.2.2.2 277 5 (by omega)]; exact h5, by rw [f.2.2.2 277 6 (by omega)]; exact h6, Or.inr (by rw [h2, ← hs, e]), z, z1, z2, by rw [f.2.2.2 277 4 (by omega)]; exact z3, z4⟩, by rw [h2, ← hs, e]⟩
      unfold w_X8_look_0
      rw [f.2.2.2 277 3 (by omega), h3, h2]
      exact k_yes (nI_le (by omega) (by omega)) (m_lookB t1 (k M1 fU1 t1))
    | succ d ih =>
      intro m p M1 hd hp1 hp hm hs f h2
      obtain ⟨m, rfl⟩ : ∃ m', m = m' + 1 := ⟨m - 1, by omega⟩
      obtain ⟨hb, ht⟩ := hT p (by omega)
      have fU1 : fG fU M M1 := ⟨f.1, f.2.1, f.2.2.1, fun a j ha => f.2.2.2 a j (fun q => ha ⟨q.1, Or.inl q.2⟩)⟩
      have st : isB (T p) = false → w_X8_look_52 M1 Q := fun q => by
        have e : sk T n p = p := rn_no (f := fun k => isB (T k)) (fun _ => q)
        have t1 : tkL M1 T n s := ⟨⟨txM_f f (fun b k hb => by omega) (by omega) h.1, hn, by rw [f.2.2.2 277 5 (by omega)]; exact h5, by rw [f.2.2.2 277 6 (by omega)]; exact h6, Or.inr (by rw [h2, ← hs, e]), z, z1, z2, by rw [f.2.2.2 277 4 (by omega)]; exact z3, z4⟩, by rw [h2, ← hs, e]⟩
        exact m_lookB t1 (k M1 fU1 t1)
      have go : isB (T p) = true → w_X8_look_0 m (sI M1 277 2 (nI (p + 1))) (fun M4 => w_X8_look_52 M4 Q) Q := fun q => ih m (p + 1) _ (by omega) (by omega) (by omega) (by omega) (by rw [← hs]; exact (rn_st (f := fun k => isB (T k)) (by omega) q).symm) (f.up ⟨rfl, rfl⟩ _) (rIs _ _ _ _)
      unfold w_X8_look_0
      rw [f.2.2.2 277 3 (by omega), h3, h2, nI_clamp (by omega), f.2.2.2 278 _ (by omega), ht, nI_1]
      refine k_no (nI_ge (by omega) (by omega)) ⟨vp_in_nI (by omega) (by decide), pk_eq (T p) 10 (fun q => go (by unfold isB; rw [q]; rfl)) (fun q => ⟨vp_in_nI (by omega) (by decide), pk_ne (T p) 32 (fun q2 => st (by unfold isB; simp [q, q2])) (fun q2 => go (by unfold isB; rw [q2]; rfl))⟩)⟩
  rcases h2 with h2 | h2
  · exact ⟨n - s.1 + 1, key _ _ s.1 M rfl (Nat.le_refl _) hn (by omega) rfl (fG.rf M) h2⟩
  · exact ⟨n - sk T n s.1 + 1, key _ _ (sk T n s.1) M rfl (sk_ge _ _ _) hq (by omega) (sk_sk _ _ _) (fG.rf M) h2⟩
theorem m_lookL {M : pm} {T : Nat → Nat} {n : Nat} {s : ts} (h : tkL M T n s) {Q : Int32 → pm → Prop} (k : Q (lkV T n s) M) : w_X8_look M Q := by
  have hq := sk_le (T := T) h.1.2.1
  obtain ⟨⟨⟨hT, h16, hw, h3⟩, hn, -⟩, h2⟩ := id h
  refine ⟨1, ?_⟩
  unfold w_X8_look_0
  rw [h2, h3]
  refine pk_le n (sk T n s.1) (fun q => m_lookB h k) (fun q => ⟨vp_in_nI (by omega) (by decide), ?_⟩)
  have hb : isB (T (sk T n s.1)) = false := rn_at (f := fun k => isB (T k)) q
  obtain ⟨h256, ht⟩ := hT (sk T n s.1) (by omega)
  rw [nI_clamp (by omega), ht]
  unfold isB at hb
  rw [Bool.or_eq_false_iff, beq_eq_false_iff_ne, beq_eq_false_iff_ne] at hb
  exact k_no (fun q => hb.1 ((nI_eq (b := 10) (by omega) (by decide)).mp q)) ⟨vp_in_nI (by omega) (by decide), k_no' (fun q => hb.2 ((nI_eq (b := 32) (by omega) (by decide)).mp q)) (m_lookB h k)⟩
theorem lk_c {M : pm} {T : Nat → Nat} {n : Nat} {s : ts} (h : txM M T n) {c : Nat} (h0 : 0 < c) (hc : c < 256) (hl : isL c = false) (hg : isG c = false) : lkV T n s = nI c ↔ tS T n s = c := by
  have h16 := h.2.1
  unfold lkV
  by_cases q : n ≤ sk T n s.1
  · rw [if_pos q]
    have k5 := tK_5.mpr q
    constructor
    · intro e; exact absurd e.symm (n_m1 (by omega))
    · intro e; have := (tS_k h0 e).1; omega
  · rw [if_neg q]
    have hb := (h.1 (sk T n s.1) (by omega)).1
    rw [nI_eq (by omega) (by omega)]
    constructor
    · intro e
      have k3 : tK T n s = 3 := by
        have hk := tK_le T n s
        rcases (show tK T n s = 1 ∨ tK T n s = 2 ∨ tK T n s = 3 ∨ tK T n s = 4 ∨ tK T n s = 5 from by omega) with z | z | z | z | z
        · have := (tK_1 z).2.1; rw [e, hl] at this; exact absurd this (by decide)
        · have := (tK_2 z).2.1; rw [e, hg] at this; exact absurd this (by decide)
        · exact z
        · have := tK_4 z
          rw [← this.2.2.1, e, hl, hg] at this
          rcases this.2.2.2 with y | y <;> exact absurd y (by decide)
        · exact absurd (tK_5.mp z) q
      unfold tS
      rw [if_pos k3]; exact e
    · intro e; exact (tS_k h0 e).2
theorem lk_e {M : pm} {T : Nat → Nat} {n : Nat} {s : ts} (h : txM M T n) : lkV T n s = -1 ↔ tK T n s = 5 := by
  have h16 := h.2.1
  unfold lkV
  rw [tK_5]
  by_cases q : n ≤ sk T n s.1
  · rw [if_pos q]; exact ⟨fun _ => q, fun _ => rfl⟩
  · rw [if_neg q]
    have hb := (h.1 (sk T n s.1) (by omega)).1
    exact ⟨fun e => absurd e (n_m1 (by omega)), fun e => absurd e q⟩
theorem m_isL {b : Nat} (hb : b < 256) {M : pm} {Q : Int32 → pm → Prop} (k1 : isL b = true → Q 1 M) (k0 : isL b = false → Q 0 M) : w_X8_isLetter (nI b) M Q := by
  refine pk_lt b 97 (fun q => k0 ?_) (fun q => pk_lt 122 b (fun q2 => k0 ?_) (fun q2 => k1 ?_))
  · unfold isL; rw [show decide (97 ≤ b) = false from decide_eq_false (by omega)]; rfl
  · unfold isL; rw [show decide (b ≤ 122) = false from decide_eq_false (by omega), Bool.and_false]
  · unfold isL; rw [show decide (97 ≤ b) = true from decide_eq_true (by omega), show decide (b ≤ 122) = true from decide_eq_true (by omega)]; rfl
theorem m_isG {b : Nat} (hb : b < 256) {M : pm} {Q : Int32 → pm → Prop} (k1 : isG b = true → Q 1 M) (k0 : isG b = false → Q 0 M) : w_X8_isDigit (nI b) M Q := by
  refine pk_lt b 48 (fun q => k0 ?_) (fun q => pk_lt 57 b (fun q2 => k0 ?_) (fun q2 => k1 ?_))
  · unfold isG; rw [show decide (48 ≤ b) = false from decide_eq_false (by omega)]; rfl
  · unfold isG; rw [show decide (b ≤ 57) = false from decide_eq_false (by omega), Bool.and_false]
  · unfold isG; rw [show decide (48 ≤ b) = true from decide_eq_true (by omega), show decide (b ≤ 57) = true from decide_eq_true (by omega)]; rfl
/-- a letter there, and not glued: a word -/
theorem m_word {M : pm} {T : Nat → Nat} {n : Nat} {s : ts} (h : tkL M T n s) {A : Prop} {Q : Int32 → pm → Prop} (hQ1 : A → Q 1 M) (hQ0 : tK T n s ≠ 1 → Q 0 M) (hA : (tK T n s = 1 ↔ ¬ mI M 277 2 = mI M 277 4) → A) : w_X8_isLetter (lkV T n s) M Q := by
  obtain ⟨⟨⟨hT, h16, hw, h3⟩, hn, h5, h6, -, z, z1, z2, z3, z4⟩, h2⟩ := id h
  have hq := sk_le (T := T) hn
  have hge := sk_ge T n s.1
  have eq : mI M 277 2 = mI M 277 4 ↔ (s.2 = true ∧ sk T n s.1 = s.1) := by
    rw [h2, z3, ← zI_n, zI_eq (by omega) (by omega) (by omega) (by omega), z4]
    constructor
    · intro e; exact ⟨by omega, by omega⟩
    · intro e; omega
  unfold lkV
  by_cases q : n ≤ sk T n s.1
  · rw [if_pos q]
    exact k_yes (by decide) (hQ0 (by rw [tK_5.mpr q]; decide))
  · rw [if_neg q]
    refine m_isL (hT _ (by omega)).1 (fun hl => hQ1 (hA ⟨fun e => ?_, fun e => ?_⟩)) (fun hl => hQ0 (fun e => ?_))
    · rw [eq]; exact (tK_1 e).2.2
    · rw [eq] at e
      unfold tK
      rw [if_neg q, if_neg (fun y => e ⟨y.1, y.2.1⟩), if_pos hl]
    · have := (tK_1 e).2.1
      rw [hl] at this; exact absurd this (by decide)
theorem m_wEnd {M : pm} {T : Nat → Nat} {n : Nat} {s : ts} (h : tkL M T n s) {a : Nat} {K : Nat → Int32 → pm → Prop} {Q : Int32 → pm → Prop} (k : K a (nI (wE T n (sk T n s.1))) M) : ∃ m, w_X8_isHere_35 m a (nI (sk T n s.1)) M K Q := by
  obtain ⟨⟨⟨hT, h16, hw, h3⟩, hn, -⟩, h2⟩ := h
  have hq := sk_le (T := T) hn
  have key : ∀ d m p, n - p = d → p ≤ n → d < m → K a (nI (wE T n p)) M → w_X8_isHere_35 m a (nI p) M K Q := by
    intro d
    induction d with
    | zero =>
      intro m p hd hp hm k
      obtain ⟨m, rfl⟩ : ∃ m', m = m' + 1 := ⟨m - 1, by omega⟩
      have e : wE T n p = p := rn_no (fun h => absurd h (by omega))
      rw [e] at k
      unfold w_X8_isHere_35
      rw [h3]
      exact k_yes (nI_le (by omega) (by omega)) k
    | succ d ih =>
      intro m p hd hp hm k
      obtain ⟨m, rfl⟩ : ∃ m', m = m' + 1 := ⟨m - 1, by omega⟩
      obtain ⟨hb, ht⟩ := hT p (by omega)
      unfold w_X8_isHere_35
      rw [h3, nI_clamp (by omega), ht, nI_1]
      refine k_no (nI_ge (by omega) (by omega)) ⟨vp_in_nI (by omega) (by decide), m_isL hb (fun q => k_no (by decide) (ih m (p + 1) (by omega) (by omega) (by omega) ?_)) (fun q => k_yes rfl ?_)⟩
      · have e : wE T n p = wE T n (p + 1) := rn_st (f := fun k => isL (T k)) (by omega) q
        rw [← e]; exact k
      · have e : wE T n p = p := rn_no (f := fun k => isL (T k)) (fun _ => q)
        rw [e] at k; exact k
  exact ⟨n - sk T n s.1 + 1, key _ _ _ rfl hq (by omega) k⟩
theorem m_cmp {M : pm} {T : Nat → Nat} {n : Nat} {s : ts} (h : tkL M T n s) {a w : Nat} (hq : (a, w) ∈ waL) (h1 : tK T n s = 1) (hl : (tW T n s).length = (wdA w).length) {Q : Int32 → pm → Prop} (k1 : kwN T n s = w → Q 1 M) (k0 : kwN T n s ≠ w → Q 0 M) : ∃ m, w_X8_isHere_76 m a 0 M Q := by
  obtain ⟨⟨⟨hT, h16, hw, h3⟩, hn, -⟩, h2⟩ := h
  have wo := wa_p hq
  have hv := hw _ hq
  have wl := wd_ok w wo.2
  have he := tE_le (T := T) hn
  have hle := tW_len h1
  have hgt := (tE_1 h1).2
  have tw : ∀ i, i < (tW T n s).length → (tW T n s)[i]? = some (T (sk T n s.1 + i) - 96) ∧ 97 ≤ T (sk T n s.1 + i) := fun i hi => by
    have e : (tW T n s)[i]? = some (T (sk T n s.1 + i) - 96) := by
      rw [hle] at hi
      unfold tW
      rw [if_pos h1]
      exact ltr_get hi
    refine ⟨e, ?_⟩
    have := tW_in _ (List.mem_of_getElem? e)
    omega
  have key : ∀ d m i, i + d = (wdA w).length → d < m → (∀ j, j < i → (tW T n s)[j]? = (wdA w)[j]?) → w_X8_isHere_76 m a (nI i) M Q := by
    intro d
    induction d with
    | zero =>
      intro m i hd hm hj
      obtain ⟨m, rfl⟩ : ∃ m', m = m' + 1 := ⟨m - 1, by omega⟩
      unfold w_X8_isHere_76
      refine k_yes ?_ (k1 ?_)
      · rw [wo.1]; exact nI_le (by show (wdA w).length ≤ i; omega) (by omega)
      · rw [kwN_eq wo.2]
        apply List.ext_getElem?
        intro j
        rcases Nat.lt_or_ge j i with q | q
        · exact hj j q
        · rw [List.getElem?_eq_none (by omega), List.getElem?_eq_none (by omega)]
    | succ d ih =>
      intro m i hd hm hj
      obtain ⟨m, rfl⟩ : ∃ m', m = m' + 1 := ⟨m - 1, by omega⟩
      have ti := tw i (by omega)
      have hb := hT (sk T n s.1 + i) (by omega)
      have vi : mI M a i = nI (96 + (wdA w).getD i 0) := hv i (by show i < (wdA w).length; omega)
      have wi : (wdA w)[i]? = some ((wdA w).getD i 0) := by rw [List.getD_eq_getElem?_getD, List.getElem?_eq_getElem (by omega)]; rfl
      have w26 := wl.2.2.2 _ (List.mem_of_getElem? wi)
      unfold w_X8_isHere_76
      rw [wo.1, h2, nI_add, nI_clamp (by omega), nI_clamp (by omega), hb.2, vi, nI_1]
      refine k_no (nI_ge (b := (wdA w).length) (by omega) (by omega)) ⟨vp_in_nI (by omega) (by decide), vp_in_nI (by show i < (wdA w).length; omega) (by show (wdA w).length < _; omega), pk_eq _ _ (fun q => ih m (i + 1) (by omega) (by omega) (fun j hj2 => ?_)) (fun q => k0 (fun e => ?_)) rfl rfl (by omega) (by omega)⟩
      · by_cases e : j = i
        · rw [e, ti.1, wi, q]; congr 1; omega
        · exact hj j (by omega)
      · rw [kwN_eq wo.2] at e
        rw [e, wi] at ti
        have := Option.some.inj ti.1
        omega
  exact ⟨(wdA w).length + 1, key (wdA w).length _ 0 (by omega) (by omega) (fun j hj => absurd hj (Nat.not_lt_zero _))⟩
/-- a word asked for -/
theorem m_hereB {M : pm} {T : Nat → Nat} {n : Nat} {s : ts} (h : tkL M T n s) {a w : Nat} (hq : (a, w) ∈ waL) {Q : Int32 → pm → Prop} (k1 : kwN T n s = w → Q 1 M) (k0 : kwN T n s ≠ w → Q 0 M) : w_X8_isLetter (lkV T n s) M (fun y5 M4 => ((y5 = 0 → (Q 0 M4)) ∧ (¬ y5 = 0 → ((¬ (mI M4 277 2) = (mI M4 277 4) → (∃ n13, w_X8_isHere_35 n13 a (mI M4 277 2) M4 (fun a1 x2 M14 => (((x2 - (mI M14 277 2)) = (Int32.ofNat (lay a1).2) → (∃ n17, w_X8_isHere_76 n17 a1 0 M14 Q)) ∧ (¬ (x2 - (mI M14 277 2)) = (Int32.ofNat (lay a1).2) → (Q 0 M14)))) Q)) ∧ ((mI M4 277 2) = (mI M4 277 4) → (Q 0 M4)))))) := by
  have wo := wa_p hq
  have wl := wd_ok w wo.2
  have hn := h.1.2.1
  have h16 := h.1.1.2.1
  refine m_word (A := ((¬ (mI M 277 2) = (mI M 277 4) → (∃ n13, w_X8_isHere_35 n13 a (mI M 277 2) M (fun a1 x2 M14 => (((x2 - (mI M14 277 2)) = (Int32.ofNat (lay a1).2) → (∃ n17, w_X8_isHere_76 n17 a1 0 M14 Q)) ∧ (¬ (x2 - (mI M14 277 2)) = (Int32.ofNat (lay a1).2) → (Q 0 M14)))) Q)) ∧ ((mI M 277 2) = (mI M 277 4) → (Q 0 M)))) h (fun q => k_no (by decide) q) (fun q => k_yes rfl (k0 (fun e => q (kwN_1 (by omega)).1))) (fun g => ⟨fun e => ?_, fun e => k0 (fun e2 => ?_)⟩)
  · have h1 : tK T n s = 1 := g.mpr e
    rw [h.2]
    refine m_wEnd h ?_
    have hle := tW_len h1
    have he := (tE_1 h1).1
    have hgt := (tE_1 h1).2
    have hte := tE_le (T := T) hn
    rw [h.2, ← he, pk_sub (by omega), wo.1]
    refine pk_eq (tE T n s - sk T n s.1) (wdA w).length (fun q => m_cmp h hq h1 (by omega) k1 k0) (fun q => k0 (fun e2 => q ?_)) rfl rfl (by omega) (by omega)
    rw [kwN_eq wo.2] at e2
    rw [← hle, e2]
  · have := (kwN_1 (T := T) (n := n) (s := s) (by omega)).1
    exact absurd e (g.mp this)

theorem m_isHereL {M : pm} {T : Nat → Nat} {n : Nat} {s : ts} (h : tkL M T n s) (a w : Nat) (hq : (a, w) ∈ waL) {Q : Int32 → pm → Prop} (k1 : kwN T n s = w → Q 1 M) (k0 : kwN T n s ≠ w → Q 0 M) : w_X8_isHere a M Q := k_yes' h.1.2.2.1 (m_lookL h (m_hereB h hq k1 k0))
theorem m_isHere {M : pm} {T : Nat → Nat} {n : Nat} {s : ts} (h : tkM M T n s) (a w : Nat) (hq : (a, w) ∈ waL) {Q : Int32 → pm → Prop} (k1 : kwN T n s = w → ∀ M', fG fU M M' → tkL M' T n s → Q 1 M') (k0 : kwN T n s ≠ w → ∀ M', fG fU M M' → tkL M' T n s → Q 0 M') : w_X8_isHere a M Q := k_yes' h.2.2.1 (m_look h (fun M1 f1 t1 => m_hereB t1 hq (fun q => k1 q M1 f1 t1) (fun q => k0 q M1 f1 t1)))
theorem m_isHereF {M : pm} {e : Nat × Nat} (h : tkF M e) {a : Nat} {Q : Int32 → pm → Prop} (k : Q 0 M) : w_X8_isHere a M Q := k_no' (by rw [h.1]; exact nI_ne0 (by have := h.2.2; omega) (by have := h.2.2; omega)) k
theorem tkF_n {M : pm} {e : Nat × Nat} (h : tkF M e) : ¬ mI M 277 5 = 0 := by rw [h.1]; exact nI_ne0 (by have := h.2.2; omega) (by have := h.2.2; omega)
/-- behind a word -/
theorem m_pass {M : pm} {T : Nat → Nat} {n : Nat} {s : ts} (h : tkL M T n s) {a w : Nat} (hq : (a, w) ∈ waL) (hk : kwN T n s = w) : fG fU M (sI (sI M 277 2 ((mI M 277 2) + (Int32.ofNat (lay a).2))) 277 4 ((mI M 277 2) + (Int32.ofNat (lay a).2))) ∧ tkM (sI (sI M 277 2 ((mI M 277 2) + (Int32.ofNat (lay a).2))) 277 4 ((mI M 277 2) + (Int32.ofNat (lay a).2))) T n (tX T n s) := by
  have wo := wa_p hq
  obtain ⟨h1, h6⟩ := kwN_1 (T := T) (n := n) (s := s) (by omega)
  have hle := tW_len h1
  rw [(kwN_eq wo.2).mp hk] at hle
  have hgt := (tE_1 h1).2
  have hte := tE_le (T := T) h.1.2.1
  have h16 := h.1.1.2.1
  have e : mI M 277 2 + (Int32.ofNat (lay a).2) = nI (tE T n s) := by
    rw [h.2, wo.1, show Int32.ofNat (wdA w).length = nI (wdA w).length from rfl, nI_add]
    congr 1
    show sk T n s.1 + (wdA w).length = _
    omega
  rw [e]
  have f : fG fU M (sI (sI M 277 2 (nI (tE T n s))) 277 4 (nI (tE T n s))) := ((fG.rf M).up ⟨rfl, Or.inl rfl⟩ _).up ⟨rfl, Or.inr (Or.inl rfl)⟩ _
  refine ⟨f, txM_f f fU_a fU_3 h.1.1, hte, ?_, ?_, Or.inl ?_, tE T n s, by omega, by show ((tE T n s : Nat) : Int) ≤ ((tE T n s : Nat) : Int); omega, ?_, ?_⟩
  · rw [rI (by omega), rI (by omega)]; exact h.1.2.2.1
  · rw [rI (by omega), rI (by omega)]; exact h.1.2.2.2.1
  · rw [rI (by omega), rIs]; rfl
  · rw [rIs, zI_n]
  · show decide (tK T n s = 1 ∨ tK T n s = 2) = true ↔ _
    rw [decide_eq_true_iff]
    exact ⟨fun _ => rfl, fun _ => Or.inl h1⟩
theorem m_takesL {M : pm} {T : Nat → Nat} {n : Nat} {s : ts} (h : tkL M T n s) (a w : Nat) (hq : (a, w) ∈ waL) {Q : Int32 → pm → Prop} (k1 : kwN T n s = w → ∀ M', fG fU M M' → tkM M' T n (tX T n s) → Q 1 M') (k0 : kwN T n s ≠ w → Q 0 M) : w_X8_takes a M Q :=
  m_isHereL h a w hq (fun q => k_no' (by decide) (k1 q _ (m_pass h hq q).1 (m_pass h hq q).2)) (fun q => k_yes' rfl (k0 q))
theorem m_takes {M : pm} {T : Nat → Nat} {n : Nat} {s : ts} (h : tkM M T n s) (a w : Nat) (hq : (a, w) ∈ waL) {Q : Int32 → pm → Prop} (k1 : kwN T n s = w → ∀ M', fG fU M M' → tkM M' T n (tX T n s) → Q 1 M') (k0 : kwN T n s ≠ w → ∀ M', fG fU M M' → tkL M' T n s → Q 0 M') : w_X8_takes a M Q :=
  m_isHere h a w hq (fun q M1 f1 t1 => k_no' (by decide) (k1 q _ (f1.tr (m_pass t1 hq q).1) (m_pass t1 hq q).2)) (fun q M1 f1 t1 => k_yes' rfl (k0 q M1 f1 t1))
theorem m_fail {M : pm} (h : mI M 277 5 = 0) (a b : Nat) {x y : Int32} (hx : x = nI a) (hy : y = nI b) (h1 : 1 ≤ a) (h2 : a < 6) {Q : pm → Prop} (k : ∀ M', fG fU M M' → tkF M' (a, b) → Q M') : w_X8_fail x y M Q := by
  refine k_yes h (k _ (((fG.rf M).up ⟨rfl, by omega⟩ _).up ⟨rfl, by omega⟩ _) ⟨?_, ?_, h1, h2⟩)
  · rw [rI (by omega), rIs, hx]
  · rw [rIs, hy]
theorem m_failF {M : pm} {e : Nat × Nat} (h : tkF M e) {x y : Int32} {Q : pm → Prop} (k : Q M) : w_X8_fail x y M Q := k_no (tkF_n h) k
theorem m_asks {A : Type} {M : pm} {T : Nat → Nat} {n : Nat} {r : rs A} (h : tkH M T n r) (a w : Nat) (hq : (a, w) ∈ waL) {Q : pm → Prop} (k : ∀ M', fG fU M M' → tkH M' T n (rTh r (rWrd T n w)) → Q M') : w_X8_asks a M Q := by
  match r, h, k with
  | .inl e, h, k => exact k_no' (tkF_n h) (k M (fG.rf M) h)
  | .inr (x, s), h, k =>
    have h : tkM M T n s := h
    refine k_yes' h.2.2.1 (m_takes h a w hq (fun q M1 f1 t1 => k_no' (by decide) (k M1 f1 ?_)) (fun q M1 f1 t1 => k_yes' rfl (m_fail t1.1.2.2.1 1 (sk T n s.1) rfl t1.2 (by decide) (by decide) (fun M2 f2 t2 => k M2 (f1.tr f2) ?_))))
    · show tkH M1 T n (rB (rWrd T n w s) _)
      unfold rWrd
      rw [if_pos q]; exact t1
    · show tkH M2 T n (rB (rWrd T n w s) _)
      unfold rWrd
      rw [if_neg q]; exact t2
/-- behind a sign -/
theorem m_passS {M : pm} {T : Nat → Nat} {n : Nat} {s : ts} (h : tkL M T n s) (hk : tK T n s = 3) : fG fU M (sI M 277 2 ((mI M 277 2) + 1)) ∧ tkM (sI M 277 2 ((mI M 277 2) + 1)) T n (tX T n s) ∧ mI (sI M 277 2 ((mI M 277 2) + 1)) 277 2 = nI (sk T n s.1 + 1) := by
  have f : fG fU M (sI M 277 2 ((mI M 277 2) + 1)) := (fG.rf M).up ⟨rfl, Or.inl rfl⟩ _
  have hte := tE_le (T := T) h.1.2.1
  have e := tE_3 (T := T) (n := n) (s := s) (Or.inl hk)
  have hge := sk_ge T n s.1
  obtain ⟨h1, hn, h5, h6, -, z, z1, z2, z3, z4⟩ := h.1
  refine ⟨f, ⟨txM_f f fU_a fU_3 h1, hte, ?_, ?_, Or.inl ?_, z, z1, ?_, ?_, ?_⟩, ?_⟩
  · rw [rI (by omega)]; exact h5
  · rw [rI (by omega)]; exact h6
  · rw [rIs, h.2, nI_1]; show _ = nI (tE T n s); rw [e]
  · show z ≤ ((tE T n s : Nat) : Int); omega
  · rw [rI (by omega)]; exact z3
  · show decide (tK T n s = 1 ∨ tK T n s = 2) = true ↔ z = ((tE T n s : Nat) : Int)
    rw [decide_eq_true_iff]
    constructor <;> intro q <;> omega
  · rw [rIs, h.2, nI_1]
theorem m_tSignL {M : pm} {T : Nat → Nat} {n : Nat} {s : ts} (h : tkL M T n s) (c : Nat) (h0 : 0 < c) (hc : c < 256) (hl : isL c = false) (hg : isG c = false) {Q : Int32 → pm → Prop} (k1 : tS T n s = c → ∀ M', fG fU M M' → tkM M' T n (tX T n s) → mI M' 277 2 = nI (sk T n s.1 + 1) → Q 1 M') (k0 : tS T n s ≠ c → Q 0 M) : w_X8_takesSign (nI c) M Q := by
  refine k_yes' h.1.2.2.1 (m_lookL h ?_)
  rw [lk_c h.1.1 h0 hc hl hg]
  exact ⟨fun q => by have p := m_passS h (tS_k h0 q).1; exact k1 q _ p.1 p.2.1 p.2.2, fun q => k0 q⟩
theorem m_tSign {M : pm} {T : Nat → Nat} {n : Nat} {s : ts} (h : tkM M T n s) (c : Nat) (h0 : 0 < c) (hc : c < 256) (hl : isL c = false) (hg : isG c = false) {Q : Int32 → pm → Prop} (k1 : tS T n s = c → ∀ M', fG fU M M' → tkM M' T n (tX T n s) → mI M' 277 2 = nI (sk T n s.1 + 1) → Q 1 M') (k0 : tS T n s ≠ c → ∀ M', fG fU M M' → tkL M' T n s → Q 0 M') : w_X8_takesSign (nI c) M Q := by
  refine k_yes' h.2.2.1 (m_look h (fun M1 f1 t1 => ?_))
  rw [lk_c h.1 h0 hc hl hg]
  exact ⟨fun q => by have p := m_passS t1 (tS_k h0 q).1; exact k1 q _ (f1.tr p.1) p.2.1 p.2.2, fun q => k0 q M1 f1 t1⟩
theorem m_tSignF {M : pm} {e : Nat × Nat} (h : tkF M e) {x : Int32} {Q : Int32 → pm → Prop} (k : Q 0 M) : w_X8_takesSign x M Q := k_no' (tkF_n h) k
theorem m_asksSign {A : Type} {M : pm} {T : Nat → Nat} {n : Nat} {r : rs A} (h : tkH M T n r) (c : Nat) (h0 : 0 < c) (hc : c < 256) (hl : isL c = false) (hg : isG c = false) {Q : pm → Prop} (k : ∀ M', fG fU M M' → tkH M' T n (rTh r (rSgn T n c)) → Q M') : w_X8_asksSign (nI c) M Q := by
  match r, h, k with
  | .inl e, h, k => exact k_no' (tkF_n h) (k M (fG.rf M) h)
  | .inr (x, s), h, k =>
    have h : tkM M T n s := h
    refine k_yes' h.2.2.1 (m_tSign h c h0 hc hl hg (fun q M1 f1 t1 _ => k_no' (by decide) (k M1 f1 ?_)) (fun q M1 f1 t1 => k_yes' rfl (m_fail t1.1.2.2.1 1 (sk T n s.1) rfl t1.2 (by decide) (by decide) (fun M2 f2 t2 => k M2 (f1.tr f2) ?_))))
    · show tkH M1 T n (rB (rSgn T n c s) _)
      unfold rSgn
      rw [if_pos q]; exact t1
    · show tkH M2 T n (rB (rSgn T n c s) _)
      unfold rSgn
      rw [if_neg q]; exact t2
/-- a number -/
theorem m_num0 {M : pm} {T : Nat → Nat} {n : Nat} {s : ts} (h : tkM M T n s) (lo hi : Nat) (hlo : lo < 2 ^ 31) (hhi : hi < 2 ^ 31) {Q : Int32 → pm → Prop} (k1 : ∀ x s', rNum T n lo hi s = .inr (x, s') → ∀ M', fG fU M M' → tkM M' T n s' → Q (nI x) M') (k0 : ∀ e, rNum T n lo hi s = .inl e → ∀ M' v, fG fU M M' → tkF M' e → (v = 0 ∨ ∃ x, x < 10000 ∧ v = nI x) → Q v M') : w_X8_number (nI lo) (nI hi) M Q := by
  refine k_yes h.2.2.1 (m_look h (fun M1 f1 t1 => ?_))
  obtain ⟨⟨⟨hT, h16, hw, h3⟩, hn, h5, h6, -, z, z1, z2, z3, z4⟩, h2⟩ := id t1
  have hq := sk_le (T := T) hn
  have hge := sk_ge T n s.1
  have hte := tE_le (T := T) hn
  have eq : mI M1 277 2 = mI M1 277 4 ↔ (s.2 = true ∧ sk T n s.1 = s.1) := by
    rw [h2, z3, ← zI_n, zI_eq (by omega) (by omega) (by omega) (by omega), z4]
    constructor
    · intro e; exact ⟨by omega, by omega⟩
    · intro e; omega
  have no : tK T n s ≠ 2 → w_X8_fail 1 (mI M1 277 2) M1 (fun M8 => Q 0 M8) := fun q => m_fail h5 1 (sk T n s.1) rfl h2 (by decide) (by decide) (fun M2 f2 t2 => k0 _ (by unfold rNum; rw [if_neg q]) M2 _ (f1.tr f2) t2 (Or.inl rfl))
  unfold lkV
  by_cases q : n ≤ sk T n s.1
  · rw [if_pos q]
    exact k_yes (by decide) (k_yes rfl (no (by rw [tK_5.mpr q]; decide)))
  rw [if_neg q]
  refine m_isG (hT _ (by omega)).1 (fun hg => k_no (by decide) ?_) (fun hg => k_yes rfl (no (fun e => by have := (tK_2 e).2.1; rw [hg] at this; exact absurd this (by decide))))
  have hl : isL (T (sk T n s.1)) = false := by
    have := isG_r hg
    unfold isL
    rw [show decide (97 ≤ T (sk T n s.1)) = false from decide_eq_false (by omega)]; rfl
  refine ⟨fun e => ?_, fun e => no (fun e2 => (tK_2 e2).2.2.2 (eq.mp e))⟩
  have h1 : tK T n s = 2 := by
    rw [eq] at e
    unfold tK
    rw [if_neg q, if_neg (fun y => e ⟨y.1, y.2.1⟩), if_neg (by rw [hl]; decide), if_pos hg]
  have he := tE_2 h1
  have fin : ∀ j M2, sk T n s.1 + j = tE T n s → j ≤ 4 → fG fU M1 M2 → mI M2 277 2 = nI (tE T n s) → mI M2 277 5 = 0 → mI M2 277 6 = -1 → w_X8_number_129 (nI lo) (nI hi) (nI (sk T n s.1)) (nI (nvA T (sk T n s.1) j)) M2 Q := by
    intro j M2 hj hj4 f2 e2 e5 e6
    have hv := nv_in h1 (d := j) (by omega)
    have hp : 10 ^ j ≤ 10 ^ 4 := Nat.pow_le_pow_right (by decide) hj4
    have ej : tE T n s - sk T n s.1 = j := by omega
    have f3 : fG fU M1 (sI M2 277 4 (mI M2 277 2)) := f2.up ⟨rfl, by omega⟩ _
    unfold w_X8_number_129
    have e22 : (nvA T (sk T n s.1) j < lo ∨ hi < nvA T (sk T n s.1) j) → rNum T n lo hi s = .inl (2, sk T n s.1) := fun y => by unfold rNum; rw [if_pos h1, ej, if_neg (by omega), if_pos y]
    by_cases y : nvA T (sk T n s.1) j < lo ∨ hi < nvA T (sk T n s.1) j
    · refine isIn_no (y.elim (fun y => Or.inl (nI_lt y hlo)) (fun y => Or.inr (nI_lt y (by omega)))) (k_yes' rfl (m_fail (by rw [rI (by omega)]; exact e5) 2 (sk T n s.1) rfl rfl (by decide) (by decide) (fun M3 f4 t4 => k0 _ (e22 y) M3 _ (f1.tr (f3.tr f4)) t4 (Or.inr ⟨_, by omega, rfl⟩))))
    · refine isIn_yes (nI_nlt (by omega) (by omega)) (nI_nlt (by omega) (by omega)) (k_no' (by decide) (k1 _ _ (by unfold rNum; rw [if_pos h1, ej, if_neg (by omega), if_neg y]) _ (f1.tr f3) ⟨txM_f f3 fU_a fU_3 t1.1.1, hte, ?_, ?_, Or.inl ?_, tE T n s, by omega, by show ((tE T n s : Nat) : Int) ≤ ((tE T n s : Nat) : Int); omega, ?_, ?_⟩))
      · rw [rI (by omega)]; exact e5
      · rw [rI (by omega)]; exact e6
      · rw [rI (by omega)]; exact e2
      · rw [rIs, e2, zI_n]
      · show decide (tK T n s = 1 ∨ tK T n s = 2) = true ↔ _
        rw [decide_eq_true_iff]
        exact ⟨fun _ => rfl, fun _ => Or.inr h1⟩
  have key : ∀ d m j M2, j + d = 5 → d < m → sk T n s.1 + j ≤ tE T n s → j ≤ 4 → fG (fun a k => a = 277 ∧ k = 2) M1 M2 → mI M2 277 2 = nI (sk T n s.1 + j) → w_X8_number_49 m (nI lo) (nI hi) (nI (sk T n s.1)) (nI (nvA T (sk T n s.1) j)) M2 (fun x1 x2 x3 x4 M21 => w_X8_number_129 x1 x2 x3 x4 M21 Q) Q := by
    intro d
    induction d with
    | zero => intro m j M2 hj hm hje hj4; omega
    | succ d ih =>
      intro m j M2 hj hm hje hj4 f2 e2
      obtain ⟨m, rfl⟩ : ∃ m', m = m' + 1 := ⟨m - 1, by omega⟩
      have fU1 : fG fU M1 M2 := ⟨f2.1, f2.2.1, f2.2.2.1, fun a j ha => f2.2.2.2 a j (fun q => ha ⟨q.1, Or.inl q.2⟩)⟩
      have m5 : mI M2 277 5 = 0 := by rw [f2.2.2.2 277 5 (by omega)]; exact h5
      have m6 : mI M2 277 6 = -1 := by rw [f2.2.2.2 277 6 (by omega)]; exact h6
      unfold w_X8_number_49
      rw [f2.2.2.2 277 3 (by omega), h3, e2, nI_clamp (by omega), f2.2.2.2 278 _ (by omega)]
      by_cases y : n ≤ sk T n s.1 + j
      · exact k_yes (nI_le y (by omega)) (fin j M2 (by omega) hj4 fU1 (by rw [e2]; congr 1; omega) m5 m6)
      · obtain ⟨hb, ht⟩ := hT (sk T n s.1 + j) (by omega)
        rw [ht]
        refine k_no (nI_ge (by omega) (by omega)) ⟨vp_in_nI (by omega) (by decide), m_isG hb (fun g => k_no (by decide) ?_) (fun g => k_yes rfl (fin j M2 ?_ hj4 fU1 ?_ m5 m6))⟩
        · have hne : sk T n s.1 + j ≠ tE T n s := fun y2 => by
            have e9 := he.1
            have : tE T n s < n := by omega
            rw [e9] at this
            have := rn_at (f := fun k => isG (T k)) this
            have e8 : rn (fun k => isG (T k)) n (sk T n s.1) = sk T n s.1 + j := by rw [y2, e9]; rfl
            rw [e8] at this
            rw [this] at g; exact absurd g (by decide)
          have gr := isG_r g
          rw [e2, pk_sub (by omega), show sk T n s.1 + j - sk T n s.1 = j from by omega]
          refine pk_ne j 4 (fun y4 => ⟨vp_in_nI (by omega) (by decide), ?_⟩) (fun y4 => m_fail m5 1 (sk T n s.1 + 4) rfl (by rw [y4]) (by decide) (by decide) (fun M3 f3 t3 => k0 _ (by unfold rNum; rw [if_pos h1, if_pos (by omega)]) M3 _ (f1.tr (fU1.tr f3)) t3 (Or.inl rfl)))
          have g2 := ih m (j + 1) (sI M2 277 2 (nI (sk T n s.1 + j + 1))) (by omega) (by omega) (by omega) (by omega) (f2.up ⟨rfl, rfl⟩ _) (rIs _ _ _ _)
          rw [nI_clamp (by omega), f2.2.2.2 278 _ (by omega), ht, show (10 : Int32) * nI (nvA T (sk T n s.1) j) = nI (10 * nvA T (sk T n s.1) j) from pk_mul 10 _, nI_add, show nI (10 * nvA T (sk T n s.1) j + T (sk T n s.1 + j)) - 48 = nI (10 * nvA T (sk T n s.1) j + T (sk T n s.1 + j) - 48) from pk_sub (b := 48) (by omega), nI_1]
          rw [show 10 * nvA T (sk T n s.1) j + T (sk T n s.1 + j) - 48 = nvA T (sk T n s.1) (j + 1) from by
            show _ = 10 * nvA T (sk T n s.1) j + (T (sk T n s.1 + j) - 48)
            omega]
          exact g2
        · apply Nat.le_antisymm hje
          apply Nat.le_of_not_lt
          intro y2
          have := nv_g h1 (j := sk T n s.1 + j) (by omega) y2
          rw [g] at this; exact absurd this (by decide)
        · rw [e2]
          congr 1
          apply Nat.le_antisymm hje
          apply Nat.le_of_not_lt
          intro y2
          have := nv_g h1 (j := sk T n s.1 + j) (by omega) y2
          rw [g] at this; exact absurd this (by decide)
  rw [h2]
  exact ⟨6, key 5 6 0 M1 (by omega) (by omega) (by omega) (by omega) (fG.rf M1) h2⟩
theorem m_number {A : Type} {M : pm} {T : Nat → Nat} {n : Nat} {r : rs A} (h : tkH M T n r) (lo hi : Nat) (hlo : lo < 2 ^ 31) (hhi : hi < 2 ^ 31) {Q : Int32 → pm → Prop} (k : ∀ M' v, fG fU M M' → tkH M' T n (rPr r (rNum T n lo hi)) → (∀ x s, rPr r (rNum T n lo hi) = .inr (x, s) → v = nI x.2) → Q v M') : w_X8_number (nI lo) (nI hi) M Q := by
  match r, h, k with
  | .inl e, h, k => exact k_no (tkF_n h) (k M _ (fG.rf M) h (fun x s q => by cases q))
  | .inr (x, s), h, k =>
    refine m_num0 h lo hi hlo hhi (fun y s' q M' f' t' => k M' _ f' ?_ (fun z s2 q2 => ?_)) (fun e q M' v f' t' _ => k M' v f' ?_ (fun z s2 q2 => ?_))
    · show tkH M' T n (rB (rNum T n lo hi s) _)
      rw [q]; exact t'
    · have q2 : rB (rNum T n lo hi s) _ = _ := q2
      rw [q] at q2
      cases q2; rfl
    · show tkH M' T n (rB (rNum T n lo hi s) _)
      rw [q]; exact t'
    · have q2 : rB (rNum T n lo hi s) _ = _ := q2
      rw [q] at q2
      cases q2
