/-! the reference reckons a program -/
def stkM (M : pm) : List Int → Prop
  | [] => True
  | x :: t => mJ M 351 t.length = zJ x ∧ stkM M t
theorem rJ {M : pm} {a k : Nat} {v : Int64} {b j : Nat} (h : ¬ (b = a ∧ j = k)) : mJ (sJ M a k v) b j = mJ M b j := by rw [mJ_sJ, if_neg h]
theorem rJs (M : pm) (a k : Nat) (v : Int64) : mJ (sJ M a k v) a k = v := by rw [mJ_sJ, if_pos ⟨rfl, rfl⟩]
theorem stkM_c {M M' : pm} (h : mJ M' 351 = mJ M 351) : ∀ {s : List Int}, stkM M s → stkM M' s
  | [], _ => trivial
  | x :: t, hs => ⟨by rw [h]; exact hs.1, stkM_c h hs.2⟩
theorem stkM_i {M : pm} {s : List Int} (h : stkM M s) (a k : Nat) (v : Int32) : stkM (sI M a k v) s := stkM_c (M := M) (M' := sI M a k v) rfl h
theorem stkM_up {M : pm} {k : Nat} {v : Int64} : ∀ {s : List Int}, s.length ≤ k → stkM M s → stkM (sJ M 351 k v) s
  | [], _, _ => trivial
  | x :: t, h, hs => ⟨by rw [rJ (by rw [List.length_cons] at h; omega)]; exact hs.1, stkM_up (by rw [List.length_cons] at h; omega) hs.2⟩
/-- all but the pile the same -/
def fq (M M' : pm) : Prop := mL M' = mL M ∧ mR M' = mR M ∧ (∀ a, a ≠ 277 → mI M' a = mI M a) ∧ (∀ k, k ≠ 102 → mI M' 277 k = mI M 277 k) ∧ ∀ a, a ≠ 351 → mJ M' a = mJ M a
theorem fq.rf (M : pm) : fq M M := ⟨rfl, rfl, fun _ _ => rfl, fun _ _ => rfl, fun _ _ => rfl⟩
theorem fq.i {M M1 : pm} (h : fq M M1) (v : Int32) : fq M (sI M1 277 102 v) := ⟨h.1, h.2.1, fun a ha => by rw [← h.2.2.1 a ha]; exact mI_off ha, fun k hk => by rw [← h.2.2.2.1 k hk]; exact rI (by omega), h.2.2.2.2⟩
theorem fq.j {M M1 : pm} (h : fq M M1) (k : Nat) (v : Int64) : fq M (sJ M1 351 k v) := ⟨h.1, h.2.1, h.2.2.1, h.2.2.2.1, fun a ha => by rw [← h.2.2.2.2 a ha]; exact mJ_off ha⟩
theorem s_qPuts {M : pm} {h : Nat} (e : mI M 277 102 = nI h) (hh : h < 1700) {v : Int64} {Q : pm → Prop} (k : Q (sI (sJ M 351 h v) 277 102 (nI (h + 1)))) : w_X8_qPuts v M Q := by
  unfold w_X8_qPuts
  rw [e, nI_clamp (by omega), nI_1]
  exact ⟨vp_in_nI hh (by decide), k⟩
theorem m_clip {x : Int} (h1 : -4611686018427387904 < x) (h2 : x < 4611686018427387904) {M : pm} {Q : Int64 → pm → Prop} (k : Q (zJ (clip x)) M) : w_X8_qClip (zJ x) M Q := by
  unfold clip at k
  refine kj_le x 1000000 (fun h => ?_) (fun h => ?_)
  · rw [if_neg (by omega)] at k
    refine kj_le (-1000000) x (fun h' => ?_) (fun h' => ?_)
    · rw [if_neg (by omega)] at k; exact k
    · rw [if_pos (by omega)] at k; exact k
  · rw [if_pos (by omega)] at k; exact k
theorem m_floor {a b : Int} (a1 : -1000000 ≤ a) (a2 : a ≤ 1000000) (b1 : -1000000 ≤ b) (b2 : b ≤ 1000000) {M : pm} {Q : Int64 → pm → Prop} (k : Q (zJ (fdv a b)) M) : w_X8_qFloor (zJ a) (zJ b) M Q := by
  have t1 := tdv_in (b := b) a1 a2
  have t2 := tdm_in a1 a2 b1 b2
  unfold fdv at k
  refine kj_ne b 0 (fun hb => ?_) (fun hb => by rw [if_pos hb] at k; exact k)
  rw [if_neg hb] at k
  have nb : ¬ zJ b = 0 := fun h => hb ((zJ_eq (b := 0) (by omega) (by omega) (by omega) (by omega)).mp h)
  refine ⟨nb, nb, ?_⟩
  unfold lrm
  rw [zJ_tdiv a1 a2 b1 b2, zJ_mul, zJ_sub]
  refine kj_eq (a - a.tdiv b * b) 0 (fun h => ?_) (fun h => ?_)
  · rw [if_pos (Or.inl (by omega))] at k; exact k
  · refine kj_le 0 a (fun h1 => ?_) (fun h1 => ?_)
    · refine kj_le 0 b (fun h2 => ?_) (fun h2 => ?_)
      · rw [if_pos (Or.inr (by omega))] at k
        exact ⟨fun _ => k, fun q => absurd rfl q⟩
      · rw [if_neg (fun q => q.elim (fun q => h (by omega)) (fun q => by omega)), ← zJ_sub] at k
        exact ⟨fun q => absurd q (by decide), fun _ => k⟩
    · refine kj_le 0 b (fun h2 => ?_) (fun h2 => ?_)
      · rw [if_neg (fun q => q.elim (fun q => h (by omega)) (fun q => by omega)), ← zJ_sub] at k
        exact ⟨fun q => absurd q (by decide), fun _ => k⟩
      · rw [if_pos (Or.inr (by omega))] at k
        exact ⟨fun _ => k, fun q => absurd rfl q⟩
theorem s_qJoins {c : Nat} (c1 : 1 ≤ c) (c2 : c ≤ 11) {a b : Int} (a1 : -1000000 ≤ a) (a2 : a ≤ 1000000) (b1 : -1000000 ≤ b) (b2 : b ≤ 1000000) (hk : c = 10 ∨ c = 11 → (a = 0 ∨ a = 1) ∧ (b = 0 ∨ b = 1)) {M : pm} {h : Nat} (hh : h < 1698) (e : mI M 277 102 = nI (h + 2)) (ea : mJ M 351 h = zJ a) (eb : mJ M 351 (h + 1) = zJ b) {Q : pm → Prop} (k : Q (sI (sJ (sI M 277 102 (nI h)) 351 h (zJ (jn c a b))) 277 102 (nI (h + 1)))) : w_X8_qJoins (nI c) M Q := by
  have mb := mul_in a1 a2 b1 b2
  have fb := fdv_in (b := b) a1 a2
  have cs : c = 1 ∨ c = 2 ∨ c = 3 ∨ c = 4 ∨ c = 5 ∨ c = 6 ∨ c = 7 ∨ c = 8 ∨ c = 9 ∨ c = 10 ∨ c = 11 := by omega
  have e1 : nI (h + 2) - 1 = nI (h + 1) := nI_pred (h + 1)
  have e2 : nI (h + 2) - 2 = nI h := pk_sub (a := h + 2) (b := 2) (by omega)
  unfold w_X8_qJoins
  rw [e, e1, e2, nI_clamp (by omega), nI_clamp (by omega), ea, eb]
  refine ⟨vp_in_nI (by omega) (by decide), vp_in_nI (by omega) (by decide), ?_⟩
  have pt : ∀ v : Int64, v = zJ (jn c a b) → w_X8_qPuts v (sI M 277 102 (nI h)) (fun M => Q M) := fun v ev => s_qPuts (rIs _ _ _ _) (by omega) (by rw [ev]; exact k)
  clear k
  rcases cs with rfl | rfl | rfl | rfl | rfl | rfl | rfl | rfl | rfl | rfl | rfl
  · rw [jn_1] at pt
    simp (decide := true) only [false_implies, true_implies, not_false_eq_true, not_true_eq_false, and_true, true_and, forall_const]
    rw [zJ_add]; exact m_clip (by omega) (by omega) (pt _ rfl)
  · rw [jn_2] at pt
    simp (decide := true) only [false_implies, true_implies, not_false_eq_true, not_true_eq_false, and_true, true_and, forall_const]
    rw [zJ_sub]; exact m_clip (by omega) (by omega) (pt _ rfl)
  · rw [jn_3] at pt
    simp (decide := true) only [false_implies, true_implies, not_false_eq_true, not_true_eq_false, and_true, true_and, forall_const]
    rw [zJ_mul]; exact m_clip (by omega) (by omega) (pt _ rfl)
  · rw [jn_4] at pt
    simp (decide := true) only [false_implies, true_implies, not_false_eq_true, not_true_eq_false, and_true, true_and, forall_const]
    exact m_floor a1 a2 b1 b2 (pt _ rfl)
  · rw [jn_5] at pt
    simp (decide := true) only [false_implies, true_implies, not_false_eq_true, not_true_eq_false, and_true, true_and, forall_const]
    exact kj_le b a (fun h => pt _ (by rw [if_neg (by omega)])) (fun h => pt _ (by rw [if_pos (by omega)]))
  · rw [jn_6] at pt
    simp (decide := true) only [false_implies, true_implies, not_false_eq_true, not_true_eq_false, and_true, true_and, forall_const]
    exact kj_le a b (fun h => pt _ (by rw [if_neg (by omega)])) (fun h => pt _ (by rw [if_pos (by omega)]))
  · rw [jn_7] at pt
    simp (decide := true) only [false_implies, true_implies, not_false_eq_true, not_true_eq_false, and_true, true_and, forall_const]
    exact kj_le b a (fun h => pt _ (by rw [if_neg (by omega)]; rfl)) (fun h => pt _ (by rw [if_pos (by omega)]; rfl))
  · rw [jn_8] at pt
    simp (decide := true) only [false_implies, true_implies, not_false_eq_true, not_true_eq_false, and_true, true_and, forall_const]
    exact kj_le a b (fun h => pt _ (by rw [if_neg (by omega)]; rfl)) (fun h => pt _ (by rw [if_pos (by omega)]; rfl))
  · rw [jn_9] at pt
    simp (decide := true) only [false_implies, true_implies, not_false_eq_true, not_true_eq_false, and_true, true_and, forall_const]
    exact kj_ne a b (fun h => pt _ (by rw [if_neg (by omega)]; rfl)) (fun h => pt _ (by rw [if_pos (by omega)]; rfl))
  · rw [jn_10] at pt
    simp (decide := true) only [false_implies, true_implies, not_false_eq_true, not_true_eq_false, and_true, true_and, forall_const]
    exact pt _ (zJ_mul _ _)
  · rw [jn_11] at pt
    simp (decide := true) only [false_implies, true_implies, not_false_eq_true, not_true_eq_false, and_true, true_and, forall_const]
    rw [zJ_add]
    exact kj_le (a + b) 0 (fun h => pt _ (by rw [if_neg (by omega)]; rfl)) (fun h => pt _ (by rw [if_pos (by omega)]; rfl))
/-- one op of the pile, both in a station's text and in a question's: what the pile is behind it -/
theorem q_step {M0 M : pm} (hf : fq M0 M) {F : Nat → Int} {w : Int} {c : Nat} {vs : List Int} (hl : vs.length ≤ 101) (hs : stkM M vs) {x : Int} (ee : ev1 F w c vs = x :: vs) (e : mI M 277 102 = nI vs.length) {Q : pm → Prop} (k : ∀ M', fq M0 M' → stkM M' (ev1 F w c vs) → mI M' 277 102 = nI (ev1 F w c vs).length → Q M') : w_X8_qPuts (zJ x) M Q := by
  refine s_qPuts e (by omega) (k _ ((hf.j _ _).i _) ?_ ?_)
  · rw [ee]
    exact ⟨rJs _ _ _ _, stkM_i (stkM_up (Nat.le_refl _) hs) _ _ _⟩
  · rw [ee]
    exact rIs _ _ _ _
theorem t_loop {M0 : pm} {p : Nat} (hp : p < 3) {x2 : Int32} {F : Nat → Int} {w : Int} (hF : ∀ k, -1000000 ≤ F k ∧ F k ≤ 1000000) {b : Bool} {Q : Int64 → pm → Prop} : ∀ (l : List Nat) (n i : Nat) (ks : List Bool) (vs : List Int) (M : pm), l.length < n → fq M0 M → (∀ j c, l[j]? = some c → mI M0 316 (1600 + (i + j)) = nI c) → mI M0 315 (3 + p) = nI (i + l.length) → i + l.length ≤ 1600 → kds 100 l ks = some [b] → okV ks vs → vs.length ≤ 100 → stkM M vs → mI M 277 102 = nI vs.length → (∀ c ∈ l, 1000 ≤ c ∨ c < 47) → (∀ j, j < 7 → ∀ (M' : pm) (R : Int64 → pm → Prop), fq M0 M' → R (zJ (F j)) M' → w_X8_qPartOf (nI j) x2 M' R) → (∀ M' v, fq M0 M' → evs F w l vs = [v] → -1000000 ≤ v → v ≤ 1000000 → (b = true → v = 0 ∨ v = 1) → Q (zJ v) M') → w_X8_codesTell_27 n (nI p) x2 (nI i) M Q := by
  intro l
  induction l with
  | nil =>
    intro n i ks vs M hn hf hc he h16 hk hv hl hs hq h60 hfa k
    obtain ⟨n, rfl⟩ : ∃ n', n = n' + 1 := ⟨n - 1, by simp only [List.length_nil] at hn; omega⟩
    unfold w_X8_codesTell_27
    have ek : ks = [b] := by unfold kds at hk; exact Option.some.inj hk
    subst ek
    match vs, hv with
    | [v], hv =>
      rw [show (3 : Int32) + nI p = nI (3 + p) from nI_add 3 p]
      refine ⟨vp_in_nI (by omega) (by decide), ?_⟩
      rw [nI_clamp (by omega), hf.2.2.1 _ (by decide), he]
      refine k_yes (nI_le (Nat.le_refl _) (by simp only [List.length_nil] at h16 ⊢; omega)) ?_
      rw [show mJ M 351 0 = zJ v from hs.1]
      exact k M v hf rfl hv.1.1 hv.1.2.1 hv.1.2.2
  | cons c l ih =>
    intro n i ks vs M hn hf hc he h16 hk hv hl hs hq h60 hfa k
    rw [List.length_cons] at hn he h16
    obtain ⟨n, rfl⟩ : ∃ n', n = n' + 1 := ⟨n - 1, by omega⟩
    obtain ⟨ks', hk1, hkl, hk2⟩ := kds_cons hk
    have hv' := okV_1 (w := w) hF hk1 hv
    have hl' : (ev1 F w c vs).length ≤ 100 := by rw [okV_len hv']; exact hkl
    have hop : mI M 316 (1600 + i) = nI c := by rw [hf.2.2.1 _ (by decide)]; exact hc 0 c rfl
    have go : ∀ M' : pm, fq M0 M' → stkM M' (ev1 F w c vs) → mI M' 277 102 = nI (ev1 F w c vs).length → w_X8_codesTell_27 n (nI p) x2 (nI (i + 1)) M' Q := fun M' h1 h2 h3 => ih n (i + 1) ks' _ M' (by omega) h1 (fun j d hj => by rw [show i + 1 + j = i + (j + 1) from by omega]; exact hc (j + 1) d hj) (by rw [he]; congr 1; omega) (by omega) hk2 hv' hl' h2 h3 (fun d hd => h60 d (List.mem_cons_of_mem _ hd)) hfa k
    have hc6 := h60 c (List.mem_cons_self ..)
    unfold w_X8_codesTell_27
    rw [show (3 : Int32) + nI p = nI (3 + p) from nI_add 3 p, show (1600 : Int32) + nI i = nI (1600 + i) from nI_add 1600 i]
    refine ⟨vp_in_nI (by omega) (by decide), ?_⟩
    rw [nI_clamp (by omega : 3 + p < 2 ^ 31), hf.2.2.1 315 (by decide), he, nI_clamp (by omega : 1600 + i < 2 ^ 31), hop]
    refine k_no (nI_ge (by omega) (by omega)) ⟨vp_in_nI (by omega) (by decide), ?_⟩
    rw [nI_1]
    rcases kd1_cases hk1 with ⟨h1, h2⟩ | ⟨h1, t, ht⟩ | ⟨h1, h2⟩ | h1 | ⟨h1, t, ht⟩ | ⟨h1, h2, k1, k2, t, ht, hb⟩
    · have ee : ev1 F w c vs = ((c - 1000 : Nat) : Int) :: vs := by unfold ev1; rw [if_pos h1]
      refine k_no (nI_nlt (b := 1000) (by omega) (by omega)) ?_
      rw [show nI c - 1000 = nI (c - 1000) from pk_sub (a := c) (b := 1000) h1, nI_l (by omega), ← zJ_n]
      exact q_step hf (by omega) hs ee hq go
    · omega
    · have ee : ev1 F w c vs = F (c - 40) :: vs := by unfold ev1; rw [if_neg (by omega), if_neg (by omega), if_pos h1]
      refine k_yes (nI_lt (b := 1000) (by omega) (by decide)) (k_no (nI_nlt (b := 40) (by omega) (by omega)) ?_)
      rw [show nI c - 40 = nI (c - 40) from pk_sub (a := c) (b := 40) h1]
      exact hfa (c - 40) (by omega) M _ hf (q_step hf (by omega) hs ee hq go)
    · subst h1
      have ee : ev1 F w 13 vs = 1 :: vs := rfl
      exact k_yes (by decide) (k_yes (by decide) (k_yes' (by decide) (q_step hf (by omega) hs ee hq go)))
    · subst h1 ht
      match vs, hv with
      | x :: vs, hv =>
        have ee : ev1 F w 12 (x :: vs) = (1 - x) :: vs := rfl
        rw [List.length_cons] at hl hq
        refine k_yes (by decide) (k_yes (by decide) (k_no' (by decide) (k_yes' (by decide) ?_)))
        rw [hq, nI_pred, nI_clamp (by omega), show mJ M 351 vs.length = zJ x from hs.1, show (1 : Int64) = zJ 1 from rfl, zJ_sub]
        refine ⟨vp_in_nI (by omega) (by decide), vp_in_nI (by omega) (by decide), go _ (hf.j _ _) ?_ ?_⟩
        · rw [ee]; exact ⟨rJs _ _ _ _, stkM_up (Nat.le_refl _) hs.2⟩
        · rw [ee]; exact hq
    · subst ht
      match vs, hv with
      | y :: x :: vs, hv =>
        have ee : ev1 F w c (y :: x :: vs) = jn c x y :: vs := by unfold ev1; rw [if_neg (by omega), if_neg (by omega), if_neg (by omega), if_neg (by omega), if_neg (by omega)]
        rw [List.length_cons, List.length_cons] at hl hq
        refine k_yes (nI_lt (b := 1000) (by omega) (by decide)) (k_yes (nI_lt (b := 40) (by omega) (by decide)) (k_no' (fun q => absurd ((nI_eq (b := 13) (by omega) (by decide)).mp q) (by omega)) (k_no' (fun q => absurd ((nI_eq (b := 12) (by omega) (by decide)).mp q) (by omega)) ?_)))
        refine s_qJoins h1 h2 hv.2.1.1 hv.2.1.2.1 hv.1.1 hv.1.2.1 (fun q => ⟨hv.2.1.2.2 (hb q).2, hv.1.2.2 (hb q).1⟩) (h := vs.length) (by omega) hq hs.2.1 hs.1 (go _ (((hf.i _).j _ _).i _) ?_ ?_)
        · rw [ee]; exact ⟨rJs _ _ _ _, stkM_i (stkM_up (Nat.le_refl _) (stkM_i hs.2.2 _ _ _)) _ _ _⟩
        · rw [ee]; exact rIs _ _ _ _
/-- the programs that a station tells, in the reference -/
def prgM (M : pm) (p : Nat) (os : List Nat) : Prop := ∃ g : Nat, mI M 314 (3 + p) = nI g ∧ mI M 315 (3 + p) = nI (g + os.length) ∧ g + os.length ≤ 1600 ∧ ∀ i c, os[i]? = some c → mI M 316 (1600 + (g + i)) = nI c
/-- all but the pile and the kind of the text the same -/
def fr (M M' : pm) : Prop := mL M' = mL M ∧ mR M' = mR M ∧ (∀ a, a ≠ 277 → mI M' a = mI M a) ∧ (∀ k, k ≠ 51 → k ≠ 102 → mI M' 277 k = mI M 277 k) ∧ ∀ a, a ≠ 351 → mJ M' a = mJ M a
theorem fr.rf (M : pm) : fr M M := ⟨rfl, rfl, fun _ _ => rfl, fun _ _ _ => rfl, fun _ _ => rfl⟩
theorem fr.tr {M M1 M2 : pm} (h : fr M M1) (g : fr M1 M2) : fr M M2 := ⟨g.1.trans h.1, g.2.1.trans h.2.1, fun a h1 => (g.2.2.1 a h1).trans (h.2.2.1 a h1), fun k h1 h2 => (g.2.2.2.1 k h1 h2).trans (h.2.2.2.1 k h1 h2), fun a h1 => (g.2.2.2.2 a h1).trans (h.2.2.2.2 a h1)⟩
theorem s_codesTell {M : pm} {p : Nat} (hp : p < 3) {x2 : Int32} {F : Nat → Int} {w : Int} (hF : ∀ k, -1000000 ≤ F k ∧ F k ≤ 1000000) {b : Bool} {os : List Nat} (hP : prgM M p os) (hk : kds 100 os [] = some [b]) (h60 : ∀ c ∈ os, 1000 ≤ c ∨ c < 47) (hfa : ∀ j, j < 7 → ∀ (M' : pm) (R : Int64 → pm → Prop), fr M M' → R (zJ (F j)) M' → w_X8_qPartOf (nI j) x2 M' R) {Q : Int64 → pm → Prop} (k : ∀ M' v, fr M M' → evs F w os [] = [v] → -1000000 ≤ v → v ≤ 1000000 → (b = true → v = 0 ∨ v = 1) → Q (zJ v) M') : w_X8_codesTell (nI p) x2 M Q := by
  obtain ⟨g, e1, e2, e3, e4⟩ := hP
  have key : ∀ q : Int32, w_X8_codesTell_27 (os.length + 1) (nI p) x2 (nI g) (sI (sI M 277 51 q) 277 102 0) Q := by
    intro q
    have fr0 : fr M (sI (sI M 277 51 q) 277 102 0) := ⟨rfl, rfl, fun a ha => by funext k; rw [rI (by omega), rI (by omega)], fun k h1 h2 => by rw [rI (by omega), rI (by omega)], fun _ _ => rfl⟩
    have cv : ∀ M', fq (sI (sI M 277 51 q) 277 102 0) M' → fr M M' := fun M' h => fr0.tr ⟨h.1, h.2.1, h.2.2.1, fun k _ h2 => h.2.2.2.1 k h2, h.2.2.2.2⟩
    have a0 : ∀ a, a ≠ 277 → mI (sI (sI M 277 51 q) 277 102 0) a = mI M a := fr0.2.2.1
    exact t_loop hp hF os _ g [] [] _ (by omega) (fq.rf _) (by rw [a0 316 (by decide)]; exact e4) (by rw [a0 315 (by decide)]; exact e2) e3 hk trivial (by decide) trivial (rIs _ _ _ _) h60 (fun j hj M' R h1 h2 => hfa j hj M' R (cv M' h1) h2) (fun M' v h1 => k M' v (cv M' h1))
  unfold w_X8_codesTell
  rw [show (3 : Int32) + nI p = nI (3 + p) from nI_add 3 p, nI_clamp (by omega), e1]
  exact ⟨fun _ => ⟨vp_in_nI (by omega) (by decide), _, key 1⟩, fun _ => ⟨vp_in_nI (by omega) (by decide), _, key 0⟩⟩
