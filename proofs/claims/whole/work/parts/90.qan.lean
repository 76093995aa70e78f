/-! what a question is answered -/
def stq (k b : Nat) (a v : Int) : Int :=
  if k = 28 then (if v = 0 then a else if a = -1 then (b : Int) else a)
  else if k = 29 then (if v = 0 then a else (b : Int))
  else if k < 32 then a + v
  else if k = 32 then (if b = 0 then v else if a < v then v else a)
  else (if b = 0 then v else if v < a then v else a)
def acq (k : Nat) (V : Nat → Int) : Nat → Int
  | 0 => if k < 30 then -1 else 0
  | b + 1 => stq k b (acq k V b) (V b)
theorem stq_in {k b : Nat} {a v : Int} (hb : b < 8) (ha : -(1000000 * ((b : Int) + 1)) ≤ a ∧ a ≤ 1000000 * ((b : Int) + 1)) (hv : -1000000 ≤ v ∧ v ≤ 1000000) : -(1000000 * (((b + 1 : Nat) : Int) + 1)) ≤ stq k b a v ∧ stq k b a v ≤ 1000000 * (((b + 1 : Nat) : Int) + 1) := by
  unfold stq
  repeat' split
  all_goals omega
theorem acq_0 {k : Nat} {V : Nat → Int} : -(1000000 * (((0 : Nat) : Int) + 1)) ≤ acq k V 0 ∧ acq k V 0 ≤ 1000000 * (((0 : Nat) : Int) + 1) := by
  unfold acq
  split <;> omega
theorem fx21 : ∀ j, j < 9 → fxN.getD j 0 ≠ 21 := by decide
/-- the class -/
theorem c_ansLoop {M0 : pm} {t k s : Nat} {c : List Nat} {D S : Nat → Nat} {P : Nat → List Nat} (ht : t = 14 ∨ t = 29) (h33 : mR M0 3 3 = t) (hd : dC M0 t D P) (hD : okD D P) (hs : sC M0 57 D S) (hS : okS D S) (h31 : s < 2 ^ 31) (hp : prgC M0 9 0 c) (hk : kds 100 c [] = some [decide (k < 31)]) (hk2 : k < 34) (hk1 : 28 ≤ k) {Q : Int64 → pm → Prop} (kk : ∀ M', fI xC M0 M' → Q (zJ (acq k (qvl D S s c) (D 2))) M') : ∀ d m b M, b + d = D 2 → d < m → fI xC M0 M → -(1000000 * ((b : Int) + 1)) ≤ acq k (qvl D S s c) b ∧ acq k (qvl D S s c) b ≤ 1000000 * ((b : Int) + 1) → w_X7_answer_39 m (nI k) (nI s) (zJ (acq k (qvl D S s c) b)) (nI b) M Q := by
  have h8 := hD.2.2.1
  have row : ∀ {M'}, fI xC M0 M' → ∀ a, ¬ (45 ≤ a ∧ a < 57) → mI M' a = mI M0 a := fun f a ha => f.2.2.2 a (by unfold xC; omega)
  intro d
  induction d with
  | zero =>
    intro m b M hb hm f hB
    obtain ⟨m, rfl⟩ : ∃ m', m = m' + 1 := ⟨m - 1, by omega⟩
    have eb : b = D 2 := by omega
    unfold w_X7_answer_39
    rw [f.2.1, h33, row f t (by omega), hd.2.2.1, eb]
    exact k_yes (nI_le (Nat.le_refl _) (by omega)) (kk M f)
  | succ d ih =>
    intro m b M hb hm f hB
    obtain ⟨m, rfl⟩ : ∃ m', m = m' + 1 := ⟨m - 1, by omega⟩
    have hb2 : b < D 2 := by omega
    unfold w_X7_answer_39
    rw [f.2.1, h33, row f t (by omega), hd.2.2.1]
    refine k_no (nI_ge hb2 (by omega)) (s_lookAt (by omega) (Nat.le_refl _) (dC_c (fun b b1 b2 => row f b (by omega)) hd) hD (sC_c (fun b b1 b2 => row f b (by omega)) hs) hS hb2 (fun M1 f1 g1 g5 => ?_))
    unfold w_X1_lookOn
    rw [b_bit h31 (by omega), nI_1]
    have f1' : fI xC M0 (sI M1 46 21 (nI (s / 2 ^ b % 2))) := (f.tr (xEC f1)).up (by unfold xC; omega) _ _
    have p1 : prgC (sI M1 46 21 (nI (s / 2 ^ b % 2))) 9 0 c := by
      obtain ⟨g, e1, e2, e3, e4⟩ := hp
      exact ⟨g, by rw [row f1' (9 + 2) (by omega)]; exact e1, by rw [row f1' (9 + 3) (by omega)]; exact e2, e3, fun i x hx => by rw [row f1' (9 + 1) (by omega)]; exact e4 i x hx⟩
    have w6 := (hS.2.2 b hb2).1
    have w7 := hD.2.1
    refine s_valueOf (p := 0) (F := fF D S b (onB s b)) (w := ((S (2 + 5 * b) : Nat) : Int)) (b := decide (k < 31)) (by decide) (by decide) (by decide) (fF_in hD hS hb2 (onB_le s b)) (by omega) p1 hk (fun x hx x1 x2 => ?_) (fun _ => by rw [rI (by omega), g5, zI_n]) (fun M2 v f2 hv v1 v2 v3 => ?_)
    · by_cases q : x - 40 < 9
      · have n21 := fx21 (x - 40) q
        rw [rI (by omega), g1 (x - 40) q, fF_on (on := onB s b) q]
      · rw [show x - 40 = 9 from by omega]
        exact (rIs _ _ _ _).trans (zI_n _).symm
    · have ev : qvl D S s c b = v := by unfold qvl; rw [hv]; rfl
      have f2' : fI xC M0 M2 := f1'.tr (xEC (f45.x f2))
      have bd := stq_in (k := k) (by omega) hB ⟨v1, v2⟩
      have es : acq k (qvl D S s c) (b + 1) = stq k b (acq k (qvl D S s c) b) v := by
        show stq k b _ (qvl D S s c b) = _
        rw [ev]
      have go : ∀ y : Int64, y = zJ (stq k b (acq k (qvl D S s c) b) v) → w_X7_answer_39 m (nI k) (nI s) y (nI (b + 1)) M2 Q := fun y ey => by
        rw [ey, ← es]
        exact ih m (b + 1) M2 (by omega) (by omega) f2' (by rw [es]; exact bd)
      clear ih
      generalize acq k (qvl D S s c) b = a at hB bd go
      have nb : (nI b).toInt64 = zJ ((b : Nat) : Int) := by rw [nI_l (by omega), zJ_n]
      rw [zI_l (by omega) (by omega), nb]
      refine pk_ne k 28 (fun h28 => pk_ne k 29 (fun h29 => pk_eq k 30 (fun h30 => go _ ?_) (fun h30 => pk_ne k 31 (fun q31 => pk_ne k 32 (fun h32 => pk_ne b 0 (fun hb0 => kj_lt v a (fun h => go _ ?_) (fun h => go _ ?_)) (fun hb0 => go _ ?_)) (fun h32 => pk_ne b 0 (fun hb0 => kj_lt a v (fun h => go _ ?_) (fun h => go _ ?_)) (fun hb0 => go _ ?_))) (fun q31 => go _ ?_))) (fun h29 => kj_eq v 0 (fun h => go _ ?_) (fun h => go _ ?_))) (fun h28 => kj_eq v 0 (fun h => go _ ?_) (fun h => kj_ne a (-1) (fun h' => go _ ?_) (fun h' => go _ ?_)))
      · unfold stq; rw [if_neg h28, if_neg h29, if_pos (by omega), zJ_add]
      · unfold stq; rw [if_neg h28, if_neg h29, if_neg (by omega), if_neg h32, if_neg hb0, if_pos h]
      · unfold stq; rw [if_neg h28, if_neg h29, if_neg (by omega), if_neg h32, if_neg hb0, if_neg (by omega)]
      · unfold stq; rw [if_neg h28, if_neg h29, if_neg (by omega), if_neg h32, if_pos hb0]
      · unfold stq; rw [if_neg h28, if_neg h29, if_neg (by omega), if_pos h32, if_neg hb0, if_pos h]
      · unfold stq; rw [if_neg h28, if_neg h29, if_neg (by omega), if_pos h32, if_neg hb0, if_neg (by omega)]
      · unfold stq; rw [if_neg h28, if_neg h29, if_neg (by omega), if_pos h32, if_pos hb0]
      · unfold stq; rw [if_neg h28, if_neg h29, if_pos (by omega), zJ_add]
      · unfold stq; rw [if_neg h28, if_pos h29, if_pos h]
      · unfold stq; rw [if_neg h28, if_pos h29, if_neg h]
      · unfold stq; rw [if_pos h28, if_pos h]
      · unfold stq; rw [if_pos h28, if_neg h, if_neg h']
      · unfold stq; rw [if_pos h28, if_neg h, if_pos h']
theorem c_answer {M : pm} {t k : Nat} {c : List Nat} {D S : Nat → Nat} {P : Nat → List Nat} (ht : t = 14 ∨ t = 29) (h33 : mR M 3 3 = t) (hd : dC M t D P) (hD : okD D P) (hs : sC M 57 D S) (hS : okS D S) (hp : prgC M 9 0 c) (hk : kds 100 c [] = some [decide (k < 31)]) (hk2 : k < 34) (hk1 : 28 ≤ k) {Q : Int64 → pm → Prop} (kk : ∀ M', fI xC M M' → isBest D S P (bst D S P) → Q (zJ (acq k (qvl D S (bst D S P) c) (D 2))) M') : w_X7_answer (nI k) M Q := by
  have h8 := hD.2.2.1
  unfold w_X7_answer
  rw [h33]
  refine s_bestBits (by omega) (Nat.le_refl _) hd hD hs hS (fun M1 f1 hb => ?_)
  have b31 : bst D S P < 2 ^ 31 := Nat.lt_of_lt_of_le hb.1.1 (Nat.pow_le_pow_right (by decide) (by omega))
  have row : ∀ a, ¬ (45 ≤ a ∧ a < 57) → mI M1 a = mI M a := fun a ha => f1.2.2.2 a (by unfold xC; omega)
  have p1 : prgC M1 9 0 c := by
    obtain ⟨g, e1, e2, e3, e4⟩ := hp
    exact ⟨g, by rw [row (9 + 2) (by omega)]; exact e1, by rw [row (9 + 3) (by omega)]; exact e2, e3, fun i x hx => by rw [row (9 + 1) (by omega)]; exact e4 i x hx⟩
  have go : ∀ y : Int64, y = zJ (acq k (qvl D S (bst D S P) c) 0) → ∃ n, w_X7_answer_39 n (nI k) (nI (bst D S P)) y 0 M1 Q := fun y ey => by
    rw [ey]
    exact ⟨D 2 + 1, c_ansLoop ht (by rw [f1.2.1]; exact h33) (dC_c (fun b b1 b2 => row b (by omega)) hd) hD (sC_c (fun b b1 b2 => row b (by omega)) hs) hS b31 p1 hk hk2 hk1 (fun M' f' => kk M' (f1.tr f') hb) (D 2) (D 2 + 1) 0 M1 (by omega) (by omega) (fI.rf M1) acq_0⟩
  refine pk_eq k 28 (fun h => go _ ?_) (fun h => pk_ne k 29 (fun h' => go _ ?_) (fun h' => go _ ?_))
  · unfold acq; rw [if_pos (by omega)]; rfl
  · unfold acq; rw [if_neg (by omega)]; rfl
  · unfold acq; rw [if_pos (by omega)]; rfl
/-- the reference -/
def fw (M M' : pm) : Prop := mL M' = mL M ∧ mR M' = mR M ∧ (∀ a k, ¬ (a = 277 ∧ k = 104) → mI M' a k = mI M a k) ∧ ∀ a k, ¬ (a = 277 ∧ k = 103) → mJ M' a k = mJ M a k
theorem fw_i (M : pm) (v : Int32) : fw M (sI M 277 104 v) := ⟨rfl, rfl, fun a k h => rI h, fun _ _ _ => rfl⟩
theorem fw_ij (M : pm) (v : Int32) (w : Int64) : fw M (sI (sJ M 277 103 w) 277 104 v) := ⟨rfl, rfl, fun a k h => rI h, fun a k h => rJ h⟩
theorem m_qTakes {M : pm} {b j : Nat} {a v : Int} (hj : j < 6) (hb : b < 8) (ha : -(1000000 * ((b : Int) + 1)) ≤ a ∧ a ≤ 1000000 * ((b : Int) + 1)) (hv : -1000000 ≤ v ∧ v ≤ 1000000) (h01 : j < 3 → v = 0 ∨ v = 1) (h103 : mJ M 277 103 = zJ a) (h104 : mI M 277 104 = nI (if b = 0 then 1 else 0)) {Q : pm → Prop} (kk : ∀ M', fw M M' → mJ M' 277 103 = zJ (stq (28 + j) b a v) → mI M' 277 104 = nI 0 → Q M') : w_X8_qTakes (nI j) (zJ v) (nI b) M Q := by
  have nb : (nI b).toInt64 = zJ ((b : Nat) : Int) := by rw [nI_l (by omega), zJ_n]
  have k0 : stq (28 + j) b a v = a → Q (sI M 277 104 0) := fun e => kk _ (fw_i M 0) (by rw [e]; exact h103) (rIs _ _ _ _)
  have k1 : ∀ w : Int64, w = zJ (stq (28 + j) b a v) → Q (sI (sJ M 277 103 w) 277 104 0) := fun w e => kk _ (fw_ij M 0 w) (by rw [← e]; exact rJs _ _ _ _) (rIs _ _ _ _)
  clear kk
  have cs : j = 0 ∨ j = 1 ∨ j = 2 ∨ j = 3 ∨ j = 4 ∨ j = 5 := by omega
  unfold w_X8_qTakes w_X8_qTakes_16 w_X8_qTakes_55 w_X8_qTakes_90
  rw [h103]
  rcases cs with rfl | rfl | rfl | rfl | rfl | rfl
  · refine k_no (by decide) (kj_ne v 1 (fun h => ?_) (fun h => ?_))
    · exact k_yes' rfl (k_yes rfl (k_no' (by decide) (k_no' (by decide) (k_no' (by decide) (k_yes (by decide) (k0 (by unfold stq; rw [if_pos rfl, if_pos (by have := h01 (by decide); omega)])))))))
    · refine k_yes' rfl (k_no (by decide) (kj_eq a (-1) (fun h' => ?_) (fun h' => ?_)))
      · exact k_no' (by decide) (k_no' (by decide) (k_yes (by decide) (k1 _ (by rw [nb]; unfold stq; rw [if_pos rfl, if_neg (by omega), if_pos h']))))
      · exact k_no' (by decide) (k_no' (by decide) (k_no' (by decide) (k_yes (by decide) (k0 (by unfold stq; rw [if_pos rfl, if_neg (by omega), if_neg h'])))))
  · refine k_no (by decide) (kj_ne v 1 (fun h => ?_) (fun h => ?_))
    · exact k_no' (by decide) (k_yes' rfl (k_yes rfl (k_no' (by decide) (k_no' (by decide) (k_yes (by decide) (k0 (by unfold stq; rw [if_neg (by decide), if_pos rfl, if_pos (by have := h01 (by decide); omega)])))))))
    · exact k_no' (by decide) (k_yes' rfl (k_no (by decide) (k_no' (by decide) (k_no' (by decide) (k_yes (by decide) (k1 _ (by rw [nb]; unfold stq; rw [if_neg (by decide), if_pos rfl, if_neg (by omega)])))))))
  · refine k_no (by decide) (kj_ne v 1 (fun h => ?_) (fun h => ?_))
    · have v0 : v = 0 := by have := h01 (by decide); omega
      exact k_no' (by decide) (k_no' (by decide) (k_yes' rfl (k_yes rfl (k_no' (by decide) (k_yes (by decide) (k0 (by unfold stq; rw [if_neg (by decide), if_neg (by decide), if_pos (by decide), v0]; omega)))))))
    · exact k_no' (by decide) (k_no' (by decide) (k_yes' rfl (k_no (by decide) (k_no' (by decide) (k_yes (by decide) (k1 _ (by rw [show (1 : Int64) = zJ 1 from rfl, zJ_add]; unfold stq; rw [if_neg (by decide), if_neg (by decide), if_pos (by decide), h])))))))
  · exact k_yes (by decide) (k_no' (by decide) (k_no' (by decide) (k_no' (by decide) (k_yes' rfl (k_yes (by decide) (k1 _ (by rw [zJ_add]; unfold stq; rw [if_neg (by decide), if_neg (by decide), if_pos (by decide)])))))))
  · refine k_yes (by decide) (k_no' (by decide) (k_no' (by decide) (k_no' (by decide) (k_no' (by decide) (k_no (by decide) ?_)))))
    rw [h104]
    by_cases q : b = 0
    · rw [if_pos q]
      exact k_no' (by decide) (k1 _ (by unfold stq; rw [if_neg (by decide), if_neg (by decide), if_neg (by decide), if_pos (by decide), if_pos q]))
    · rw [if_neg q]
      exact k_yes' rfl (k_yes' rfl (kj_le v a (fun h => k0 (by unfold stq; rw [if_neg (by decide), if_neg (by decide), if_neg (by decide), if_pos (by decide), if_neg q, if_neg (by omega)])) (fun h => k1 _ (by unfold stq; rw [if_neg (by decide), if_neg (by decide), if_neg (by decide), if_pos (by decide), if_neg q, if_pos h]))))
  · refine k_yes (by decide) (k_no' (by decide) (k_no' (by decide) (k_no' (by decide) (k_no' (by decide) (k_no (by decide) ?_)))))
    rw [h104]
    by_cases q : b = 0
    · rw [if_pos q]
      exact k_no' (by decide) (k1 _ (by unfold stq; rw [if_neg (by decide), if_neg (by decide), if_neg (by decide), if_neg (by decide), if_pos q]))
    · rw [if_neg q]
      exact k_yes' rfl (k_no' (by decide) (kj_le a v (fun h => k0 (by unfold stq; rw [if_neg (by decide), if_neg (by decide), if_neg (by decide), if_neg (by decide), if_neg q, if_neg (by omega)])) (fun h => k1 _ (by unfold stq; rw [if_neg (by decide), if_neg (by decide), if_neg (by decide), if_neg (by decide), if_neg q, if_pos h]))))
