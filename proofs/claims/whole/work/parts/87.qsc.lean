/-! a question's text, and the class's reading of it -/
def qst (T : Nat → Nat) (n : Nat) : rs (Nat × List Nat) := if 28 ≤ kwN T n (0, false) ∧ kwN T n (0, false) < 34 then rB (spR T n 2 60 (if kwN T n (0, false) < 31 then 0 else 3) 0 (tX T n (0, false))) (fun c s1 => if tK T n s1 = 5 then .inr ((kwN T n (0, false), c), s1) else .inl (1, sk T n s1.1)) else .inl (1, sk T n 0)
theorem qst_ok {T : Nat → Nat} {n k : Nat} {c : List Nat} {s : ts} (h : qst T n = .inr ((k, c), s)) : 28 ≤ k ∧ k < 34 ∧ kds 100 c [] = some [decide (k < 31)] ∧ c.length ≤ n := by
  unfold qst at h
  split at h
  · rename_i hk
    obtain ⟨c1, s1, h1, h2⟩ := rB_inv h
    have ok := sp_ok 60 _ 0 _ c1 s1 (tX_le (T := T) (Nat.zero_le n)) h1
    split at h2
    · cases h2
      refine ⟨hk.1, hk.2, ?_, by have := ok.2.1; have := ok.1; omega⟩
      have := ok.2.2.2.1 [] [] (by decide)
      rw [List.append_nil] at this
      rw [this]
      split
      · rename_i q
        rw [decide_eq_true q]; rfl
      · rename_i q
        rw [decide_eq_false q]; rfl
    · cases h2
  · cases h
def fY (M M' : pm) : Prop := mL M' = mL M ∧ mJ M' = mJ M ∧ (∀ a k, ¬ ((a = 5 ∧ k = 2) ∨ (a = 6 ∧ k = 1)) → mR M' a k = mR M a k) ∧ ∀ a, ¬ (a = 5 ∨ a = 6 ∨ (9 ≤ a ∧ a < 14)) → mI M' a = mI M a
theorem fY_G {A : Nat → Nat → Prop} {M M1 M2 : pm} (h : fY M M1) (f : fG A M1 M2) (hA : ∀ a k, A a k → a = 5 ∨ a = 6 ∨ (9 ≤ a ∧ a < 14)) : fY M M2 := ⟨f.1.trans h.1, f.2.2.1.trans h.2.1, fun a k hk => by rw [f.2.1]; exact h.2.2.1 a k hk, fun a ha => (f.row (fun k q => ha (hA a k q))).trans (h.2.2.2 a ha)⟩
theorem fT_Y : ∀ a k, fT a k → a = 5 ∨ a = 6 ∨ (9 ≤ a ∧ a < 14) := fun a k h => by unfold fT at h; omega
theorem fR_Y : ∀ a k, fR 9 a k → a = 5 ∨ a = 6 ∨ (9 ≤ a ∧ a < 14) := fun a k h => by unfold fR fT at h; omega
theorem c_readQ {M : pm} {T : Nat → Nat} {n : Nat} (hT : tpC M T) (hn : n ≤ 1600) (hw : wdC M) {Q : pm → Prop} (kk : ∀ M', fY M M' → tkG M' T n (qst T n) → (∀ k c s, qst T n = .inr ((k, c), s) → mI M' 5 5 = nI k ∧ prgC M' 9 0 c) → Q M') : w_X3_readQuestion 4 (nI n) M Q := by
  unfold w_X3_readQuestion
  refine c_empty (fun M1 f1 l1 g1 => ?_)
  generalize hM2 : sI (sI (sR M1 5 2 9) 5 3 1) 5 4 1 = M2
  have y1 : fY M M1 := fY_G ⟨rfl, rfl, fun _ _ _ => rfl, fun _ _ => rfl⟩ f1 (fun a k h => by omega)
  have row2 : ∀ a, a ≠ 5 → mI M2 a = mI M1 a := fun a ha => by rw [← hM2, mI_off ha, mI_off ha]; rfl
  have r2 : ∀ a k, mR M2 a k = if a = 5 ∧ k = 2 then 9 else mR M1 a k := fun a k => by rw [← hM2]; exact mR_sR M1 5 2 9 a k
  have y2 : fY M M2 := ⟨by rw [← hM2]; exact y1.1, by rw [← hM2]; exact y1.2.1, fun a k h => by rw [r2, if_neg (by omega)]; exact y1.2.2.1 a k h, fun a ha => (row2 a (by omega)).trans (y1.2.2.2 a ha)⟩
  refine c_read (tpC_c (y2.2.2.2 4 (by omega)) hT) hn (fun w h => by rw [y2.2.2.2 7 (by omega)]; exact hw w h) (fun M3 l3 j3 r3 i3 t3 => ?_)
  have y3 : fY M M3 := ⟨l3.trans y2.1, j3.trans y2.2.1, fun a k h => (r3 a k (by omega)).trans (y2.2.2.1 a k h), fun a ha => (i3 a (by omega)).trans (y2.2.2.2 a ha)⟩
  have o3 : mR M3 5 2 = 9 := by rw [r3 5 2 (by omega), r2, if_pos ⟨rfl, rfl⟩]
  have e3 : eC M3 2 := ⟨by rw [i3 5 (by decide), ← hM2, rI (by omega), rIs]; rfl, by rw [i3 5 (by decide), ← hM2, rIs]; rfl⟩
  have l3' : mI M3 9 1 = nI 0 := by rw [i3 9 (by decide), row2 9 (by decide)]; exact l1
  have y5 : ∀ v, fY M (sI M3 5 5 v) := fun v => ⟨y3.1, y3.2.1, y3.2.2.1, fun a ha => (mI_off (by omega)).trans (y3.2.2.2 a ha)⟩
  have bad : ∀ v, qst T n = .inl (1, sk T n 0) → w_X6_fail 1 (mI M3 6 4) (sI M3 5 5 v) (fun M11 => Q M11) := fun v hq => by
    refine c_fail (by rw [mI_off (by decide)]; exact t3.2.2.2.2.2.2.1) 1 (sk T n 0) rfl t3.2.2.2.1 (by decide) (by decide) (fun M4 f4 t4 => kk M4 (fY_G (y5 v) f4 fT_Y) (by rw [hq]; exact t4) (fun k c s z => (by rw [hq] at z; cases z)))
  refine c_known t3 (fun q => ?_) (fun q => ?_)
  · refine pk_lt (kwN T n (0, false)) 28 (fun h28 => bad _ (by unfold qst; rw [if_neg (by omega)])) (fun h28 => pk_le (kwN T n (0, false)) 33 (fun h33 => ?_) (fun h33 => absurd q (by omega)))
    have hQ0 : qst T n = rB (spR T n 2 60 (if kwN T n (0, false) < 31 then 0 else 3) 0 (tX T n (0, false))) (fun c s1 => if tK T n s1 = 5 then .inr ((kwN T n (0, false), c), s1) else .inl (1, sk T n s1.1)) := by unfold qst; rw [if_pos ⟨h28, q⟩]
    have hle := tX_le (T := T) (n := n) (s := (0, false)) (Nat.zero_le n)
    refine c_take (tkC_c (mI_off (by decide)) (mI_off (by decide)) (mI_off (by decide)) rfl t3) (fun M4 f4 t4 => ?_)
    have o4 : mR M4 5 2 = 9 := by rw [f4.2.1]; exact o3
    rw [o4]
    refine ⟨by decide, k_no (by decide) (k_no (by decide) ⟨vp_in_nI (n := 0) (by decide) (by decide), vp_in_nI (n := 0) (by decide) (by decide), vp_in_nI (n := 0) (by decide) (by decide), ?_⟩)⟩
    have c0 : (0 : Int32).toNatClampNeg = 0 := rfl
    have row4 : ∀ a, a ≠ 6 → mI M4 a = mI (sI M3 5 5 (nI (kwN T n (0, false)))) a := fun a ha => f4.row (fun k => by unfold fT; omega)
    have l4 : mI M4 9 1 = nI 0 := by rw [row4 9 (by decide), mI_off (by decide)]; exact l3'
    rw [c0, nb1]
    rw [show mI (sI M4 (9 + 4) 0 1) 9 1 = nI 0 from by rw [mI_off (by decide)]; exact l4, show mI (sI (sI M4 (9 + 4) 0 1) (9 + 2) 0 (nI 0)) 9 1 = nI 0 from by rw [mI_off (by decide), mI_off (by decide)]; exact l4]
    generalize hM5 : sI (sI (sI M4 (9 + 4) 0 1) (9 + 2) 0 (nI 0)) (9 + 3) 0 (nI 0) = M5
    have row5 : ∀ a, a ≠ 11 → a ≠ 12 → a ≠ 13 → mI M5 a = mI M4 a := fun a b1 b2 b3 => by rw [← hM5, mI_off b2, mI_off b1, mI_off b3]
    have y6 : fY M M5 := fY_G (fY_G (y5 _) f4 fT_Y) (A := fun a k => 9 ≤ a ∧ a < 14) (by rw [← hM5]; exact (((fG.rf M4).up ⟨by omega, by omega⟩ _).up ⟨by omega, by omega⟩ _).up ⟨by omega, by omega⟩ _) (fun a k h => by omega)
    have r5 : mR M5 = mR M4 := by rw [← hM5]; rfl
    have t5 : tkC M5 T n (tX T n (0, false)) := tkC_c (row5 4 (by decide) (by decide) (by decide)) (row5 6 (by decide) (by decide) (by decide)) (row5 7 (by decide) (by decide) (by decide)) (by rw [r5]) t4
    have k5 : mI M5 5 5 = nI (kwN T n (0, false)) := by rw [row5 5 (by decide) (by decide) (by decide), row4 5 (by decide), rIs]
    have e5 : eC M5 2 := by
      refine ⟨?_, ?_⟩
      · rw [row5 5 (by decide) (by decide) (by decide), row4 5 (by decide), rI (by omega)]; exact e3.1
      · rw [row5 5 (by decide) (by decide) (by decide), row4 5 (by decide), rI (by omega)]; exact e3.2
    have o5 : oPC M5 9 0 := ⟨by rw [r5]; exact o4, Or.inl rfl, by rw [row5 9 (by decide) (by decide) (by decide)]; exact l4, by decide⟩
    have v11 : mI M5 (9 + 2) 0 = nI 0 := by rw [← hM5, rI (by omega), rIs]
    have rd : ∀ w, w = (if kwN T n (0, false) < 31 then 0 else 3) → w_rd 60 w 0 M5 (fun M21 => w_X3_readQuestion_134 M21 Q) := by
      intro w ew
      rw [← ew] at hQ0
      have w03 : w = 0 ∨ w = 3 := by rw [ew]; split <;> omega
      refine c_rdL (T := T) (n := n) (tk := 2) (pa := 9) (Or.inl rfl) (by decide) 60 w 0 (by rcases w03 with rfl | rfl <;> decide) (by decide) M5 (tX T n (0, false)) 0 _ t5 e5 o5 (Nat.zero_le _) (fun M6 f6 r6 => ?_)
      have y7 : fY M M6 := fY_G y6 f6 fR_Y
      have row6 : ∀ a, a ≠ 6 → a ≠ 9 → a ≠ 10 → mI M6 a = mI M5 a := fun a b1 b2 b3 => f6.row (fun k => by unfold fR fT; omega)
      unfold w_X3_readQuestion_134
      have o6 : mR M6 5 2 = 9 := by rw [f6.2.1]; exact o5.1
      rw [o6]
      refine ⟨by decide, k_no (by decide) (k_no (by decide) ⟨vp_in_nI (n := 0) (by decide) (by decide), ?_⟩)⟩
      rw [c0]
      have y8 : ∀ v, fY M (sI M6 (9 + 3) 0 v) := fun v => ⟨y7.1, y7.2.1, y7.2.2.1, fun a ha => (mI_off (by omega)).trans (y7.2.2.2 a ha)⟩
      rcases rdP_ok (fun c s1 hc => by have := hG_sp (T := T) (n := n) (tk := 2) 60 w 0 _ c s1 hle hc; omega) r6 with ⟨e, i1, i2, L', i3⟩ | ⟨c, s1, i1, i2, i3, i4, i5⟩
      · have eQ : qst T n = .inl e := by rw [hQ0, i1]; rfl
        have t7 : tkS (sI M6 (9 + 3) 0 (mI M6 9 1)) e := tkS_c (mI_off (by decide)) i2
        refine k_no (by rw [t7.1]; decide) (c_failS t7 (fun M8 f8 t8 => kk M8 (fY_G (y8 _) f8 fT_Y) (by rw [eQ]; exact t8) (fun k c s z => (by rw [eQ] at z; cases z))))
      · have t7 : tkC (sI M6 (9 + 3) 0 (mI M6 9 1)) T n s1 := tkC_c (mI_off (by decide)) (mI_off (by decide)) (mI_off (by decide)) rfl i2
        have c9 : mI M6 9 1 = nI (0 + c.length) := i3.1.2.2.1
        show (mI (sI M6 (9 + 3) 0 (mI M6 9 1)) 6 3 = 5 → Q (sI M6 (9 + 3) 0 (mI M6 9 1))) ∧ (¬ mI (sI M6 (9 + 3) 0 (mI M6 9 1)) 6 3 = 5 → w_X6_fail 1 (mI (sI M6 (9 + 3) 0 (mI M6 9 1)) 6 4) (sI M6 (9 + 3) 0 (mI M6 9 1)) (fun M28 => Q M28))
        rw [t7.2.2.1]
        have h5 := tK_le T n s1
        refine pk_eq (tK T n s1) 5 (fun q5 => ?_) (fun q5 => ?_)
        · have eQ : qst T n = .inr ((kwN T n (0, false), c), s1) := by
            rw [hQ0, i1]
            show (if tK T n s1 = 5 then _ else _) = _
            rw [if_pos q5]
          refine kk _ (y8 _) (by rw [eQ]; exact t7) (fun k c' s' z => ?_)
          rw [eQ] at z
          cases z
          refine ⟨by rw [rI (by omega), row6 5 (by decide) (by decide) (by decide)]; exact k5, 0, ?_, by rw [rIs]; exact c9, by have := i3.1.2.2.2; omega, fun i x hx => ?_⟩
          · rw [rI (by omega), row6 (9 + 2) (by decide) (by decide) (by decide)]; exact v11
          · rw [rI (by omega)]; exact i3.2.2 i x hx
        · have eQ : qst T n = .inl (1, sk T n s1.1) := by
            rw [hQ0, i1]
            show (if tK T n s1 = 5 then _ else _) = _
            rw [if_neg q5]
          exact c_fail t7.2.2.2.2.2.2.1 1 (sk T n s1.1) rfl t7.2.2.2.1 (by decide) (by decide) (fun M8 f8 t8 => kk M8 (fY_G (y8 _) f8 fT_Y) (by rw [eQ]; exact t8) (fun k c s z => (by rw [eQ] at z; cases z)))
    show (mI M5 5 5 = 28 → w_rd 60 0 0 M5 (fun M21 => w_X3_readQuestion_134 M21 Q)) ∧ (¬ mI M5 5 5 = 28 → (mI M5 5 5 = 29 → w_rd 60 0 0 M5 (fun M21 => w_X3_readQuestion_134 M21 Q)) ∧ (¬ mI M5 5 5 = 29 → (¬ mI M5 5 5 = 30 → w_rd 60 3 0 M5 (fun M21 => w_X3_readQuestion_134 M21 Q)) ∧ (mI M5 5 5 = 30 → w_rd 60 0 0 M5 (fun M21 => w_X3_readQuestion_134 M21 Q))))
    rw [k5]
    refine pk_eq (kwN T n (0, false)) 28 (fun h => rd 0 (by rw [if_pos (by omega)])) (fun h => pk_eq (kwN T n (0, false)) 29 (fun h => rd 0 (by rw [if_pos (by omega)])) (fun h => pk_ne (kwN T n (0, false)) 30 (fun h => rd 3 (by rw [if_neg (by omega)])) (fun h => rd 0 (by rw [if_pos (by omega)]))))
  · exact k_yes (by decide) (bad _ (by unfold qst; rw [if_neg (by omega)]))
