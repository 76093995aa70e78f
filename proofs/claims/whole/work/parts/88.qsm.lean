/-! the reference reads a question -/
def fZ (a k : Nat) : Prop := fQ a k ∨ (a = 277 ∧ (k = 1 ∨ k = 3 ∨ k = 51))
theorem fZ_Q {M M' : pm} (f : fG fQ M M') : fG fZ M M' := ⟨f.1, f.2.1, f.2.2.1, fun a k h => f.2.2.2 a k (fun q => h (Or.inl q))⟩
theorem m_ask109F {y : Int32} {M : pm} {e : Nat × Nat} (h : tkF M e) {Q : Int64 → pm → Prop} (k : w_X8_ask_133 y M Q) : w_X8_ask_109 y M Q := by
  unfold w_X8_ask_109
  exact k_no' (tkF_n h) k
theorem m_readQ {M : pm} {T : Nat → Nat} {n : Nat} (hT : tpM M T) (hn : n ≤ 1600) (hw : wdM M) (h1 : mI M 277 1 = nI n) (hon : ¬ mI M 277 50 = 0) {Q : Int64 → pm → Prop} (kk : ∀ y M', fG fZ M M' → mI M' 277 1 = 0 → tkH M' T n (qst T n) → (∀ k c s, qst T n = .inr ((k, c), s) → y = nI (k - 28) ∧ mI M' 277 96 = nI c.length ∧ cdM M' c) → w_X8_ask_133 y M' Q) : w_X8_ask M Q := by
  unfold w_X8_ask
  refine k_no' hon ?_
  generalize hM0 : sI (sI (sI (sI (sI (sI (sI (sI (sI (sI (sI M 277 3 (mI M 277 1)) 277 1 0) 277 2 0) 277 4 (-1)) 277 5 0) 277 6 (-1)) 277 51 2) 277 96 0) 277 98 0) 277 99 0) 277 100 0 = M0
  have f0 : fG fZ M M0 := by
    rw [← hM0]
    refine (((((((((((fG.rf M).up ?_ _).up ?_ _).up ?_ _).up ?_ _).up ?_ _).up ?_ _).up ?_ _).up ?_ _).up ?_ _).up ?_ _).up ?_ _ <;> (unfold fZ fQ fU; omega)
  have e0 : ∀ a k, ¬ (a = 277 ∧ (k = 1 ∨ k = 2 ∨ k = 3 ∨ k = 4 ∨ k = 5 ∨ k = 6 ∨ k = 51 ∨ k = 96 ∨ k = 98 ∨ k = 99 ∨ k = 100)) → mI M0 a k = mI M a k := fun a k h => by
    rw [← hM0, rI (by omega), rI (by omega), rI (by omega), rI (by omega), rI (by omega), rI (by omega), rI (by omega), rI (by omega), rI (by omega), rI (by omega), rI (by omega)]
  have v100 : mI M0 277 100 = nI 0 := by rw [← hM0, rIs]; rfl
  have v99 : mI M0 277 99 = nI 0 := by rw [← hM0, rI (by omega), rIs]; rfl
  have v98 : mI M0 277 98 = nI 0 := by rw [← hM0, rI (by omega), rI (by omega), rIs]; rfl
  have v96 : mI M0 277 96 = nI 0 := by rw [← hM0, rI (by omega), rI (by omega), rI (by omega), rIs]; rfl
  have v51 : mI M0 277 51 = nI 2 := by rw [← hM0, rI (by omega), rI (by omega), rI (by omega), rI (by omega), rIs]; rfl
  have v6 : mI M0 277 6 = -1 := by rw [← hM0, rI (by omega), rI (by omega), rI (by omega), rI (by omega), rI (by omega), rIs]
  have v5 : mI M0 277 5 = 0 := by rw [← hM0, rI (by omega), rI (by omega), rI (by omega), rI (by omega), rI (by omega), rI (by omega), rIs]
  have v4 : mI M0 277 4 = -1 := by rw [← hM0, rI (by omega), rI (by omega), rI (by omega), rI (by omega), rI (by omega), rI (by omega), rI (by omega), rIs]
  have v2 : mI M0 277 2 = 0 := by rw [← hM0, rI (by omega), rI (by omega), rI (by omega), rI (by omega), rI (by omega), rI (by omega), rI (by omega), rI (by omega), rIs]
  have v1 : mI M0 277 1 = 0 := by rw [← hM0, rI (by omega), rI (by omega), rI (by omega), rI (by omega), rI (by omega), rI (by omega), rI (by omega), rI (by omega), rI (by omega), rIs]
  have v3 : mI M0 277 3 = nI n := by rw [← hM0, rI (by omega), rI (by omega), rI (by omega), rI (by omega), rI (by omega), rI (by omega), rI (by omega), rI (by omega), rI (by omega), rI (by omega), rIs, h1]
  clear hM0
  have t0 : tkM M0 T n (0, false) := by
    refine ⟨⟨tpM_c (funext fun k => e0 278 k (by omega)) hT, hn, fun q hq i hi => ?_, v3⟩, Nat.zero_le _, v5, v6, Or.inl v2, -1, by omega, by show (-1 : Int) ≤ ((0 : Nat) : Int); omega, (by rw [v4]; rfl), ?_⟩
    · have wo := wa_ok q hq
      rw [e0 q.1 i (by omega)]; exact hw q hq i hi
    · constructor
      · intro z; exact absurd z (by decide)
      · intro z; exact absurd z (by show ¬ ((-1 : Int) = ((0 : Nat) : Int)); omega)
  have z1 : ∀ M', fG fQ M0 M' → mI M' 277 1 = 0 := fun M' f => by rw [f.2.2.2 277 1 (by unfold fQ fU; omega)]; exact v1
  have hle := tX_le (T := T) (n := n) (s := (0, false)) (Nat.zero_le n)
  -- a fault, wherever
  have bad : ∀ (y : Int32) (M1 : pm) (e : Nat × Nat), qst T n = .inl e → fG fQ M0 M1 → tkF M1 e → w_X8_ask_109 y M1 Q := fun y M1 e hq f1 t1 =>
    m_ask109F t1 (kk y M1 (f0.tr (fZ_Q f1)) (z1 M1 f1) (by rw [hq]; exact t1) (fun k c s z => (by rw [hq] at z; cases z)))
  -- behind the kind
  have good : ∀ (j : Nat) (M1 : pm), j < 6 → kwN T n (0, false) = 28 + j → fG fU M0 M1 → tkM M1 T n (tX T n (0, false)) → ((¬ (mI M1 277 5) = 0 → ((¬ (mI M1 277 5) = 0 → (w_X8_ask_109 (nI j) M1 Q)) ∧ ((mI M1 277 5) = 0 → (w_X8_qSums M1 (fun M27 => w_X8_ask_109 (nI j) M27 Q))))) ∧ ((mI M1 277 5) = 0 → ((3 ≤ nI j → ((¬ (mI M1 277 5) = 0 → (w_X8_ask_109 (nI j) M1 Q)) ∧ ((mI M1 277 5) = 0 → (w_X8_qSums M1 (fun M30 => w_X8_ask_109 (nI j) M30 Q))))) ∧ (¬ 3 ≤ nI j → (w_X8_qTest M1 (fun M33 => w_X8_ask_109 (nI j) M33 Q)))))) := by
    intro j M1 hj hk f1 t1
    have h5 := t1.2.2.1
    have g : ∀ k, k = 51 ∨ k = 96 ∨ k = 98 ∨ k = 99 ∨ k = 100 → mI M1 277 k = mI M0 277 k := fun k hk => f1.2.2.2 277 k (by unfold fU; omega)
    have q1 : qS M0 M1 T n 2 (tX T n (0, false)) [] 0 0 [] := ⟨fQ_U f1, t1, by rw [g 51 (by omega)]; exact v51, by rw [g 96 (by omega)]; exact v96, fun i c hi => (by cases hi), by rw [g 98 (by omega)]; exact v98, trivial, by rw [g 99 (by omega)]; exact v99, by rw [g 100 (by omega)]; exact v100, by decide, Nat.le_refl _, fun y hy => absurd hy List.not_mem_nil, by decide⟩
    have hQ0 : ∀ w, w = (if j < 3 then 0 else 3) → qst T n = rB (spR T n 2 60 w 0 (tX T n (0, false))) (fun c s1 => if tK T n s1 = 5 then .inr ((28 + j, c), s1) else .inl (1, sk T n s1.1)) := fun w ew => by
      unfold qst
      rw [if_pos (by omega), hk, ew]
      by_cases q : j < 3
      · rw [if_pos q, if_pos (by omega)]
      · rw [if_neg q, if_neg (by omega)]
    have fin : ∀ w, w = (if j < 3 then 0 else 3) → ∀ (c : List Nat) (s' : ts) (M2 : pm), spR T n 2 60 w 0 (tX T n (0, false)) = .inr (c, s') → qS M0 M2 T n 2 s' [] 0 0 c → w_X8_ask_109 (nI j) M2 Q := by
      intro w ew c s' M2 hr q2
      obtain ⟨f2, t2, h51, h96, hcd2, -⟩ := q2
      unfold w_X8_ask_109
      refine k_yes' t2.2.2.1 (m_look t2 (fun M3 f3 t3 => ?_))
      rw [lk_e t3.1.1]
      have f13 := f2.tr (fQ_U f3)
      refine ⟨fun q5 => ?_, fun q5 => ?_⟩
      · have eQ : qst T n = .inr ((28 + j, c), s') := by
          rw [hQ0 w ew, hr]
          show (if tK T n s' = 5 then _ else _) = _
          rw [if_pos q5]
        refine kk _ M3 (f0.tr (fZ_Q f13)) (z1 M3 f13) (by rw [eQ]; exact t3.1) (fun k c' s z => ?_)
        rw [eQ] at z
        cases z
        refine ⟨by rw [show 28 + j - 28 = j from by omega], by rw [f3.2.2.2 277 96 (by unfold fU; omega)]; exact h96, fun i x hx => ?_⟩
        rw [f3.2.2.2 349 i (by unfold fU; omega)]; exact hcd2 i x hx
      · have eQ : qst T n = .inl (1, sk T n s'.1) := by
          rw [hQ0 w ew, hr]
          show (if tK T n s' = 5 then _ else _) = _
          rw [if_neg q5]
        refine m_fail t3.1.2.2.1 1 (sk T n s'.1) rfl t3.2 (by decide) (by decide) (fun M4 f4 t4 => kk _ M4 (f0.tr (fZ_Q (f13.tr (fQ_U f4)))) (z1 M4 (f13.tr (fQ_U f4))) (by rw [eQ]; exact t4) (fun k c' s z => (by rw [eQ] at z; cases z)))
    refine k_yes' h5 (pk_le 3 j (fun h3 => k_yes' h5 ?_) (fun h3 => ?_))
    · exact m_sums (by decide) q1 (Nat.zero_le _) ⟨fun z => (by cases z), fun z => (by cases z), fun z => (by cases z), fun z => (by cases z)⟩ (f := 60) (by decide) (fun e M2 hr q2 => bad _ M2 e (by rw [hQ0 3 (by rw [if_neg (by omega)]), hr]; rfl) q2.1 q2.2.1) (fun c s' M2 hr q2 => fin 3 (by rw [if_neg (by omega)]) c s' M2 hr (by rw [List.nil_append] at q2; exact q2))
    · exact m_test (by decide) q1 (Nat.zero_le _) (f := 60) (by decide) (fun e M2 hr q2 => bad _ M2 e (by rw [hQ0 0 (by rw [if_pos (by omega)]), hr]; rfl) q2.1 q2.2) (fun c s' M2 hr q2 => fin 0 (by rw [if_pos (by omega)]) c s' M2 hr (by rw [List.nil_append] at q2; exact q2))
  unfold w_X8_qKind
  refine m_takes t0 326 28 (by decide) (fun q M1 f1 t1 => k_no (by decide) (good 0 M1 (by decide) q f1 t1)) (fun q0 M1 f1 t1 => k_yes rfl ?_)
  refine m_takesL t1 327 29 (by decide) (fun q M2 f2 t2 => k_no (by decide) (good 1 M2 (by decide) q (f1.tr f2) t2)) (fun q1 => k_yes rfl ?_)
  refine m_takesL t1 328 30 (by decide) (fun q M2 f2 t2 => k_no (by decide) (good 2 M2 (by decide) q (f1.tr f2) t2)) (fun q2 => k_yes rfl ?_)
  refine m_takesL t1 329 31 (by decide) (fun q M2 f2 t2 => k_no (by decide) (good 3 M2 (by decide) q (f1.tr f2) t2)) (fun q3 => k_yes rfl ?_)
  refine m_takesL t1 330 32 (by decide) (fun q M2 f2 t2 => k_no (by decide) (good 4 M2 (by decide) q (f1.tr f2) t2)) (fun q4 => k_yes rfl ?_)
  refine m_asks (A := Unit) (r := .inr ((), (0, false))) t1.1 331 33 (by decide) (fun M2 f2 t2 => ?_)
  by_cases q : kwN T n (0, false) = 33
  · have e : rTh (.inr ((), (0, false))) (rWrd T n 33) = (.inr ((), tX T n (0, false)) : rs Unit) := by
      show rB (rWrd T n 33 (0, false)) _ = _
      unfold rWrd
      rw [if_pos q]; rfl
    rw [e] at t2
    exact good 5 M2 (by decide) q (f1.tr f2) t2
  · have e : rTh (.inr ((), (0, false))) (rWrd T n 33) = (.inl (1, sk T n 0) : rs Unit) := by
      show rB (rWrd T n 33 (0, false)) _ = _
      unfold rWrd
      rw [if_neg q]; rfl
    rw [e] at t2
    have t2 : tkF M2 (1, sk T n 0) := t2
    have hk := kwN_le T n (0, false)
    exact k_no' (tkF_n t2) (k_no' (tkF_n t2) (bad _ M2 _ (by unfold qst; rw [if_neg (by omega)]) (fQ_U (f1.tr f2)) t2))
