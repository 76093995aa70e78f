/-! the reference reads SUMS: what it does behind a part -/
theorem B_122 {M0 : pm} {T : Nat → Nat} {n tk b : Nat} {x1 : Int32} {K : Int32 → pm → Prop} {Q : pm → Prop} {s : ts} {U : List Nat} {o : Nat} {C : List Nat} {M : pm} {m nn : Nat} (h : qS M0 M T n tk s U o b C) (hne : tS T n s ≠ 41) (k : ∀ M1, qS M0 M1 T n tk s U o b C → tkL M1 T n s → w_X8_qGoesOn_122 M1 (zG x1 K Q m)) : zB x1 K Q m (nn + 1) M := by
  unfold zB w_X8_qGoesOn_0
  refine k_yes' h.2.1.2.2.1 (m_look h.2.1 (fun M1 f1 t1 => ?_))
  have e41 : lkV T n s = 41 ↔ tS T n s = 41 := lk_c t1.1.1 (c := 41) (by decide) (by decide) (by decide) (by decide)
  rw [e41]
  exact k_no' hne (k M1 (qS_tok h f1 t1.1) t1)
theorem B_41 {M0 : pm} {T : Nat → Nat} {n tk b : Nat} {x1 : Int32} {K : Int32 → pm → Prop} {Q : pm → Prop} {s : ts} {V W : List Nat} {o : Nat} {C : List Nat} {M : pm} {m nn : Nat} (h : qS M0 M T n tk s (V ++ W) o b C) (hv : ∀ x ∈ V, x < 20) (hb : b ≤ W.length) (hc : W.length = b ∨ ∃ x W1, W = x :: W1 ∧ (x = 21 ∨ x = 22) ∧ b ≤ W1.length) (k : ∀ M1, qS M0 M1 T n tk s (V ++ W) o b C → tkL M1 T n s → w_X8_qGoesOn_122 M1 (zG x1 K Q m)) : zB x1 K Q m (nn + 1) M := by
  by_cases hne : tS T n s = 41
  · unfold zB w_X8_qGoesOn_0
    refine k_yes' h.2.1.2.2.1 (m_look h.2.1 (fun M1 f1 t1 => ?_))
    have e41 : lkV T n s = 41 ↔ tS T n s = 41 := lk_c t1.1.1 (c := 41) (by decide) (by decide) (by decide) (by decide)
    have q1 := qS_tok h f1 t1.1
    rw [e41]
    refine k_yes' hne ?_
    have kk := k M1 q1 t1
    rcases hc with e | ⟨x, W1, rfl, hx, e⟩
    · exact m_br q1 hv hb (Or.inl ⟨e, k_no (by decide) (m_br q1 hv hb (Or.inl ⟨e, k_no (by decide) (m_br q1 hv hb (Or.inl ⟨e, k_no' (by decide) kk⟩))⟩))⟩)
    · have nx : ∀ j : Nat, j < 100 → x ≠ j → ¬ nI x = nI j := fun j hj hne z => hne ((nI_eq (by omega) (by omega)).mp z)
      exact m_br q1 hv hb (Or.inr ⟨x, W1, rfl, by omega, by omega, e, k_no (nx 20 (by decide) (by omega)) (m_br q1 hv hb (Or.inr ⟨x, W1, rfl, by omega, by omega, e, k_no (nx 23 (by decide) (by omega)) (m_br q1 hv hb (Or.inr ⟨x, W1, rfl, by omega, by omega, e, k_no' (nx 24 (by decide) (by omega)) kk⟩))⟩))⟩)
  · exact B_122 h hne k
/-- an op put on the pile: a part follows -/
theorem B_push {M0 : pm} {T : Nat → Nat} {n tk b : Nat} {x1 : Int32} {K : Int32 → pm → Prop} {Q : pm → Prop} {s : ts} {X : List Nat} {o : Nat} {C : List Nat} {op : Nat} (hA : gA M0 T n tk b x1 K Q s (op :: X) o C) (hop : op ≤ 60) {M : pm} {m : Nat} (h : qS M0 M T n tk s X o b C) (hl : C.length + X.length < s.1) (hm : n + 3 ≤ m + s.1) {y : Int32} (hy : y = nI op) : vp_in (mI M 277 98) 1700 ∧ (zG x1 K Q (m + 1) 1 (sI (sI M 350 ((mI M 277 98).toNatClampNeg) y) 277 98 ((mI M 277 98) + 1))) := by
  have h13 := h.2.2.2.2.2.2.2.2.2.2.2.2
  have hsn := h.2.1.2.1
  have h16 := h.2.1.1.2.1
  rw [h.2.2.2.2.2.1, nI_clamp (by omega), nI_1, hy]
  have q2 := qS_push h hop (by omega)
  exact ⟨vp_in_nI (by omega) (by decide), zG_1 (nn := n + 3) q2.2.1.2.2.1 (hA _ m (n + 3) q2 (by rw [List.length_cons]; omega) hm (by omega))⟩
theorem B_mul {M0 : pm} {T : Nat → Nat} {n tk b : Nat} {x1 : Int32} {K : Int32 → pm → Prop} {Q : pm → Prop} {s : ts} {V X : List Nat} {o : Nat} {C : List Nat} {op : Nat} (hop : tS T n s = 42 ∧ op = 3 ∨ tS T n s = 47 ∧ op = 4) (hV : ∀ x ∈ V, x = 3 ∨ x = 4) (hX : X.head? ≠ some 3 ∧ X.head? ≠ some 4) (hb : b ≤ X.length) (hA : gA M0 T n tk b x1 K Q (tX T n s) (op :: X) o (C ++ V)) : gB M0 T n tk b x1 K Q s (V ++ X) o C := by
  intro M m nn h hl hm hn
  have hsn := h.2.1.2.1
  have h16 := h.2.1.1.2.1
  have hgt : s.1 < (tX T n s).1 := by
    rcases hop with q | q
    · exact op_k3 (by decide) q.1
    · exact op_k3 (by decide) q.1
  obtain ⟨nn, rfl⟩ : ∃ m', nn = m' + 1 := ⟨nn - 1, by omega⟩
  obtain ⟨m, rfl⟩ : ∃ m', m = m' + 1 := ⟨m - 1, by omega⟩
  refine B_122 h (by omega) (fun M1 q1 t1 => ?_)
  have p140 : ∀ M2, fG fU M1 M2 → tkM M2 T n (tX T n s) → mI M2 277 2 = nI (sk T n s.1 + 1) → w_X8_qGoesOn_140 M2 (zG x1 K Q (m + 1)) := by
    intro M2 f2 t2 e2
    have q2 := qS_tok q1 f2 t2
    have hsk : sk T n s.1 < n := by
      rcases hop with q | q
      · exact (tK_3 (tS_k (by decide) q.1).1).1
      · exact (tK_3 (tS_k (by decide) q.1).1).1
    obtain ⟨M3, q3, r3⟩ := q_d162 hb hX V C M2 q2 hV
    have l3 : (C ++ V).length + X.length < (tX T n s).1 := by
      rw [List.length_append] at hl ⊢
      omega
    unfold w_X8_qGoesOn_140
    rw [e2, nI_pred, nI_clamp (by omega), (t2.1.1 _ (by omega)).2]
    refine ⟨vp_in_nI (by omega) (by decide), ?_⟩
    have hT := (t2.1.1 (sk T n s.1) (by omega)).1
    rcases hop with ⟨q, rfl⟩ | ⟨q, rfl⟩
    · have e : T (sk T n s.1) = 42 := (tS_k (by decide) q).2
      rw [e]
      exact k_yes' rfl (r3 3 _ _ (B_push hA (by decide) q3 l3 (by omega) rfl))
    · have e : T (sk T n s.1) = 47 := (tS_k (by decide) q).2
      rw [e]
      exact k_no' (by decide) (r3 4 _ _ (B_push hA (by decide) q3 l3 (by omega) rfl))
  unfold w_X8_qGoesOn_122
  refine m_tSignL t1 42 (by decide) (by decide) (by decide) (by decide) (fun q M2 f2 t2 e2 => k_no' (by decide) (p140 M2 f2 t2 e2)) (fun q => k_yes' rfl (m_tSignL t1 47 (by decide) (by decide) (by decide) (by decide) (fun q M2 f2 t2 e2 => k_no (by decide) (p140 M2 f2 t2 e2)) (fun q2 => ?_)))
  exfalso
  omega
theorem B_add {M0 : pm} {T : Nat → Nat} {n tk b : Nat} {x1 : Int32} {K : Int32 → pm → Prop} {Q : pm → Prop} {s : ts} {V W : List Nat} {o : Nat} {C : List Nat} {op : Nat} (hop : tS T n s = 43 ∧ op = 1 ∨ tS T n s = 45 ∧ op = 2) (hV : ∀ x ∈ V, 1 ≤ x ∧ x ≤ 4) (hW : W.head? ≠ some 1 ∧ W.head? ≠ some 2 ∧ W.head? ≠ some 3 ∧ W.head? ≠ some 4) (hb : b ≤ W.length) (hA : gA M0 T n tk b x1 K Q (tX T n s) (op :: W) o (C ++ V)) : gB M0 T n tk b x1 K Q s (V ++ W) o C := by
  intro M m nn h hl hm hn
  have hsn := h.2.1.2.1
  have h16 := h.2.1.1.2.1
  have hgt : s.1 < (tX T n s).1 := by
    rcases hop with q | q
    · exact op_k3 (by decide) q.1
    · exact op_k3 (by decide) q.1
  obtain ⟨nn, rfl⟩ : ∃ m', nn = m' + 1 := ⟨nn - 1, by omega⟩
  obtain ⟨m, rfl⟩ : ∃ m', m = m' + 1 := ⟨m - 1, by omega⟩
  refine B_122 h (by omega) (fun M1 q1 t1 => ?_)
  have p225 : ∀ M2, fG fU M1 M2 → tkM M2 T n (tX T n s) → mI M2 277 2 = nI (sk T n s.1 + 1) → w_X8_qGoesOn_225 M2 (zG x1 K Q (m + 1)) := by
    intro M2 f2 t2 e2
    have q2 := qS_tok q1 f2 t2
    have hsk : sk T n s.1 < n := by
      rcases hop with q | q
      · exact (tK_3 (tS_k (by decide) q.1).1).1
      · exact (tK_3 (tS_k (by decide) q.1).1).1
    obtain ⟨M3, q3, r3⟩ := q_d247 hb hW V C M2 q2 hV
    have l3 : (C ++ V).length + W.length < (tX T n s).1 := by
      rw [List.length_append] at hl ⊢
      omega
    unfold w_X8_qGoesOn_225
    rw [e2, nI_pred, nI_clamp (by omega), (t2.1.1 _ (by omega)).2]
    refine ⟨vp_in_nI (by omega) (by decide), ?_⟩
    rcases hop with ⟨q, rfl⟩ | ⟨q, rfl⟩
    · have e : T (sk T n s.1) = 43 := (tS_k (by decide) q).2
      rw [e]
      exact k_yes' rfl (r3 1 _ _ (B_push hA (by decide) q3 l3 (by omega) rfl))
    · have e : T (sk T n s.1) = 45 := (tS_k (by decide) q).2
      rw [e]
      exact k_no' (by decide) (r3 2 _ _ (B_push hA (by decide) q3 l3 (by omega) rfl))
  unfold w_X8_qGoesOn_122
  refine m_tSignL t1 42 (by decide) (by decide) (by decide) (by decide) (fun q => by exfalso; omega) (fun q => k_yes' rfl (m_tSignL t1 47 (by decide) (by decide) (by decide) (by decide) (fun q => by exfalso; omega) (fun q2 => k_yes rfl (m_tSignL t1 43 (by decide) (by decide) (by decide) (by decide) (fun q M2 f2 t2 e2 => k_no' (by decide) (p225 M2 f2 t2 e2)) (fun q3 => k_yes' rfl (m_tSignL t1 45 (by decide) (by decide) (by decide) (by decide) (fun q M2 f2 t2 e2 => k_no (by decide) (p225 M2 f2 t2 e2)) (fun q4 => by exfalso; omega)))))))
/-- no op follows -/
def noOp (T : Nat → Nat) (n : Nat) (s : ts) : Prop := tS T n s ≠ 42 ∧ tS T n s ≠ 47 ∧ tS T n s ≠ 43 ∧ tS T n s ≠ 45
theorem B_end {M0 : pm} {T : Nat → Nat} {n tk b : Nat} {x1 : Int32} {K : Int32 → pm → Prop} {Q : pm → Prop} {s : ts} {V W : List Nat} {o : Nat} {C : List Nat} (hno : noOp T n s) (hV : ∀ x ∈ V, x < 20) (hW : W.length = b) (hK : ∀ M, qS M0 M T n tk s (V ++ W) o b C → K x1 M) : gB M0 T n tk b x1 K Q s (V ++ W) o C := by
  intro M m nn h hl hm hn
  have hsn := h.2.1.2.1
  obtain ⟨nn, rfl⟩ : ∃ m', nn = m' + 1 := ⟨nn - 1, by omega⟩
  obtain ⟨a1, a2, a3, a4⟩ := hno
  refine B_41 h hV (by omega) (Or.inl hW) (fun M1 q1 t1 => ?_)
  unfold w_X8_qGoesOn_122
  have hb : b ≤ W.length := by omega
  exact m_tSignL t1 42 (by decide) (by decide) (by decide) (by decide) (fun q => absurd q a1) (fun _ => k_yes' rfl (m_tSignL t1 47 (by decide) (by decide) (by decide) (by decide) (fun q => absurd q a2) (fun _ => k_yes rfl (m_tSignL t1 43 (by decide) (by decide) (by decide) (by decide) (fun q => absurd q a3) (fun _ => k_yes' rfl (m_tSignL t1 45 (by decide) (by decide) (by decide) (by decide) (fun q => absurd q a4) (fun _ => k_yes rfl (m_br q1 hV hb (Or.inl ⟨hW, k_no (by decide) (m_br q1 hV hb (Or.inl ⟨hW, k_no' (by decide) (m_br q1 hV hb (Or.inl ⟨hW, k_yes rfl (zG_0 (by omega) (hK M1 q1))⟩))⟩))⟩)))))))))
theorem B_fail {M0 : pm} {T : Nat → Nat} {n tk b : Nat} {x1 : Int32} {K : Int32 → pm → Prop} {Q : pm → Prop} {s : ts} {V W : List Nat} {o x : Nat} {C : List Nat} (hno : noOp T n s) (hV : ∀ x ∈ V, x < 20) (hx : x = 20 ∨ x = 23 ∨ x = 24) (hb : b ≤ W.length) (h41 : tS T n s ≠ 41) (hF : gF M0 x1 K (1, sk T n s.1)) : gB M0 T n tk b x1 K Q s (V ++ x :: W) o C := by
  intro M m nn h hl hm hn
  have hsn := h.2.1.2.1
  obtain ⟨nn, rfl⟩ : ∃ m', nn = m' + 1 := ⟨nn - 1, by omega⟩
  obtain ⟨a1, a2, a3, a4⟩ := hno
  refine B_122 h h41 (fun M1 q1 t1 => ?_)
  have nx : ∀ j : Nat, j < 100 → x ≠ j → ¬ nI x = nI j := fun j hj hne z => hne ((nI_eq (by omega) (by omega)).mp z)
  have hb1 : b ≤ (x :: W).length := by rw [List.length_cons]; omega
  unfold w_X8_qGoesOn_122
  exact m_tSignL t1 42 (by decide) (by decide) (by decide) (by decide) (fun q => absurd q a1) (fun _ => k_yes' rfl (m_tSignL t1 47 (by decide) (by decide) (by decide) (by decide) (fun q => absurd q a2) (fun _ => k_yes rfl (m_tSignL t1 43 (by decide) (by decide) (by decide) (by decide) (fun q => absurd q a3) (fun _ => k_yes' rfl (m_tSignL t1 45 (by decide) (by decide) (by decide) (by decide) (fun q => absurd q a4) (fun _ => k_yes rfl (m_br q1 hV hb1 (Or.inr ⟨x, W, rfl, by omega, by omega, hb, k_no (nx 21 (by decide) (by omega)) (m_br q1 hV hb1 (Or.inr ⟨x, W, rfl, by omega, by omega, hb, k_no' (nx 22 (by decide) (by omega)) (m_br q1 hV hb1 (Or.inr ⟨x, W, rfl, by omega, by omega, hb, k_no (n_m1 (by omega)) (k_yes' t1.1.2.2.1 (m_fail t1.1.2.2.1 1 (sk T n s.1) rfl t1.2 (by decide) (by decide) (fun M2 f2 t2 => zG_0 (by omega) (hF M2 (qS_F q1 f2 t2)))))⟩))⟩))⟩)))))))))
theorem B_326 {M0 : pm} {T : Nat → Nat} {n tk b : Nat} {x1 : Int32} {K : Int32 → pm → Prop} {Q : pm → Prop} {s : ts} {V W : List Nat} {o x : Nat} {C : List Nat} (hV : ∀ x ∈ V, x < 20) (hx : x = 21 ∨ x = 22) (hb : b ≤ W.length) (hA : tS T n s = 44 → gA M0 T n tk b x1 K Q (tX T n s) ((x + 2) :: W) o (C ++ V)) (hF : tS T n s ≠ 44 → gF M0 x1 K (1, sk T n s.1)) {M1 : pm} {m : Nat} (q1 : qS M0 M1 T n tk s (V ++ x :: W) o b C) (hl : C.length + (V ++ x :: W).length ≤ s.1) (hm : n + 2 ≤ m + s.1) (t1 : tkL M1 T n s) : w_X8_qGoesOn_326 M1 (zG x1 K Q (m + 1)) := by
  have hsn := q1.2.1.2.1
  have h16 := q1.2.1.1.2.1
  unfold w_X8_qGoesOn_326
  refine m_asksSign (A := Unit) (r := .inr ((), s)) t1.1 44 (by decide) (by decide) (by decide) (by decide) (fun M2 f2 t2 => ?_)
  by_cases q : tS T n s = 44
  · have e : rTh (.inr ((), s)) (rSgn T n 44) = (.inr ((), tX T n s) : rs Unit) := by
      show rB (rSgn T n 44 s) _ = _
      unfold rSgn
      rw [if_pos q]; rfl
    rw [e] at t2
    have t2 : tkM M2 T n (tX T n s) := t2
    have hgt := op_k3 (T := T) (n := n) (by decide) q
    have q2 := qS_tok q1 f2 t2
    obtain ⟨M3, q3, r3⟩ := q_toBr (by rw [List.length_cons]; omega) (Or.inr ⟨x, W, rfl, by omega, by omega, hb⟩) V C M2 q2 hV
    refine k_yes t2.2.2.1 (r3 _ ?_)
    have h6 := q3.2.2.2.2.2.1
    have h7 := q3.2.2.2.2.2.2.1
    have h13 := q3.2.2.2.2.2.2.2.2.2.2.2.2
    rw [List.length_cons] at h6 h13
    rw [h6, nI_pred, nI_clamp (by omega), h7.1]
    refine ⟨vp_in_nI (by omega) (by decide), vp_in_nI (by omega) (by decide), ?_⟩
    rw [show nI x + 2 = nI (x + 2) from nI_add x 2]
    have q4 := qS_top (y := x + 2) q3 (by omega)
    refine zG_1 (nn := n + 3) q4.2.1.2.2.1 (hA q _ m (n + 3) q4 ?_ (by omega) (by omega))
    rw [List.length_append, List.length_cons] at hl ⊢
    omega
  · have e : rTh (.inr ((), s)) (rSgn T n 44) = (.inl (1, sk T n s.1) : rs Unit) := by
      show rB (rSgn T n 44 s) _ = _
      unfold rSgn
      rw [if_neg q]; rfl
    rw [e] at t2
    exact k_no (tkF_n t2) (zG_0 (by omega) (hF q M2 (qS_F q1 f2 t2)))
theorem B_comma {M0 : pm} {T : Nat → Nat} {n tk b : Nat} {x1 : Int32} {K : Int32 → pm → Prop} {Q : pm → Prop} {s : ts} {V W : List Nat} {o x : Nat} {C : List Nat} (hno : noOp T n s) (hV : ∀ x ∈ V, x < 20) (hx : x = 21 ∨ x = 22) (hb : b ≤ W.length) (hA : tS T n s = 44 → gA M0 T n tk b x1 K Q (tX T n s) ((x + 2) :: W) o (C ++ V)) (hF : tS T n s ≠ 44 → gF M0 x1 K (1, sk T n s.1)) : gB M0 T n tk b x1 K Q s (V ++ x :: W) o C := by
  intro M m nn h hl hm hn
  have hsn := h.2.1.2.1
  obtain ⟨nn, rfl⟩ : ∃ m', nn = m' + 1 := ⟨nn - 1, by omega⟩
  obtain ⟨m, rfl⟩ : ∃ m', m = m' + 1 := ⟨m - 1, by omega⟩
  obtain ⟨a1, a2, a3, a4⟩ := hno
  have hb1 : b ≤ (x :: W).length := by rw [List.length_cons]; omega
  refine B_41 h hV hb1 (Or.inr ⟨x, W, rfl, hx, hb⟩) (fun M1 q1 t1 => ?_)
  have p := B_326 hV hx hb hA hF q1 hl (by omega : n + 2 ≤ m + s.1) t1
  unfold w_X8_qGoesOn_122
  refine m_tSignL t1 42 (by decide) (by decide) (by decide) (by decide) (fun q => absurd q a1) (fun _ => k_yes' rfl (m_tSignL t1 47 (by decide) (by decide) (by decide) (by decide) (fun q => absurd q a2) (fun _ => k_yes rfl (m_tSignL t1 43 (by decide) (by decide) (by decide) (by decide) (fun q => absurd q a3) (fun _ => k_yes' rfl (m_tSignL t1 45 (by decide) (by decide) (by decide) (by decide) (fun q => absurd q a4) (fun _ => k_yes rfl ?_)))))))
  rcases hx with rfl | rfl
  · exact m_br q1 hV hb1 (Or.inr ⟨21, W, rfl, by omega, by omega, hb, k_yes rfl p⟩)
  · exact m_br q1 hV hb1 (Or.inr ⟨22, W, rfl, by omega, by omega, hb, k_no (by decide) (m_br q1 hV hb1 (Or.inr ⟨22, W, rfl, by omega, by omega, hb, k_yes' rfl p⟩))⟩)
theorem B_close {M0 : pm} {T : Nat → Nat} {n tk b : Nat} {x1 : Int32} {K : Int32 → pm → Prop} {Q : pm → Prop} {s : ts} {V W : List Nat} {o x : Nat} {C tl : List Nat} (h41 : tS T n s = 41) (hV : ∀ x ∈ V, x < 20) (hx : x = 20 ∧ tl = [] ∨ x = 23 ∧ tl = [5] ∨ x = 24 ∧ tl = [6]) (hb : b ≤ W.length) (hE : gE M0 T n tk b x1 K Q (tX T n s) W o (C ++ V ++ tl)) : gB M0 T n tk b x1 K Q s (V ++ x :: W) (o + 1) C := by
  intro M m nn h hl hm hn
  have hsn := h.2.1.2.1
  have h16 := h.2.1.1.2.1
  obtain ⟨nn, rfl⟩ : ∃ m', nn = m' + 1 := ⟨nn - 1, by omega⟩
  have hgt := op_k3 (T := T) (n := n) (by decide) h41
  have hle := tX_le (T := T) hsn
  have hb1 : b ≤ (x :: W).length := by rw [List.length_cons]; omega
  have hx24 : 20 ≤ x ∧ x ≤ 24 := by omega
  unfold zB w_X8_qGoesOn_0
  refine k_yes' h.2.1.2.2.1 (m_look h.2.1 (fun M1 f1 t1 => ?_))
  have e41 : lkV T n s = 41 ↔ tS T n s = 41 := lk_c t1.1.1 (c := 41) (by decide) (by decide) (by decide) (by decide)
  have q1 := qS_tok h f1 t1.1
  rw [e41]
  refine k_yes' h41 ?_
  have p43 : w_X8_qGoesOn_43 M1 (fun M => w_X8_qGoesOn_0 nn M (fun M34 => w_X8_qGoesOn_122 M34 (zG x1 K Q m)) (zG x1 K Q m)) (fun M34 => w_X8_qGoesOn_122 M34 (zG x1 K Q m)) (zG x1 K Q m) := by
    obtain ⟨f2, t2, _⟩ := m_passS t1 (tS_k (by decide) h41).1
    have q2 := qS_tok q1 f2 t2
    obtain ⟨M3, q3, r3⟩ := q_toBr hb1 (Or.inr ⟨x, W, rfl, hx24.1, hx24.2, hb⟩) V C _ q2 hV
    have h6 := q3.2.2.2.2.2.1
    have h7 := q3.2.2.2.2.2.2.1
    have h8 := q3.2.2.2.2.2.2.2.1
    have h13 := q3.2.2.2.2.2.2.2.2.2.2.2.2
    rw [List.length_cons] at h6 h13
    have q4 := qS_pop q3 hb
    have len : (C ++ V ++ tl).length + W.length ≤ (tX T n s).1 := by
      rw [List.length_append, List.length_append, List.length_cons] at *
      rcases hx with ⟨_, rfl⟩ | ⟨_, rfl⟩ | ⟨_, rfl⟩ <;> simp only [List.length_cons, List.length_nil] <;> omega
    unfold w_X8_qGoesOn_43
    refine r3 _ ?_
    rw [h6, h8, nI_pred, nI_pred, nI_clamp (by omega), h7.1]
    refine ⟨vp_in_nI (by omega) (by decide), ?_⟩
    rcases hx with ⟨rfl, rfl⟩ | ⟨rfl, rfl⟩ | ⟨rfl, rfl⟩
    · rw [List.append_nil] at hE len
      exact k_yes rfl (hE _ m nn _ q4 len (by omega) (by omega) (fun M' _ zb => zb))
    · obtain ⟨M5, q5, r5⟩ := q_code q4 (by omega) 5
      exact k_no (by decide) ⟨vp_in_nI (by omega) (by decide), k_yes' rfl (r5 _ (hE _ m nn _ q5 len (by omega) (by omega) (fun M' _ zb => zb)))⟩
    · obtain ⟨M5, q5, r5⟩ := q_code q4 (by omega) 6
      exact k_no (by decide) ⟨vp_in_nI (by omega) (by decide), k_no' (by decide) (r5 _ (hE _ m nn _ q5 len (by omega) (by omega) (fun M' _ zb => zb)))⟩
  rcases (show x = 20 ∨ x = 23 ∨ x = 24 from by omega) with rfl | rfl | rfl
  · exact m_br q1 hV hb1 (Or.inr ⟨20, W, rfl, by omega, by omega, hb, k_yes rfl p43⟩)
  · exact m_br q1 hV hb1 (Or.inr ⟨23, W, rfl, by omega, by omega, hb, k_no (by decide) (m_br q1 hV hb1 (Or.inr ⟨23, W, rfl, by omega, by omega, hb, k_yes rfl p43⟩))⟩)
  · exact m_br q1 hV hb1 (Or.inr ⟨24, W, rfl, by omega, by omega, hb, k_no (by decide) (m_br q1 hV hb1 (Or.inr ⟨24, W, rfl, by omega, by omega, hb, k_no (by decide) (m_br q1 hV hb1 (Or.inr ⟨24, W, rfl, by omega, by omega, hb, k_yes' rfl p43⟩))⟩))⟩)

