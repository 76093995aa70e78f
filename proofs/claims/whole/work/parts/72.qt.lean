/-! the reference reads TESTS: what it does at each token -/
def qF0 (M0 M : pm) (e : Nat × Nat) : Prop := fG fQ M0 M ∧ tkF M e
theorem qF0_n {M0 M : pm} {e : Nat × Nat} (h : qF0 M0 M e) : ¬ mI M 277 5 = 0 := tkF_n h.2
theorem qS_F0 {M0 M M' : pm} {T : Nat → Nat} {n tk : Nat} {s : ts} {W : List Nat} {o b : Nat} {C : List Nat} {e : Nat × Nat} (h : qS M0 M T n tk s W o b C) (f : fG fU M M') (t : tkF M' e) : qF0 M0 M' e := ⟨h.1.tr (fQ_U f), t⟩
theorem qF0_of {M0 M : pm} {e : Nat × Nat} (h : qF M0 M e) : qF0 M0 M e := ⟨h.1, h.2.1⟩
def zH (K Q : pm → Prop) (m : Nat) : Int32 → pm → Prop := fun y15 M14 => ((y15 = 0 → (w_X8_qTest_2 m 0 M14 K Q)) ∧ (¬ y15 = 0 → (w_X8_qTest_2 m 1 M14 K Q)))
def zN (K Q : pm → Prop) (m : Nat) : pm → Prop := fun M11 => ((¬ (mI M11 277 5) = 0 → (w_X8_qTest_2 m 0 M11 K Q)) ∧ ((mI M11 277 5) = 0 → (w_X8_qGoesOnTest M11 (zH K Q m))))
def zU (K Q : pm → Prop) (m nn : Nat) (M : pm) : Prop := w_X8_qGoesOnTest_0 nn M (fun M21 => w_X8_qGoesOnTest_76 M21 (zH K Q m)) (zH K Q m)
def gTA (M0 : pm) (T : Nat → Nat) (n tk : Nat) (K : pm → Prop) (Q : pm → Prop) (s : ts) (W : List Nat) (o : Nat) (C : List Nat) : Prop := ∀ (M : pm) (m : Nat), qS M0 M T n tk s W o 0 C → C.length + W.length ≤ s.1 → n + 3 ≤ m + s.1 → w_X8_qTest_2 m 1 M K Q
def gTB (M0 : pm) (T : Nat → Nat) (n tk : Nat) (K : pm → Prop) (Q : pm → Prop) (s : ts) (W : List Nat) (o : Nat) (C : List Nat) : Prop := ∀ (M : pm) (m nn : Nat), qS M0 M T n tk s W o 0 C → C.length + W.length ≤ s.1 → n + 3 ≤ m + s.1 → n + 3 ≤ nn + s.1 → zU K Q m nn M
def gTE (M0 : pm) (T : Nat → Nat) (n tk : Nat) (K : pm → Prop) (Q : pm → Prop) (s : ts) (W : List Nat) (o : Nat) (C : List Nat) : Prop := ∀ (M : pm) (m nn : Nat) (R : pm → Prop), qS M0 M T n tk s W o 0 C → C.length + W.length ≤ s.1 → n + 3 ≤ m + s.1 → n + 3 ≤ nn + s.1 → (∀ M', mI M' 277 5 = 0 → zU K Q m nn M' → R M') → w_X8_qDropsNots M R
def gTF (M0 : pm) (K : pm → Prop) (e : Nat × Nat) : Prop := ∀ M, qF0 M0 M e → K M
theorem zT_F {M0 : pm} {K Q : pm → Prop} {M : pm} {m : Nat} {e : Nat × Nat} (h : qF0 M0 M e) (hF : gTF M0 K e) (hm : 1 ≤ m) {x : Int32} : w_X8_qTest_2 m x M K Q := by
  obtain ⟨m, rfl⟩ : ∃ m', m = m' + 1 := ⟨m - 1, by omega⟩
  unfold w_X8_qTest_2
  exact ⟨fun _ => hF M h, fun _ => k_no' (qF0_n h) (hF M h)⟩
theorem zH_1 {K Q : pm → Prop} {M : pm} {m : Nat} (h : w_X8_qTest_2 m 1 M K Q) : zH K Q m 1 M := k_no (by decide) h
theorem zH_0 {K Q : pm → Prop} {M : pm} {m : Nat} (hm : 1 ≤ m) (h : K M) : zH K Q m 0 M := by
  obtain ⟨m, rfl⟩ : ∃ m', m = m' + 1 := ⟨m - 1, by omega⟩
  refine k_yes rfl ?_
  unfold w_X8_qTest_2
  exact k_yes rfl h
theorem gTE_12 {M0 : pm} {T : Nat → Nat} {n tk : Nat} {K : pm → Prop} {Q : pm → Prop} {s : ts} {W : List Nat} {o : Nat} {C : List Nat} (hE : gTE M0 T n tk K Q s W o (C ++ [12])) : gTE M0 T n tk K Q s (12 :: W) (o + 1) C := by
  intro M m nn R h hl hm hn k
  have ho := h.2.2.2.2.2.2.2.2.2.1
  have h8 := h.2.2.2.2.2.2.2.1
  obtain ⟨M2, s2, r2⟩ := q_drop (qS_o h (o' := o) (by omega)) (Nat.zero_le _)
  obtain ⟨q, hq⟩ := hE M2 m nn R s2 (by rw [List.length_append]; rw [List.length_cons] at hl; show C.length + 1 + W.length ≤ s.1; omega) hm hn k
  refine ⟨q + 1, ?_⟩
  unfold w_X8_qDropsNots_0
  refine k_yes' h.2.1.2.2.1 (m_isOn h (x := 12) (by decide) (fun _ => k_no (by decide) ?_) (fun z => absurd rfl z))
  rw [h8, nI_pred]
  exact r2 _ hq
theorem gTE_B {M0 : pm} {T : Nat → Nat} {n tk : Nat} {K : pm → Prop} {Q : pm → Prop} {s : ts} {W : List Nat} {o : Nat} {C : List Nat} (hB : gTB M0 T n tk K Q s W o C) (hW : W.head? ≠ some 12) : gTE M0 T n tk K Q s W o C := by
  intro M m nn R h hl hm hn k
  refine ⟨1, ?_⟩
  unfold w_X8_qDropsNots_0
  exact k_yes' h.2.1.2.2.1 (m_isOn h (x := 12) (by decide) (fun z => absurd z hW) (fun _ => k_yes rfl (k M h.2.1.2.2.1 (hB M m nn h hl hm hn))))
/-- behind a fact -/
theorem T_tail {M0 : pm} {T : Nat → Nat} {n tk : Nat} {K : pm → Prop} {Q : pm → Prop} {s : ts} {W : List Nat} {o : Nat} {C : List Nat} (hE : gTE M0 T n tk K Q s W o C) {M : pm} {m : Nat} (h : qS M0 M T n tk s W o 0 C) (hl : C.length + W.length ≤ s.1) (hm : n + 3 ≤ m + s.1) : w_X8_qDropsNots M (zN K Q m) := hE M m (n + 3) _ h hl hm (by omega) (fun M' b5 zu => k_yes' b5 ⟨n + 3, zu⟩)
theorem T_bad {M0 : pm} {K Q : pm → Prop} {M : pm} {m : Nat} {e : Nat × Nat} (h : qF0 M0 M e) (hF : gTF M0 K e) (hm : 1 ≤ m) : w_X8_qDropsNots M (zN K Q m) := ⟨1, k_no' (qF0_n h) (k_no' (qF0_n h) (zT_F h hF hm))⟩
theorem TA_fact {M0 : pm} {T : Nat → Nat} {n tk : Nat} {K : pm → Prop} {Q : pm → Prop} (htk : tk ≤ 2) {f o : Nat} (hf : rk 3 o ≤ f) {s : ts} {W : List Nat} {C : List Nat} (hW : nh4 W)
    (hsq : tS T n s = 91 → (o < 6 → gTA M0 T n tk K Q (tX T n s) (25 :: W) (o + 1) C) ∧ (¬ o < 6 → gTF M0 K (4, sk T n s.1)))
    (hno : kwN T n s = 24 → (o < 6 → gTA M0 T n tk K Q (tX T n s) (12 :: W) (o + 1) C) ∧ (¬ o < 6 → gTF M0 K (4, sk T n s.1)))
    (hal : kwN T n s = 25 → gTE M0 T n tk K Q (tX T n s) W o (C ++ [13]))
    (hsu : tS T n s ≠ 91 → kwN T n s ≠ 24 → kwN T n s ≠ 25 → (∀ e, spR T n tk f 3 o s = .inl e → gTF M0 K e) ∧ ∀ c1 s1, spR T n tk f 3 o s = .inr (c1, s1) → (opC T n s1 = 0 → gTF M0 K (1, sk T n s1.1)) ∧ (opC T n s1 ≠ 0 → (∀ e, spR T n tk f 3 o (tX T n s1) = .inl e → gTF M0 K e) ∧ ∀ c2 s2, spR T n tk f 3 o (tX T n s1) = .inr (c2, s2) → gTE M0 T n tk K Q s2 W o (C ++ (c1 ++ (c2 ++ [opC T n s1]))))) : gTA M0 T n tk K Q s W o C := by
  intro M m h hl hm
  have hsn := h.2.1.2.1
  have h16 := h.2.1.1.2.1
  have hn1 := tX_le (T := T) hsn
  obtain ⟨m, rfl⟩ : ∃ m', m = m' + 1 := ⟨m - 1, by omega⟩
  unfold w_X8_qTest_2
  refine k_no (by decide) (k_yes' h.2.1.2.2.1 (m_look h.2.1 (fun M1 f1 t1 => ?_)))
  have q1 := qS_tok h f1 t1.1
  have e91 : lkV T n s = 91 ↔ tS T n s = 91 := lk_c t1.1.1 (c := 91) (by decide) (by decide) (by decide) (by decide)
  rw [e91]
  refine ⟨fun p91 => m_isHereL t1 332 24 (by decide) (fun q24 => k_no (by decide) ?_) (fun q24 => k_yes rfl ?_), fun p91 => ?_⟩
  · have hh := hno q24
    have hgt := op_k1 (T := T) (n := n) (s := s) (by omega)
    have e : rTh (.inr ((), s)) (rWrd T n 24) = (.inr ((), tX T n s) : rs Unit) := by
      show rB (rWrd T n 24 s) _ = _
      unfold rWrd
      rw [if_pos q24]; rfl
    refine q_opens (x := 12) q1 (by decide) (by omega) t1.2 (fun h6 M2 _ q2 => ?_) (fun h6 M2 q2 => k_no' (qF_n q2) (zT_F (qF0_of q2) (hh.2 h6) (by omega)))
    refine m_asks (A := Unit) (r := .inr ((), s)) q2.2.1 332 24 (by decide) (fun M3 f3 t3 => ?_)
    rw [e] at t3
    exact hh.1 h6 M3 m (qS_tok q2 f3 t3) (by rw [List.length_cons]; omega) (by omega)
  · -- a fact
    unfold w_X8_qFact
    refine m_takesL t1 335 25 (by decide) (fun q25 M2 f2 t2 => k_no (by decide) ?_) (fun q25 => k_yes rfl ?_)
    · have hgt := op_k1 (T := T) (n := n) (s := s) (by omega)
      obtain ⟨M3, q3, r3⟩ := q_code (qS_tok q1 f2 t2) (by omega) 13
      refine r3 _ (T_tail (hal q25) q3 ?_ (by omega))
      rw [List.length_append]
      show C.length + 1 + W.length ≤ _
      omega
    · obtain ⟨hF, hS⟩ := hsu p91 q24 q25
      refine m_sums htk q1 hl hW hf (fun e M2 he q2 => k_no (qF_n q2) (T_bad (qF0_of q2) (hF e he) (by omega))) (fun c1 s1 M2 hr q2 => ?_)
      have g := (sp_ok f 3 o s c1 s1 hsn hr)
      obtain ⟨hc0, hc1⟩ := hS c1 s1 hr
      have l2 : (C ++ c1).length + W.length ≤ s1.1 := by
        rw [List.length_append]
        have := g.2.1
        omega
      have g1 := g.2.2.1
      have gl := g.2.1
      refine k_yes q2.2.1.2.2.1 (m_look q2.2.1 (fun M3 f3 t3 => ?_))
      have q3 := qS_tok q2 f3 t3.1
      have e60 : lkV T n s1 = 60 ↔ tS T n s1 = 60 := lk_c t3.1.1 (c := 60) (by decide) (by decide) (by decide) (by decide)
      have e62 : lkV T n s1 = 62 ↔ tS T n s1 = 62 := lk_c t3.1.1 (c := 62) (by decide) (by decide) (by decide) (by decide)
      have e61 : lkV T n s1 = 61 ↔ tS T n s1 = 61 := lk_c t3.1.1 (c := 61) (by decide) (by decide) (by decide) (by decide)
      have p63 : ∀ x, opC T n s1 = x → x ≠ 0 → tK T n s1 = 3 → (x = 7 ∧ tS T n s1 = 60 ∨ x = 8 ∧ tS T n s1 = 62 ∨ x = 9 ∧ tS T n s1 = 61) → w_X8_qFact_63 (lkV T n s1) M3 (fun M8 => w_X8_qDropsNots M8 (zN K Q m)) := by
        intro x ex x0 k3 hx
        obtain ⟨hF2, hS2⟩ := hc1 (by omega)
        have hgt := tX_gt (T := T) (n := n) (s := s1) (by omega)
        have hle := tX_le (T := T) g.1
        obtain ⟨f4, t4, _⟩ := m_passS t3 k3
        have q4 := qS_tok q3 f4 t4
        unfold w_X8_qFact_63
        rw [e60, e62]
        refine m_sums htk q4 (by omega) hW hf (fun e M5 he q5 => ?_) (fun c2 s2 M5 hr2 q5 => ?_)
        · have bad : ∀ y : Int32, w_X8_qCode y M5 (fun M14 => w_X8_qDropsNots M14 (zN K Q m)) := fun y => by
            obtain ⟨f5, t5, c, c1, c2⟩ := id q5
            unfold w_X8_qCode
            rw [c2, nI_clamp (by omega)]
            have q6 : qF0 M0 (sI (sI M5 349 c y) 277 96 (nI c + 1)) e := ⟨(f5.up (Or.inr (Or.inr (Or.inl rfl))) _).up (Or.inr (Or.inl ⟨rfl, Or.inl rfl⟩)) _, ⟨by rw [rI (by omega), rI (by omega)]; exact t5.1, by rw [rI (by omega), rI (by omega)]; exact t5.2.1, t5.2.2⟩⟩
            exact ⟨vp_in_nI (by omega) (by decide), T_bad q6 (hF2 e he) (by omega)⟩
          exact ⟨fun _ => ⟨fun _ => bad _, fun _ => bad _⟩, fun _ => bad _⟩
        · have g2 := sp_ok f 3 o _ c2 s2 hle hr2
          have gl2 := g2.2.1
          have g20 := g2.1
          obtain ⟨M6, q6, r6⟩ := q_code q5 (by rw [List.length_append]; omega) x
          have fin : w_X8_qCode (nI x) M5 (fun M14 => w_X8_qDropsNots M14 (zN K Q m)) := by
            refine r6 _ (T_tail (o := o) (W := W) (s := s2) ?_ q6 ?_ (by omega))
            · have := hS2 c2 s2 hr2
              rw [ex, ← List.append_assoc, ← List.append_assoc] at this
              exact this
            · rw [List.length_append, List.length_append]
              show (C ++ c1).length + c2.length + 1 + W.length ≤ _
              omega
          rcases hx with ⟨rfl, hx⟩ | ⟨rfl, hx⟩ | ⟨rfl, hx⟩
          · exact k_yes' hx fin
          · exact k_no' (by omega) (k_yes' hx fin)
          · exact k_no' (by omega) (k_no' (by omega) fin)
      rw [e60, e62, e61]
      refine ⟨fun z => p63 7 (by unfold opC; rw [if_pos z]) (by decide) (tS_k (by decide) z).1 (Or.inl ⟨rfl, z⟩), fun z1 => ⟨fun z => p63 8 (by unfold opC; rw [if_neg z1, if_pos z]) (by decide) (tS_k (by decide) z).1 (Or.inr (Or.inl ⟨rfl, z⟩)), fun z2 => ⟨fun z => p63 9 (by unfold opC; rw [if_neg z1, if_neg z2, if_pos z]) (by decide) (tS_k (by decide) z).1 (Or.inr (Or.inr ⟨rfl, z⟩)), fun z3 => ?_⟩⟩⟩
      refine m_fail t3.1.2.2.1 1 (sk T n s1.1) rfl t3.2 (by decide) (by decide) (fun M4 f4 t4 => T_bad (qS_F0 q3 f4 t4) (hc0 (by unfold opC; rw [if_neg z1, if_neg z2, if_neg z3])) (by omega))
  · have hh := hsq p91
    have hgt := op_k3 (T := T) (n := n) (by decide) p91
    refine q_opens (x := 25) q1 (by decide) (by omega) t1.2 (fun h6 M2 e2 q2 => ?_) (fun h6 M2 q2 => zT_F (qF0_of (qF_at q2 _)) (hh.2 h6) (by omega))
    have tl2 : tkL M2 T n s := ⟨q2.2.1, by rw [e2 2 (by decide) (by decide)]; exact t1.2⟩
    obtain ⟨f3, t3, _⟩ := m_passS tl2 (tS_k (by decide) p91).1
    exact hh.1 h6 _ m (qS_tok q2 f3 t3) (by rw [List.length_cons]; omega) (by omega)
/-! and behind a fact -/
theorem wt_mem {M : pm} : ∀ {W : List Nat}, wtM M W → ∀ x ∈ W, ∃ i, i < W.length ∧ mI M 350 i = nI x
  | [], _, x, hx => absurd hx List.not_mem_nil
  | y :: t, h, x, hx => by
    rcases List.mem_cons.mp hx with e | e
    · exact ⟨t.length, by rw [List.length_cons]; omega, by rw [e]; exact h.1⟩
    · obtain ⟨i, h1, h2⟩ := wt_mem h.2 x e
      exact ⟨i, by rw [List.length_cons]; omega, h2⟩
theorem wt_at {M : pm} : ∀ {W : List Nat}, wtM M W → ∀ i, i < W.length → ∃ x, x ∈ W ∧ mI M 350 i = nI x
  | [], _, i, hi => absurd hi (Nat.not_lt_zero _)
  | y :: t, h, i, hi => by
    by_cases e : i = t.length
    · exact ⟨y, List.mem_cons_self .., by rw [e]; exact h.1⟩
    · obtain ⟨x, h1, h2⟩ := wt_at h.2 i (by rw [List.length_cons] at hi; omega)
      exact ⟨x, List.mem_cons_of_mem _ h1, h2⟩
theorem m_hasSq {M0 M : pm} {T : Nat → Nat} {n tk : Nat} {s : ts} {W : List Nat} {o b : Nat} {C : List Nat} (h : qS M0 M T n tk s W o b C) {Q : Int32 → pm → Prop} (k1 : 25 ∈ W → Q 1 M) (k0 : 25 ∉ W → Q 0 M) : w_X8_qHasSquare M Q := by
  obtain ⟨h1, h2, h3, h4, h5, h6, h7, h8, h9, h10, h11, h12, h13⟩ := h
  have key : ∀ d m i, i + d = W.length → d < m → (∀ j, j < i → mI M 350 j ≠ nI 25) → w_X8_qHasSquare_2 m (nI i) M Q := by
    intro d
    induction d with
    | zero =>
      intro m i hi hm hj
      obtain ⟨m, rfl⟩ : ∃ m', m = m' + 1 := ⟨m - 1, by omega⟩
      unfold w_X8_qHasSquare_2
      rw [h6]
      refine k_yes (nI_le (by omega) (by omega)) (k0 (fun z => ?_))
      obtain ⟨j, j1, j2⟩ := wt_mem h7 25 z
      exact hj j (by omega) j2
    | succ d ih =>
      intro m i hi hm hj
      obtain ⟨m, rfl⟩ : ∃ m', m = m' + 1 := ⟨m - 1, by omega⟩
      obtain ⟨x, x1, x2⟩ := wt_at h7 i (by omega)
      have x60 := h12 x x1
      unfold w_X8_qHasSquare_2
      rw [h6, nI_clamp (by omega), x2, nI_1]
      refine k_no (nI_ge (by omega) (by omega)) ⟨vp_in_nI (by omega) (by decide), pk_ne x 25 (fun q => ih m (i + 1) (by omega) (by omega) (fun j hj2 => ?_)) (fun q => k1 (by rw [← q]; exact x1))⟩
      by_cases e : j = i
      · rw [e, x2]; exact fun z => q ((nI_eq (b := 25) (by omega) (by decide)).mp z)
      · exact hj j (by omega)
  exact ⟨W.length + 1, key W.length _ 0 (by omega) (by omega) (fun j hj => absurd hj (Nat.not_lt_zero _))⟩
/-- drops while what is on top is one of them -/
theorem q_d87 {M0 : pm} {T : Nat → Nat} {n tk : Nat} {s : ts} {W : List Nat} {o : Nat} (hW : W.head? ≠ some 10) : ∀ (V C : List Nat) (M : pm), qS M0 M T n tk s (V ++ W) o 0 C → (∀ x ∈ V, x = 10) → ∃ M', qS M0 M' T n tk s W o 0 (C ++ V) ∧ ∀ (K : pm → Prop) (Q : Int32 → pm → Prop), K M' → ∃ m, w_X8_qGoesOnTest_87 m M K Q
  | [], C, M, h, hv => ⟨M, by rw [List.append_nil]; exact h, fun K Q k => ⟨1, m_isOn h (x := 10) (by decide) (fun q => absurd q hW) (fun _ => k_yes rfl k)⟩⟩
  | v :: V, C, M, h, hv => by
    obtain ⟨M1, s1, r1⟩ := q_drop (x := v) (W := V ++ W) h (Nat.zero_le _)
    obtain ⟨M2, s2, r2⟩ := q_d87 hW V (C ++ [v]) M1 s1 (fun x hx => hv x (List.mem_cons_of_mem _ hx))
    refine ⟨M2, by rw [app_cons]; exact s2, fun K Q k => ?_⟩
    obtain ⟨m, hm⟩ := r2 K Q k
    refine ⟨m + 1, ?_⟩
    have v10 := hv v (List.mem_cons_self ..)
    unfold w_X8_qGoesOnTest_87
    exact m_isOn h (x := 10) (by decide) (fun q => k_no (by decide) (r1 _ hm)) (fun q => absurd (by rw [v10]; rfl) q)
theorem q_d137 {M0 : pm} {T : Nat → Nat} {n tk : Nat} {s : ts} {W : List Nat} {o : Nat} (hW : W.head? ≠ some 10 ∧ W.head? ≠ some 11) : ∀ (V C : List Nat) (M : pm), qS M0 M T n tk s (V ++ W) o 0 C → (∀ x ∈ V, x = 10 ∨ x = 11) → ∃ M', qS M0 M' T n tk s W o 0 (C ++ V) ∧ ∀ (K : pm → Prop) (Q : Int32 → pm → Prop), K M' → ∃ m, w_X8_qGoesOnTest_137 m M K Q
  | [], C, M, h, hv => ⟨M, by rw [List.append_nil]; exact h, fun K Q k => ⟨1, m_isOn h (x := 10) (by decide) (fun q => absurd q hW.1) (fun _ => k_yes' rfl (m_isOn h (x := 11) (by decide) (fun q => absurd q hW.2) (fun _ => k_yes rfl k)))⟩⟩
  | v :: V, C, M, h, hv => by
    obtain ⟨M1, s1, r1⟩ := q_drop (x := v) (W := V ++ W) h (Nat.zero_le _)
    obtain ⟨M2, s2, r2⟩ := q_d137 hW V (C ++ [v]) M1 s1 (fun x hx => hv x (List.mem_cons_of_mem _ hx))
    refine ⟨M2, by rw [app_cons]; exact s2, fun K Q k => ?_⟩
    obtain ⟨m, hm⟩ := r2 K Q k
    refine ⟨m + 1, ?_⟩
    have hd : (v :: V ++ W).head? = some v := rfl
    have v34 := hv v (List.mem_cons_self ..)
    unfold w_X8_qGoesOnTest_137
    refine m_isOn h (x := 10) (by decide) (fun q => k_no' (by decide) (r1 _ hm)) (fun q => k_yes' rfl (m_isOn h (x := 11) (by decide) (fun q2 => k_no (by decide) (r1 _ hm)) (fun q2 => ?_)))
    rw [hd] at q q2
    rcases v34 with e | e
    · exact absurd (by rw [e]) q
    · exact absurd (by rw [e]) q2
theorem q_d33 {M0 : pm} {T : Nat → Nat} {n tk : Nat} {s : ts} {W : List Nat} {o : Nat} : ∀ (V C : List Nat) (M : pm), qS M0 M T n tk s (V ++ 25 :: W) o 0 C → (∀ x ∈ V, x = 10 ∨ x = 11) → ∃ M', qS M0 M' T n tk s (25 :: W) o 0 (C ++ V) ∧ ∀ (K : pm → Prop) (Q : Int32 → pm → Prop), K M' → ∃ m, w_X8_qGoesOnTest_33 m M K Q
  | [], C, M, h, hv => ⟨M, by rw [List.append_nil]; exact h, fun K Q k => ⟨1, m_isOn h (x := 25) (by decide) (fun _ => k_no' (by decide) k) (fun q => absurd rfl q)⟩⟩
  | v :: V, C, M, h, hv => by
    obtain ⟨M1, s1, r1⟩ := q_drop (x := v) (W := V ++ 25 :: W) h (Nat.zero_le _)
    obtain ⟨M2, s2, r2⟩ := q_d33 V (C ++ [v]) M1 s1 (fun x hx => hv x (List.mem_cons_of_mem _ hx))
    refine ⟨M2, by rw [app_cons]; exact s2, fun K Q k => ?_⟩
    obtain ⟨m, hm⟩ := r2 K Q k
    refine ⟨m + 1, ?_⟩
    have v34 := hv v (List.mem_cons_self ..)
    unfold w_X8_qGoesOnTest_33
    exact m_isOn h (x := 25) (by decide) (fun q => by have := Option.some.inj (q : some v = some 25); omega) (fun q => k_yes' rfl (r1 _ hm))
theorem q_d110 {M0 : pm} {T : Nat → Nat} {n tk : Nat} {s : ts} {o : Nat} : ∀ (V C : List Nat) (M : pm), qS M0 M T n tk s V o 0 C → ∃ M', qS M0 M' T n tk s [] o 0 (C ++ V) ∧ ∀ (Q : pm → Prop), Q M' → ∃ m, w_X8_qTest_110 m M Q
  | [], C, M, h => by
    refine ⟨M, by rw [List.append_nil]; exact h, fun Q k => ⟨1, ?_⟩⟩
    unfold w_X8_qTest_110
    rw [h.2.2.2.2.2.1]
    exact k_yes' h.2.1.2.2.1 (k_yes (by decide) k)
  | v :: V, C, M, h => by
    obtain ⟨M1, s1, r1⟩ := q_drop h (Nat.zero_le _)
    obtain ⟨M2, s2, r2⟩ := q_d110 V (C ++ [v]) M1 s1
    refine ⟨M2, by rw [app_cons]; exact s2, fun Q k => ?_⟩
    obtain ⟨m, hm⟩ := r2 Q k
    refine ⟨m + 1, ?_⟩
    have h13 := h.2.2.2.2.2.2.2.2.2.2.2.2
    rw [List.length_cons] at h13
    unfold w_X8_qTest_110
    rw [h.2.2.2.2.2.1, List.length_cons]
    exact k_yes' h.2.1.2.2.1 (k_no (nI_nle (by omega) (by omega)) (r1 _ hm))
theorem TB_76 {M0 : pm} {T : Nat → Nat} {n tk : Nat} {K : pm → Prop} {Q : pm → Prop} {s : ts} {U : List Nat} {o : Nat} {C : List Nat} {M : pm} {m nn : Nat} (h : qS M0 M T n tk s U o 0 C) (hc : tS T n s ≠ 93 ∨ 25 ∉ U) (k : ∀ M1, qS M0 M1 T n tk s U o 0 C → tkL M1 T n s → w_X8_qGoesOnTest_76 M1 (zH K Q m)) : zU K Q m (nn + 1) M := by
  unfold zU w_X8_qGoesOnTest_0
  refine k_yes' h.2.1.2.2.1 (m_look h.2.1 (fun M1 f1 t1 => ?_))
  have e93 : lkV T n s = 93 ↔ tS T n s = 93 := lk_c t1.1.1 (c := 93) (by decide) (by decide) (by decide) (by decide)
  have q1 := qS_tok h f1 t1.1
  rw [e93]
  exact ⟨fun _ => k M1 q1 t1, fun z => m_hasSq q1 (fun y => absurd y (hc.resolve_left (fun w => w z))) (fun _ => k_yes rfl (k M1 q1 t1))⟩
theorem TB_push {M0 : pm} {T : Nat → Nat} {n tk : Nat} {K : pm → Prop} {Q : pm → Prop} {s : ts} {X : List Nat} {o : Nat} {C : List Nat} {op : Nat} (hA : gTA M0 T n tk K Q s (op :: X) o C) (hop : op ≤ 60) {M : pm} {m : Nat} (h : qS M0 M T n tk s X o 0 C) (hl : C.length + X.length < s.1) (hm : n + 3 ≤ m + s.1) {y : Int32} (hy : y = nI op) : vp_in (mI M 277 98) 1700 ∧ (zH K Q m 1 (sI (sI M 350 ((mI M 277 98).toNatClampNeg) y) 277 98 ((mI M 277 98) + 1))) := by
  have h13 := h.2.2.2.2.2.2.2.2.2.2.2.2
  have hsn := h.2.1.2.1
  have h16 := h.2.1.1.2.1
  rw [h.2.2.2.2.2.1, nI_clamp (by omega), nI_1, hy]
  have q2 := qS_push h hop (by omega)
  exact ⟨vp_in_nI (by omega) (by decide), zH_1 (hA _ m q2 (by rw [List.length_cons]; omega) hm)⟩
theorem TB_and {M0 : pm} {T : Nat → Nat} {n tk : Nat} {K : pm → Prop} {Q : pm → Prop} {s : ts} {V X : List Nat} {o : Nat} {C : List Nat} (hop : kwN T n s = 23) (hV : ∀ x ∈ V, x = 10) (hX : X.head? ≠ some 10) (hA : gTA M0 T n tk K Q (tX T n s) (10 :: X) o (C ++ V)) : gTB M0 T n tk K Q s (V ++ X) o C := by
  intro M m nn h hl hm hn
  have hsn := h.2.1.2.1
  obtain ⟨nn, rfl⟩ : ∃ m', nn = m' + 1 := ⟨nn - 1, by omega⟩
  have hgt := op_k1 (T := T) (n := n) (s := s) (by omega)
  have k1 := (kwN_1 (T := T) (n := n) (s := s) (by omega)).1
  have t0 : tS T n s = 0 := by unfold tS; rw [if_neg (by omega)]
  refine TB_76 h (Or.inl (by omega)) (fun M1 q1 t1 => ?_)
  unfold w_X8_qGoesOnTest_76
  refine m_takesL t1 333 23 (by decide) (fun _ M2 f2 t2 => k_no (by decide) ?_) (fun q => absurd hop q)
  obtain ⟨M3, q3, r3⟩ := q_d87 hX V C M2 (qS_tok q1 f2 t2) hV
  refine r3 _ _ (TB_push hA (by decide) q3 ?_ (by omega) rfl)
  rw [List.length_append] at hl ⊢
  omega
theorem TB_or {M0 : pm} {T : Nat → Nat} {n tk : Nat} {K : pm → Prop} {Q : pm → Prop} {s : ts} {V W : List Nat} {o : Nat} {C : List Nat} (hop : kwN T n s = 22) (hV : ∀ x ∈ V, x = 10 ∨ x = 11) (hW : W.head? ≠ some 10 ∧ W.head? ≠ some 11) (hA : gTA M0 T n tk K Q (tX T n s) (11 :: W) o (C ++ V)) : gTB M0 T n tk K Q s (V ++ W) o C := by
  intro M m nn h hl hm hn
  have hsn := h.2.1.2.1
  obtain ⟨nn, rfl⟩ : ∃ m', nn = m' + 1 := ⟨nn - 1, by omega⟩
  have hgt := op_k1 (T := T) (n := n) (s := s) (by omega)
  have k1 := (kwN_1 (T := T) (n := n) (s := s) (by omega)).1
  have t0 : tS T n s = 0 := by unfold tS; rw [if_neg (by omega)]
  refine TB_76 h (Or.inl (by omega)) (fun M1 q1 t1 => ?_)
  unfold w_X8_qGoesOnTest_76
  refine m_takesL t1 333 23 (by decide) (fun q => absurd q (by omega)) (fun q => k_yes rfl (m_takesL t1 334 22 (by decide) (fun _ M2 f2 t2 => k_no (by decide) ?_) (fun q => absurd hop q)))
  obtain ⟨M3, q3, r3⟩ := q_d137 hW V C M2 (qS_tok q1 f2 t2) hV
  refine r3 _ _ (TB_push hA (by decide) q3 ?_ (by omega) rfl)
  rw [List.length_append] at hl ⊢
  omega
def noT (T : Nat → Nat) (n : Nat) (s : ts) : Prop := kwN T n s ≠ 23 ∧ kwN T n s ≠ 22
theorem TB_end {M0 : pm} {T : Nat → Nat} {n tk : Nat} {K : pm → Prop} {Q : pm → Prop} {s : ts} {V : List Nat} {o : Nat} {C : List Nat} (hno : noT T n s) (hV : ∀ x ∈ V, x = 10 ∨ x = 11) (hK : ∀ M, qS M0 M T n tk s V o 0 C → K M) : gTB M0 T n tk K Q s V o C := by
  intro M m nn h hl hm hn
  have hsn := h.2.1.2.1
  obtain ⟨nn, rfl⟩ : ∃ m', nn = m' + 1 := ⟨nn - 1, by omega⟩
  have n25 : 25 ∉ V := fun z => by have := hV 25 z; omega
  refine TB_76 h (Or.inr n25) (fun M1 q1 t1 => ?_)
  unfold w_X8_qGoesOnTest_76
  exact m_takesL t1 333 23 (by decide) (fun q => absurd q hno.1) (fun _ => k_yes rfl (m_takesL t1 334 22 (by decide) (fun q => absurd q hno.2) (fun _ => k_yes rfl (k_yes' t1.1.2.2.1 (m_hasSq q1 (fun y => absurd y n25) (fun _ => k_yes rfl (zH_0 (by omega) (hK M1 q1))))))))
theorem TB_fail {M0 : pm} {T : Nat → Nat} {n tk : Nat} {K : pm → Prop} {Q : pm → Prop} {s : ts} {V W : List Nat} {o : Nat} {C : List Nat} (hno : noT T n s) (h93 : tS T n s ≠ 93) (hF : gTF M0 K (1, sk T n s.1)) : gTB M0 T n tk K Q s (V ++ 25 :: W) o C := by
  intro M m nn h hl hm hn
  have hsn := h.2.1.2.1
  obtain ⟨nn, rfl⟩ : ∃ m', nn = m' + 1 := ⟨nn - 1, by omega⟩
  refine TB_76 h (Or.inl h93) (fun M1 q1 t1 => ?_)
  have i25 : 25 ∈ V ++ 25 :: W := List.mem_append.mpr (Or.inr (List.mem_cons_self ..))
  unfold w_X8_qGoesOnTest_76
  exact m_takesL t1 333 23 (by decide) (fun q => absurd q hno.1) (fun _ => k_yes rfl (m_takesL t1 334 22 (by decide) (fun q => absurd q hno.2) (fun _ => k_yes rfl (k_yes' t1.1.2.2.1 (m_hasSq q1 (fun _ => k_no (by decide) (m_fail t1.1.2.2.1 1 (sk T n s.1) rfl t1.2 (by decide) (by decide) (fun M2 f2 t2 => zH_0 (by omega) (hF M2 (qS_F0 q1 f2 t2))))) (fun y => absurd i25 y))))))
theorem TB_close {M0 : pm} {T : Nat → Nat} {n tk : Nat} {K : pm → Prop} {Q : pm → Prop} {s : ts} {V W : List Nat} {o : Nat} {C : List Nat} (h93 : tS T n s = 93) (hV : ∀ x ∈ V, x = 10 ∨ x = 11) (hE : gTE M0 T n tk K Q (tX T n s) W o (C ++ V)) : gTB M0 T n tk K Q s (V ++ 25 :: W) (o + 1) C := by
  intro M m nn h hl hm hn
  have hsn := h.2.1.2.1
  have hle := tX_le (T := T) hsn
  obtain ⟨nn, rfl⟩ : ∃ m', nn = m' + 1 := ⟨nn - 1, by omega⟩
  have hgt := op_k3 (T := T) (n := n) (by decide) h93
  have i25 : 25 ∈ V ++ 25 :: W := List.mem_append.mpr (Or.inr (List.mem_cons_self ..))
  unfold zU w_X8_qGoesOnTest_0
  refine k_yes' h.2.1.2.2.1 (m_look h.2.1 (fun M1 f1 t1 => ?_))
  have e93 : lkV T n s = 93 ↔ tS T n s = 93 := lk_c t1.1.1 (c := 93) (by decide) (by decide) (by decide) (by decide)
  have q1 := qS_tok h f1 t1.1
  rw [e93]
  refine k_yes' h93 (m_hasSq q1 (fun _ => k_no (by decide) ?_) (fun y => absurd i25 y))
  obtain ⟨f2, t2, _⟩ := m_passS t1 (tS_k (by decide) h93).1
  have q2 := qS_tok q1 f2 t2
  obtain ⟨M3, q3, r3⟩ := q_d33 V C _ q2 hV
  refine r3 _ _ ?_
  have h6 := q3.2.2.2.2.2.1
  have h8 := q3.2.2.2.2.2.2.2.1
  rw [List.length_cons] at h6
  have e9 : mI (sI M3 277 98 (mI M3 277 98 - 1)) 277 99 = mI M3 277 99 := rI (by omega)
  rw [h6, h8, nI_pred, nI_pred]
  have q4 := qS_pop q3 (Nat.zero_le _)
  refine hE _ m nn _ q4 ?_ (by omega) (by omega) (fun M' _ zu => zu)
  rw [List.length_append, List.length_cons] at hl
  rw [List.length_append]
  omega

