/-! the reference's pile of what waits -/
def fQ (a k : Nat) : Prop := fU a k ∨ (a = 277 ∧ (k = 96 ∨ k = 98 ∨ k = 99 ∨ k = 100)) ∨ a = 349 ∨ a = 350
theorem fQ_U {M M' : pm} (f : fG fU M M') : fG fQ M M' := ⟨f.1, f.2.1, f.2.2.1, fun a k h => f.2.2.2 a k (fun q => h (Or.inl q))⟩
/-- what waits, the topmost first -/
def wtM (M : pm) : List Nat → Prop
  | [] => True
  | x :: t => mI M 350 t.length = nI x ∧ wtM M t
theorem wtM_c {M M' : pm} (e : mI M' 350 = mI M 350) : ∀ {W : List Nat}, wtM M W → wtM M' W
  | [], _ => trivial
  | x :: t, h => ⟨by rw [e]; exact h.1, wtM_c e h.2⟩
theorem wtM_up {M : pm} {k : Nat} {v : Int32} : ∀ {W : List Nat}, W.length ≤ k → wtM M W → wtM (sI M 350 k v) W
  | [], _, _ => trivial
  | x :: t, h, hs => ⟨by rw [rI (by rw [List.length_cons] at h; omega)]; exact hs.1, wtM_up (by rw [List.length_cons] at h; omega) hs.2⟩
def cdM (M : pm) (C : List Nat) : Prop := ∀ i c, C[i]? = some c → mI M 349 i = nI c
/-- a state of its reading -/
def qS (M0 M : pm) (T : Nat → Nat) (n tk : Nat) (s : ts) (W : List Nat) (o b : Nat) (C : List Nat) : Prop :=
  fG fQ M0 M ∧ tkM M T n s ∧ mI M 277 51 = nI tk ∧ mI M 277 96 = nI C.length ∧ cdM M C ∧ mI M 277 98 = nI W.length ∧ wtM M W ∧ mI M 277 99 = nI o ∧ mI M 277 100 = nI b ∧ o ≤ 6 ∧ b ≤ W.length ∧ (∀ x ∈ W, x ≤ 60) ∧ C.length + W.length ≤ 1601
/-- behind a fault -/
def qF (M0 M : pm) (e : Nat × Nat) : Prop := fG fQ M0 M ∧ tkF M e ∧ ∃ c, c ≤ 1602 ∧ mI M 277 96 = nI c
theorem qS_tok {M0 M M' : pm} {T : Nat → Nat} {n tk : Nat} {s s' : ts} {W : List Nat} {o b : Nat} {C : List Nat} (h : qS M0 M T n tk s W o b C) (f : fG fU M M') (t : tkM M' T n s') : qS M0 M' T n tk s' W o b C := by
  obtain ⟨h1, h2, h3, h4, h5, h6, h7, h8, h9, h10⟩ := h
  have e : ∀ k, k ≠ 2 → k ≠ 4 → k ≠ 5 → k ≠ 6 → k ≠ 38 → mI M' 277 k = mI M 277 k := fun k a1 a2 a3 a4 a5 => f.2.2.2 277 k (by unfold fU; omega)
  have e349 : mI M' 349 = mI M 349 := f.row (fun k => by unfold fU; omega)
  have e350 : mI M' 350 = mI M 350 := f.row (fun k => by unfold fU; omega)
  exact ⟨h1.tr (fQ_U f), t, by rw [e 51 (by decide) (by decide) (by decide) (by decide) (by decide)]; exact h3, by rw [e 96 (by decide) (by decide) (by decide) (by decide) (by decide)]; exact h4, fun i c hi => by rw [e349]; exact h5 i c hi, by rw [e 98 (by decide) (by decide) (by decide) (by decide) (by decide)]; exact h6, wtM_c e350 h7, by rw [e 99 (by decide) (by decide) (by decide) (by decide) (by decide)]; exact h8, by rw [e 100 (by decide) (by decide) (by decide) (by decide) (by decide)]; exact h9, h10⟩
theorem qS_F {M0 M M' : pm} {T : Nat → Nat} {n tk : Nat} {s : ts} {W : List Nat} {o b : Nat} {C : List Nat} {e : Nat × Nat} (h : qS M0 M T n tk s W o b C) (f : fG fU M M') (t : tkF M' e) : qF M0 M' e := by
  obtain ⟨h1, h2, h3, h4, h5, h6, h7, h8, h9, h10, h11, h12, h13⟩ := h
  exact ⟨h1.tr (fQ_U f), t, C.length, by omega, by rw [f.2.2.2 277 96 (by unfold fU; omega)]; exact h4⟩
/-- other fields of the reference -/
theorem tkM_q {M M' : pm} {T : Nat → Nat} {n : Nat} {s : ts} (e : ∀ a k, (a = 277 ∧ (k = 2 ∨ k = 3 ∨ k = 4 ∨ k = 5 ∨ k = 6)) ∨ a = 278 ∨ (280 ≤ a ∧ a < 308) ∨ (326 ≤ a ∧ a < 349) → mI M' a k = mI M a k) (h : tkM M T n s) : tkM M' T n s := by
  obtain ⟨h1, h2, h3, h4, h5, z, z1, z2, z3, z4⟩ := h
  exact ⟨txM_c (funext fun k => e 278 k (by omega)) (fun a ha => funext fun k => e a k (by omega)) (e 277 3 (by omega)) h1, h2, by rw [e 277 5 (by omega)]; exact h3, by rw [e 277 6 (by omega)]; exact h4, by rw [e 277 2 (by omega)]; exact h5, z, z1, z2, by rw [e 277 4 (by omega)]; exact z3, z4⟩
theorem q_code {M0 M : pm} {T : Nat → Nat} {n tk : Nat} {s : ts} {W : List Nat} {o b : Nat} {C : List Nat} (h : qS M0 M T n tk s W o b C) (hl : C.length + W.length < 1601) (x : Nat) : ∃ M', qS M0 M' T n tk s W o b (C ++ [x]) ∧ ∀ R : pm → Prop, R M' → w_X8_qCode (nI x) M R := by
  obtain ⟨h1, h2, h3, h4, h5, h6, h7, h8, h9, h10, h11, h12, h13⟩ := h
  refine ⟨sI (sI M 349 C.length (nI x)) 277 96 (nI (C.length + 1)), ⟨(h1.up (Or.inr (Or.inr (Or.inl rfl))) _).up (Or.inr (Or.inl ⟨rfl, Or.inl rfl⟩)) _, tkM_q (fun a k hk => by rw [rI (by omega), rI (by omega)]) h2, ?_, ?_, fun i c hi => ?_, ?_, ?_, ?_, ?_, h10, h11, h12, ?_⟩, fun R k => ?_⟩
  · rw [rI (by omega), rI (by omega)]; exact h3
  · rw [rIs, List.length_append]; rfl
  · by_cases q : i < C.length
    · rw [List.getElem?_append_left q] at hi
      rw [rI (by omega), rI (by omega)]; exact h5 i c hi
    · rw [List.getElem?_append_right (by omega)] at hi
      have e : i - C.length = 0 := by
        have := (List.getElem?_eq_some_iff.mp hi).1
        simp only [List.length_cons, List.length_nil] at this
        omega
      rw [e] at hi
      cases hi
      rw [rI (by omega), show i = C.length from by omega, rIs]
  · rw [rI (by omega), rI (by omega)]; exact h6
  · exact wtM_c (by rw [mI_off (by decide), mI_off (by decide)]) h7
  · rw [rI (by omega), rI (by omega)]; exact h8
  · rw [rI (by omega), rI (by omega)]; exact h9
  · rw [List.length_append]; show C.length + 1 + W.length ≤ 1601; omega
  · unfold w_X8_qCode
    rw [h4, nI_clamp (by omega), nI_1]
    exact ⟨vp_in_nI (by omega) (by decide), k⟩
theorem q_drop {M0 M : pm} {T : Nat → Nat} {n tk : Nat} {s : ts} {x : Nat} {W : List Nat} {o b : Nat} {C : List Nat} (h : qS M0 M T n tk s (x :: W) o b C) (hb : b ≤ W.length) : ∃ M', qS M0 M' T n tk s W o b (C ++ [x]) ∧ ∀ R : pm → Prop, R M' → w_X8_qDrops M R := by
  obtain ⟨h1, h2, h3, h4, h5, h6, h7, h8, h9, h10, h11, h12, h13⟩ := h
  rw [List.length_cons] at h6 h13
  have q1 : qS M0 (sI M 277 98 (nI W.length)) T n tk s W o b C := by
    refine ⟨h1.up (Or.inr (Or.inl ⟨rfl, Or.inr (Or.inl rfl)⟩)) _, tkM_q (fun a k hk => by rw [rI (by omega)]) h2, ?_, ?_, fun i c hi => ?_, ?_, wtM_c (mI_off (by decide)) h7.2, ?_, ?_, h10, hb, fun y hy => h12 y (List.mem_cons_of_mem _ hy), by omega⟩
    · rw [rI (by omega)]; exact h3
    · rw [rI (by omega)]; exact h4
    · rw [rI (by omega)]; exact h5 i c hi
    · exact rIs _ _ _ _
    · rw [rI (by omega)]; exact h8
    · rw [rI (by omega)]; exact h9
  obtain ⟨M', s', r'⟩ := q_code q1 (by omega) x
  refine ⟨M', s', fun R k => ?_⟩
  unfold w_X8_qDrops
  rw [h6, nI_pred, nI_clamp (by omega), h7.1]
  exact ⟨vp_in_nI (by omega) (by decide), r' _ k⟩
/-- other ways to take from the pile, to put on it, and to count what is open -/
theorem qS_pop {M0 M : pm} {T : Nat → Nat} {n tk : Nat} {s : ts} {x : Nat} {W : List Nat} {o b : Nat} {C : List Nat} (h : qS M0 M T n tk s (x :: W) (o + 1) b C) (hb : b ≤ W.length) : qS M0 (sI (sI M 277 98 (nI W.length)) 277 99 (nI o)) T n tk s W o b C := by
  obtain ⟨h1, h2, h3, h4, h5, h6, h7, h8, h9, h10, h11, h12, h13⟩ := h
  rw [List.length_cons] at h6 h13
  refine ⟨(h1.up (Or.inr (Or.inl ⟨rfl, by omega⟩)) _).up (Or.inr (Or.inl ⟨rfl, by omega⟩)) _, tkM_q (fun a k hk => by rw [rI (by omega), rI (by omega)]) h2, ?_, ?_, fun i c hi => ?_, ?_, wtM_c (by rw [mI_off (by decide), mI_off (by decide)]) h7.2, rIs _ _ _ _, ?_, by omega, hb, fun y hy => h12 y (List.mem_cons_of_mem _ hy), by omega⟩
  · rw [rI (by omega), rI (by omega)]; exact h3
  · rw [rI (by omega), rI (by omega)]; exact h4
  · rw [rI (by omega), rI (by omega)]; exact h5 i c hi
  · rw [rI (by omega)]; exact rIs _ _ _ _
  · rw [rI (by omega), rI (by omega)]; exact h9
theorem qS_o {M0 M : pm} {T : Nat → Nat} {n tk : Nat} {s : ts} {W : List Nat} {o o' b : Nat} {C : List Nat} (h : qS M0 M T n tk s W o b C) (ho : o' ≤ 6) : qS M0 (sI M 277 99 (nI o')) T n tk s W o' b C := by
  obtain ⟨h1, h2, h3, h4, h5, h6, h7, h8, h9, h10, h11, h12, h13⟩ := h
  refine ⟨h1.up (Or.inr (Or.inl ⟨rfl, by omega⟩)) _, tkM_q (fun a k hk => by rw [rI (by omega)]) h2, ?_, ?_, fun i c hi => ?_, ?_, wtM_c (mI_off (by decide)) h7, rIs _ _ _ _, ?_, ho, h11, h12, h13⟩
  · rw [rI (by omega)]; exact h3
  · rw [rI (by omega)]; exact h4
  · rw [rI (by omega)]; exact h5 i c hi
  · rw [rI (by omega)]; exact h6
  · rw [rI (by omega)]; exact h9
theorem qS_b {M0 M : pm} {T : Nat → Nat} {n tk : Nat} {s : ts} {W : List Nat} {o b b' : Nat} {C : List Nat} (h : qS M0 M T n tk s W o b C) (hb : b' ≤ W.length) : qS M0 (sI M 277 100 (nI b')) T n tk s W o b' C := by
  obtain ⟨h1, h2, h3, h4, h5, h6, h7, h8, h9, h10, h11, h12, h13⟩ := h
  refine ⟨h1.up (Or.inr (Or.inl ⟨rfl, by omega⟩)) _, tkM_q (fun a k hk => by rw [rI (by omega)]) h2, ?_, ?_, fun i c hi => ?_, ?_, wtM_c (mI_off (by decide)) h7, ?_, rIs _ _ _ _, h10, hb, h12, h13⟩
  · rw [rI (by omega)]; exact h3
  · rw [rI (by omega)]; exact h4
  · rw [rI (by omega)]; exact h5 i c hi
  · rw [rI (by omega)]; exact h6
  · rw [rI (by omega)]; exact h8
theorem qS_push {M0 M : pm} {T : Nat → Nat} {n tk : Nat} {s : ts} {W : List Nat} {o b : Nat} {C : List Nat} (h : qS M0 M T n tk s W o b C) {x : Nat} (hx : x ≤ 60) (hl : C.length + W.length < 1601) : qS M0 (sI (sI M 350 W.length (nI x)) 277 98 (nI (W.length + 1))) T n tk s (x :: W) o b C := by
  obtain ⟨h1, h2, h3, h4, h5, h6, h7, h8, h9, h10, h11, h12, h13⟩ := h
  refine ⟨(h1.up (Or.inr (Or.inr (Or.inr rfl))) _).up (Or.inr (Or.inl ⟨rfl, by omega⟩)) _, tkM_q (fun a k hk => by rw [rI (by omega), rI (by omega)]) h2, ?_, ?_, fun i c hi => ?_, rIs _ _ _ _, ⟨?_, wtM_c (mI_off (by decide)) (wtM_up (Nat.le_refl _) h7)⟩, ?_, ?_, h10, ?_, fun y hy => ?_, ?_⟩
  · rw [rI (by omega), rI (by omega)]; exact h3
  · rw [rI (by omega), rI (by omega)]; exact h4
  · rw [rI (by omega), rI (by omega)]; exact h5 i c hi
  · rw [rI (by omega)]; exact rIs _ _ _ _
  · rw [rI (by omega), rI (by omega)]; exact h8
  · rw [rI (by omega), rI (by omega)]; exact h9
  · rw [List.length_cons]; omega
  · rcases List.mem_cons.mp hy with e | e
    · omega
    · exact h12 y e
  · rw [List.length_cons]; omega
/-- the topmost replaced -/
theorem qS_top {M0 M : pm} {T : Nat → Nat} {n tk : Nat} {s : ts} {x y : Nat} {W : List Nat} {o b : Nat} {C : List Nat} (h : qS M0 M T n tk s (x :: W) o b C) (hy : y ≤ 60) : qS M0 (sI M 350 W.length (nI y)) T n tk s (y :: W) o b C := by
  obtain ⟨h1, h2, h3, h4, h5, h6, h7, h8, h9, h10, h11, h12, h13⟩ := h
  refine ⟨h1.up (Or.inr (Or.inr (Or.inr rfl))) _, tkM_q (fun a k hk => by rw [rI (by omega)]) h2, ?_, ?_, fun i c hi => ?_, ?_, ⟨rIs _ _ _ _, wtM_up (Nat.le_refl _) h7.2⟩, ?_, ?_, h10, h11, fun z hz => ?_, h13⟩
  · rw [rI (by omega)]; exact h3
  · rw [rI (by omega)]; exact h4
  · rw [rI (by omega)]; exact h5 i c hi
  · rw [rI (by omega)]; exact h6
  · rw [rI (by omega)]; exact h8
  · rw [rI (by omega)]; exact h9
  · rcases List.mem_cons.mp hz with e | e
    · omega
    · exact h12 z (List.mem_cons_of_mem _ e)
theorem q_opens {M0 M : pm} {T : Nat → Nat} {n tk : Nat} {s : ts} {W : List Nat} {o b : Nat} {C : List Nat} (h : qS M0 M T n tk s W o b C) {x : Nat} (hx : x ≤ 60) (hl : C.length + W.length < 1601) {y : Int32} {p : Nat} (hy : y = nI p) {R : pm → Prop} (k1 : o < 6 → ∀ M', (∀ k, k ≠ 98 → k ≠ 99 → mI M' 277 k = mI M 277 k) → qS M0 M' T n tk s (x :: W) (o + 1) b C → R M') (k0 : ¬ o < 6 → ∀ M', qF M0 M' (4, p) → R M') : w_X8_qOpens (nI x) y M R := by
  obtain ⟨h1, h2, h3, h4, h5, h6, h7, h8, h9, h10, h11, h12, h13⟩ := id h
  refine k_yes h2.2.2.1 ?_
  rw [h8, h6, nI_clamp (by omega), nI_1, nI_1]
  refine pk_ne o 6 (fun q => ⟨vp_in_nI (by omega) (by decide), k1 (by omega) _ (fun k a1 a2 => ?_) ?_⟩) (fun q => m_fail h2.2.2.1 4 p rfl hy (by decide) (by decide) (fun M1 f1 t1 => k0 (by omega) M1 (qS_F h f1 t1)))
  · rw [rI (by omega), rI (by omega), rI (by omega)]
  · exact qS_push (qS_o h (o' := o + 1) (by omega)) hx hl
theorem m_isOn {M0 M : pm} {T : Nat → Nat} {n tk : Nat} {s : ts} {W : List Nat} {o b : Nat} {C : List Nat} (h : qS M0 M T n tk s W o b C) {x : Nat} (hx : x ≤ 60) {Q : Int32 → pm → Prop} (k1 : W.head? = some x → Q 1 M) (k0 : W.head? ≠ some x → Q 0 M) : w_X8_qIsOn (nI x) M Q := by
  obtain ⟨h1, h2, h3, h4, h5, h6, h7, h8, h9, h10, h11, h12, h13⟩ := h
  unfold w_X8_qIsOn
  rw [h6]
  match W, h7, h12, h13, k1, k0 with
  | [], h7, h12, h13, k1, k0 => exact k_yes (by decide) (k0 (fun q => by cases q))
  | y :: t, h7, h12, h13, k1, k0 =>
    rw [List.length_cons] at h13 ⊢
    have hy := h12 y (List.mem_cons_self ..)
    rw [nI_pred, nI_clamp (by omega), h7.1]
    refine k_no (nI_nle (by omega) (by omega)) ⟨vp_in_nI (by omega) (by decide), pk_ne y x (fun q => k0 (fun z => ?_)) (fun q => k1 (by rw [q]; rfl))⟩
    exact q (Option.some.inj z)
/-- brackets -/
theorem m_brB {M0 M : pm} {T : Nat → Nat} {n tk : Nat} {s : ts} {o b : Nat} {C : List Nat} {U : List Nat} (h : qS M0 M T n tk s U o b C) {Q : Int32 → pm → Prop} : ∀ (V : List Nat) (W : List Nat) (m : Nat), wtM M (V ++ W) → (∀ x ∈ V, x < 20) → (V ++ W).length ≤ 1601 → b ≤ W.length → V.length < m → (W.length = b ∧ Q (-1) M ∨ ∃ x W1, W = x :: W1 ∧ 20 ≤ x ∧ x ≤ 24 ∧ b ≤ W1.length ∧ Q (nI x) M) → w_X8_qBracket_7 m (lI (V ++ W).length) M Q
  | [], W, m, hw, hv, hl, hb, hm, hk => by
    obtain ⟨m, rfl⟩ : ∃ m', m = m' + 1 := ⟨m - 1, by omega⟩
    obtain ⟨h1, h2, h3, h4, h5, h6, h7, h8, h9, h10, h11, h12, h13⟩ := h
    rw [List.nil_append] at hw hl ⊢
    unfold w_X8_qBracket_7
    rw [h9]
    rcases hk with ⟨e, k⟩ | ⟨x, W1, rfl, x1, x2, e, k⟩
    · have : lI W.length < nI b := by
        unfold lI
        rw [← zI_n, zI_lt (by omega) (by omega) (by omega) (by omega)]; omega
      exact k_yes this (k_yes this k)
    · rw [List.length_cons] at hl ⊢
      have e1 : lI (W1.length + 1) = nI W1.length := by unfold lI; rw [← zI_n]; congr 1; omega
      rw [e1, nI_clamp (by omega), hw.1]
      refine k_no (nI_nlt e (by omega)) ⟨vp_in_nI (by omega) (by decide), k_no (nI_nlt (b := 20) x1 (by omega)) (k_no (nI_nlt (a := 24) x2 (by decide)) (k_no' (by decide) (k_no ?_ ⟨vp_in_nI (by omega) (by decide), ?_⟩)))⟩
      · rw [h9]; exact nI_nlt e (by omega)
      · rw [hw.1]; exact k
  | v :: V, W, m, hw, hv, hl, hb, hm, hk => by
    rw [List.length_cons] at hm
    obtain ⟨m, rfl⟩ : ∃ m', m = m' + 1 := ⟨m - 1, by omega⟩
    have hw : wtM M (v :: (V ++ W)) := hw
    have h9 := h.2.2.2.2.2.2.2.2.1
    have hlen : (v :: V ++ W).length = (V ++ W).length + 1 := rfl
    rw [hlen] at hl ⊢
    have hge : b ≤ (V ++ W).length := by rw [List.length_append]; omega
    have e1 : lI ((V ++ W).length + 1) = nI (V ++ W).length := by unfold lI; rw [← zI_n]; congr 1; omega
    have e2 : nI (V ++ W).length + (-1) = lI (V ++ W).length := by
      unfold lI
      rw [← zI_n, show (-1 : Int32) = zI (-1) from rfl, zI_add]; rfl
    have v20 := hv v (List.mem_cons_self ..)
    unfold w_X8_qBracket_7
    rw [e1, h9, nI_clamp (by omega), hw.1, e2]
    refine k_no (nI_nlt hge (by omega)) ⟨vp_in_nI (by omega) (by decide), k_yes (nI_lt (b := 20) v20 (by decide)) (k_yes' rfl ?_)⟩
    exact m_brB h V W m hw.2 (fun x hx => hv x (List.mem_cons_of_mem _ hx)) (by omega) hb (by omega) hk
theorem m_br {M0 M : pm} {T : Nat → Nat} {n tk : Nat} {s : ts} {V W : List Nat} {o b : Nat} {C : List Nat} (h : qS M0 M T n tk s (V ++ W) o b C) (hv : ∀ x ∈ V, x < 20) (hb : b ≤ W.length) {Q : Int32 → pm → Prop} (hk : W.length = b ∧ Q (-1) M ∨ ∃ x W1, W = x :: W1 ∧ 20 ≤ x ∧ x ≤ 24 ∧ b ≤ W1.length ∧ Q (nI x) M) : w_X8_qBracket M Q := by
  refine ⟨V.length + 1, ?_⟩
  have h7 := h.2.2.2.2.2.2.1
  have h13 := h.2.2.2.2.2.2.2.2.2.2.2.2
  rw [h.2.2.2.2.2.1]
  have e : nI (V ++ W).length - 1 = lI (V ++ W).length := by
    unfold lI
    rw [← zI_n, show (1 : Int32) = zI 1 from rfl, zI_sub]
  rw [e]
  exact m_brB h V W _ h7 hv (by omega) hb (by omega) hk
theorem app_cons (C : List Nat) (x : Nat) (V : List Nat) : C ++ x :: V = C ++ [x] ++ V := by rw [List.append_assoc]; rfl
/-- down to a bracket -/
theorem q_toBr {M0 : pm} {T : Nat → Nat} {n tk : Nat} {s : ts} {W : List Nat} {o b : Nat} (hb : b ≤ W.length) (hW : W.length = b ∨ ∃ x W1, W = x :: W1 ∧ 20 ≤ x ∧ x ≤ 24 ∧ b ≤ W1.length) : ∀ (V C : List Nat) (M : pm), qS M0 M T n tk s (V ++ W) o b C → (∀ x ∈ V, x < 20) → ∃ M', qS M0 M' T n tk s W o b (C ++ V) ∧ ∀ R : pm → Prop, R M' → w_X8_qDropsToBracket M R
  | [], C, M, h, hv => by
    refine ⟨M, by rw [List.append_nil]; exact h, fun R k => ⟨1, ?_⟩⟩
    obtain ⟨h1, h2, h3, h4, h5, h6, h7, h8, h9, h10, h11, h12, h13⟩ := h
    rw [List.nil_append] at h6 h7 h13
    unfold w_X8_qDropsToBracket_0
    rw [h6, h9]
    rcases hW with e | ⟨x, W1, rfl, x1, x2, e⟩
    · exact k_yes (nI_le (by omega) (by omega)) k
    · rw [List.length_cons] at h13 ⊢
      rw [nI_pred, nI_clamp (by omega), h7.1]
      exact k_no (nI_ge (by omega) (by omega)) ⟨vp_in_nI (by omega) (by decide), k_no (nI_nlt (b := 20) x1 (by omega)) (k_no (nI_nlt (a := 24) x2 (by decide)) (k_no' (by decide) k))⟩
  | v :: V, C, M, h, hv => by
    have hle : b ≤ (V ++ W).length := by rw [List.length_append]; omega
    obtain ⟨M1, s1, r1⟩ := q_drop (x := v) (W := V ++ W) h hle
    obtain ⟨M2, s2, r2⟩ := q_toBr hb hW V (C ++ [v]) M1 s1 (fun x hx => hv x (List.mem_cons_of_mem _ hx))
    refine ⟨M2, by rw [app_cons]; exact s2, fun R k => ?_⟩
    obtain ⟨m, hm⟩ := r2 R k
    refine ⟨m + 1, ?_⟩
    obtain ⟨h1, h2, h3, h4, h5, h6, h7, h8, h9, h10, h11, h12, h13⟩ := h
    have h6 : mI M 277 98 = nI ((V ++ W).length + 1) := h6
    have h7 : wtM M (v :: (V ++ W)) := h7
    have h13 : C.length + ((V ++ W).length + 1) ≤ 1601 := h13
    have v20 := hv v (List.mem_cons_self ..)
    unfold w_X8_qDropsToBracket_0
    rw [h6, h9, nI_pred, nI_clamp (by omega), h7.1]
    exact k_no (nI_ge (by omega) (by omega)) ⟨vp_in_nI (by omega) (by decide), k_yes (nI_lt (b := 20) v20 (by decide)) (k_yes' rfl (r1 _ hm))⟩
/-- what is dropped ahead of * and / -/
theorem q_d162 {M0 : pm} {T : Nat → Nat} {n tk : Nat} {s : ts} {W : List Nat} {o b : Nat} (hb : b ≤ W.length) (hW : W.head? ≠ some 3 ∧ W.head? ≠ some 4) : ∀ (V C : List Nat) (M : pm), qS M0 M T n tk s (V ++ W) o b C → (∀ x ∈ V, x = 3 ∨ x = 4) → ∃ M', qS M0 M' T n tk s W o b (C ++ V) ∧ ∀ (x1 : Int32) (K : Int32 → pm → Prop) (Q : Int32 → pm → Prop), K x1 M' → ∃ m, w_X8_qGoesOn_162 m x1 M K Q
  | [], C, M, h, hv => ⟨M, by rw [List.append_nil]; exact h, fun x1 K Q k => ⟨1, m_isOn h (x := 3) (by decide) (fun q => absurd q hW.1) (fun _ => k_yes' rfl (m_isOn h (x := 4) (by decide) (fun q => absurd q hW.2) (fun _ => k_yes rfl k)))⟩⟩
  | v :: V, C, M, h, hv => by
    have hle : b ≤ (V ++ W).length := by rw [List.length_append]; omega
    obtain ⟨M1, s1, r1⟩ := q_drop (x := v) (W := V ++ W) h hle
    obtain ⟨M2, s2, r2⟩ := q_d162 hb hW V (C ++ [v]) M1 s1 (fun x hx => hv x (List.mem_cons_of_mem _ hx))
    refine ⟨M2, by rw [app_cons]; exact s2, fun x1 K Q k => ?_⟩
    obtain ⟨m, hm⟩ := r2 x1 K Q k
    refine ⟨m + 1, ?_⟩
    have v34 := hv v (List.mem_cons_self ..)
    have hd : (v :: V ++ W).head? = some v := rfl
    unfold w_X8_qGoesOn_162
    refine m_isOn h (x := 3) (by decide) (fun q => k_no' (by decide) (r1 _ hm)) (fun q => k_yes' rfl (m_isOn h (x := 4) (by decide) (fun q2 => k_no (by decide) (r1 _ hm)) (fun q2 => ?_)))
    rw [hd] at q q2
    rcases v34 with e | e
    · exact absurd (by rw [e]) q
    · exact absurd (by rw [e]) q2
/-- ahead of + and - -/
theorem q_d247 {M0 : pm} {T : Nat → Nat} {n tk : Nat} {s : ts} {W : List Nat} {o b : Nat} (hb : b ≤ W.length) (hW : W.head? ≠ some 1 ∧ W.head? ≠ some 2 ∧ W.head? ≠ some 3 ∧ W.head? ≠ some 4) : ∀ (V C : List Nat) (M : pm), qS M0 M T n tk s (V ++ W) o b C → (∀ x ∈ V, 1 ≤ x ∧ x ≤ 4) → ∃ M', qS M0 M' T n tk s W o b (C ++ V) ∧ ∀ (x1 : Int32) (K : Int32 → pm → Prop) (Q : Int32 → pm → Prop), K x1 M' → ∃ m, w_X8_qGoesOn_247 m x1 M K Q
  | [], C, M, h, hv => ⟨M, by rw [List.append_nil]; exact h, fun x1 K Q k => ⟨1, m_isOn h (x := 3) (by decide) (fun q => absurd q hW.2.2.1) (fun _ => k_yes' rfl (m_isOn h (x := 4) (by decide) (fun q => absurd q hW.2.2.2) (fun _ => k_yes' rfl (m_isOn h (x := 1) (by decide) (fun q => absurd q hW.1) (fun _ => k_yes' rfl (m_isOn h (x := 2) (by decide) (fun q => absurd q hW.2.1) (fun _ => k_yes rfl k)))))))⟩⟩
  | v :: V, C, M, h, hv => by
    have hle : b ≤ (V ++ W).length := by rw [List.length_append]; omega
    obtain ⟨M1, s1, r1⟩ := q_drop (x := v) (W := V ++ W) h hle
    obtain ⟨M2, s2, r2⟩ := q_d247 hb hW V (C ++ [v]) M1 s1 (fun x hx => hv x (List.mem_cons_of_mem _ hx))
    refine ⟨M2, by rw [app_cons]; exact s2, fun x1 K Q k => ?_⟩
    obtain ⟨m, hm⟩ := r2 x1 K Q k
    refine ⟨m + 1, ?_⟩
    have v34 := hv v (List.mem_cons_self ..)
    have hd : (v :: V ++ W).head? = some v := rfl
    unfold w_X8_qGoesOn_247
    refine m_isOn h (x := 3) (by decide) (fun q => k_no' (by decide) (r1 _ hm)) (fun q => k_yes' rfl (m_isOn h (x := 4) (by decide) (fun q2 => k_no' (by decide) (r1 _ hm)) (fun q2 => k_yes' rfl (m_isOn h (x := 1) (by decide) (fun q3 => k_no' (by decide) (r1 _ hm)) (fun q3 => k_yes' rfl (m_isOn h (x := 2) (by decide) (fun q4 => k_no (by decide) (r1 _ hm)) (fun q4 => ?_)))))))
    rw [hd] at q q2 q3 q4
    rcases (show v = 1 ∨ v = 2 ∨ v = 3 ∨ v = 4 from by omega) with e | e | e | e
    · exact absurd (by rw [e]) q3
    · exact absurd (by rw [e]) q4
    · exact absurd (by rw [e]) q
    · exact absurd (by rw [e]) q2
/-- all that stands above the base -/
theorem q_d53 {M0 : pm} {T : Nat → Nat} {n tk : Nat} {s : ts} {W : List Nat} {o b : Nat} (hb : W.length = b) : ∀ (V C : List Nat) (M : pm), qS M0 M T n tk s (V ++ W) o b C → ∃ M', qS M0 M' T n tk s W o b (C ++ V) ∧ ∀ (x1 : Int32) (Q : pm → Prop), Q (sI M' 277 100 x1) → ∃ m, w_X8_qSums_53 m x1 M Q
  | [], C, M, h => by
    refine ⟨M, by rw [List.append_nil]; exact h, fun x1 Q k => ⟨1, ?_⟩⟩
    obtain ⟨h1, h2, h3, h4, h5, h6, h7, h8, h9, h10, h11, h12, h13⟩ := h
    rw [List.nil_append] at h6 h13
    unfold w_X8_qSums_53
    rw [h6, h9]
    exact k_yes' h2.2.2.1 (k_yes (nI_le (by omega) (by omega)) k)
  | v :: V, C, M, h => by
    have hle : b ≤ (V ++ W).length := by rw [List.length_append]; omega
    obtain ⟨M1, s1, r1⟩ := q_drop (x := v) (W := V ++ W) h hle
    obtain ⟨M2, s2, r2⟩ := q_d53 hb V (C ++ [v]) M1 s1
    refine ⟨M2, by rw [app_cons]; exact s2, fun x1 Q k => ?_⟩
    obtain ⟨m, hm⟩ := r2 x1 Q k
    refine ⟨m + 1, ?_⟩
    obtain ⟨h1, h2, h3, h4, h5, h6, h7, h8, h9, h10, h11, h12, h13⟩ := h
    have h6 : mI M 277 98 = nI ((V ++ W).length + 1) := h6
    have h13 : C.length + ((V ++ W).length + 1) ≤ 1601 := h13
    unfold w_X8_qSums_53
    rw [h6, h9]
    exact k_yes' h2.2.2.1 (k_no (nI_ge (by omega) (by omega)) (r1 _ hm))
