/-! the reference reads TESTS, as they are -/
theorem both_end {T : Nat → Nat} {n tk o : Nat} (h16 : n ≤ 1600) : ∀ (f : Nat) (s : ts) (c : List Nat) (s' : ts), s.1 ≤ n → spR T n tk f 1 o s = .inr (c, s') → opA T n s' = 0
  | 0, s, c, s', hn, h => by unfold spR at h; cases h
  | f + 1, s, c, s', hn, h => by
    unfold spR at h
    exact lp_ends (Or.inr (Or.inl rfl)) h16 hn h
theorem test_end {T : Nat → Nat} {n tk o : Nat} (h16 : n ≤ 1600) : ∀ (f : Nat) (s : ts) (c : List Nat) (s' : ts), s.1 ≤ n → spR T n tk f 0 o s = .inr (c, s') → noT T n s'
  | 0, s, c, s', hn, h => by unfold spR at h; cases h
  | f + 1, s, c, s', hn, h => by
    unfold spR at h
    have e1 := lp_ends (Or.inl rfl) h16 hn h
    have e2 : opA T n s' = 0 ∧ s'.1 ≤ n := by
      cases h1 : spR T n tk f 1 o s with
      | inl e => rw [h1, lp_l] at h; cases h
      | inr x =>
        obtain ⟨c1, s1⟩ := x
        have h2 := h
        rw [h1] at h2
        have hg := hG_sp (T := T) (n := n) (tk := tk) f 1 o
        have key : ∀ (d : Nat) (c1 : List Nat) (s1 : ts), (opA T n s1 = 0 ∧ s1.1 ≤ n) → lp (opO T n) (tX T n) (spR T n tk f 1 o) d (.inr (c1, s1)) = .inr (c, s') → opA T n s' = 0 ∧ s'.1 ≤ n := by
          intro d
          induction d with
          | zero =>
            intro c1 s1 hP h
            have h : (.inr (c1, s1) : rs (List Nat)) = .inr (c, s') := h
            cases h; exact hP
          | succ d ih =>
            intro c1 s1 hP h
            by_cases q : opO T n s1 = 0
            · rw [lp_no (d + 1) q] at h
              cases h; exact hP
            · rw [lp_go d q] at h
              cases hr : spR T n tk f 1 o (tX T n s1) with
              | inl e => rw [hr] at h; rw [show rB (.inl e) _ = (.inl e : rs (List Nat)) from rfl, lp_l] at h; cases h
              | inr x =>
                obtain ⟨c2, s2⟩ := x
                rw [hr] at h
                exact ih _ s2 ⟨both_end h16 f _ c2 s2 (tX_le hP.2) hr, (hg _ c2 s2 (tX_le hP.2) hr).2⟩ h
        exact key 1600 c1 s1 ⟨both_end h16 f s c1 s1 hn h1, (hg s c1 s1 hn h1).2⟩ h2
    unfold opO at e1
    unfold opA at e2
    refine ⟨fun q => ?_, fun q => ?_⟩
    · rw [if_pos q] at e2; exact absurd e2.1 (by decide)
    · rw [if_pos q] at e1; exact absurd e1 (by decide)
def T2 (M0 : pm) (T : Nat → Nat) (n tk : Nat) (K : pm → Prop) (Q : pm → Prop) (f o : Nat) : Prop := ∀ (s : ts) (W C : List Nat), s.1 ≤ n → nh4 W → (∀ e, spR T n tk f 2 o s = .inl e → gTF M0 K e) → (∀ c s', spR T n tk f 2 o s = .inr (c, s') → gTE M0 T n tk K Q s' W o (C ++ c)) → gTA M0 T n tk K Q s W o C
def T1 (M0 : pm) (T : Nat → Nat) (n tk : Nat) (K : pm → Prop) (Q : pm → Prop) (f o : Nat) : Prop := ∀ (s : ts) (X C : List Nat), s.1 ≤ n → nh4 X → (X.head? ≠ some 10 ∧ X.head? ≠ some 12) → (∀ e, spR T n tk f 1 o s = .inl e → gTF M0 K e) → (∀ c s', spR T n tk f 1 o s = .inr (c, s') → ∀ C0 V, C ++ c = C0 ++ V → (∀ x ∈ V, x = 10) → gTB M0 T n tk K Q s' (V ++ X) o C0) → gTA M0 T n tk K Q s X o C
def T0 (M0 : pm) (T : Nat → Nat) (n tk : Nat) (K : pm → Prop) (Q : pm → Prop) (f o : Nat) : Prop := ∀ (s : ts) (W C : List Nat), s.1 ≤ n → nh4 W → (W.head? ≠ some 10 ∧ W.head? ≠ some 11 ∧ W.head? ≠ some 12) → (∀ e, spR T n tk f 0 o s = .inl e → gTF M0 K e) → (∀ c s', spR T n tk f 0 o s = .inr (c, s') → ∀ C0 V, C ++ c = C0 ++ V → (∀ x ∈ V, x = 10 ∨ x = 11) → gTB M0 T n tk K Q s' (V ++ W) o C0) → gTA M0 T n tk K Q s W o C
theorem q_lpA {M0 : pm} {T : Nat → Nat} {n tk : Nat} {K : pm → Prop} {Q : pm → Prop} {f o : Nat} (h2 : T2 M0 T n tk K Q f o) {X C : List Nat} (hX4 : nh4 X) (hX : X.head? ≠ some 10) : ∀ (d : Nat) (c1 : List Nat) (s1 : ts), s1.1 ≤ n → (∀ e, lp (opA T n) (tX T n) (spR T n tk f 2 o) d (.inr (c1, s1)) = .inl e → gTF M0 K e) → (∀ c s', lp (opA T n) (tX T n) (spR T n tk f 2 o) d (.inr (c1, s1)) = .inr (c, s') → ∀ C0 V, C ++ c = C0 ++ V → (∀ x ∈ V, x = 10) → gTB M0 T n tk K Q s' (V ++ X) o C0) → ∀ C0 V, C ++ c1 = C0 ++ V → (∀ x ∈ V, x = 10) → gTB M0 T n tk K Q s1 (V ++ X) o C0
  | 0, c1, s1, hn, hF, hS => hS c1 s1 rfl
  | d + 1, c1, s1, hn, hF, hS => fun C0 V hCV hV => by
    by_cases q : opA T n s1 = 0
    · exact hS c1 s1 (lp_no (d + 1) q) C0 V hCV hV
    · rw [lp_go d q] at hF hS
      have hop : kwN T n s1 = 23 ∧ opA T n s1 = 10 := by
        unfold opA at q ⊢
        split at q
        · rename_i z; rw [if_pos z]; exact ⟨z, rfl⟩
        · exact absurd rfl q
      rw [hop.2] at hF hS
      refine TB_and hop.1 hV hX (h2 _ _ _ (tX_le hn) (nh_x (by decide)) (fun e he => hF e (by rw [he]; exact lp_l d)) (fun c2 s2 h2' => gTE_B ?_ (fun z => by cases z)))
      have g := (hG_sp (T := T) (n := n) (tk := tk) f 2 o _ c2 s2 (tX_le hn) h2').2
      rw [h2'] at hF hS
      have := q_lpA h2 hX4 hX d (c1 ++ (c2 ++ [10])) s2 g hF hS (C0 ++ V ++ c2) [10] (by rw [← List.append_assoc, ← List.append_assoc, hCV]) (fun x hx => List.mem_singleton.mp hx)
      exact this
theorem T1_of {M0 : pm} {T : Nat → Nat} {n tk : Nat} {K : pm → Prop} {Q : pm → Prop} {f o : Nat} (h2 : T2 M0 T n tk K Q f o) : T1 M0 T n tk K Q (f + 1) o := by
  intro s X C hn h4 hX hF hS
  unfold spR at hF hS
  refine h2 s X C hn h4 (fun e he => hF e (by rw [he]; exact lp_l 1600)) (fun c1 s1 h1 => gTE_B ?_ hX.2)
  have g := (hG_sp (T := T) (n := n) (tk := tk) f 2 o _ c1 s1 hn h1).2
  rw [h1] at hF hS
  exact q_lpA h2 h4 hX.1 1600 c1 s1 g hF hS (C ++ c1) [] (by rw [List.append_nil]) (fun x hx => absurd hx List.not_mem_nil)
theorem q_lpO {M0 : pm} {T : Nat → Nat} {n tk : Nat} {K : pm → Prop} {Q : pm → Prop} {f o : Nat} (h1 : T1 M0 T n tk K Q f o) {W C : List Nat} (hW : W.head? ≠ some 10 ∧ W.head? ≠ some 11) : ∀ (d : Nat) (c1 : List Nat) (s1 : ts), s1.1 ≤ n → (∀ e, lp (opO T n) (tX T n) (spR T n tk f 1 o) d (.inr (c1, s1)) = .inl e → gTF M0 K e) → (∀ c s', lp (opO T n) (tX T n) (spR T n tk f 1 o) d (.inr (c1, s1)) = .inr (c, s') → ∀ C0 V, C ++ c = C0 ++ V → (∀ x ∈ V, x = 10 ∨ x = 11) → gTB M0 T n tk K Q s' (V ++ W) o C0) → ∀ C0 V, C ++ c1 = C0 ++ V → (∀ x ∈ V, x = 10 ∨ x = 11) → gTB M0 T n tk K Q s1 (V ++ W) o C0
  | 0, c1, s1, hn, hF, hS => hS c1 s1 rfl
  | d + 1, c1, s1, hn, hF, hS => fun C0 V hCV hV => by
    by_cases q : opO T n s1 = 0
    · exact hS c1 s1 (lp_no (d + 1) q) C0 V hCV hV
    · rw [lp_go d q] at hF hS
      have hop : kwN T n s1 = 22 ∧ opO T n s1 = 11 := by
        unfold opO at q ⊢
        split at q
        · rename_i z; rw [if_pos z]; exact ⟨z, rfl⟩
        · exact absurd rfl q
      rw [hop.2] at hF hS
      refine TB_or hop.1 hV hW (h1 _ _ _ (tX_le hn) (nh_x (by decide)) ⟨fun z => (by cases z), fun z => (by cases z)⟩ (fun e he => hF e (by rw [he]; exact lp_l d)) (fun c2 s2 h2 C0' V' hCV' hV' => ?_))
      have g := (hG_sp (T := T) (n := n) (tk := tk) f 1 o _ c2 s2 (tX_le hn) h2).2
      rw [h2] at hF hS
      have := q_lpO h1 hW d (c1 ++ (c2 ++ [11])) s2 g hF hS C0' (V' ++ [11]) (by rw [← List.append_assoc, ← List.append_assoc, hCV, hCV', List.append_assoc]) (fun x hx => by
        rcases List.mem_append.mp hx with hx | hx
        · exact Or.inl (hV' x hx)
        · exact Or.inr (List.mem_singleton.mp hx))
      rw [List.append_assoc] at this
      exact this
theorem T0_of {M0 : pm} {T : Nat → Nat} {n tk : Nat} {K : pm → Prop} {Q : pm → Prop} {f o : Nat} (h1 : T1 M0 T n tk K Q f o) : T0 M0 T n tk K Q (f + 1) o := by
  intro s W C hn h4 hW hF hS
  unfold spR at hF hS
  refine h1 s W C hn h4 ⟨hW.1, hW.2.2⟩ (fun e he => hF e (by rw [he]; exact lp_l 1600)) (fun c1 s1 hr C0 V hCV hV => ?_)
  have g := (hG_sp (T := T) (n := n) (tk := tk) f 1 o _ c1 s1 hn hr).2
  rw [hr] at hF hS
  exact q_lpO h1 ⟨hW.1, hW.2.1⟩ 1600 c1 s1 g hF hS C0 V hCV (fun x hx => Or.inl (hV x hx))
theorem T2_of {M0 : pm} {T : Nat → Nat} {n tk : Nat} {K : pm → Prop} {Q : pm → Prop} (htk : tk ≤ 2) (h16 : n ≤ 1600) {f o : Nat} (hf : rk 3 o ≤ f) (h2 : o < 6 → T2 M0 T n tk K Q f (o + 1)) (h0 : o < 6 → T0 M0 T n tk K Q f (o + 1)) : T2 M0 T n tk K Q (f + 1) o := by
  intro s W C hn h4 hF hS
  have hn1 := tX_le (T := T) hn
  have hF : ∀ e, pFct T n (spR T n tk f 2) (spR T n tk f 0) (spR T n tk f 3) o s = .inl e → gTF M0 K e := hF
  have hS : ∀ c s', pFct T n (spR T n tk f 2) (spR T n tk f 0) (spR T n tk f 3) o s = .inr (c, s') → gTE M0 T n tk K Q s' W o (C ++ c) := hS
  unfold pFct at hF hS
  refine TA_fact htk hf h4 (fun q => ?_) (fun q => ?_) (fun q => ?_) (fun q1 q2 q3 => ?_)
  · have k34 : kwN T n s = 34 := kwN_no (by have := (tS_k (by decide) q).1; omega)
    rw [if_neg (by omega), if_pos q] at hF hS
    refine ⟨fun h6 => ?_, fun h6 => hF _ (by rw [if_neg h6])⟩
    rw [if_pos h6] at hF hS
    refine h0 h6 _ _ _ hn1 (nh_x (by decide)) ⟨fun z => (by cases z), fun z => (by cases z), fun z => (by cases z)⟩ (fun e he => hF e (rTh_l he)) (fun c1 s1 h1 C0 V hCV hV => ?_)
    have r := rTh_sg (T := T) (n := n) (c := 93) h1
    by_cases z : tS T n s1 = 93
    · refine TB_close z hV ?_
      rw [← hCV]
      exact hS c1 _ (r.1 z)
    · exact TB_fail (test_end h16 _ _ c1 s1 hn1 h1) z (hF _ (r.2 z))
  · rw [if_pos q] at hF hS
    refine ⟨fun h6 => ?_, fun h6 => hF _ (by rw [if_neg h6])⟩
    rw [if_pos h6] at hF hS
    refine h2 h6 _ _ _ hn1 (nh_x (by decide)) (fun e he => hF e (by rw [he]; rfl)) (fun c1 s1 h1 => gTE_12 ?_)
    have := hS (c1 ++ [12]) s1 (by rw [h1]; rfl)
    rw [← List.append_assoc] at this
    exact this
  · have k1 := (kwN_1 (T := T) (n := n) (s := s) (by omega)).1
    have t0 : tS T n s = 0 := by unfold tS; rw [if_neg (by omega)]
    rw [if_neg (by omega), if_neg (by omega), if_pos q] at hS
    exact hS _ _ rfl
  · rw [if_neg q2, if_neg q1, if_neg q3] at hF hS
    refine ⟨fun e he => hF e (by rw [he]; rfl), fun c1 s1 h1 => ?_⟩
    rw [h1] at hF hS
    refine ⟨fun z => hF _ ?_, fun z => ⟨fun e he => hF e ?_, fun c2 s2 h2' => hS _ _ ?_⟩⟩
    · show (if opC T n s1 = 0 then _ else _) = _
      rw [if_pos z]
    · show (if opC T n s1 = 0 then _ else _) = _
      rw [if_neg z, he]; rfl
    · show (if opC T n s1 = 0 then _ else _) = _
      rw [if_neg z, h2']; rfl
theorem t_all {M0 : pm} {T : Nat → Nat} {n tk : Nat} {K : pm → Prop} {Q : pm → Prop} (htk : tk ≤ 2) (h16 : n ≤ 1600) : ∀ (f o : Nat), o ≤ 6 → (rk 2 o ≤ f → T2 M0 T n tk K Q f o) ∧ (rk 1 o ≤ f → T1 M0 T n tk K Q f o) ∧ (rk 0 o ≤ f → T0 M0 T n tk K Q f o)
  | 0, o, ho => ⟨fun h => absurd (show 5 * (6 - o) + 5 ≤ 0 from h) (by omega), fun h => absurd (show 5 * (6 - o) + 6 ≤ 0 from h) (by omega), fun h => absurd (show 5 * (6 - o) + 7 ≤ 0 from h) (by omega)⟩
  | f + 1, o, ho => by
    have r2 : rk 2 o = 5 * (6 - o) + 5 := rfl
    have r1 : rk 1 o = 5 * (6 - o) + 6 := rfl
    have r0 : rk 0 o = 5 * (6 - o) + 7 := rfl
    have i := t_all (M0 := M0) (T := T) (n := n) (tk := tk) (K := K) (Q := Q) htk h16 f o ho
    refine ⟨fun h => T2_of htk h16 ?_ (fun h6 => (t_all htk h16 f (o + 1) (by omega)).1 ?_) (fun h6 => (t_all htk h16 f (o + 1) (by omega)).2.2 ?_), fun h => T1_of (i.1 (by omega)), fun h => T0_of (i.2.1 (by omega))⟩
    · show 5 * (6 - o) + 4 ≤ f; omega
    · show 5 * (6 - (o + 1)) + 5 ≤ f; omega
    · show 5 * (6 - (o + 1)) + 7 ≤ f; omega
/-- qTest -/
theorem m_test {M0 M : pm} {T : Nat → Nat} {n tk : Nat} (htk : tk ≤ 2) {s : ts} {C : List Nat} (h : qS M0 M T n tk s [] 0 0 C) (hl : C.length ≤ s.1) {f : Nat} (hf : rk 0 0 ≤ f) {R : pm → Prop} (kF : ∀ e M', spR T n tk f 0 0 s = .inl e → qF0 M0 M' e → R M') (kS : ∀ c s' M', spR T n tk f 0 0 s = .inr (c, s') → qS M0 M' T n tk s' [] 0 0 (C ++ c) → R M') : w_X8_qTest M R := by
  have hsn := h.2.1.2.1
  have h16 := h.2.1.1.2.1
  refine ⟨n + 3, ?_⟩
  refine (t_all (M0 := M0) (T := T) (n := n) (tk := tk) (K := fun M28 => ∃ n32, w_X8_qTest_110 n32 M28 R) (Q := R) htk h16 f 0 (by decide)).2.2 hf s [] C hsn ⟨fun z => (by cases z), fun z => (by cases z), fun z => (by cases z), fun z => (by cases z)⟩ ⟨fun z => (by cases z), fun z => (by cases z), fun z => (by cases z)⟩ (fun e he M' q' => ⟨1, ?_⟩) (fun c s' hr C0 V hCV hV => ?_) M (n + 3) h hl (by omega)
  · unfold w_X8_qTest_110
    exact k_no' (qF0_n q') (kF e M' he q')
  · rw [List.append_nil]
    refine TB_end (test_end h16 _ _ c s' hsn hr) hV (fun M' q' => ?_)
    obtain ⟨M2, q2, r2⟩ := q_d110 V C0 M' q'
    refine r2 _ (kS c s' _ hr ?_)
    rw [hCV]
    exact q2

