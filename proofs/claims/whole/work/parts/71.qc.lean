/-! the reference reads SUMS, as they are -/
theorem lp_end {n : Nat} {op : ts → Nat} {nx : ts → ts} {rd : ts → rs (List Nat)} (hop : ∀ s, op s ≠ 0 → s.1 < (nx s).1 ∧ (s.1 ≤ n → (nx s).1 ≤ n)) (hrd : ∀ s c s1, s.1 ≤ n → rd s = .inr (c, s1) → s.1 ≤ s1.1 ∧ s1.1 ≤ n) : ∀ (d : Nat) (c1 : List Nat) (s1 : ts) (c : List Nat) (s' : ts), s1.1 ≤ n → n ≤ s1.1 + d → lp op nx rd d (.inr (c1, s1)) = .inr (c, s') → op s' = 0
  | 0, c1, s1, c, s', hn, hd, h => by
    have h : (.inr (c1, s1) : rs (List Nat)) = .inr (c, s') := h
    cases h
    apply Decidable.byContradiction
    intro q
    have := hop s1 q
    have := this.2 hn
    omega
  | d + 1, c1, s1, c, s', hn, hd, h => by
    by_cases q : op s1 = 0
    · rw [lp_no (d + 1) q] at h
      cases h; exact q
    · rw [lp_go d q] at h
      have o := hop s1 q
      cases hr : rd (nx s1) with
      | inl e => rw [hr] at h; rw [show rB (.inl e) _ = (.inl e : rs (List Nat)) from rfl, lp_l] at h; cases h
      | inr x =>
        obtain ⟨c2, s2⟩ := x
        rw [hr] at h
        have g := hrd _ c2 s2 (o.2 hn) hr
        exact lp_end hop hrd d _ s2 c s' g.2 (by omega) h
theorem lp_P {op : ts → Nat} {nx : ts → ts} {rd : ts → rs (List Nat)} (P : ts → Prop) (hrd : ∀ s c s1, rd s = .inr (c, s1) → P s1) : ∀ (d : Nat) (c1 : List Nat) (s1 : ts) (c : List Nat) (s' : ts), P s1 → lp op nx rd d (.inr (c1, s1)) = .inr (c, s') → P s'
  | 0, c1, s1, c, s', hP, h => by
    have h : (.inr (c1, s1) : rs (List Nat)) = .inr (c, s') := h
    cases h; exact hP
  | d + 1, c1, s1, c, s', hP, h => by
    by_cases q : op s1 = 0
    · rw [lp_no (d + 1) q] at h
      cases h; exact hP
    · rw [lp_go d q] at h
      cases hr : rd (nx s1) with
      | inl e => rw [hr] at h; rw [show rB (.inl e) _ = (.inl e : rs (List Nat)) from rfl, lp_l] at h; cases h
      | inr x =>
        obtain ⟨c2, s2⟩ := x
        rw [hr] at h
        exact lp_P P hrd d _ s2 c s' (hrd _ c2 s2 hr) h
theorem op_gt {T : Nat → Nat} {n : Nat} {op : ts → Nat} (h : op = opO T n ∨ op = opA T n ∨ op = opS T n ∨ op = opP T n) (s : ts) (ho : op s ≠ 0) : s.1 < (tX T n s).1 ∧ (s.1 ≤ n → (tX T n s).1 ≤ n) := by
  refine ⟨?_, tX_le⟩
  apply tX_gt
  intro k5
  have k1 : kwN T n s = 34 := kwN_no (by omega)
  have k3 : tS T n s = 0 := by unfold tS; rw [if_neg (by omega)]
  apply ho
  rcases h with rfl | rfl | rfl | rfl
  · unfold opO; rw [k1, if_neg (by decide)]
  · unfold opA; rw [k1, if_neg (by decide)]
  · unfold opS; rw [k3, if_neg (by decide), if_neg (by decide)]
  · unfold opP; rw [k3, if_neg (by decide), if_neg (by decide)]
theorem lp_ends {T : Nat → Nat} {n tk f w o : Nat} {op : ts → Nat} (h : op = opO T n ∨ op = opA T n ∨ op = opS T n ∨ op = opP T n) (h16 : n ≤ 1600) {s : ts} {c : List Nat} {s' : ts} (hn : s.1 ≤ n) (hr : lp op (tX T n) (spR T n tk f w o) 1600 (spR T n tk f w o s) = .inr (c, s')) : op s' = 0 := by
  cases h1 : spR T n tk f w o s with
  | inl e => rw [h1, lp_l] at hr; cases hr
  | inr x =>
    obtain ⟨c1, s1⟩ := x
    rw [h1] at hr
    have g := sp_ok f w o s c1 s1 hn h1
    exact lp_end (n := n) (op_gt h) (fun s c s1 hn h => ⟨by have := (sp_ok f w o s c s1 hn h).2.1; omega, (sp_ok f w o s c s1 hn h).1⟩) 1600 c1 s1 c s' g.1 (by omega) hr
theorem prod_end {T : Nat → Nat} {n tk o : Nat} (h16 : n ≤ 1600) : ∀ (f : Nat) (s : ts) (c : List Nat) (s' : ts), s.1 ≤ n → spR T n tk f 4 o s = .inr (c, s') → opP T n s' = 0
  | 0, s, c, s', hn, h => by unfold spR at h; cases h
  | f + 1, s, c, s', hn, h => by
    unfold spR at h
    exact lp_ends (Or.inr (Or.inr (Or.inr rfl))) h16 hn h
theorem sum_end {T : Nat → Nat} {n tk o : Nat} (h16 : n ≤ 1600) : ∀ (f : Nat) (s : ts) (c : List Nat) (s' : ts), s.1 ≤ n → spR T n tk f 3 o s = .inr (c, s') → noOp T n s'
  | 0, s, c, s', hn, h => by unfold spR at h; cases h
  | f + 1, s, c, s', hn, h => by
    unfold spR at h
    have e1 := lp_ends (Or.inr (Or.inr (Or.inl rfl))) h16 hn h
    have e2 : opP T n s' = 0 ∧ s'.1 ≤ n := by
      cases h1 : spR T n tk f 4 o s with
      | inl e => rw [h1, lp_l] at h; cases h
      | inr x =>
        obtain ⟨c1, s1⟩ := x
        have h2 := h
        rw [h1] at h2
        have hg := hG_sp (T := T) (n := n) (tk := tk) f 4 o
        have key : ∀ (d : Nat) (c1 : List Nat) (s1 : ts), (opP T n s1 = 0 ∧ s1.1 ≤ n) → lp (opS T n) (tX T n) (spR T n tk f 4 o) d (.inr (c1, s1)) = .inr (c, s') → opP T n s' = 0 ∧ s'.1 ≤ n := by
          intro d
          induction d with
          | zero =>
            intro c1 s1 hP h
            have h : (.inr (c1, s1) : rs (List Nat)) = .inr (c, s') := h
            cases h; exact hP
          | succ d ih =>
            intro c1 s1 hP h
            by_cases q : opS T n s1 = 0
            · rw [lp_no (d + 1) q] at h
              cases h; exact hP
            · rw [lp_go d q] at h
              cases hr : spR T n tk f 4 o (tX T n s1) with
              | inl e => rw [hr] at h; rw [show rB (.inl e) _ = (.inl e : rs (List Nat)) from rfl, lp_l] at h; cases h
              | inr x =>
                obtain ⟨c2, s2⟩ := x
                rw [hr] at h
                exact ih _ s2 ⟨prod_end h16 f _ c2 s2 (tX_le hP.2) hr, (hg _ c2 s2 (tX_le hP.2) hr).2⟩ h
        exact key 1600 c1 s1 ⟨prod_end h16 f s c1 s1 hn h1, (hg s c1 s1 hn h1).2⟩ h2
    unfold opS at e1
    unfold opP at e2
    refine ⟨fun q => ?_, fun q => ?_, fun q => ?_, fun q => ?_⟩
    · rw [if_pos q] at e2; exact absurd e2.1 (by decide)
    · rw [if_neg (by omega), if_pos q] at e2; exact absurd e2.1 (by decide)
    · rw [if_pos q] at e1; exact absurd e1 (by decide)
    · rw [if_neg (by omega), if_pos q] at e1; exact absurd e1 (by decide)
def S5 (M0 : pm) (T : Nat → Nat) (n tk b : Nat) (x1 : Int32) (K : Int32 → pm → Prop) (Q : pm → Prop) (f o : Nat) : Prop := ∀ (s : ts) (W C : List Nat), s.1 ≤ n → b ≤ W.length → (∀ e, spR T n tk f 5 o s = .inl e → gF M0 x1 K e) → (∀ c s', spR T n tk f 5 o s = .inr (c, s') → gE M0 T n tk b x1 K Q s' W o (C ++ c)) → gA M0 T n tk b x1 K Q s W o C
def hdW (b : Nat) (W : List Nat) : Prop := W.length = b ∨ ∃ x W1, W = x :: W1 ∧ x < 60
def S4 (M0 : pm) (T : Nat → Nat) (n tk b : Nat) (x1 : Int32) (K : Int32 → pm → Prop) (Q : pm → Prop) (f o : Nat) : Prop := ∀ (s : ts) (X C : List Nat), s.1 ≤ n → b ≤ X.length → hdW b X → (X.head? ≠ some 3 ∧ X.head? ≠ some 4) → (∀ e, spR T n tk f 4 o s = .inl e → gF M0 x1 K e) → (∀ c s', spR T n tk f 4 o s = .inr (c, s') → ∀ C0 V, C ++ c = C0 ++ V → (∀ x ∈ V, x = 3 ∨ x = 4) → gB M0 T n tk b x1 K Q s' (V ++ X) o C0) → gA M0 T n tk b x1 K Q s X o C
def nh4 (W : List Nat) : Prop := W.head? ≠ some 1 ∧ W.head? ≠ some 2 ∧ W.head? ≠ some 3 ∧ W.head? ≠ some 4
def S3 (M0 : pm) (T : Nat → Nat) (n tk b : Nat) (x1 : Int32) (K : Int32 → pm → Prop) (Q : pm → Prop) (f o : Nat) : Prop := ∀ (s : ts) (W C : List Nat), s.1 ≤ n → b ≤ W.length → hdW b W → nh4 W → (∀ e, spR T n tk f 3 o s = .inl e → gF M0 x1 K e) → (∀ c s', spR T n tk f 3 o s = .inr (c, s') → ∀ C0 V, C ++ c = C0 ++ V → (∀ x ∈ V, 1 ≤ x ∧ x ≤ 4) → gB M0 T n tk b x1 K Q s' (V ++ W) o C0) → gA M0 T n tk b x1 K Q s W o C
theorem q_lpP {M0 : pm} {T : Nat → Nat} {n tk b : Nat} {x1 : Int32} {K : Int32 → pm → Prop} {Q : pm → Prop} {f o : Nat} (h5 : S5 M0 T n tk b x1 K Q f o) {X C : List Nat} (hb : b ≤ X.length) (hX : X.head? ≠ some 3 ∧ X.head? ≠ some 4) : ∀ (d : Nat) (c1 : List Nat) (s1 : ts), s1.1 ≤ n → (∀ e, lp (opP T n) (tX T n) (spR T n tk f 5 o) d (.inr (c1, s1)) = .inl e → gF M0 x1 K e) → (∀ c s', lp (opP T n) (tX T n) (spR T n tk f 5 o) d (.inr (c1, s1)) = .inr (c, s') → ∀ C0 V, C ++ c = C0 ++ V → (∀ x ∈ V, x = 3 ∨ x = 4) → gB M0 T n tk b x1 K Q s' (V ++ X) o C0) → ∀ C0 V, C ++ c1 = C0 ++ V → (∀ x ∈ V, x = 3 ∨ x = 4) → gB M0 T n tk b x1 K Q s1 (V ++ X) o C0
  | 0, c1, s1, hn, hF, hS => hS c1 s1 rfl
  | d + 1, c1, s1, hn, hF, hS => fun C0 V hCV hV => by
    by_cases q : opP T n s1 = 0
    · exact hS c1 s1 (lp_no (d + 1) q) C0 V hCV hV
    · rw [lp_go d q] at hF hS
      have hop : tS T n s1 = 42 ∧ opP T n s1 = 3 ∨ tS T n s1 = 47 ∧ opP T n s1 = 4 := by
        unfold opP at q ⊢
        split at q
        · rename_i z; rw [if_pos z]; exact Or.inl ⟨z, rfl⟩
        · rename_i y
          split at q
          · rename_i z; rw [if_neg y, if_pos z]; exact Or.inr ⟨z, rfl⟩
          · exact absurd rfl q
      refine B_mul hop hV hX hb (h5 _ _ _ (tX_le hn) (by rw [List.length_cons]; omega) (fun e he => hF e (by rw [he]; exact lp_l d)) (fun c2 s2 h2 => gE_B ?_ (Or.inr ⟨_, _, rfl, by omega⟩)))
      have g := (hG_sp (T := T) (n := n) (tk := tk) f 5 o _ c2 s2 (tX_le hn) h2).2
      rw [h2] at hF hS
      have := q_lpP h5 hb hX d (c1 ++ (c2 ++ [opP T n s1])) s2 g hF hS (C0 ++ V ++ c2) [opP T n s1] (by rw [← List.append_assoc, ← List.append_assoc, hCV]) (fun x hx => by rw [List.mem_singleton.mp hx]; omega)
      exact this
theorem S4_of {M0 : pm} {T : Nat → Nat} {n tk b : Nat} {x1 : Int32} {K : Int32 → pm → Prop} {Q : pm → Prop} {f o : Nat} (h5 : S5 M0 T n tk b x1 K Q f o) : S4 M0 T n tk b x1 K Q (f + 1) o := by
  intro s X C hn hb hd hX hF hS
  unfold spR at hF hS
  refine h5 s X C hn hb (fun e he => hF e (by rw [he]; exact lp_l 1600)) (fun c1 s1 h1 => gE_B ?_ hd)
  have g := (hG_sp (T := T) (n := n) (tk := tk) f 5 o _ c1 s1 hn h1).2
  rw [h1] at hF hS
  exact q_lpP h5 hb hX 1600 c1 s1 g hF hS (C ++ c1) [] (by rw [List.append_nil]) (fun x hx => absurd hx List.not_mem_nil)
theorem q_lpS {M0 : pm} {T : Nat → Nat} {n tk b : Nat} {x1 : Int32} {K : Int32 → pm → Prop} {Q : pm → Prop} {f o : Nat} (h4 : S4 M0 T n tk b x1 K Q f o) {W C : List Nat} (hb : b ≤ W.length) (hW : nh4 W) : ∀ (d : Nat) (c1 : List Nat) (s1 : ts), s1.1 ≤ n → (∀ e, lp (opS T n) (tX T n) (spR T n tk f 4 o) d (.inr (c1, s1)) = .inl e → gF M0 x1 K e) → (∀ c s', lp (opS T n) (tX T n) (spR T n tk f 4 o) d (.inr (c1, s1)) = .inr (c, s') → ∀ C0 V, C ++ c = C0 ++ V → (∀ x ∈ V, 1 ≤ x ∧ x ≤ 4) → gB M0 T n tk b x1 K Q s' (V ++ W) o C0) → ∀ C0 V, C ++ c1 = C0 ++ V → (∀ x ∈ V, 1 ≤ x ∧ x ≤ 4) → gB M0 T n tk b x1 K Q s1 (V ++ W) o C0
  | 0, c1, s1, hn, hF, hS => hS c1 s1 rfl
  | d + 1, c1, s1, hn, hF, hS => fun C0 V hCV hV => by
    by_cases q : opS T n s1 = 0
    · exact hS c1 s1 (lp_no (d + 1) q) C0 V hCV hV
    · rw [lp_go d q] at hF hS
      have hop : tS T n s1 = 43 ∧ opS T n s1 = 1 ∨ tS T n s1 = 45 ∧ opS T n s1 = 2 := by
        unfold opS at q ⊢
        split at q
        · rename_i z; rw [if_pos z]; exact Or.inl ⟨z, rfl⟩
        · rename_i y
          split at q
          · rename_i z; rw [if_neg y, if_pos z]; exact Or.inr ⟨z, rfl⟩
          · exact absurd rfl q
      have ho : opS T n s1 = 1 ∨ opS T n s1 = 2 := by omega
      refine B_add hop hV hW hb (h4 _ _ _ (tX_le hn) (by rw [List.length_cons]; omega) (Or.inr ⟨_, _, rfl, by omega⟩) ⟨fun z => ?_, fun z => ?_⟩ (fun e he => hF e (by rw [he]; exact lp_l d)) (fun c2 s2 h2 C0' V' hCV' hV' => ?_))
      · have := Option.some.inj z; omega
      · have := Option.some.inj z; omega
      · have g := (hG_sp (T := T) (n := n) (tk := tk) f 4 o _ c2 s2 (tX_le hn) h2).2
        rw [h2] at hF hS
        have := q_lpS h4 hb hW d (c1 ++ (c2 ++ [opS T n s1])) s2 g hF hS C0' (V' ++ [opS T n s1]) (by rw [← List.append_assoc, ← List.append_assoc, hCV, hCV', List.append_assoc]) (fun x hx => by
          rcases List.mem_append.mp hx with hx | hx
          · have := hV' x hx; omega
          · rw [List.mem_singleton.mp hx]; omega)
        rw [List.append_assoc] at this
        exact this
theorem S3_of {M0 : pm} {T : Nat → Nat} {n tk b : Nat} {x1 : Int32} {K : Int32 → pm → Prop} {Q : pm → Prop} {f o : Nat} (h4 : S4 M0 T n tk b x1 K Q f o) : S3 M0 T n tk b x1 K Q (f + 1) o := by
  intro s W C hn hb hd hW hF hS
  unfold spR at hF hS
  refine h4 s W C hn hb hd ⟨hW.2.2.1, hW.2.2.2⟩ (fun e he => hF e (by rw [he]; exact lp_l 1600)) (fun c1 s1 h1 C0 V hCV hV => ?_)
  have g := (hG_sp (T := T) (n := n) (tk := tk) f 4 o _ c1 s1 hn h1).2
  rw [h1] at hF hS
  exact q_lpS h4 hb hW 1600 c1 s1 g hF hS C0 V hCV (fun x hx => by have := hV x hx; omega)
theorem nh_x {y : Nat} {W : List Nat} (hy : 5 ≤ y) : nh4 (y :: W) := ⟨fun z => by have := Option.some.inj z; omega, fun z => by have := Option.some.inj z; omega, fun z => by have := Option.some.inj z; omega, fun z => by have := Option.some.inj z; omega⟩
theorem fc34 {tk : Nat} (h : tk ≤ 2) {w : Nat} (hw : w = 34 ∨ w = 26 ∨ w = 27 ∨ w = 5) : fcW tk w = 10 := by
  rcases (show tk = 0 ∨ tk = 1 ∨ tk = 2 from by omega) with rfl | rfl | rfl <;> rcases hw with rfl | rfl | rfl | rfl <;> decide
theorem rTh_l {A B : Type} {r : rs A} {e : Nat × Nat} {f : ts → rs B} (h : r = .inl e) : rTh r f = .inl e := by rw [h]; rfl
theorem rTh_sg {T : Nat → Nat} {n c : Nat} {A : Type} {r : rs A} {x : A} {s : ts} (h : r = .inr (x, s)) : (tS T n s = c → rTh r (rSgn T n c) = .inr (x, tX T n s)) ∧ (tS T n s ≠ c → rTh r (rSgn T n c) = .inl (1, sk T n s.1)) := by
  rw [h]
  refine ⟨fun q => ?_, fun q => ?_⟩
  · show rB (rSgn T n c s) _ = _
    unfold rSgn
    rw [if_pos q]; rfl
  · show rB (rSgn T n c s) _ = _
    unfold rSgn
    rw [if_neg q]; rfl
theorem S5_of {M0 : pm} {T : Nat → Nat} {n tk b : Nat} {x1 : Int32} {K : Int32 → pm → Prop} {Q : pm → Prop} (htk : tk ≤ 2) (h16 : n ≤ 1600) {f o : Nat} (h5 : o < 6 → S5 M0 T n tk b x1 K Q f (o + 1)) (h3 : o < 6 → S3 M0 T n tk b x1 K Q f (o + 1)) (h3' : o < 6 → S3 M0 T n tk b x1 K Q (f - 1) (o + 1)) (hf1 : 1 ≤ f) : S5 M0 T n tk b x1 K Q (f + 1) o := by
  intro s W C hn hb hF hS
  obtain ⟨f, rfl⟩ : ∃ f', f = f' + 1 := ⟨f - 1, by omega⟩
  have h3' : o < 6 → S3 M0 T n tk b x1 K Q f (o + 1) := h3'
  have hF : ∀ e, pPce T n tk (spR T n tk (f + 1) 5) (spR T n tk (f + 1) 3) (spR T n tk (f + 1) 6) o s = .inl e → gF M0 x1 K e := hF
  have hS : ∀ c s', pPce T n tk (spR T n tk (f + 1) 5) (spR T n tk (f + 1) 3) (spR T n tk (f + 1) 6) o s = .inr (c, s') → gE M0 T n tk b x1 K Q s' W o (C ++ c) := hS
  have hn1 := tX_le (T := T) hn
  have V20 : ∀ {V : List Nat}, (∀ x ∈ V, 1 ≤ x ∧ x ≤ 4) → ∀ x ∈ V, x < 20 := fun h x hx => by have := h x hx; omega
  refine A_piece htk (fun q => ?_) (fun q => ?_) (fun q => ?_) (fun q => ?_) (fun q1 q2 q3 q4 => ?_)
  · have k3 := (tS_k (by decide) q).1
    have k34 : kwN T n s = 34 := kwN_no (by omega)
    unfold pPce at hF hS
    rw [if_neg (by omega), k34, fc34 htk (Or.inl rfl), if_neg (by decide), if_neg (by omega), if_pos q] at hF hS
    refine ⟨fun h6 => ?_, fun h6 => hF _ (by rw [if_neg h6])⟩
    rw [if_pos h6] at hF hS
    refine h3 h6 _ _ _ hn1 (by rw [List.length_cons]; omega) (Or.inr ⟨20, W, rfl, by decide⟩) (nh_x (by decide)) (fun e he => hF e (rTh_l he)) (fun c1 s1 h1 C0 V hCV hV => ?_)
    have r := rTh_sg (T := T) (n := n) (c := 41) h1
    by_cases z : tS T n s1 = 41
    · refine B_close (tl := []) z (V20 hV) (Or.inl ⟨rfl, rfl⟩) hb ?_
      rw [List.append_nil, ← hCV]
      exact hS c1 _ (r.1 z)
    · exact B_fail (sum_end h16 _ _ c1 s1 hn1 h1) (V20 hV) (Or.inl rfl) hb z (hF _ (r.2 z))
  · have k1 := (kwN_1 (T := T) (n := n) (s := s) (by omega)).1
    have t0 : tS T n s = 0 := by unfold tS; rw [if_neg (by omega)]
    unfold pPce at hF hS
    rw [if_neg (by omega), fc34 htk (by omega), if_neg (by decide), if_neg (by omega), t0, if_neg (by decide), if_pos q] at hF hS
    have hF : ∀ e, pPai T n (spR T n tk f 3) o s = .inl e → gF M0 x1 K e := hF
    have hS : ∀ c s', pPai T n (spR T n tk f 3) o s = .inr (c, s') → gE M0 T n tk b x1 K Q s' W o (C ++ c) := hS
    unfold pPai at hF hS
    refine ⟨fun p => ⟨fun h6 => ?_, fun h6 => hF _ (by rw [if_pos p, if_neg h6])⟩, fun p => hF _ (by rw [if_neg p])⟩
    rw [if_pos p, if_pos h6] at hF hS
    have hn2 := tX_le (T := T) hn1
    obtain ⟨x, tl, hx, hop⟩ : ∃ (x tl : Nat), (x = 21 ∧ tl = 5 ∨ x = 22 ∧ tl = 6) ∧ (if kwN T n s = 26 then 21 else 22) = x ∧ (if kwN T n s = 26 then 5 else 6) = tl := by
      by_cases z : kwN T n s = 26
      · exact ⟨21, 5, Or.inl ⟨rfl, rfl⟩, by rw [if_pos z], by rw [if_pos z]⟩
      · exact ⟨22, 6, Or.inr ⟨rfl, rfl⟩, by rw [if_neg z], by rw [if_neg z]⟩
    rw [hop.1]
    rw [hop.2] at hF hS
    have nhx : ∀ y : Nat, 20 ≤ y → nh4 (y :: W) := fun y hy => ⟨fun z => by have := Option.some.inj z; omega, fun z => by have := Option.some.inj z; omega, fun z => by have := Option.some.inj z; omega, fun z => by have := Option.some.inj z; omega⟩
    refine h3' h6 _ _ _ hn2 (by rw [List.length_cons]; omega) (Or.inr ⟨x, W, rfl, by omega⟩) (nhx x (by omega)) (fun e he => hF e (by rw [rTh_l he]; rfl)) (fun c1 s1 h1 C0 V hCV hV => ?_)
    have g1 := (hG_sp (T := T) (n := n) (tk := tk) f 3 (o + 1) _ c1 s1 hn2 h1).2
    have r := rTh_sg (T := T) (n := n) (c := 44) h1
    refine B_comma (sum_end h16 _ _ c1 s1 hn2 h1) (V20 hV) (by omega) hb (fun z => ?_) (fun z => hF _ (by rw [r.2 z]; rfl))
    rw [r.1 z] at hF hS
    have hn3 := tX_le (T := T) g1
    refine h3' h6 _ _ _ hn3 (by rw [List.length_cons]; omega) (Or.inr ⟨x + 2, W, rfl, by omega⟩) (nhx _ (by omega)) (fun e he => hF e (by
      show rB (rTh (spR T n tk f 3 (o + 1) (tX T n s1)) (rSgn T n 41)) _ = _
      rw [rTh_l he]; rfl)) (fun c2 s2 h2 C0' V' hCV' hV' => ?_)
    have r2 := rTh_sg (T := T) (n := n) (c := 41) h2
    by_cases z2 : tS T n s2 = 41
    · refine B_close (tl := [tl]) z2 (V20 hV') (by rcases hx with ⟨rfl, rfl⟩ | ⟨rfl, rfl⟩; exact Or.inr (Or.inl ⟨rfl, rfl⟩); exact Or.inr (Or.inr ⟨rfl, rfl⟩)) hb ?_
      have := hS (c1 ++ (c2 ++ [tl])) (tX T n s2) (by
        show rB (rTh (spR T n tk f 3 (o + 1) (tX T n s1)) (rSgn T n 41)) _ = _
        rw [r2.1 z2]; rfl)
      rw [← List.append_assoc, ← List.append_assoc, hCV, hCV'] at this
      exact this
    · refine B_fail (sum_end h16 _ _ c2 s2 hn3 h2) (V20 hV') (by omega) hb z2 (hF _ ?_)
      show rB (rTh (spR T n tk f 3 (o + 1) (tX T n s1)) (rSgn T n 41)) _ = _
      rw [r2.2 z2]; rfl
  · have k1 := (kwN_1 (T := T) (n := n) (s := s) (by omega)).1
    unfold pPce at hF hS
    rw [if_neg (by omega), fc34 htk (by omega), if_neg (by decide), if_pos q] at hF hS
    refine ⟨fun h6 => ?_, fun h6 => hF _ (by rw [if_neg h6])⟩
    rw [if_pos h6] at hF hS
    refine h5 h6 _ _ _ hn1 (by rw [List.length_cons]; omega) (fun e he => hF e (by rw [he]; rfl)) (fun c1 s1 h1 => gE_60 ?_ hb)
    have := hS (c1 ++ [60]) s1 (by rw [h1]; rfl)
    rw [← List.append_assoc] at this
    exact this
  · have k1 := (kwN_1 (T := T) (n := n) (s := s) (fcW_34 q)).1
    unfold pPce at hS
    rw [if_neg (by omega), if_pos q] at hS
    exact hS _ _ rfl
  · unfold pPce at hF hS
    by_cases k2 : tK T n s = 2
    · rw [if_pos k2] at hF hS
      exact ⟨fun v s' hr => hS _ _ (by rw [hr]; rfl), fun e he => hF e (by rw [he]; rfl)⟩
    · rw [if_neg k2, if_neg (by omega), if_neg q3, if_neg q1, if_neg q2] at hF
      have e : rNum T n 0 9999 s = .inl (1, sk T n s.1) := by unfold rNum; rw [if_neg k2]
      rw [e]
      exact ⟨fun v s' hr => (by cases hr), fun e he => (by cases he; exact hF _ rfl)⟩
/-- all of them -/
theorem q_all {M0 : pm} {T : Nat → Nat} {n tk b : Nat} {x1 : Int32} {K : Int32 → pm → Prop} {Q : pm → Prop} (htk : tk ≤ 2) (h16 : n ≤ 1600) : ∀ (F f o : Nat), f ≤ F → o ≤ 6 → (rk 5 o ≤ f → S5 M0 T n tk b x1 K Q f o) ∧ (rk 4 o ≤ f → S4 M0 T n tk b x1 K Q f o) ∧ (rk 3 o ≤ f → S3 M0 T n tk b x1 K Q f o)
  | 0, f, o, hf, ho => by
    have : f = 0 := by omega
    subst this
    exact ⟨fun h => absurd (show 5 * (6 - o) + 2 ≤ 0 from h) (by omega), fun h => absurd (show 5 * (6 - o) + 3 ≤ 0 from h) (by omega), fun h => absurd (show 5 * (6 - o) + 4 ≤ 0 from h) (by omega)⟩
  | F + 1, 0, o, hf, ho => ⟨fun h => absurd (show 5 * (6 - o) + 2 ≤ 0 from h) (by omega), fun h => absurd (show 5 * (6 - o) + 3 ≤ 0 from h) (by omega), fun h => absurd (show 5 * (6 - o) + 4 ≤ 0 from h) (by omega)⟩
  | F + 1, f + 1, o, hf, ho => by
    have r5 : rk 5 o = 5 * (6 - o) + 2 := rfl
    have r4 : rk 4 o = 5 * (6 - o) + 3 := rfl
    have r3 : rk 3 o = 5 * (6 - o) + 4 := rfl
    have i := q_all (M0 := M0) (T := T) (n := n) (tk := tk) (b := b) (x1 := x1) (K := K) (Q := Q) htk h16 F f o (by omega) ho
    refine ⟨fun h => S5_of htk h16 (fun h6 => (q_all htk h16 F f (o + 1) (by omega) (by omega)).1 ?_) (fun h6 => (q_all htk h16 F f (o + 1) (by omega) (by omega)).2.2 ?_) (fun h6 => (q_all htk h16 F (f - 1) (o + 1) (by omega) (by omega)).2.2 ?_) (by omega), fun h => S4_of (i.1 (by omega)), fun h => S3_of (i.2.1 (by omega))⟩
    · show 5 * (6 - (o + 1)) + 2 ≤ f; omega
    · show 5 * (6 - (o + 1)) + 4 ≤ f; omega
    · show 5 * (6 - (o + 1)) + 4 ≤ f - 1; omega
/-- qSums -/
theorem m_sums {M0 M : pm} {T : Nat → Nat} {n tk b0 : Nat} (htk : tk ≤ 2) {s : ts} {B : List Nat} {o : Nat} {C : List Nat} (h : qS M0 M T n tk s B o b0 C) (hl : C.length + B.length ≤ s.1) (hB : nh4 B) {f : Nat} (hf : rk 3 o ≤ f) {R : pm → Prop} (kF : ∀ e M', spR T n tk f 3 o s = .inl e → qF M0 M' e → R M') (kS : ∀ c s' M', spR T n tk f 3 o s = .inr (c, s') → qS M0 M' T n tk s' B o b0 (C ++ c) → R M') : w_X8_qSums M R := by
  have hsn := h.2.1.2.1
  have h16 := h.2.1.1.2.1
  have ho := h.2.2.2.2.2.2.2.2.2.1
  have hb0 := h.2.2.2.2.2.2.2.2.2.2.1
  have h9 := h.2.2.2.2.2.2.2.2.1
  refine ⟨n + 4, ?_⟩
  rw [h9, h.2.2.2.2.2.1]
  have q1 := qS_b h (b' := B.length) (Nat.le_refl _)
  have a := (q_all (M0 := M0) (T := T) (n := n) (tk := tk) (b := B.length) (x1 := nI b0) (K := fun x1 M9 => ∃ n13, w_X8_qSums_53 n13 x1 M9 R) (Q := R) htk h16 f f o (Nat.le_refl _) ho).2.2 hf s B C hsn (Nat.le_refl _) (Or.inl rfl) hB (fun e he M' q' => ?_) (fun c s' hr C0 V hCV hV => B_end (sum_end h16 _ _ c s' hsn hr) (fun x hx => by have := hV x hx; omega) rfl (fun M' q' => ?_))
  · have z := a _ (n + 3) (n + 3) q1 hl (by omega) (by omega)
    unfold w_X8_qSums_15
    exact k_no (by decide) (k_yes' q1.2.1.2.2.1 ⟨n + 3, z⟩)
  · refine ⟨1, ?_⟩
    unfold w_X8_qSums_53
    obtain ⟨f1, t1, c, c1, c2⟩ := id q'
    exact k_no' (qF_n q') (kF e _ he ⟨f1.up (Or.inr (Or.inl ⟨rfl, by omega⟩)) _, ⟨by rw [rI (by omega)]; exact t1.1, by rw [rI (by omega)]; exact t1.2.1, t1.2.2⟩, c, c1, by rw [rI (by omega)]; exact c2⟩)
  · obtain ⟨M2, q2, r2⟩ := q_d53 rfl V C0 M' q'
    refine r2 _ _ (kS c s' _ hr ?_)
    rw [hCV]
    exact qS_b q2 hb0

