/-! what texts of SUMS and TESTS are: read by descent, the operands ahead of their operator -/
def lp (op : ts → Nat) (nx : ts → ts) (rd : ts → rs (List Nat)) : Nat → rs (List Nat) → rs (List Nat)
  | 0, r => r
  | d + 1, r => rB r (fun c s => if op s = 0 then .inr (c, s) else lp op nx rd d (rB (rd (nx s)) (fun c2 s2 => .inr (c ++ (c2 ++ [op s]), s2))))
def opO (T : Nat → Nat) (n : Nat) (s : ts) : Nat := if kwN T n s = 22 then 11 else 0
def opA (T : Nat → Nat) (n : Nat) (s : ts) : Nat := if kwN T n s = 23 then 10 else 0
def opS (T : Nat → Nat) (n : Nat) (s : ts) : Nat := if tS T n s = 43 then 1 else if tS T n s = 45 then 2 else 0
def opP (T : Nat → Nat) (n : Nat) (s : ts) : Nat := if tS T n s = 42 then 3 else if tS T n s = 47 then 4 else 0
def opC (T : Nat → Nat) (n : Nat) (s : ts) : Nat := if tS T n s = 60 then 7 else if tS T n s = 62 then 8 else if tS T n s = 61 then 9 else 0
/-- a word's part, by the kind of the text; 10 for none -/
def fcW (tk w : Nat) : Nat := if w = 7 then 0 else if w = 15 then 1 else if w = 16 then 2 else if w = 17 then 3 else if w = 18 then 4 else if w = 2 ∧ 1 ≤ tk then 5 else if w = 3 ∧ 1 ≤ tk then 6 else if w = 19 ∧ tk = 2 then 7 else if w = 20 ∧ tk = 2 then 8 else if w = 21 ∧ tk = 2 then 9 else 10
def pFct (T : Nat → Nat) (n : Nat) (rF rT rS : Nat → ts → rs (List Nat)) (o : Nat) (s : ts) : rs (List Nat) :=
  if kwN T n s = 24 then (if o < 6 then rB (rF (o + 1) (tX T n s)) (fun c s1 => .inr (c ++ [12], s1)) else .inl (4, sk T n s.1))
  else if tS T n s = 91 then (if o < 6 then rTh (rT (o + 1) (tX T n s)) (rSgn T n 93) else .inl (4, sk T n s.1))
  else if kwN T n s = 25 then .inr ([13], tX T n s)
  else rB (rS o s) (fun c s1 => if opC T n s1 = 0 then .inl (1, sk T n s1.1) else rB (rS o (tX T n s1)) (fun c2 s2 => .inr (c ++ (c2 ++ [opC T n s1]), s2)))
def pPce (T : Nat → Nat) (n tk : Nat) (rP rS rQ : Nat → ts → rs (List Nat)) (o : Nat) (s : ts) : rs (List Nat) :=
  if tK T n s = 2 then rB (rNum T n 0 9999 s) (fun v s1 => .inr ([1000 + v], s1))
  else if fcW tk (kwN T n s) < 10 then .inr ([40 + fcW tk (kwN T n s)], tX T n s)
  else if tk = 2 ∧ kwN T n s = 5 then (if o < 6 then rB (rP (o + 1) (tX T n s)) (fun c s1 => .inr (c ++ [60], s1)) else .inl (4, sk T n s.1))
  else if tS T n s = 40 then (if o < 6 then rTh (rS (o + 1) (tX T n s)) (rSgn T n 41) else .inl (4, sk T n s.1))
  else if kwN T n s = 26 ∨ kwN T n s = 27 then rQ o s
  else .inl (1, sk T n s.1)
def pPai (T : Nat → Nat) (n : Nat) (rS : Nat → ts → rs (List Nat)) (o : Nat) (s : ts) : rs (List Nat) :=
  if tS T n (tX T n s) = 40 then
    (if o < 6 then rB (rTh (rS (o + 1) (tX T n (tX T n s))) (rSgn T n 44)) (fun c s1 => rB (rTh (rS (o + 1) s1) (rSgn T n 41)) (fun c2 s2 => .inr (c ++ (c2 ++ [if kwN T n s = 26 then 5 else 6]), s2)))
     else .inl (4, sk T n (tX T n s).1))
  else .inl (1, sk T n (tX T n s).1)
def spR (T : Nat → Nat) (n tk : Nat) : Nat → Nat → Nat → ts → rs (List Nat)
  | 0, _, _, _ => .inl (0, 0)
  | f + 1, 0, o, s => lp (opO T n) (tX T n) (spR T n tk f 1 o) 1600 (spR T n tk f 1 o s)
  | f + 1, 1, o, s => lp (opA T n) (tX T n) (spR T n tk f 2 o) 1600 (spR T n tk f 2 o s)
  | f + 1, 2, o, s => pFct T n (spR T n tk f 2) (spR T n tk f 0) (spR T n tk f 3) o s
  | f + 1, 3, o, s => lp (opS T n) (tX T n) (spR T n tk f 4 o) 1600 (spR T n tk f 4 o s)
  | f + 1, 4, o, s => lp (opP T n) (tX T n) (spR T n tk f 5 o) 1600 (spR T n tk f 5 o s)
  | f + 1, 5, o, s => pPce T n tk (spR T n tk f 5) (spR T n tk f 3) (spR T n tk f 6) o s
  | f + 1, _ + 6, o, s => pPai T n (spR T n tk f 3) o s
/-- how deep each of them may go -/
def rkW : Nat → Nat
  | 0 => 7
  | 1 => 6
  | 2 => 5
  | 3 => 4
  | 4 => 3
  | 5 => 2
  | _ => 1
def rk (w o : Nat) : Nat := 5 * (6 - o) + rkW w
/-- what is known of what was read -/
def gR (n tk f : Nat) (b : Bool) (c : List Nat) (s s1 : ts) : Prop := s1.1 ≤ n ∧ s.1 + c.length ≤ s1.1 ∧ 1 ≤ c.length ∧ (∀ ks rest, ks.length + f ≤ 100 → kds 100 (c ++ rest) ks = kds 100 rest (b :: ks)) ∧ (tk < 2 → ∀ x ∈ c, 1000 ≤ x ∨ x < 47)
theorem op_k3 {T : Nat → Nat} {n : Nat} {s : ts} {c : Nat} (h0 : 0 < c) (h : tS T n s = c) : s.1 < (tX T n s).1 := tX_gt (by rw [(tS_k h0 h).1]; decide)
theorem op_k1 {T : Nat → Nat} {n : Nat} {s : ts} (h : kwN T n s < 34) : s.1 < (tX T n s).1 := tX_gt (by rw [(kwN_1 h).1]; decide)
theorem kds_1 {c : Nat} {ks ks' : List Bool} {rest : List Nat} (h : kd1 c ks = some ks') (hl : ks'.length ≤ 100) : kds 100 (c :: rest) ks = kds 100 rest ks' := by
  show (match kd1 c ks with | none => none | some s' => if s'.length ≤ 100 then kds 100 rest s' else none) = _
  rw [h]
  show (if ks'.length ≤ 100 then _ else _) = _
  rw [if_pos hl]
theorem gR_mono {n tk f f' : Nat} {b : Bool} {c : List Nat} {s s1 s0 s2 : ts} (h : gR n tk f b c s s1) (hf : f ≤ f') (h0 : s0.1 ≤ s.1) (h2 : s1.1 ≤ s2.1) (hn : s2.1 ≤ n) : gR n tk f' b c s0 s2 :=
  ⟨hn, by have := h.2.1; omega, h.2.2.1, fun ks rest hk => h.2.2.2.1 ks rest (by omega), h.2.2.2.2⟩
theorem gR_bin {n tk f : Nat} {b b' : Bool} {c c2 : List Nat} {s s1 s2 s3 : ts} {op : Nat} (h1 : gR n tk (f + 1) b c s s1) (h2 : gR n tk f b c2 s2 s3) (h12 : s1.1 < s2.1) (hop : ∀ ks, kd1 op (b :: b :: ks) = some (b' :: ks)) (h47 : op < 47) : gR n tk (f + 1) b' (c ++ (c2 ++ [op])) s s3 := by
  refine ⟨h2.1, ?_, ?_, fun ks rest hk => ?_, fun ht x hx => ?_⟩
  · rw [List.length_append, List.length_append]
    have a := h1.2.1
    have b := h2.2.1
    show s.1 + (c.length + (c2.length + 1)) ≤ _
    omega
  · rw [List.length_append]; have := h1.2.2.1; omega
  · rw [List.append_assoc, h1.2.2.2.1 _ _ hk, List.append_assoc, h2.2.2.2.1 _ _ (by rw [List.length_cons]; omega)]
    exact kds_1 (hop ks) (by rw [List.length_cons]; omega)
  · rcases List.mem_append.mp hx with hx | hx
    · exact h1.2.2.2.2 ht x hx
    · rcases List.mem_append.mp hx with hx | hx
      · exact h2.2.2.2.2 ht x hx
      · rw [List.mem_singleton.mp hx]; exact Or.inr h47
theorem gR_un {n tk f : Nat} {b b' : Bool} {c : List Nat} {s s1 s2 : ts} {op : Nat} (h1 : gR n tk f b c s1 s2) (h12 : s.1 < s1.1) (hop : ∀ ks, kd1 op (b :: ks) = some (b' :: ks)) (h47 : tk < 2 → op < 47) : gR n tk (f + 1) b' (c ++ [op]) s s2 := by
  refine ⟨h1.1, ?_, ?_, fun ks rest hk => ?_, fun ht x hx => ?_⟩
  · rw [List.length_append]
    have a := h1.2.1
    show s.1 + (c.length + 1) ≤ _
    omega
  · rw [List.length_append]; have := h1.2.2.1; omega
  · rw [List.append_assoc, h1.2.2.2.1 _ _ (by omega)]
    exact kds_1 (hop ks) (by rw [List.length_cons]; omega)
  · rcases List.mem_append.mp hx with hx | hx
    · exact h1.2.2.2.2 ht x hx
    · rw [List.mem_singleton.mp hx]; exact Or.inr (h47 ht)
theorem gR_one {n tk f : Nat} {b : Bool} {c : Nat} {s s1 : ts} (hf : 1 ≤ f) (hn : s1.1 ≤ n) (h : s.1 < s1.1) (hop : ∀ ks, kd1 c ks = some (b :: ks)) (h47 : tk < 2 → 1000 ≤ c ∨ c < 47) : gR n tk f b [c] s s1 :=
  ⟨hn, h, Nat.le_refl _, fun ks rest hk => kds_1 (hop ks) (by rw [List.length_cons]; omega), fun ht x hx => by rw [List.mem_singleton.mp hx]; exact h47 ht⟩
theorem rTh_inv {A B : Type} {r : rs A} {f : ts → rs B} {x : A} {t : ts} (h : rTh r f = .inr (x, t)) : ∃ s y, r = .inr (x, s) ∧ f s = .inr (y, t) := by
  obtain ⟨x1, s1, h1, h2⟩ := rB_inv h
  obtain ⟨y, s2, h3, h4⟩ := rB_inv h2
  cases h4
  exact ⟨s1, y, h1, h3⟩
theorem rPr_inv {A B : Type} {r : rs A} {f : ts → rs B} {x : A × B} {t : ts} (h : rPr r f = .inr (x, t)) : ∃ s, r = .inr (x.1, s) ∧ f s = .inr (x.2, t) := by
  obtain ⟨x1, s1, h1, h2⟩ := rB_inv h
  obtain ⟨y, s2, h3, h4⟩ := rB_inv h2
  cases h4
  exact ⟨s1, h1, h3⟩
theorem rSgn_inv {T : Nat → Nat} {n c : Nat} {s t : ts} {y : Unit} (h : rSgn T n c s = .inr (y, t)) : tS T n s = c ∧ t = tX T n s := by
  unfold rSgn at h
  split at h
  · cases h; exact ⟨by assumption, rfl⟩
  · cases h
theorem rWrd_inv {T : Nat → Nat} {n w : Nat} {s t : ts} {y : Unit} (h : rWrd T n w s = .inr (y, t)) : kwN T n s = w ∧ t = tX T n s := by
  unfold rWrd at h
  split at h
  · cases h; exact ⟨by assumption, rfl⟩
  · cases h
theorem rNum_inv {T : Nat → Nat} {n lo hi : Nat} {s t : ts} {v : Nat} (h : rNum T n lo hi s = .inr (v, t)) : tK T n s = 2 ∧ t = tX T n s ∧ lo ≤ v ∧ v ≤ hi := by
  unfold rNum at h
  split at h
  · split at h
    · cases h
    · split at h
      · cases h
      · cases h
        exact ⟨by assumption, rfl, by omega, by omega⟩
  · cases h
theorem rNam_inv {T : Nat → Nat} {n : Nat} {s t : ts} {l : List Nat} (h : rNam T n s = .inr (l, t)) : tK T n s = 1 ∧ t = tX T n s ∧ l = tW T n s ∧ 1 ≤ l.length ∧ l.length ≤ 6 ∧ ∀ x ∈ l, 1 ≤ x ∧ x ≤ 26 := by
  unfold rNam at h
  split at h
  · rename_i q
    split at h
    · cases h
    · cases h
      have h1 := tW_len q.1
      have h2 := (tE_1 q.1).2
      exact ⟨q.1, rfl, rfl, by omega, by omega, tW_in⟩
  · cases h
theorem lp_ok {n tk f : Nat} {b : Bool} {op : ts → Nat} {nx : ts → ts} {rd : ts → rs (List Nat)} (hop : ∀ s, op s ≠ 0 → s.1 < (nx s).1 ∧ (s.1 ≤ n → (nx s).1 ≤ n) ∧ op s < 47 ∧ ∀ ks, kd1 (op s) (b :: b :: ks) = some (b :: ks)) (hrd : ∀ s c s1, s.1 ≤ n → rd s = .inr (c, s1) → gR n tk f b c s s1) : ∀ (d : Nat) (r : rs (List Nat)) (s : ts) (c : List Nat) (s1 : ts), (∀ c s1, r = .inr (c, s1) → gR n tk (f + 1) b c s s1) → lp op nx rd d r = .inr (c, s1) → gR n tk (f + 1) b c s s1
  | 0, r, s, c, s1, hr, h => hr c s1 h
  | d + 1, r, s, c, s1, hr, h => by
    obtain ⟨c0, s0, h1, h2⟩ := rB_inv (h : rB r _ = _)
    have g0 := hr c0 s0 h1
    split at h2
    · cases h2; exact g0
    · rename_i ho
      have o := hop s0 ho
      refine lp_ok hop hrd d _ s c s1 (fun c9 s9 h9 => ?_) h2
      obtain ⟨c2, s2, h3, h4⟩ := rB_inv h9
      cases h4
      exact gR_bin g0 (hrd _ _ _ (o.2.1 g0.1) h3) o.1 o.2.2.2 o.2.2.1
theorem fcW_47 {tk w : Nat} (h : tk < 2) (h2 : fcW tk w < 10) : fcW tk w < 7 := by
  unfold fcW at h2 ⊢
  repeat' split at h2
  all_goals (repeat' split)
  all_goals omega
theorem fcW_34 {tk w : Nat} (h2 : fcW tk w < 10) : w < 34 := by
  unfold fcW at h2
  repeat' split at h2
  all_goals omega
theorem kd_f {j : Nat} (h : j < 10) (ks : List Bool) : kd1 (40 + j) ks = some (false :: ks) := by
  unfold kd1
  rw [if_neg (by omega), if_neg (by omega), if_pos (by omega), if_pos (by omega)]
theorem kd_n {v : Nat} (h : v ≤ 9999) (ks : List Bool) : kd1 (1000 + v) ks = some (false :: ks) := by
  unfold kd1
  rw [if_pos (by omega), if_pos (by omega)]
theorem sp_ok {T : Nat → Nat} {n tk : Nat} : ∀ (f w o : Nat) (s : ts) (c : List Nat) (s1 : ts), s.1 ≤ n → spR T n tk f w o s = .inr (c, s1) → gR n tk f (decide (w ≤ 2)) c s s1
  | 0, w, o, s, c, s1, hn, h => by unfold spR at h; cases h
  | f + 1, 0, o, s, c, s1, hn, h => by
    unfold spR at h
    refine lp_ok (b := true) (f := f) (fun s ho => ?_) (fun s c s1 hn h => sp_ok f 1 o s c s1 hn h) 1600 _ s c s1 (fun c s1 h => gR_mono (sp_ok f 1 o s c s1 hn h) (by omega) (Nat.le_refl _) (Nat.le_refl _) (sp_ok f 1 o s c s1 hn h).1) h
    unfold opO at ho ⊢
    split at ho
    · rename_i q
      rw [if_pos q]
      exact ⟨op_k1 (by omega), tX_le, by decide, fun ks => rfl⟩
    · exact absurd rfl ho
  | f + 1, 1, o, s, c, s1, hn, h => by
    unfold spR at h
    refine lp_ok (b := true) (f := f) (fun s ho => ?_) (fun s c s1 hn h => sp_ok f 2 o s c s1 hn h) 1600 _ s c s1 (fun c s1 h => gR_mono (sp_ok f 2 o s c s1 hn h) (by omega) (Nat.le_refl _) (Nat.le_refl _) (sp_ok f 2 o s c s1 hn h).1) h
    unfold opA at ho ⊢
    split at ho
    · rename_i q
      rw [if_pos q]
      exact ⟨op_k1 (by omega), tX_le, by decide, fun ks => rfl⟩
    · exact absurd rfl ho
  | f + 1, 3, o, s, c, s1, hn, h => by
    unfold spR at h
    refine lp_ok (b := false) (f := f) (fun s ho => ?_) (fun s c s1 hn h => sp_ok f 4 o s c s1 hn h) 1600 _ s c s1 (fun c s1 h => gR_mono (sp_ok f 4 o s c s1 hn h) (by omega) (Nat.le_refl _) (Nat.le_refl _) (sp_ok f 4 o s c s1 hn h).1) h
    unfold opS at ho ⊢
    split at ho
    · rename_i q
      rw [if_pos q]
      exact ⟨op_k3 (by decide) q, tX_le, by decide, fun ks => rfl⟩
    · rename_i q1
      split at ho
      · rename_i q
        rw [if_neg q1, if_pos q]
        exact ⟨op_k3 (by decide) q, tX_le, by decide, fun ks => rfl⟩
      · exact absurd rfl ho
  | f + 1, 4, o, s, c, s1, hn, h => by
    unfold spR at h
    refine lp_ok (b := false) (f := f) (fun s ho => ?_) (fun s c s1 hn h => sp_ok f 5 o s c s1 hn h) 1600 _ s c s1 (fun c s1 h => gR_mono (sp_ok f 5 o s c s1 hn h) (by omega) (Nat.le_refl _) (Nat.le_refl _) (sp_ok f 5 o s c s1 hn h).1) h
    unfold opP at ho ⊢
    split at ho
    · rename_i q
      rw [if_pos q]
      exact ⟨op_k3 (by decide) q, tX_le, by decide, fun ks => rfl⟩
    · rename_i q1
      split at ho
      · rename_i q
        rw [if_neg q1, if_pos q]
        exact ⟨op_k3 (by decide) q, tX_le, by decide, fun ks => rfl⟩
      · exact absurd rfl ho
  | f + 1, 2, o, s, c, s1, hn, h => by
    unfold spR pFct at h
    split at h
    · rename_i q
      split at h
      · obtain ⟨c0, s0, h1, h2⟩ := rB_inv h
        cases h2
        exact gR_un (sp_ok f 2 (o + 1) _ c0 s1 (tX_le hn) h1) (op_k1 (by omega)) (fun ks => rfl) (fun _ => by decide)
      · cases h
    · split at h
      · rename_i q
        split at h
        · obtain ⟨s0, y, h1, h2⟩ := rTh_inv h
          obtain ⟨h3, h4⟩ := rSgn_inv h2
          have g := sp_ok f 0 (o + 1) _ c s0 (tX_le hn) h1
          have g1 := op_k3 (T := T) (n := n) (by decide) q
          have g2 := op_k3 (T := T) (n := n) (by decide) h3
          rw [h4]
          exact gR_mono g (by omega) (by omega) (by omega) (tX_le g.1)
        · cases h
      · split at h
        · rename_i q
          cases h
          exact gR_one (by omega) (tX_le hn) (op_k1 (by omega)) (fun ks => rfl) (fun _ => by decide)
        · obtain ⟨c0, s0, h1, h2⟩ := rB_inv h
          have g := sp_ok f 3 o _ c0 s0 hn h1
          split at h2
          · cases h2
          · rename_i ho
            obtain ⟨c2, s2, h3, h4⟩ := rB_inv h2
            cases h4
            have g2 := sp_ok f 3 o _ c2 s1 (tX_le g.1) h3
            have hop : s0.1 < (tX T n s0).1 ∧ opC T n s0 < 47 ∧ ∀ ks, kd1 (opC T n s0) (false :: false :: ks) = some (true :: ks) := by
              unfold opC at ho ⊢
              split at ho
              · rename_i q
                rw [if_pos q]
                exact ⟨op_k3 (by decide) q, by decide, fun ks => rfl⟩
              · rename_i q1
                split at ho
                · rename_i q
                  rw [if_neg q1, if_pos q]
                  exact ⟨op_k3 (by decide) q, by decide, fun ks => rfl⟩
                · rename_i q2
                  split at ho
                  · rename_i q
                    rw [if_neg q1, if_neg q2, if_pos q]
                    exact ⟨op_k3 (by decide) q, by decide, fun ks => rfl⟩
                  · exact absurd rfl ho
            exact gR_bin (b := false) (gR_mono g (by omega) (Nat.le_refl _) (Nat.le_refl _) g.1) g2 hop.1 hop.2.2 hop.2.1
  | f + 1, 5, o, s, c, s1, hn, h => by
    unfold spR pPce at h
    split at h
    · obtain ⟨v, s0, h1, h2⟩ := rB_inv h
      cases h2
      obtain ⟨h3, h4, h5, h6⟩ := rNum_inv h1
      rw [h4]
      exact gR_one (by omega) (tX_le hn) (tX_gt (by omega)) (kd_n h6) (fun _ => Or.inl (by omega))
    · split at h
      · rename_i q
        cases h
        exact gR_one (by omega) (tX_le hn) (op_k1 (fcW_34 q)) (kd_f q) (fun ht => Or.inr (by have := fcW_47 ht q; omega))
      · split at h
        · rename_i q
          split at h
          · obtain ⟨c0, s0, h1, h2⟩ := rB_inv h
            cases h2
            exact gR_un (sp_ok f 5 (o + 1) _ c0 s1 (tX_le hn) h1) (op_k1 (by omega)) (fun ks => rfl) (fun _ => by omega)
          · cases h
        · split at h
          · rename_i q
            split at h
            · obtain ⟨s0, y, h1, h2⟩ := rTh_inv h
              obtain ⟨h3, h4⟩ := rSgn_inv h2
              have g := sp_ok f 3 (o + 1) _ c s0 (tX_le hn) h1
              have g1 := op_k3 (T := T) (n := n) (by decide) q
              have g2 := op_k3 (T := T) (n := n) (by decide) h3
              rw [h4]
              exact gR_mono g (by omega) (by omega) (by omega) (tX_le g.1)
            · cases h
          · split at h
            · have g := sp_ok f 6 o s c s1 hn h
              exact gR_mono g (by omega) (Nat.le_refl _) (Nat.le_refl _) g.1
            · cases h
  | f + 1, w + 6, o, s, c, s1, hn, h => by
    unfold spR pPai at h
    rw [show decide (w + 6 ≤ 2) = false from decide_eq_false (by omega)]
    split at h
    · rename_i q
      split at h
      · obtain ⟨c0, s0, h1, h2⟩ := rB_inv h
        obtain ⟨c2, s2, h3, h4⟩ := rB_inv h2
        cases h4
        obtain ⟨s5, y, h5, h6⟩ := rTh_inv h1
        obtain ⟨h7, h8⟩ := rSgn_inv h6
        obtain ⟨s9, y9, h9, h10⟩ := rTh_inv h3
        obtain ⟨h11, h12⟩ := rSgn_inv h10
        have hn2 := tX_le (T := T) hn
        have g := sp_ok f 3 (o + 1) _ c0 s5 (tX_le hn2) h5
        have g1 := op_k3 (T := T) (n := n) (by decide) q
        have g2 := op_k3 (T := T) (n := n) (by decide) h7
        have g3 := op_k3 (T := T) (n := n) (by decide) h11
        have gs : s.1 ≤ (tX T n s).1 := by
          by_cases q5 : tK T n s = 5
          · show s.1 ≤ tE T n s
            rw [tE_5 q5]; exact sk_ge _ _ _
          · exact Nat.le_of_lt (tX_gt q5)
        rw [h8] at h9
        have g4 := sp_ok f 3 (o + 1) _ c2 s9 (tX_le g.1) h9
        rw [h12]
        refine gR_bin (b := false) (s1 := s5) (s2 := tX T n s5) (gR_mono g (by omega) (by omega) (Nat.le_refl _) g.1) (gR_mono g4 (Nat.le_refl _) (Nat.le_refl _) (by omega) (tX_le g4.1)) g2 (fun ks => ?_) (by split <;> decide)
        split <;> rfl
      · cases h
    · cases h
