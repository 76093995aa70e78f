/-! what the text of a station is -/
abbrev sg : Type := (Nat × Nat × Nat) × List (List Nat × Nat × Nat) × List (List Nat × Nat × Nat × Nat) × List (List Nat × Nat) × (Nat → Option (List Nat))
def nmS (σ : sg) : List (List Nat) := σ.2.1.map (fun q => q.1)
def nms (σ : sg) : List (List Nat) := nmS σ ++ (σ.2.2.1.map (fun q => q.1) ++ σ.2.2.2.1.map (fun q => q.1))
def rNew (T : Nat → Nat) (n : Nat) (σ : sg) (s : ts) : rs (List Nat) := rB (rNam T n s) (fun l s1 => if l ∈ nms σ then .inl (3, sk T n s.1) else .inr (l, s1))
def rSng (T : Nat → Nat) (n : Nat) (σ : sg) (s : ts) : rs Nat := rB (rNam T n s) (fun l s1 => if l ∈ nmS σ then .inr ((nmS σ).idxOf l, s1) else .inl (3, sk T n s.1))
def rSo (T : Nat → Nat) (n : Nat) (σ : sg) (s : ts) : rs ((List Nat × Nat) × Nat) := rPr (rTh (rPr (rTh (rNew T n σ (tX T n s)) (rWrd T n 2)) (rNum T n 1 60)) (rWrd T n 3)) (rNum T n 0 9)
def pSo (T : Nat → Nat) (n : Nat) (σ : sg) (s : ts) : rs sg := rB (rSo T n σ s) (fun q s1 => .inr ((σ.1, σ.2.1 ++ [(q.1.1, q.1.2, q.2)], σ.2.2), s1))
def rAs (T : Nat → Nat) (n : Nat) (σ : sg) (s : ts) : rs (((List Nat × Nat) × Nat) × Nat) := rPr (rTh (rPr (rTh (rPr (rTh (rNew T n σ (tX T n s)) (rWrd T n 5)) (rSng T n σ)) (rWrd T n 6)) (rNum T n 0 99)) (rWrd T n 7)) (rNum T n 0 99)
def pAs (T : Nat → Nat) (n : Nat) (σ : sg) (s : ts) : rs sg := rB (rAs T n σ s) (fun q s1 => .inr ((σ.1, σ.2.1, σ.2.2.1 ++ [(q.1.1.1, q.1.1.2, q.1.2, q.2)], σ.2.2.2), s1))
def rEa (T : Nat → Nat) (n : Nat) (σ : sg) (s : ts) : rs (List Nat × Nat) := rPr (rTh (rNew T n σ (tX T n s)) (rWrd T n 9)) (rNum T n 0 9)
def pEa (T : Nat → Nat) (n : Nat) (σ : sg) (s : ts) : rs sg := rB (rEa T n σ s) (fun q s1 => .inr ((σ.1, σ.2.1, σ.2.2.1, σ.2.2.2.1 ++ [(q.1, q.2)], σ.2.2.2.2), s1))
def tkP (p : Nat) : Nat := if p = 0 then 0 else 1
def whP (p : Nat) : Nat := if p = 1 then 0 else 3
def pPa (T : Nat → Nat) (n p : Nat) (σ : sg) (s : ts) : rs sg := rB (spR T n (tkP p) 60 (whP p) 0 (tX T n s)) (fun c s1 => .inr ((σ.1, σ.2.1, σ.2.2.1, σ.2.2.2.1, fun q => if q = p then some c else σ.2.2.2.2 q), s1))
def stB (T : Nat → Nat) (n : Nat) (σ : sg) (s : ts) : rs sg :=
  if kwN T n s = 1 then (if σ.2.1.length < 6 then pSo T n σ s else .inl (5, sk T n s.1))
  else if kwN T n s = 4 then (if σ.2.2.1.length < 8 then pAs T n σ s else .inl (5, sk T n s.1))
  else if kwN T n s = 8 then (if σ.2.2.2.1.length < 5 then pEa T n σ s else .inl (5, sk T n s.1))
  else if kwN T n s = 10 ∨ kwN T n s = 11 ∨ kwN T n s = 12 then (if σ.2.2.2.2 (kwN T n s - 10) = none then pPa T n (kwN T n s - 10) σ s else .inl (5, sk T n s.1))
  else if kwN T n s = 13 then rB (rNum T n 0 999 (tX T n s)) (fun v s1 => .inr (((σ.1.1, v, σ.1.2.2), σ.2), s1))
  else if kwN T n s = 14 then rB (rNum T n 0 100 (tX T n s)) (fun v s1 => .inr (((σ.1.1, σ.1.2.1, v), σ.2), s1))
  else .inl (1, sk T n s.1)
def stm (T : Nat → Nat) (n : Nat) (σ : sg) (s : ts) : rs sg := rTh (stB T n σ s) (rSgn T n 59)
def sg0 : sg := ((0, 0, 0), [], [], [], fun _ => none)
def hst (T : Nat → Nat) (n : Nat) (s : ts) : rs sg := rTh (if kwN T n s = 0 then rB (rNum T n 1 60 (tX T n s)) (fun v s1 => .inr (((v, 0, 0), [], [], [], fun _ => none), s1)) else .inl (1, sk T n s.1)) (rSgn T n 59)
def sLp (T : Nat → Nat) (n : Nat) : Nat → Nat → sg → ts → rs (Nat × sg)
  | 0, k, σ, s => if tK T n s = 5 then .inr ((k, σ), s) else .inl (5, sk T n s.1)
  | d + 1, k, σ, s => if tK T n s = 5 then .inr ((k, σ), s) else rB (stm T n σ s) (fun σ' s' => sLp T n d (k + 1) σ' s')
def sWh (T : Nat → Nat) (n : Nat) : rs (Nat × sg) := rB (hst T n (0, false)) (fun σ s => sLp T n 79 1 σ s)
/-- what holds of it -/
def okN (l : List Nat) : Prop := 1 ≤ l.length ∧ l.length ≤ 6 ∧ ∀ x ∈ l, 1 ≤ x ∧ x ≤ 26
def okP (p : Nat) (os : List Nat) : Prop := kds 100 os [] = some [decide (p = 1)] ∧ ∀ c ∈ os, 1000 ≤ c ∨ c < 47
def okG (σ : sg) : Prop := σ.1.2.1 ≤ 999 ∧ σ.1.2.2 ≤ 100 ∧ (σ.2.1.length ≤ 6 ∧ ∀ q ∈ σ.2.1, okN q.1 ∧ 1 ≤ q.2.1 ∧ q.2.1 ≤ 60 ∧ q.2.2 ≤ 9) ∧ (σ.2.2.1.length ≤ 8 ∧ ∀ q ∈ σ.2.2.1, okN q.1 ∧ q.2.1 < σ.2.1.length ∧ q.2.2.1 ≤ 99 ∧ q.2.2.2 ≤ 99) ∧ (σ.2.2.2.1.length ≤ 5 ∧ ∀ q ∈ σ.2.2.2.1, okN q.1 ∧ q.2 ≤ 9) ∧ ∀ p os, p < 3 → σ.2.2.2.2 p = some os → okP p os
/-- and of the places -/
def gS (n : Nat) (s s1 : ts) : Prop := s.1 ≤ s1.1 ∧ s1.1 ≤ n
theorem gS.tr {n : Nat} {a b c : ts} (h : gS n a b) (g : gS n b c) : gS n a c := ⟨Nat.le_trans h.1 g.1, g.2⟩
def gRs (n : Nat) (A : Type) (f : ts → rs A) : Prop := ∀ s x s1, s.1 ≤ n → f s = .inr (x, s1) → s.1 < s1.1 ∧ s1.1 ≤ n
theorem g_num {T : Nat → Nat} {n lo hi : Nat} : gRs n Nat (rNum T n lo hi) := fun s x s1 hn h => by
  have i := rNum_inv h
  rw [i.2.1]
  exact ⟨tX_gt (by omega), tX_le hn⟩
theorem g_wrd {T : Nat → Nat} {n w : Nat} (hw : w < 34) : gRs n Unit (rWrd T n w) := fun s x s1 hn h => by
  have i := rWrd_inv h
  rw [i.2]
  exact ⟨op_k1 (by omega), tX_le hn⟩
theorem g_sgn {T : Nat → Nat} {n c : Nat} (hc : 0 < c) : gRs n Unit (rSgn T n c) := fun s x s1 hn h => by
  have i := rSgn_inv h
  rw [i.2]
  exact ⟨op_k3 hc i.1, tX_le hn⟩
theorem rNew_inv {T : Nat → Nat} {n : Nat} {σ : sg} {s t : ts} {l : List Nat} (h : rNew T n σ s = .inr (l, t)) : rNam T n s = .inr (l, t) ∧ l ∉ nms σ := by
  obtain ⟨l1, s1, h1, h2⟩ := rB_inv h
  split at h2
  · cases h2
  · cases h2; exact ⟨h1, by assumption⟩
theorem rSng_inv {T : Nat → Nat} {n : Nat} {σ : sg} {s t : ts} {k : Nat} (h : rSng T n σ s = .inr (k, t)) : ∃ l, rNam T n s = .inr (l, t) ∧ l ∈ nmS σ ∧ k = (nmS σ).idxOf l ∧ k < σ.2.1.length := by
  obtain ⟨l1, s1, h1, h2⟩ := rB_inv h
  split at h2
  · rename_i q
    cases h2
    refine ⟨l1, h1, q, rfl, ?_⟩
    have := List.idxOf_lt_length_of_mem q
    unfold nmS at this ⊢
    rw [List.length_map] at this
    exact this
  · cases h2
theorem g_nam {T : Nat → Nat} {n : Nat} : gRs n (List Nat) (rNam T n) := fun s x s1 hn h => by
  have i := rNam_inv h
  rw [i.2.1]
  exact ⟨tX_gt (by omega), tX_le hn⟩
theorem g_new {T : Nat → Nat} {n : Nat} {σ : sg} : gRs n (List Nat) (rNew T n σ) := fun s x s1 hn h => g_nam s x s1 hn (rNew_inv h).1
theorem g_sng {T : Nat → Nat} {n : Nat} {σ : sg} : gRs n Nat (rSng T n σ) := fun s x s1 hn h => by
  obtain ⟨l, h1, _⟩ := rSng_inv h
  exact g_nam s l s1 hn h1
def gX (n : Nat) (s0 : ts) {A : Type} (r : rs A) : Prop := ∀ x s, r = .inr (x, s) → s0.1 ≤ s.1 ∧ s.1 ≤ n
theorem gX_th {n : Nat} {s0 : ts} {A B : Type} {r : rs A} {f : ts → rs B} (h : gX n s0 r) (hf : gRs n B f) : gX n s0 (rTh r f) := fun x t e => by
  obtain ⟨s, y, h1, h2⟩ := rTh_inv e
  have a := h x s h1
  have b := hf s y t a.2 h2
  exact ⟨by omega, b.2⟩
theorem gX_pr {n : Nat} {s0 : ts} {A B : Type} {r : rs A} {f : ts → rs B} (h : gX n s0 r) (hf : gRs n B f) : gX n s0 (rPr r f) := fun x t e => by
  obtain ⟨s, h1, h2⟩ := rPr_inv e
  have a := h x.1 s h1
  have b := hf s x.2 t a.2 h2
  exact ⟨by omega, b.2⟩
theorem gX_f {n : Nat} {A : Type} {f : ts → rs A} (hf : gRs n A f) {s0 s : ts} (hs : s0.1 ≤ s.1) (hn : s.1 ≤ n) : gX n s0 (f s) := fun x t e => by
  have b := hf s x t hn e
  exact ⟨by omega, b.2⟩
theorem gX_b {n : Nat} {s0 : ts} {A B : Type} {r : rs A} {g : A → B} (h : gX n s0 r) : gX n s0 (rB r (fun q s1 => (.inr (g q, s1) : rs B))) := fun x t e => by
  obtain ⟨q, s1, h1, h2⟩ := rB_inv e
  cases h2
  exact h q _ h1
/-- what was told in a statement -/
theorem rSo_inv {T : Nat → Nat} {n : Nat} {σ : sg} {s t : ts} {q : (List Nat × Nat) × Nat} (h : rSo T n σ s = .inr (q, t)) : okN q.1.1 ∧ q.1.1 ∉ nms σ ∧ 1 ≤ q.1.2 ∧ q.1.2 ≤ 60 ∧ q.2 ≤ 9 := by
  obtain ⟨s4, h4, i4⟩ := rPr_inv h
  obtain ⟨s3, _, h3, _⟩ := rTh_inv h4
  obtain ⟨s2, h2, i2⟩ := rPr_inv h3
  obtain ⟨s1, _, h1, _⟩ := rTh_inv h2
  have j := rNew_inv h1
  have jn := rNam_inv j.1
  have j2 := rNum_inv i2
  have j4 := rNum_inv i4
  exact ⟨⟨jn.2.2.2.1, jn.2.2.2.2.1, jn.2.2.2.2.2⟩, j.2, j2.2.2.1, j2.2.2.2, j4.2.2.2⟩
theorem rAs_inv {T : Nat → Nat} {n : Nat} {σ : sg} {s t : ts} {q : ((List Nat × Nat) × Nat) × Nat} (h : rAs T n σ s = .inr (q, t)) : okN q.1.1.1 ∧ q.1.1.1 ∉ nms σ ∧ q.1.1.2 < σ.2.1.length ∧ q.1.2 ≤ 99 ∧ q.2 ≤ 99 := by
  obtain ⟨s6, h6, i6⟩ := rPr_inv h
  obtain ⟨s5, _, h5, _⟩ := rTh_inv h6
  obtain ⟨s4, h4, i4⟩ := rPr_inv h5
  obtain ⟨s3, _, h3, _⟩ := rTh_inv h4
  obtain ⟨s2, h2, i2⟩ := rPr_inv h3
  obtain ⟨s1, _, h1, _⟩ := rTh_inv h2
  have j := rNew_inv h1
  have jn := rNam_inv j.1
  obtain ⟨l, _, _, _, j2⟩ := rSng_inv i2
  have j4 := rNum_inv i4
  have j6 := rNum_inv i6
  exact ⟨⟨jn.2.2.2.1, jn.2.2.2.2.1, jn.2.2.2.2.2⟩, j.2, j2, j4.2.2.2, j6.2.2.2⟩
theorem rEa_inv {T : Nat → Nat} {n : Nat} {σ : sg} {s t : ts} {q : List Nat × Nat} (h : rEa T n σ s = .inr (q, t)) : okN q.1 ∧ q.1 ∉ nms σ ∧ q.2 ≤ 9 := by
  obtain ⟨s2, h2, i2⟩ := rPr_inv h
  obtain ⟨s1, _, h1, _⟩ := rTh_inv h2
  have j := rNew_inv h1
  have jn := rNam_inv j.1
  have j2 := rNum_inv i2
  exact ⟨⟨jn.2.2.2.1, jn.2.2.2.2.1, jn.2.2.2.2.2⟩, j.2, j2.2.2.2⟩
theorem mem_app1 {A : Type} {l : List A} {x y : A} (h : y ∈ l ++ [x]) : y ∈ l ∨ y = x := by
  rcases List.mem_append.mp h with h | h
  · exact Or.inl h
  · exact Or.inr (List.mem_singleton.mp h)
theorem whP_ok {p : Nat} : decide (whP p ≤ 2) = decide (p = 1) := by
  unfold whP
  split
  · rename_i h; rw [h]; rfl
  · rename_i h; rw [decide_eq_false h]; rfl
theorem stB_ok {T : Nat → Nat} {n : Nat} {σ σ' : sg} {s s' : ts} (hn : s.1 ≤ n) (ho : okG σ) (h : stB T n σ s = .inr (σ', s')) : okG σ' ∧ s.1 ≤ s'.1 ∧ s'.1 ≤ n ∧ σ'.1.1 = σ.1.1 := by
  obtain ⟨o1, o2, ⟨o3, o4⟩, ⟨o5, o6⟩, ⟨o7, o8⟩, o9⟩ := ho
  have hx := tX_ge (T := T) (n := n) (s := s)
  have hl := tX_le (T := T) hn
  unfold stB at h
  split at h
  · split at h
    · rename_i hk
      have g := gX_b (g := fun q : (List Nat × Nat) × Nat => ((σ.1, σ.2.1 ++ [(q.1.1, q.1.2, q.2)], σ.2.2) : sg)) (gX_pr (gX_th (gX_pr (gX_th (gX_f (g_new (σ := σ)) hx hl) (g_wrd (w := 2) (by decide))) (g_num (lo := 1) (hi := 60))) (g_wrd (w := 3) (by decide))) (g_num (lo := 0) (hi := 9))) σ' s' h
      obtain ⟨q, s1, h1, h2⟩ := rB_inv h
      cases h2
      have i := rSo_inv h1
      refine ⟨⟨o1, o2, ⟨?_, fun z hz => ?_⟩, ⟨o5, fun z hz => ?_⟩, ⟨o7, o8⟩, o9⟩, g.1, g.2, rfl⟩
      · show (σ.2.1 ++ [_]).length ≤ 6
        rw [List.length_append]; show σ.2.1.length + 1 ≤ 6; omega
      · rcases mem_app1 hz with hz | rfl
        · exact o4 z hz
        · exact ⟨i.1, i.2.2⟩
      · have := o6 z hz
        refine ⟨this.1, ?_, this.2.2⟩
        show _ < (σ.2.1 ++ [_]).length
        rw [List.length_append]; exact Nat.lt_of_lt_of_le this.2.1 (Nat.le_add_right _ _)
    · cases h
  · split at h
    · split at h
      · rename_i hk
        have g := gX_b (g := fun q : ((List Nat × Nat) × Nat) × Nat => ((σ.1, σ.2.1, σ.2.2.1 ++ [(q.1.1.1, q.1.1.2, q.1.2, q.2)], σ.2.2.2) : sg)) (gX_pr (gX_th (gX_pr (gX_th (gX_pr (gX_th (gX_f (g_new (σ := σ)) hx hl) (g_wrd (w := 5) (by decide))) (g_sng (σ := σ))) (g_wrd (w := 6) (by decide))) (g_num (lo := 0) (hi := 99))) (g_wrd (w := 7) (by decide))) (g_num (lo := 0) (hi := 99))) σ' s' h
        obtain ⟨q, s1, h1, h2⟩ := rB_inv h
        cases h2
        have i := rAs_inv h1
        refine ⟨⟨o1, o2, ⟨o3, o4⟩, ⟨?_, fun z hz => ?_⟩, ⟨o7, o8⟩, o9⟩, g.1, g.2, rfl⟩
        · show (σ.2.2.1 ++ [_]).length ≤ 8
          rw [List.length_append]; show σ.2.2.1.length + 1 ≤ 8; omega
        · rcases mem_app1 hz with hz | rfl
          · exact o6 z hz
          · exact ⟨i.1, i.2.2⟩
      · cases h
    · split at h
      · split at h
        · rename_i hk
          have g := gX_b (g := fun q : List Nat × Nat => ((σ.1, σ.2.1, σ.2.2.1, σ.2.2.2.1 ++ [(q.1, q.2)], σ.2.2.2.2) : sg)) (gX_pr (gX_th (gX_f (g_new (σ := σ)) hx hl) (g_wrd (w := 9) (by decide))) (g_num (lo := 0) (hi := 9))) σ' s' h
          obtain ⟨q, s1, h1, h2⟩ := rB_inv h
          cases h2
          have i := rEa_inv h1
          refine ⟨⟨o1, o2, ⟨o3, o4⟩, ⟨o5, o6⟩, ⟨?_, fun z hz => ?_⟩, o9⟩, g.1, g.2, rfl⟩
          · show (σ.2.2.2.1 ++ [_]).length ≤ 5
            rw [List.length_append]; show σ.2.2.2.1.length + 1 ≤ 5; omega
          · rcases mem_app1 hz with hz | rfl
            · exact o8 z hz
            · exact ⟨i.1, i.2.2⟩
        · cases h
      · split at h
        · split at h
          · rename_i hp _
            generalize hpp : kwN T n s - 10 = p at h
            obtain ⟨c, s1, h1, h2⟩ := rB_inv h
            cases h2
            have i := sp_ok 60 (whP p) 0 _ c s' hl h1
            have i1 := i.2.1
            refine ⟨⟨o1, o2, ⟨o3, o4⟩, ⟨o5, o6⟩, ⟨o7, o8⟩, fun q os hq e => ?_⟩, by omega, i.1, rfl⟩
            have e : (if q = p then some c else σ.2.2.2.2 q) = some os := e
            split at e
            · rename_i hqp
              cases e
              subst hqp
              have k := i.2.2.2.1 [] [] (by decide)
              rw [List.append_nil, whP_ok] at k
              refine ⟨k, i.2.2.2.2 ?_⟩
              unfold tkP
              split <;> decide
            · exact o9 q os hq e
          · cases h
        · split at h
          · obtain ⟨v, s1, h1, h2⟩ := rB_inv h
            cases h2
            have i := rNum_inv h1
            have g := g_num _ v s' hl h1
            exact ⟨⟨i.2.2.2, o2, ⟨o3, o4⟩, ⟨o5, o6⟩, ⟨o7, o8⟩, o9⟩, by omega, g.2, rfl⟩
          · split at h
            · obtain ⟨v, s1, h1, h2⟩ := rB_inv h
              cases h2
              have i := rNum_inv h1
              have g := g_num _ v s' hl h1
              exact ⟨⟨o1, i.2.2.2, ⟨o3, o4⟩, ⟨o5, o6⟩, ⟨o7, o8⟩, o9⟩, by omega, g.2, rfl⟩
            · cases h
theorem stm_ok {T : Nat → Nat} {n : Nat} {σ σ' : sg} {s s' : ts} (hn : s.1 ≤ n) (ho : okG σ) (h : stm T n σ s = .inr (σ', s')) : okG σ' ∧ s.1 < s'.1 ∧ s'.1 ≤ n ∧ σ'.1.1 = σ.1.1 := by
  obtain ⟨s1, y, h1, h2⟩ := rTh_inv h
  have a := stB_ok hn ho h1
  have b := g_sgn (c := 59) (by decide) s1 y s' a.2.2.1 h2
  exact ⟨a.1, by omega, b.2, a.2.2.2⟩
theorem okG_0 {v : Nat} : okG ((v, 0, 0), [], [], [], fun _ => none) := ⟨Nat.zero_le _, Nat.zero_le _, ⟨Nat.zero_le _, fun q hq => absurd hq List.not_mem_nil⟩, ⟨Nat.zero_le _, fun q hq => absurd hq List.not_mem_nil⟩, ⟨Nat.zero_le _, fun q hq => absurd hq List.not_mem_nil⟩, fun p os _ e => by cases e⟩
theorem hst_ok {T : Nat → Nat} {n : Nat} {σ' : sg} {s s' : ts} (hn : s.1 ≤ n) (h : hst T n s = .inr (σ', s')) : okG σ' ∧ s.1 + 7 ≤ s'.1 ∧ s'.1 ≤ n ∧ 1 ≤ σ'.1.1 ∧ σ'.1.1 ≤ 60 ∧ σ'.2.2.2.2 = fun _ => none := by
  obtain ⟨s1, y, h1, h2⟩ := rTh_inv h
  have hl := tX_le (T := T) hn
  split at h1
  · rename_i hk
    obtain ⟨v, s2, h3, h4⟩ := rB_inv h1
    cases h4
    have i := rNum_inv h3
    have g := g_num _ v s1 hl h3
    have b := g_sgn (c := 59) (by decide) s1 y s' g.2 h2
    have k1 := (kwN_1 (T := T) (n := n) (s := s) (by omega)).1
    have hw := (kwN_eq (T := T) (n := n) (s := s) (w := 0) (by decide)).mp hk
    have hlen := tW_len k1
    rw [hw] at hlen
    have h4 : (wdA 0).length = 4 := by decide
    have hgt := (tE_1 k1).2
    have hsk := sk_ge T n s.1
    have e1 : (tX T n s).1 = tE T n s := rfl
    have hb := tK_2 i.1
    have hsp : (tX T n s).1 < sk T n (tX T n s).1 := by
      have h0 := sk_ge T n (tX T n s).1
      rcases Nat.lt_or_ge (tX T n s).1 (sk T n (tX T n s).1) with q | q
      · exact q
      · exact absurd ⟨show decide (tK T n s = 1 ∨ tK T n s = 2) = true from decide_eq_true (Or.inl k1), by omega⟩ hb.2.2.2
    have hg2 := (tE_2 i.1).2
    have e2 : s1.1 = tE T n (tX T n s) := by rw [i.2.1]; rfl
    exact ⟨okG_0, by omega, b.2, i.2.2.1, i.2.2.2, rfl⟩
  · cases h1
