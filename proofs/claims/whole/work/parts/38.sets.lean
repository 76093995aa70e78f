/-! sets of askers: their minutes, their worth; the best of them -/
def mnS (D S : Nat → Nat) (s : Nat) : Nat → Nat
  | 0 => 0
  | b + 1 => mnS D S s b + if s.testBit b then D (10 + S (2 + 5 * b)) else 0
def wtS (D S : Nat → Nat) (P : Nat → List Nat) (s : Nat) : Nat → Int
  | 0 => 0
  | b + 1 => wtS D S P s b + if s.testBit b then vA D S P b 2 else 0
def cnt (D S : Nat → Nat) (P : Nat → List Nat) : Nat → Nat
  | 0 => 0
  | b + 1 => cnt D S P b + if canA D S P b then 1 else 0
def canB (D S : Nat → Nat) (P : Nat → List Nat) : Nat → Nat
  | 0 => 0
  | b + 1 => canB D S P b + if canA D S P b then 2 ^ b else 0
def sp (D S : Nat → Nat) (P : Nat → List Nat) : Nat → Nat → Nat
  | 0, _ => 0
  | b + 1, c => if canA D S P b then (if c < 2 ^ cnt D S P b then sp D S P b c else sp D S P b (c - 2 ^ cnt D S P b) + 2 ^ b) else sp D S P b c
theorem cnt_s (D S : Nat → Nat) (P : Nat → List Nat) (b : Nat) : cnt D S P (b + 1) = cnt D S P b + if canA D S P b then 1 else 0 := rfl
theorem sp_s (D S : Nat → Nat) (P : Nat → List Nat) (b c : Nat) : sp D S P (b + 1) c = if canA D S P b then (if c < 2 ^ cnt D S P b then sp D S P b c else sp D S P b (c - 2 ^ cnt D S P b) + 2 ^ b) else sp D S P b c := rfl
theorem tb_lo {x b i : Nat} (h : i < b) : (x + 2 ^ b).testBit i = x.testBit i := by rw [Nat.add_comm]; exact Nat.testBit_two_pow_add_gt h x
theorem tb_at {x b : Nat} (h : x < 2 ^ b) : (x + 2 ^ b).testBit b = true := by rw [Nat.add_comm, Nat.testBit_two_pow_add_eq, Nat.testBit_lt_two_pow h]; rfl
theorem tb_hi {x b i : Nat} (h : x < 2 ^ b) (hi : b < i) : (x + 2 ^ b).testBit i = false := by
  apply Nat.testBit_lt_two_pow
  have h1 : 2 ^ (b + 1) ≤ 2 ^ i := Nat.pow_le_pow_right (by decide) hi
  rw [Nat.pow_succ] at h1
  omega
theorem tb_ge {x b i : Nat} (h : x < 2 ^ b) (hi : b ≤ i) : x.testBit i = false := Nat.testBit_lt_two_pow (Nat.lt_of_lt_of_le h (Nat.pow_le_pow_right (by decide) hi))
theorem mnS_c {D S : Nat → Nat} {s s' : Nat} : ∀ {b : Nat}, (∀ i, i < b → s.testBit i = s'.testBit i) → mnS D S s b = mnS D S s' b
  | 0, _ => rfl
  | b + 1, h => by unfold mnS; rw [h b (Nat.lt_succ_self b), mnS_c (fun i hi => h i (Nat.lt_succ_of_lt hi))]
theorem wtS_c {D S : Nat → Nat} {P : Nat → List Nat} {s s' : Nat} : ∀ {b : Nat}, (∀ i, i < b → s.testBit i = s'.testBit i) → wtS D S P s b = wtS D S P s' b
  | 0, _ => rfl
  | b + 1, h => by unfold wtS; rw [h b (Nat.lt_succ_self b), wtS_c (fun i hi => h i (Nat.lt_succ_of_lt hi))]
theorem mnS_up {D S : Nat → Nat} {x b : Nat} (h : x < 2 ^ b) : mnS D S (x + 2 ^ b) (b + 1) = mnS D S x b + D (10 + S (2 + 5 * b)) := by
  show mnS D S (x + 2 ^ b) b + (if (x + 2 ^ b).testBit b then D (10 + S (2 + 5 * b)) else 0) = _
  rw [tb_at h, if_pos rfl, mnS_c (s' := x) (fun i hi => tb_lo hi)]
theorem wtS_up {D S : Nat → Nat} {P : Nat → List Nat} {x b : Nat} (h : x < 2 ^ b) : wtS D S P (x + 2 ^ b) (b + 1) = wtS D S P x b + vA D S P b 2 := by
  show wtS D S P (x + 2 ^ b) b + (if (x + 2 ^ b).testBit b then vA D S P b 2 else 0) = _
  rw [tb_at h, if_pos rfl, wtS_c (s' := x) (fun i hi => tb_lo hi)]
theorem mnS_st {D S : Nat → Nat} {x b : Nat} (h : x < 2 ^ b) : mnS D S x (b + 1) = mnS D S x b := by
  show mnS D S x b + (if x.testBit b then D (10 + S (2 + 5 * b)) else 0) = _
  rw [Nat.testBit_lt_two_pow h]; rfl
theorem wtS_st {D S : Nat → Nat} {P : Nat → List Nat} {x b : Nat} (h : x < 2 ^ b) : wtS D S P x (b + 1) = wtS D S P x b := by
  show wtS D S P x b + (if x.testBit b then vA D S P b 2 else 0) = _
  rw [Nat.testBit_lt_two_pow h]; simp
theorem mnS_0 {D S : Nat → Nat} : ∀ b, mnS D S 0 b = 0
  | 0 => rfl
  | b + 1 => by unfold mnS; rw [Nat.zero_testBit, mnS_0 b]; rfl
theorem wtS_0 {D S : Nat → Nat} {P : Nat → List Nat} : ∀ b, wtS D S P 0 b = 0
  | 0 => rfl
  | b + 1 => by unfold wtS; rw [Nat.zero_testBit, wtS_0 b]; rfl
theorem mnS_le {D S : Nat → Nat} {P : Nat → List Nat} (hD : okD D P) (hS : okS D S) (s : Nat) : ∀ b, b ≤ D 2 → mnS D S s b ≤ 60 * b
  | 0, _ => Nat.le_refl _
  | b + 1, h => by
    have h1 := mnS_le hD hS s b (by omega)
    have h2 := hD.2.2.2.2.2.1 _ (hS.2.2 b (by omega)).1
    unfold mnS
    split <;> omega
theorem wtS_in {D S : Nat → Nat} {P : Nat → List Nat} (hw : ∀ b, b < D 2 → -1000000 ≤ vA D S P b 2 ∧ vA D S P b 2 ≤ 1000000) (s : Nat) : ∀ b, b ≤ D 2 → -(1000000 * (b : Int)) ≤ wtS D S P s b ∧ wtS D S P s b ≤ 1000000 * (b : Int)
  | 0, _ => ⟨by simp [wtS], by simp [wtS]⟩
  | b + 1, h => by
    have h1 := wtS_in hw s b (by omega)
    have h2 := hw b (by omega)
    unfold wtS
    split <;> omega
theorem cnt_le {D S : Nat → Nat} {P : Nat → List Nat} : ∀ b, cnt D S P b ≤ b
  | 0 => Nat.le_refl _
  | b + 1 => by have := cnt_le (D := D) (S := S) (P := P) b; unfold cnt; split <;> omega
theorem canB_lt {D S : Nat → Nat} {P : Nat → List Nat} : ∀ b, canB D S P b < 2 ^ b
  | 0 => Nat.zero_lt_one
  | b + 1 => by have := canB_lt (D := D) (S := S) (P := P) b; unfold canB; rw [Nat.pow_succ]; split <;> omega
theorem canB_tb {D S : Nat → Nat} {P : Nat → List Nat} {i : Nat} : ∀ b, (canB D S P b).testBit i = true ↔ i < b ∧ canA D S P i = true
  | 0 => by simp [canB]
  | b + 1 => by
    have ih := canB_tb (D := D) (S := S) (P := P) (i := i) b
    have hl := canB_lt (D := D) (S := S) (P := P) b
    unfold canB
    by_cases hc : canA D S P b = true
    · rw [if_pos hc]
      rcases Nat.lt_trichotomy i b with h | h | h
      · rw [tb_lo h, ih]; constructor <;> intro q <;> exact ⟨by omega, q.2⟩
      · subst h; rw [tb_at hl]; exact ⟨fun _ => ⟨by omega, hc⟩, fun _ => rfl⟩
      · rw [tb_hi hl h]; exact ⟨fun q => absurd q (by decide), fun q => by omega⟩
    · rw [if_neg hc, Nat.add_zero, ih]
      constructor
      · intro q; exact ⟨by omega, q.2⟩
      · intro q
        refine ⟨?_, q.2⟩
        rcases Nat.lt_or_ge i b with h | h
        · exact h
        · exact absurd (show canA D S P b = true from by rw [show b = i from by omega]; exact q.2) hc
theorem sp_lt {D S : Nat → Nat} {P : Nat → List Nat} : ∀ (b c : Nat), c < 2 ^ cnt D S P b → sp D S P b c < 2 ^ b
  | 0, _, _ => Nat.zero_lt_one
  | b + 1, c, h => by
    unfold sp
    unfold cnt at h
    rw [Nat.pow_succ]
    by_cases hc : canA D S P b = true
    · rw [if_pos hc] at h ⊢
      rw [Nat.pow_succ] at h
      split
      · have := sp_lt (D := D) (S := S) (P := P) b c (by assumption); omega
      · have := sp_lt (D := D) (S := S) (P := P) b (c - 2 ^ cnt D S P b) (by omega); omega
    · rw [if_neg hc] at h ⊢
      have := sp_lt b c h; omega
theorem sp_can {D S : Nat → Nat} {P : Nat → List Nat} {i : Nat} : ∀ (b c : Nat), c < 2 ^ cnt D S P b → (sp D S P b c).testBit i = true → canA D S P i = true
  | 0, _, _, h => by rw [show sp D S P 0 _ = 0 from rfl, Nat.zero_testBit] at h; exact absurd h (by decide)
  | b + 1, c, hl, h => by
    unfold sp at h
    unfold cnt at hl
    by_cases hc : canA D S P b = true
    · rw [if_pos hc] at h hl
      rw [Nat.pow_succ] at hl
      by_cases h2 : c < 2 ^ cnt D S P b
      · rw [if_pos h2] at h; exact sp_can b c h2 h
      · rw [if_neg h2] at h
        have hs := sp_lt (D := D) (S := S) (P := P) b (c - 2 ^ cnt D S P b) (by omega)
        rcases Nat.lt_trichotomy i b with q | q | q
        · rw [tb_lo q] at h; exact sp_can b _ (by omega) h
        · subst q; exact hc
        · rw [tb_hi hs q] at h; exact absurd h (by decide)
    · rw [if_neg hc] at h hl
      exact sp_can b c hl h
theorem sp_mono {D S : Nat → Nat} {P : Nat → List Nat} : ∀ (b c c' : Nat), c ≤ c' → c' < 2 ^ cnt D S P b → sp D S P b c ≤ sp D S P b c'
  | 0, _, _, _, _ => Nat.le_refl _
  | b + 1, c, c', h, hl => by
    unfold sp
    unfold cnt at hl
    by_cases hc : canA D S P b = true
    · rw [if_pos hc] at hl ⊢
      rw [if_pos hc]
      rw [Nat.pow_succ] at hl
      by_cases h2 : c < 2 ^ cnt D S P b
      · rw [if_pos h2]
        by_cases h3 : c' < 2 ^ cnt D S P b
        · rw [if_pos h3]; exact sp_mono b c c' h h3
        · rw [if_neg h3]
          have := sp_lt b c h2
          omega
      · rw [if_neg h2, if_neg (by omega)]
        exact Nat.add_le_add_right (sp_mono b _ _ (by omega) (by omega)) _
    · rw [if_neg hc] at hl ⊢
      rw [if_neg hc]
      exact sp_mono b c c' h hl
theorem lo_bits {x b i : Nat} (h : x.testBit b = true) (hx : x < 2 ^ (b + 1)) : x - 2 ^ b < 2 ^ b ∧ x = (x - 2 ^ b) + 2 ^ b := by
  have h1 : 2 ^ b ≤ x := by
    rcases Nat.lt_or_ge x (2 ^ b) with q | q
    · rw [Nat.testBit_lt_two_pow q] at h; exact absurd h (by decide)
    · exact q
  rw [Nat.pow_succ] at hx
  omega
theorem lo_bits0 {x b : Nat} (h : x.testBit b = false) (hx : x < 2 ^ (b + 1)) : x < 2 ^ b := by
  rcases Nat.lt_or_ge x (2 ^ b) with q | q
  · exact q
  · exfalso
    rw [Nat.pow_succ] at hx
    have : x = (x - 2 ^ b) + 2 ^ b := by omega
    rw [this, tb_at (by omega)] at h
    exact absurd h (by decide)
theorem sp_sur {D S : Nat → Nat} {P : Nat → List Nat} : ∀ (b s : Nat), s < 2 ^ b → (∀ i, s.testBit i = true → canA D S P i = true) → ∃ c, c < 2 ^ cnt D S P b ∧ sp D S P b c = s
  | 0, s, h, _ => ⟨0, by unfold cnt; decide, by rw [show s = 0 from by rw [Nat.pow_zero] at h; omega]; rfl⟩
  | b + 1, s, h, hs => by
    rw [cnt_s]
    simp only [sp_s]
    cases hb : s.testBit b with
    | true =>
      have hc := hs b hb
      obtain ⟨h1, h2⟩ := lo_bits (i := 0) hb h
      obtain ⟨c, c1, c2⟩ := sp_sur (D := D) (S := S) (P := P) b (s - 2 ^ b) h1 (fun i hi => by
        rcases Nat.lt_or_ge i b with q | q
        · rw [← tb_lo q, ← h2] at hi; exact hs i hi
        · rw [tb_ge h1 q] at hi; exact absurd hi (by decide))
      refine ⟨c + 2 ^ cnt D S P b, ?_, ?_⟩
      · rw [if_pos hc, Nat.pow_succ]; omega
      · rw [if_pos hc, if_neg (by omega), Nat.add_sub_cancel, c2]; omega
    | false =>
      obtain ⟨c, c1, c2⟩ := sp_sur (D := D) (S := S) (P := P) b s (lo_bits0 hb h) hs
      refine ⟨c, ?_, ?_⟩
      · split
        · rw [Nat.pow_succ]; omega
        · rw [Nat.add_zero]; exact c1
      · split
        · first | exact c2 | (rw [if_pos c1]; exact c2)
        · exact c2
/-- it may be played -/
def fs (D S : Nat → Nat) (P : Nat → List Nat) (s : Nat) : Prop := s < 2 ^ D 2 ∧ (∀ i, s.testBit i = true → canA D S P i = true) ∧ mnS D S s (D 2) ≤ D 0
def isBest (D S : Nat → Nat) (P : Nat → List Nat) (b : Nat) : Prop := fs D S P b ∧ ∀ s, fs D S P s → wtS D S P s (D 2) < wtS D S P b (D 2) ∨ (wtS D S P s (D 2) = wtS D S P b (D 2) ∧ (mnS D S b (D 2) < mnS D S s (D 2) ∨ (mnS D S b (D 2) = mnS D S s (D 2) ∧ b ≤ s)))
theorem isBest_un {D S : Nat → Nat} {P : Nat → List Nat} {b b' : Nat} (h : isBest D S P b) (h' : isBest D S P b') : b = b' := by
  have h1 := h.2 b' h'.1
  have h2 := h'.2 b h.1
  omega
noncomputable def bst (D S : Nat → Nat) (P : Nat → List Nat) : Nat := Classical.epsilon (fun x => isBest D S P x)
theorem bst_eq {D S : Nat → Nat} {P : Nat → List Nat} {b : Nat} (h : isBest D S P b) : b = bst D S P := isBest_un h (Classical.epsilon_spec (p := fun x => isBest D S P x) ⟨b, h⟩)
/-- a compressed set that beats all others tells the best -/
theorem best_sp {D S : Nat → Nat} {P : Nat → List Nat} {c : Nat} (hc : c < 2 ^ cnt D S P (D 2)) (h1 : mnS D S (sp D S P (D 2) c) (D 2) ≤ D 0) (h2 : ∀ d, d < 2 ^ cnt D S P (D 2) → mnS D S (sp D S P (D 2) d) (D 2) ≤ D 0 → wtS D S P (sp D S P (D 2) d) (D 2) < wtS D S P (sp D S P (D 2) c) (D 2) ∨ (wtS D S P (sp D S P (D 2) d) (D 2) = wtS D S P (sp D S P (D 2) c) (D 2) ∧ (mnS D S (sp D S P (D 2) c) (D 2) < mnS D S (sp D S P (D 2) d) (D 2) ∨ (mnS D S (sp D S P (D 2) c) (D 2) = mnS D S (sp D S P (D 2) d) (D 2) ∧ c ≤ d)))) : isBest D S P (sp D S P (D 2) c) := by
  refine ⟨⟨sp_lt _ _ hc, fun i hi => sp_can _ _ hc hi, h1⟩, fun s hs => ?_⟩
  obtain ⟨d, d1, d2⟩ := sp_sur (D := D) (S := S) (P := P) (D 2) s hs.1 hs.2.1
  have := h2 d d1 (by rw [d2]; exact hs.2.2)
  rw [d2] at this
  rcases this with q | ⟨q1, q2 | ⟨q2, q3⟩⟩
  · exact Or.inl q
  · exact Or.inr ⟨q1, Or.inl q2⟩
  · refine Or.inr ⟨q1, Or.inr ⟨q2, ?_⟩⟩
    have := sp_mono (D := D) (S := S) (P := P) (D 2) c d q3 d1
    rw [d2] at this
    exact this
