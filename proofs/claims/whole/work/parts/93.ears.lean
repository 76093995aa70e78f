/-! who hears whom: the most pleasing row, and the first of them -/
def oka (s u a : Nat) : Bool := s.testBit a && !u.testBit a
def wA (pb : Nat → Nat → Nat) (s : Nat) (W : Nat → Nat) (e u : Nat) : Nat → Nat
  | 0 => W u
  | a + 1 => if oka s u a = true then max (wA pb s W e u a) (pb e a + W (u ||| 2 ^ a)) else wA pb s W e u a
def wD (pb : Nat → Nat → Nat) (s na : Nat) : Nat → Nat → Nat → Nat
  | 0, _, _ => 0
  | k + 1, e, u => wA pb s (wD pb s na k (e + 1)) e u na
def fA (pb : Nat → Nat → Nat) (s : Nat) (W : Nat → Nat) (w e u : Nat) : Nat → Nat
  | 0 => 0
  | a + 1 => if fA pb s W w e u a = 0 then (if oka s u a = true ∧ pb e a + W (u ||| 2 ^ a) = w then a + 1 else 0) else fA pb s W w e u a
def gC (pb : Nat → Nat → Nat) (s na k e u : Nat) : Nat := if wD pb s na k (e + 1) u = wD pb s na (k + 1) e u then 0 else fA pb s (wD pb s na k (e + 1)) (wD pb s na (k + 1) e u) e u na
def uN (u c : Nat) : Nat := if c = 0 then u else u ||| 2 ^ (c - 1)
def fRw (pb : Nat → Nat → Nat) (s na : Nat) : Nat → Nat → Nat → Nat
  | 0, _, _ => 0
  | k + 1, e, u => gC pb s na k e u * (na + 1) ^ k + fRw pb s na k (e + 1) (uN u (gC pb s na k e u))
def vS (pb : Nat → Nat → Nat) (s na : Nat) : Nat → Nat → Nat → Nat → Option Nat
  | 0, _, _, _ => some 0
  | k + 1, e, u, m => if m / (na + 1) ^ k = 0 then vS pb s na k (e + 1) u (m % (na + 1) ^ k) else if oka s u (m / (na + 1) ^ k - 1) = true then (vS pb s na k (e + 1) (u ||| 2 ^ (m / (na + 1) ^ k - 1)) (m % (na + 1) ^ k)).map (fun v => pb e (m / (na + 1) ^ k - 1) + v) else none
theorem wA_0 {pb : Nat → Nat → Nat} {s : Nat} {W : Nat → Nat} {e u : Nat} : ∀ a, W u ≤ wA pb s W e u a
  | 0 => Nat.le_refl _
  | a + 1 => by
    have h := wA_0 (pb := pb) (s := s) (W := W) (e := e) (u := u) a
    unfold wA
    split
    · exact Nat.le_trans h (Nat.le_max_left _ _)
    · exact h
theorem wA_ge {pb : Nat → Nat → Nat} {s : Nat} {W : Nat → Nat} {e u b : Nat} (hb : oka s u b = true) : ∀ a, b < a → pb e b + W (u ||| 2 ^ b) ≤ wA pb s W e u a
  | 0, h => absurd h (Nat.not_lt_zero _)
  | a + 1, h => by
    unfold wA
    by_cases q : b = a
    · subst q
      rw [if_pos hb]
      exact Nat.le_max_right _ _
    · have ih := wA_ge (pb := pb) (W := W) (e := e) hb a (by omega)
      split
      · exact Nat.le_trans ih (Nat.le_max_left _ _)
      · exact ih
theorem wA_or {pb : Nat → Nat → Nat} {s : Nat} {W : Nat → Nat} {e u : Nat} : ∀ a, wA pb s W e u a = W u ∨ ∃ b, b < a ∧ oka s u b = true ∧ wA pb s W e u a = pb e b + W (u ||| 2 ^ b)
  | 0 => Or.inl rfl
  | a + 1 => by
    unfold wA
    have ih := wA_or (pb := pb) (s := s) (W := W) (e := e) (u := u) a
    split
    · rename_i q
      by_cases h : wA pb s W e u a ≤ pb e a + W (u ||| 2 ^ a)
      · exact Or.inr ⟨a, Nat.lt_succ_self a, q, Nat.max_eq_right h⟩
      · rw [Nat.max_eq_left (by omega)]
        rcases ih with h1 | ⟨b, h1, h2, h3⟩
        · exact Or.inl h1
        · exact Or.inr ⟨b, by omega, h2, h3⟩
    · rcases ih with h1 | ⟨b, h1, h2, h3⟩
      · exact Or.inl h1
      · exact Or.inr ⟨b, by omega, h2, h3⟩
theorem fA_ok {pb : Nat → Nat → Nat} {s : Nat} {W : Nat → Nat} {w e u : Nat} : ∀ a, (fA pb s W w e u a = 0 → ∀ b, b < a → oka s u b = true → pb e b + W (u ||| 2 ^ b) ≠ w) ∧ (fA pb s W w e u a ≠ 0 → fA pb s W w e u a ≤ a ∧ oka s u (fA pb s W w e u a - 1) = true ∧ pb e (fA pb s W w e u a - 1) + W (u ||| 2 ^ (fA pb s W w e u a - 1)) = w ∧ ∀ b, b < fA pb s W w e u a - 1 → oka s u b = true → pb e b + W (u ||| 2 ^ b) ≠ w)
  | 0 => ⟨fun _ b h => absurd h (Nat.not_lt_zero _), fun h => absurd rfl h⟩
  | a + 1 => by
    have ih := fA_ok (pb := pb) (s := s) (W := W) (w := w) (e := e) (u := u) a
    by_cases q : fA pb s W w e u a = 0
    · by_cases z : oka s u a = true ∧ pb e a + W (u ||| 2 ^ a) = w
      · have e1 : fA pb s W w e u (a + 1) = a + 1 := by
          show (if _ then _ else _) = _
          rw [if_pos q, if_pos z]
        rw [e1]
        refine ⟨fun h => absurd h (by omega), fun _ => ⟨Nat.le_refl _, ?_, ?_, fun b hb => ih.1 q b (by omega)⟩⟩
        · exact z.1
        · exact z.2
      · have e1 : fA pb s W w e u (a + 1) = 0 := by
          show (if _ then _ else _) = _
          rw [if_pos q, if_neg z]
        rw [e1]
        refine ⟨fun _ b hb ho hw => ?_, fun h => absurd rfl h⟩
        by_cases y : b = a
        · subst y; exact z ⟨ho, hw⟩
        · exact ih.1 q b (by omega) ho hw
    · have e1 : fA pb s W w e u (a + 1) = fA pb s W w e u a := by
        show (if _ then _ else _) = _
        rw [if_neg q]
      rw [e1]
      have h := ih.2 q
      exact ⟨fun h => absurd h q, fun _ => ⟨by omega, h.2.1, h.2.2.1, h.2.2.2⟩⟩
theorem gC_ok {pb : Nat → Nat → Nat} {s na k e u : Nat} : gC pb s na k e u ≤ na ∧ (gC pb s na k e u = 0 → wD pb s na k (e + 1) u = wD pb s na (k + 1) e u) ∧ (gC pb s na k e u ≠ 0 → oka s u (gC pb s na k e u - 1) = true ∧ pb e (gC pb s na k e u - 1) + wD pb s na k (e + 1) (u ||| 2 ^ (gC pb s na k e u - 1)) = wD pb s na (k + 1) e u ∧ wD pb s na k (e + 1) u < wD pb s na (k + 1) e u ∧ ∀ b, b < gC pb s na k e u - 1 → oka s u b = true → pb e b + wD pb s na k (e + 1) (u ||| 2 ^ b) < wD pb s na (k + 1) e u) := by
  have h0 : wD pb s na k (e + 1) u ≤ wD pb s na (k + 1) e u := wA_0 na
  have hg : ∀ b, oka s u b = true → b < na → pb e b + wD pb s na k (e + 1) (u ||| 2 ^ b) ≤ wD pb s na (k + 1) e u := fun b hb h => wA_ge hb na h
  unfold gC
  by_cases q : wD pb s na k (e + 1) u = wD pb s na (k + 1) e u
  · rw [if_pos q]
    exact ⟨Nat.zero_le _, fun _ => q, fun h => absurd rfl h⟩
  · rw [if_neg q]
    have fo := fA_ok (pb := pb) (s := s) (W := wD pb s na k (e + 1)) (w := wD pb s na (k + 1) e u) (e := e) (u := u) na
    have nz : fA pb s (wD pb s na k (e + 1)) (wD pb s na (k + 1) e u) e u na ≠ 0 := fun z => by
      have hn := fo.1 z
      rcases wA_or (pb := pb) (s := s) (W := wD pb s na k (e + 1)) (e := e) (u := u) na with h | ⟨b, h1, h2, h3⟩
      · exact q h.symm
      · exact hn b h1 h2 h3.symm
    have h := fo.2 nz
    refine ⟨h.1, fun z => absurd z nz, fun _ => ⟨h.2.1, h.2.2.1, by omega, fun b hb ho => ?_⟩⟩
    have h4 := h.2.2.2 b hb ho
    have h5 := hg b ho (by omega)
    omega
theorem fRw_ok {pb : Nat → Nat → Nat} {s na : Nat} : ∀ k e u, fRw pb s na k e u < (na + 1) ^ k ∧ vS pb s na k e u (fRw pb s na k e u) = some (wD pb s na k e u) ∧ ∀ m v, m < (na + 1) ^ k → vS pb s na k e u m = some v → v ≤ wD pb s na k e u ∧ (m < fRw pb s na k e u → v < wD pb s na k e u)
  | 0, e, u => ⟨by show 0 < 1; decide, rfl, fun m v hm h => by cases h; exact ⟨Nat.le_refl _, fun z => absurd z (Nat.not_lt_zero _)⟩⟩
  | k + 1, e, u => by
    have hB : 0 < (na + 1) ^ k := Nat.pow_pos (Nat.succ_pos _)
    have g := gC_ok (pb := pb) (s := s) (na := na) (k := k) (e := e) (u := u)
    have h0 : wD pb s na k (e + 1) u ≤ wD pb s na (k + 1) e u := wA_0 na
    have hg : ∀ b, oka s u b = true → b < na → pb e b + wD pb s na k (e + 1) (u ||| 2 ^ b) ≤ wD pb s na (k + 1) e u := fun b hb h => wA_ge hb na h
    have ih := fun u' => fRw_ok (pb := pb) (s := s) (na := na) k (e + 1) u'
    have eF : fRw pb s na (k + 1) e u = gC pb s na k e u * (na + 1) ^ k + fRw pb s na k (e + 1) (uN u (gC pb s na k e u)) := rfl
    have f1 := (ih (uN u (gC pb s na k e u))).1
    generalize hc : gC pb s na k e u = c at g eF f1
    generalize hf : fRw pb s na k (e + 1) (uN u c) = f at eF f1
    have d1 : (c * (na + 1) ^ k + f) / (na + 1) ^ k = c := by
      rw [Nat.add_comm, Nat.add_mul_div_right _ _ hB, Nat.div_eq_of_lt f1, Nat.zero_add]
    have d2 : (c * (na + 1) ^ k + f) % (na + 1) ^ k = f := by
      rw [Nat.add_comm, Nat.add_mul_mod_self_right, Nat.mod_eq_of_lt f1]
    refine ⟨?_, ?_, fun m v hm h => ?_⟩
    · rw [eF, Nat.pow_succ, Nat.mul_comm ((na + 1) ^ k)]
      have := Nat.mul_le_mul_right ((na + 1) ^ k) (show c + 1 ≤ na + 1 from by omega)
      rw [Nat.add_mul, Nat.one_mul] at this
      omega
    · rw [eF]
      unfold vS
      rw [d1, d2]
      by_cases q : c = 0
      · rw [if_pos q, ← g.2.1 q, ← hf, q]
        exact (ih u).2.1
      · have g3 := g.2.2 q
        rw [if_neg q, if_pos g3.1, ← hf]
        unfold uN
        rw [if_neg q, (ih _).2.1, ← g3.2.1]
        rfl
    · have hr : m % (na + 1) ^ k < (na + 1) ^ k := Nat.mod_lt _ hB
      have hq : m / (na + 1) ^ k < na + 1 := Nat.div_lt_of_lt_mul (by rw [Nat.mul_comm, Nat.mul_comm, ← Nat.pow_succ]; exact hm)
      have md := Nat.div_add_mod m ((na + 1) ^ k)
      have le_c : m < fRw pb s na (k + 1) e u → m / (na + 1) ^ k ≤ c := fun z => by
        rw [eF] at z
        have := Nat.div_le_div_right (c := (na + 1) ^ k) (Nat.le_of_lt z)
        rw [d1] at this; exact this
      have lt_f : m < fRw pb s na (k + 1) e u → m / (na + 1) ^ k = c → m % (na + 1) ^ k < f := fun z w => by
        rw [eF] at z
        rw [w, Nat.mul_comm] at md
        omega
      unfold vS at h
      clear md d1 d2 hm
      generalize m / (na + 1) ^ k = y at h hq le_c lt_f
      generalize m % (na + 1) ^ k = r at h hr lt_f
      split at h
      · rename_i q
        have i1 := (ih u).2.2 r v hr h
        refine ⟨Nat.le_trans i1.1 h0, fun z => ?_⟩
        by_cases w : c = 0
        · have l1 := lt_f z (by omega)
          have e1 := g.2.1 w
          rw [← hf, w] at l1
          rw [← e1]
          exact i1.2 l1
        · exact Nat.lt_of_le_of_lt i1.1 (g.2.2 w).2.2.1
      · rename_i q
        split at h
        · rename_i ho
          cases hv : vS pb s na k (e + 1) (u ||| 2 ^ (y - 1)) r with
          | none => rw [hv] at h; cases h
          | some v' =>
            rw [hv] at h
            have ev : v = pb e (y - 1) + v' := by cases h; rfl
            have i1 := (ih _).2.2 r v' hr hv
            have i2 := hg (y - 1) ho (by omega)
            refine ⟨by rw [ev]; exact Nat.le_trans (Nat.add_le_add_left i1.1 _) i2, fun z => ?_⟩
            have lc := le_c z
            have g3 := g.2.2 (by omega)
            rw [ev]
            by_cases w : y = c
            · have l1 := lt_f z w
              rw [← hf] at l1
              unfold uN at l1
              rw [if_neg (by omega), ← w] at l1
              have l2 := i1.2 l1
              have g4 := g3.2.1
              rw [← w] at g4
              rw [← g4]
              exact Nat.add_lt_add_left l2 _
            · exact Nat.lt_of_le_of_lt (Nat.add_le_add_left i1.1 _) (g3.2.2.2 (y - 1) (by omega) ho)
        · cases h
theorem wD_le {pb : Nat → Nat → Nat} {s na : Nat} (hp : ∀ e a, pb e a ≤ 9) : ∀ k e u, wD pb s na k e u ≤ 9 * k
  | 0, _, _ => Nat.le_refl _
  | k + 1, e, u => by
    have ih := fun u' => wD_le (s := s) (na := na) hp k (e + 1) u'
    show wA pb s (wD pb s na k (e + 1)) e u na ≤ _
    rcases wA_or (pb := pb) (s := s) (W := wD pb s na k (e + 1)) (e := e) (u := u) na with h | ⟨b, h1, h2, h3⟩
    · rw [h]; have := ih u; omega
    · rw [h3]; have := ih (u ||| 2 ^ b); have := hp e b; omega
/-- the j-th figure of a row -/
def dgt (na : Nat) : Nat → Nat → Nat → Nat
  | 0, _, _ => 0
  | k + 1, m, 0 => m / (na + 1) ^ k
  | k + 1, m, j + 1 => dgt na k (m % (na + 1) ^ k) j
theorem fRw_d {pb : Nat → Nat → Nat} {s na k e u : Nat} : fRw pb s na (k + 1) e u / (na + 1) ^ k = gC pb s na k e u ∧ fRw pb s na (k + 1) e u % (na + 1) ^ k = fRw pb s na k (e + 1) (uN u (gC pb s na k e u)) := by
  have hB : 0 < (na + 1) ^ k := Nat.pow_pos (Nat.succ_pos _)
  have f1 := (fRw_ok (pb := pb) (s := s) (na := na) k (e + 1) (uN u (gC pb s na k e u))).1
  show (gC pb s na k e u * (na + 1) ^ k + fRw pb s na k (e + 1) (uN u (gC pb s na k e u))) / _ = _ ∧ (gC pb s na k e u * (na + 1) ^ k + fRw pb s na k (e + 1) (uN u (gC pb s na k e u))) % _ = _
  constructor
  · rw [Nat.add_comm, Nat.add_mul_div_right _ _ hB, Nat.div_eq_of_lt f1, Nat.zero_add]
  · rw [Nat.add_comm, Nat.add_mul_mod_self_right, Nat.mod_eq_of_lt f1]
