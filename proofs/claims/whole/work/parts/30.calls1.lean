/-! the first calls: fault, status, octet, seed, end, song, kept -/
theorem sc_rf (M : pm) : sc M M := ⟨rfl, rfl⟩
theorem j0 : (0 : Int64) = Int32.toInt64 0 := by decide
theorem j1 : (1 : Int64) = Int32.toInt64 1 := by decide
theorem j2 : (2 : Int64) = Int32.toInt64 2 := by decide
theorem j5 : (5 : Int64) = Int32.toInt64 5 := by decide
theorem j_lt (a b : Int32) : a.toInt64 < b.toInt64 ↔ a < b := by
  rw [Int64.lt_iff_toInt_lt, Int32.lt_iff_toInt_lt, Int32.toInt_toInt64, Int32.toInt_toInt64]
theorem isIn_no {x a b : Int32} {M : pm} {Q : Int32 → pm → Prop} (h : x < a ∨ b < x) (k : Q 0 M) : w_X8_isIn x.toInt64 a.toInt64 b.toInt64 M Q := by
  refine ⟨fun _ => k, fun h1 => ⟨fun _ => k, fun h2 => ?_⟩⟩
  rw [j_lt] at h1 h2
  rcases h with h | h
  · exact absurd h h1
  · exact absurd h h2
theorem isIn_yes {x a b : Int32} {M : pm} {Q : Int32 → pm → Prop} (h1 : ¬ x < a) (h2 : ¬ b < x) (k : Q 1 M) : w_X8_isIn x.toInt64 a.toInt64 b.toInt64 M Q := by
  refine ⟨fun h => ?_, fun _ => ⟨fun h => ?_, fun _ => k⟩⟩
  · rw [j_lt] at h; exact absurd h h1
  · rw [j_lt] at h; exact absurd h h2
theorem nI_lt0 {n : Nat} (h : n < 2 ^ 31) : ¬ nI n < 0 := nI_pos h
theorem nI_lem {a b : Nat} (h : a ≤ b) (hb : b < 2 ^ 31) : ¬ nI b < nI a := nI_nlt h hb
/-- x lies below 0, at n or above, or is one of 0 .. n - 1 -/
theorem ix3 (x : Int32) {n : Nat} (hn : n < 2 ^ 31) : x < 0 ∨ (¬ x < 0 ∧ nI n ≤ x) ∨ ∃ j : Nat, j < n ∧ x = nI j := by
  rcases pk_ix x hn with h | h | h
  · exact Or.inl h
  · by_cases h0 : x < 0
    · exact Or.inl h0
    · exact Or.inr (Or.inl ⟨h0, h⟩)
  · exact Or.inr (Or.inr h)
theorem le_pred {x : Int32} {n : Nat} (hn : n < 2 ^ 31) (h : nI n ≤ x) : nI n - 1 < x := by
  rw [Int32.le_iff_toInt_le, nI_toInt hn] at h
  have e : (nI n - 1).toInt = (n : Int) - 1 := by
    cases n with
    | zero => decide
    | succ k => rw [nI_pred, nI_toInt (by omega)]; omega
  rw [Int32.lt_iff_toInt_lt, e]
  omega
theorem p_fault {M : pm} (hI : Inv M) (x : Int32) : stp Inv (w_X7_fault x) (w_X8_fault x) M := by
  intro K hK
  have hf := hI.2.2.1
  unfold w_X7_fault
  refine ⟨fun h0 => ⟨fun h1 => hK _ _ (sc_rf M) fun Q hQ => ?_, fun h1 => hK _ _ (sc_rf M) fun Q hQ => ?_⟩, fun h0 => hK _ _ (sc_rf M) fun Q hQ => ?_⟩
  · exact ⟨fun _ => ⟨fun _ => hQ M hI (sc_rf M), fun h => absurd h h1⟩, fun h => absurd h h0⟩
  · rw [hf.2] at hQ
    exact ⟨fun _ => ⟨fun h => absurd h1 h, fun _ => hQ M hI (sc_rf M)⟩, fun h => absurd h h0⟩
  · rw [hf.1] at hQ
    exact ⟨fun h => absurd h0 h, fun _ => hQ M hI (sc_rf M)⟩
theorem p_status {M : pm} (hI : Inv M) (x : Int32) : stp Inv (w_X7_status x) (w_X8_status x) M := by
  intro K hK
  have hf := hI.2.2.2.1
  rcases ix3 x (n := 6) (by decide) with h | ⟨h0, h⟩ | ⟨j, hj, rfl⟩
  · refine ⟨fun _ => hK _ _ (sc_rf M) fun Q hQ => ?_, fun q => absurd h q⟩
    unfold w_X8_status
    rw [j0, j5]
    exact isIn_no (Or.inl h) ⟨fun _ => hQ M hI (sc_rf M), fun q => absurd rfl q⟩
  · refine ⟨fun q => absurd q h0, fun _ => ⟨fun _ => hK _ _ (sc_rf M) fun Q hQ => ?_, fun q => absurd h q⟩⟩
    unfold w_X8_status
    rw [j0, j5]
    exact isIn_no (Or.inr (le_pred (n := 6) (by decide) h)) ⟨fun _ => hQ M hI (sc_rf M), fun q => absurd rfl q⟩
  · have hv : vp_in (nI j) 6 := vp_in_nI hj (by decide)
    refine ⟨fun q => absurd q (nI_lt0 (by omega)), fun _ => ⟨fun q => absurd q (nI_ge hj (by decide)), fun _ => ⟨hv, hK _ _ (sc_rf M) fun Q hQ => ?_⟩⟩⟩
    unfold w_X8_status
    rw [j0, j5]
    refine isIn_yes (nI_lt0 (by omega)) (nI_lem (a := j) (b := 5) (by omega) (by decide)) ⟨fun q => absurd q (by decide), fun _ => ⟨hv, ?_⟩⟩
    rw [nI_clamp (by omega)] at hQ ⊢
    rw [hf j hj] at hQ
    exact hQ M hI (sc_rf M)
