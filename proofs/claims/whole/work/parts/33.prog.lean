/-! programs: what they reckon -/
def clip (x : Int) : Int := if 1000000 < x then 1000000 else if x < -1000000 then -1000000 else x
/-- a by b, downward -/
def fdv (a b : Int) : Int := if b = 0 then 0 else if a.tdiv b * b = a ∨ (a < 0 ↔ b < 0) then a.tdiv b else a.tdiv b - 1
def jn (c : Nat) (a b : Int) : Int :=
  if c = 1 then clip (a + b) else if c = 2 then clip (a - b) else if c = 3 then clip (a * b) else if c = 4 then fdv a b
  else if c = 5 then (if a < b then a else b) else if c = 6 then (if b < a then a else b) else if c = 7 then (if a < b then 1 else 0)
  else if c = 8 then (if b < a then 1 else 0) else if c = 9 then (if a = b then 1 else 0) else if c = 10 then a * b else if 0 < a + b then 1 else 0
def ev1 (F : Nat → Int) (w : Int) (c : Nat) (s : List Int) : List Int :=
  if 1000 ≤ c then ((c - 1000 : Nat) : Int) :: s
  else if c = 60 then (match s with | x :: t => (if x = w then 1 else 0) :: t | [] => [])
  else if 40 ≤ c then F (c - 40) :: s
  else if c = 13 then 1 :: s
  else if c = 12 then (match s with | x :: t => (1 - x) :: t | [] => [])
  else (match s with | b :: a :: t => jn c a b :: t | _ => [])
def evs (F : Nat → Int) (w : Int) : List Nat → List Int → List Int
  | [], s => s
  | c :: l, s => evs F w l (ev1 F w c s)
def okV : List Bool → List Int → Prop
  | [], [] => True
  | k :: ks, v :: vs => (-1000000 ≤ v ∧ v ≤ 1000000 ∧ (k = true → v = 0 ∨ v = 1)) ∧ okV ks vs
  | _, _ => False
theorem okV_len : ∀ {ks : List Bool} {vs : List Int}, okV ks vs → vs.length = ks.length
  | [], [], _ => rfl
  | k :: ks, v :: vs, h => by rw [List.length_cons, List.length_cons, okV_len h.2]
theorem clip_in (x : Int) : -1000000 ≤ clip x ∧ clip x ≤ 1000000 := by unfold clip; split <;> (try split) <;> omega
theorem clip_id {x : Int} (h1 : -1000000 ≤ x) (h2 : x ≤ 1000000) : clip x = x := by unfold clip; rw [if_neg (by omega), if_neg (by omega)]
theorem tdv_in {a b : Int} (h1 : -1000000 ≤ a) (h2 : a ≤ 1000000) : -1000000 ≤ a.tdiv b ∧ a.tdiv b ≤ 1000000 := by
  have h : (a.tdiv b).natAbs ≤ a.natAbs := by rw [Int.natAbs_tdiv]; exact Nat.div_le_self _ _
  omega
theorem fdv_in {a b : Int} (h1 : -1000000 ≤ a) (h2 : a ≤ 1000000) : -1000000 ≤ fdv a b ∧ fdv a b ≤ 1000000 := by
  have h3 := tdv_in (b := b) h1 h2
  unfold fdv
  split
  · omega
  · rename_i hb
    split
    · exact h3
    · rename_i h4
      by_cases h5 : a.tdiv b = -1000000
      · exfalso
        have e : a.natAbs / b.natAbs = 1000000 := by
          have e2 := Int.natAbs_tdiv a b
          rw [h5] at e2
          exact e2.symm
        have hb1 : b.natAbs = 1 := by
          rcases Nat.lt_or_ge b.natAbs 2 with h | h
          · omega
          · have : a.natAbs / b.natAbs ≤ a.natAbs / 2 := Nat.div_le_div_left h (by decide)
            omega
        apply h4
        left
        have : b = 1 ∨ b = -1 := by omega
        rcases this with h | h
        · rw [h, Int.tdiv_one, Int.mul_one]
        · rw [h, show (-1 : Int) = -(1 : Int) from rfl, Int.tdiv_neg, Int.tdiv_one]; omega
      · omega
theorem jn_1 (a b : Int) : jn 1 a b = clip (a + b) := by unfold jn; rw [if_pos rfl]
theorem jn_2 (a b : Int) : jn 2 a b = clip (a - b) := by unfold jn; rw [if_neg (by decide), if_pos rfl]
theorem jn_3 (a b : Int) : jn 3 a b = clip (a * b) := by unfold jn; rw [if_neg (by decide), if_neg (by decide), if_pos rfl]
theorem jn_4 (a b : Int) : jn 4 a b = fdv a b := by unfold jn; rw [if_neg (by decide), if_neg (by decide), if_neg (by decide), if_pos rfl]
theorem jn_5 (a b : Int) : jn 5 a b = if a < b then a else b := by unfold jn; rw [if_neg (by decide), if_neg (by decide), if_neg (by decide), if_neg (by decide), if_pos rfl]
theorem jn_6 (a b : Int) : jn 6 a b = if b < a then a else b := by unfold jn; rw [if_neg (by decide), if_neg (by decide), if_neg (by decide), if_neg (by decide), if_neg (by decide), if_pos rfl]
theorem jn_7 (a b : Int) : jn 7 a b = if a < b then 1 else 0 := by unfold jn; rw [if_neg (by decide), if_neg (by decide), if_neg (by decide), if_neg (by decide), if_neg (by decide), if_neg (by decide), if_pos rfl]
theorem jn_8 (a b : Int) : jn 8 a b = if b < a then 1 else 0 := by unfold jn; rw [if_neg (by decide), if_neg (by decide), if_neg (by decide), if_neg (by decide), if_neg (by decide), if_neg (by decide), if_neg (by decide), if_pos rfl]
theorem jn_9 (a b : Int) : jn 9 a b = if a = b then 1 else 0 := by unfold jn; rw [if_neg (by decide), if_neg (by decide), if_neg (by decide), if_neg (by decide), if_neg (by decide), if_neg (by decide), if_neg (by decide), if_neg (by decide), if_pos rfl]
theorem jn_in {c : Nat} {a b : Int} (a1 : -1000000 ≤ a) (a2 : a ≤ 1000000) (b1 : -1000000 ≤ b) (b2 : b ≤ 1000000) (c1 : 1 ≤ c) (c2 : c ≤ 6) : -1000000 ≤ jn c a b ∧ jn c a b ≤ 1000000 := by
  have hh : c = 1 ∨ c = 2 ∨ c = 3 ∨ c = 4 ∨ c = 5 ∨ c = 6 := by omega
  rcases hh with rfl | rfl | rfl | rfl | rfl | rfl
  · rw [jn_1]; exact clip_in _
  · rw [jn_2]; exact clip_in _
  · rw [jn_3]; exact clip_in _
  · rw [jn_4]; exact fdv_in a1 a2
  · rw [jn_5]
    split <;> omega
  · rw [jn_6]
    split <;> omega
theorem jn_10 (a b : Int) : jn 10 a b = a * b := by unfold jn; rw [if_neg (by decide), if_neg (by decide), if_neg (by decide), if_neg (by decide), if_neg (by decide), if_neg (by decide), if_neg (by decide), if_neg (by decide), if_neg (by decide), if_pos rfl]
theorem jn_11 (a b : Int) : jn 11 a b = if 0 < a + b then 1 else 0 := by unfold jn; rw [if_neg (by decide), if_neg (by decide), if_neg (by decide), if_neg (by decide), if_neg (by decide), if_neg (by decide), if_neg (by decide), if_neg (by decide), if_neg (by decide), if_neg (by decide)]
theorem jn_01 {c : Nat} {a b : Int} (h : c = 10 ∨ c = 11) (ha : a = 0 ∨ a = 1) (hb : b = 0 ∨ b = 1) : jn c a b = 0 ∨ jn c a b = 1 := by
  rcases h with rfl | rfl
  · rw [jn_10]
    rcases ha with rfl | rfl <;> rcases hb with rfl | rfl <;> omega
  · rw [jn_11]
    split <;> omega
theorem jn_cmp {c : Nat} {a b : Int} (h : c = 7 ∨ c = 8 ∨ c = 9) : jn c a b = 0 ∨ jn c a b = 1 := by
  rcases h with rfl | rfl | rfl
  · rw [jn_7]; split <;> omega
  · rw [jn_8]; split <;> omega
  · rw [jn_9]; split <;> omega
/-- one op keeps the kinds -/
theorem okV_1 {F : Nat → Int} {w : Int} (hF : ∀ k, -1000000 ≤ F k ∧ F k ≤ 1000000) {c : Nat} {ks ks' : List Bool} {vs : List Int} (h : kd1 c ks = some ks') (hv : okV ks vs) : okV ks' (ev1 F w c vs) := by
  unfold kd1 at h
  unfold ev1
  by_cases h1 : 1000 ≤ c
  · rw [if_pos h1] at h ⊢
    by_cases h2 : c < 11000
    · rw [if_pos h2] at h
      cases h
      refine ⟨⟨by omega, by omega, fun q => absurd q (by decide)⟩, hv⟩
    · rw [if_neg h2] at h; exact absurd h (by simp)
  · rw [if_neg h1] at h ⊢
    by_cases h2 : c = 60
    · rw [if_pos h2] at h ⊢
      match ks, vs, hv, h with
      | false :: t, v :: vs, hv, h =>
        cases h
        refine ⟨⟨?_, ?_, fun q => absurd q (by decide)⟩, hv.2⟩ <;> split <;> omega
      | true :: t, v :: vs, hv, h => exact absurd h (by simp)
      | [], [], hv, h => exact absurd h (by simp)
    · rw [if_neg h2] at h ⊢
      by_cases h3 : 40 ≤ c
      · rw [if_pos h3] at h ⊢
        by_cases h4 : c < 50
        · rw [if_pos h4] at h
          cases h
          exact ⟨⟨(hF _).1, (hF _).2, fun q => absurd q (by decide)⟩, hv⟩
        · rw [if_neg h4] at h; exact absurd h (by simp)
      · rw [if_neg h3] at h ⊢
        by_cases h4 : c = 13
        · rw [if_pos h4] at h ⊢
          cases h
          exact ⟨⟨by omega, by omega, fun _ => Or.inr rfl⟩, hv⟩
        · rw [if_neg h4] at h ⊢
          by_cases h5 : c = 12
          · rw [if_pos h5] at h ⊢
            match ks, vs, hv, h with
            | true :: t, v :: vs, hv, h =>
              cases h
              have := hv.1.2.2 rfl
              exact ⟨⟨by omega, by omega, fun _ => by omega⟩, hv.2⟩
            | false :: t, v :: vs, hv, h => exact absurd h (by simp)
            | [], [], hv, h => exact absurd h (by simp)
          · rw [if_neg h5] at h ⊢
            by_cases h6 : c = 10 ∨ c = 11
            · rw [if_pos h6] at h
              match ks, vs, hv, h with
              | true :: true :: t, v :: u :: vs, hv, h =>
                cases h
                have e1 := hv.1.2.2 rfl
                have e2 := hv.2.1.2.2 rfl
                refine ⟨?_, hv.2.2⟩
                have hh : jn c u v = 0 ∨ jn c u v = 1 := jn_01 h6 e2 e1
                rcases hh with h | h
                · rw [h]; exact ⟨by omega, by omega, fun _ => Or.inl rfl⟩
                · rw [h]; exact ⟨by omega, by omega, fun _ => Or.inr rfl⟩
              | true :: false :: t, v :: u :: vs, hv, h => exact absurd h (by simp)
              | false :: t, v :: vs, hv, h => exact absurd h (by simp)
              | [true], [v], hv, h => exact absurd h (by simp)
              | [], [], hv, h => exact absurd h (by simp)
            · rw [if_neg h6] at h
              by_cases h7 : c = 7 ∨ c = 8 ∨ c = 9
              · rw [if_pos h7] at h
                match ks, vs, hv, h with
                | false :: false :: t, v :: u :: vs, hv, h =>
                  cases h
                  refine ⟨?_, hv.2.2⟩
                  have hh : jn c u v = 0 ∨ jn c u v = 1 := jn_cmp h7
                  rcases hh with h | h
                  · rw [h]; exact ⟨by omega, by omega, fun _ => Or.inl rfl⟩
                  · rw [h]; exact ⟨by omega, by omega, fun _ => Or.inr rfl⟩
                | false :: true :: t, v :: u :: vs, hv, h => exact absurd h (by simp)
                | true :: t, v :: vs, hv, h => exact absurd h (by simp)
                | [false], [v], hv, h => exact absurd h (by simp)
                | [], [], hv, h => exact absurd h (by simp)
              · rw [if_neg h7] at h
                by_cases h8 : 1 ≤ c ∧ c ≤ 6
                · rw [if_pos h8] at h
                  match ks, vs, hv, h with
                  | false :: false :: t, v :: u :: vs, hv, h =>
                    cases h
                    have := jn_in (c := c) hv.2.1.1 hv.2.1.2.1 hv.1.1 hv.1.2.1 h8.1 h8.2
                    exact ⟨⟨this.1, this.2, fun q => absurd q (by decide)⟩, hv.2.2⟩
                  | false :: true :: t, v :: u :: vs, hv, h => exact absurd h (by simp)
                  | true :: t, v :: vs, hv, h => exact absurd h (by simp)
                  | [false], [v], hv, h => exact absurd h (by simp)
                  | [], [], hv, h => exact absurd h (by simp)
                · rw [if_neg h8] at h; exact absurd h (by simp)
/-- the class's Math -/
theorem s_clip {x : Int} (h1 : -4611686018427387904 < x) (h2 : x < 4611686018427387904) {M : pm} {Q : Int32 → pm → Prop} (k : Q (zI (clip x)) M) : w_J9_min_f86c9 (1000000 : Int64) (zJ x) M (fun y M1 => w_J9_max_f86c9 (-1000000 : Int64) y M1 (fun y M => Q (Int64.toInt32 y) M)) := by
  unfold clip at k
  refine kj_lt x 1000000 (fun h => ?_) (fun h => ?_)
  · refine kj_lt (-1000000) x (fun h' => ?_) (fun h' => ?_)
    · rw [if_neg (by omega), if_neg (by omega)] at k
      rw [zJ_i]; exact k
    · rw [if_neg (by omega)] at k
      by_cases e : x = -1000000
      · rw [if_neg (by omega), e] at k; exact k
      · rw [if_pos (by omega)] at k; exact k
  · refine k_yes (by decide) ?_
    by_cases e : x = 1000000
    · rw [if_neg (by omega), if_neg (by omega), e] at k; exact k
    · rw [if_pos (by omega)] at k; exact k
theorem sgn_x {a b : Int} (a1 : -1000000 ≤ a) (a2 : a ≤ 1000000) (b1 : -1000000 ≤ b) (b2 : b ≤ 1000000) : 0 ≤ (zI a ^^^ zI b) ↔ (a < 0 ↔ b < 0) := by
  have e : (zI a ^^^ zI b) < 0 ↔ ¬ (a < 0 ↔ b < 0) := by
    rw [Int32.lt_iff_toInt_lt]
    have h := BitVec.msb_eq_toInt (x := (zI a ^^^ zI b).toBitVec)
    have ha := BitVec.msb_eq_toInt (x := (zI a).toBitVec)
    have hb := BitVec.msb_eq_toInt (x := (zI b).toBitVec)
    rw [Int32.toBitVec_xor, BitVec.msb_xor, ha, hb] at h
    have ea : (zI a).toBitVec.toInt = a := zI_t (by omega) (by omega)
    have eb : (zI b).toBitVec.toInt = b := zI_t (by omega) (by omega)
    rw [ea, eb] at h
    have e0 : (0 : Int32).toInt = 0 := by decide
    rw [e0]
    show (zI a ^^^ zI b).toBitVec.toInt < 0 ↔ _
    rw [← Int32.toBitVec_xor] at h
    by_cases p : a < 0 <;> by_cases q : b < 0 <;> simp [p, q] at h ⊢ <;> omega
  constructor
  · intro h
    apply Decidable.byContradiction
    intro h2
    exact absurd (e.mpr h2) (Int32.not_lt.mpr h)
  · intro h
    exact Int32.not_lt.mp (fun h2 => e.mp h2 h)
theorem zI_tdiv {a b : Int} (a1 : -1000000 ≤ a) (a2 : a ≤ 1000000) (b1 : -1000000 ≤ b) (b2 : b ≤ 1000000) : zI a / zI b = zI (a.tdiv b) := by
  apply Int32.toInt_inj.mp
  have h := tdv_in (b := b) a1 a2
  have : zI a ≠ Int32.minValue := by
    intro h
    have := congrArg Int32.toInt h
    rw [zI_t (by omega) (by omega)] at this
    have e : Int32.minValue.toInt = -2147483648 := by decide
    omega
  rw [Int32.toInt_div_of_ne_left _ _ this, zI_t (by omega) (by omega), zI_t (by omega) (by omega), zI_t (by omega) (by omega)]
theorem zJ_tdiv {a b : Int} (a1 : -1000000 ≤ a) (a2 : a ≤ 1000000) (b1 : -1000000 ≤ b) (b2 : b ≤ 1000000) : zJ a / zJ b = zJ (a.tdiv b) := by
  apply Int64.toInt_inj.mp
  have h := tdv_in (b := b) a1 a2
  have : zJ a ≠ Int64.minValue := by
    intro h
    have := congrArg Int64.toInt h
    rw [zJ_t (by omega) (by omega)] at this
    have e : Int64.minValue.toInt = -9223372036854775808 := by decide
    omega
  rw [Int64.toInt_div_of_ne_left _ _ this, zJ_t (by omega) (by omega), zJ_t (by omega) (by omega), zJ_t (by omega) (by omega)]
theorem tdm_in {a b : Int} (a1 : -1000000 ≤ a) (a2 : a ≤ 1000000) (b1 : -1000000 ≤ b) (b2 : b ≤ 1000000) : -1000000 ≤ a.tdiv b * b ∧ a.tdiv b * b ≤ 1000000 := by
  have h : (a.tdiv b * b).natAbs ≤ a.natAbs := by rw [Int.natAbs_mul, Int.natAbs_tdiv]; exact Nat.div_mul_le_self _ _
  omega
theorem s_floorDiv {a b : Int} (a1 : -1000000 ≤ a) (a2 : a ≤ 1000000) (b1 : -1000000 ≤ b) (b2 : b ≤ 1000000) (hb : b ≠ 0) {M : pm} {Q : Int32 → pm → Prop} (k : Q (zI (fdv a b)) M) : w_J9_floorDiv_7cf53 (zI a) (zI b) M Q := by
  have t1 := tdv_in (b := b) a1 a2
  have t2 := tdm_in a1 a2 b1 b2
  unfold fdv at k
  rw [if_neg hb] at k
  refine ⟨fun h => hb ((zI_eq (b := 0) (by omega) (by omega) (by omega) (by omega)).mp h), ?_⟩
  rw [sgn_x a1 a2 b1 b2, zI_tdiv a1 a2 b1 b2]
  refine ⟨fun h => ?_, fun h => ki_eq (a.tdiv b * b) a (fun h' => ?_) (fun h' => ?_) (zI_mul _ _)⟩
  · rw [if_pos (Or.inr h)] at k; exact k
  · rw [if_pos (Or.inl h')] at k; exact k
  · rw [if_neg (fun q => q.elim h' h), ← zI_sub] at k; exact k
theorem mul_in {a b : Int} (a1 : -1000000 ≤ a) (a2 : a ≤ 1000000) (b1 : -1000000 ≤ b) (b2 : b ≤ 1000000) : -1000000000000 ≤ a * b ∧ a * b ≤ 1000000000000 := by
  have h : (a * b).natAbs ≤ 1000000 * 1000000 := by rw [Int.natAbs_mul]; exact Nat.mul_le_mul (by omega) (by omega)
  omega
/-- join -/
theorem s_join {c : Nat} (c1 : 1 ≤ c) (c2 : c ≤ 11) {a b : Int} (a1 : -1000000 ≤ a) (a2 : a ≤ 1000000) (b1 : -1000000 ≤ b) (b2 : b ≤ 1000000) (hk : c = 10 ∨ c = 11 → (a = 0 ∨ a = 1) ∧ (b = 0 ∨ b = 1)) {M : pm} {Q : Int32 → pm → Prop} (k : Q (zI (jn c a b)) M) : w_X1_join (clc c) (zI a) (zI b) M Q := by
  have l1 : (zI a).toInt64 = zJ a := zI_l (by omega) (by omega)
  have l2 : (zI b).toInt64 = zJ b := zI_l (by omega) (by omega)
  have mb := mul_in a1 a2 b1 b2
  have fb := fdv_in (b := b) a1 a2
  have hh : c = 1 ∨ c = 2 ∨ c = 3 ∨ c = 4 ∨ c = 5 ∨ c = 6 ∨ c = 7 ∨ c = 8 ∨ c = 9 ∨ c = 10 ∨ c = 11 := by omega
  unfold w_X1_join
  have cj : ∀ x : Int, -4611686018427387904 < x → x < 4611686018427387904 → ∀ Y : Int64, Y = zJ x → Q (zI (clip x)) M → w_J9_min_f86c9 (1000000 : Int64) Y M (fun y M1 => w_J9_max_f86c9 (-1000000 : Int64) y M1 (fun y M => Q (Int64.toInt32 y) M)) := fun x h1 h2 Y e k => by rw [e]; exact s_clip h1 h2 k
  rcases hh with rfl | rfl | rfl | rfl | rfl | rfl | rfl | rfl | rfl | rfl | rfl
  · rw [jn_1] at k
    simp (decide := true) only [show clc 1 = 10000 from by decide, false_implies, true_implies, not_false_eq_true, not_true_eq_false, and_true, true_and, forall_const]
    exact cj (a + b) (by omega) (by omega) _ (by rw [l1, l2, zJ_add]) k
  · rw [jn_2] at k
    simp (decide := true) only [show clc 2 = 10001 from by decide, false_implies, true_implies, not_false_eq_true, not_true_eq_false, and_true, true_and, forall_const]
    exact cj (a - b) (by omega) (by omega) _ (by rw [l1, l2, zJ_sub]) k
  · rw [jn_3] at k
    simp (decide := true) only [show clc 3 = 10002 from by decide, false_implies, true_implies, not_false_eq_true, not_true_eq_false, and_true, true_and, forall_const]
    exact cj (a * b) (by omega) (by omega) _ (by rw [l1, l2, zJ_mul]) k
  · rw [jn_4] at k
    simp (decide := true) only [show clc 4 = 10003 from by decide, false_implies, true_implies, not_false_eq_true, not_true_eq_false, and_true, true_and, forall_const]
    have k' := k
    refine ki_ne b 0 (fun hb => s_floorDiv a1 a2 b1 b2 hb (cj (fdv a b) (by omega) (by omega) _ (zI_l (by omega) (by omega)) ?_)) (fun hb => cj 0 (by omega) (by omega) _ rfl ?_)
    · rw [clip_id fb.1 fb.2]; exact k'
    · unfold fdv at k'; rw [if_pos hb] at k'; rw [clip_id (by omega) (by omega)]; exact k'
  · rw [jn_5] at k
    simp (decide := true) only [show clc 5 = 10009 from by decide, false_implies, true_implies, not_false_eq_true, not_true_eq_false, and_true, true_and, forall_const]
    have k' := k
    refine ki_lt b a (fun h => cj b (by omega) (by omega) _ l2 ?_) (fun h => cj a (by omega) (by omega) _ l1 ?_)
    · rw [clip_id b1 b2]; rw [if_neg (by omega)] at k'; exact k'
    · rw [clip_id a1 a2]
      by_cases e : a < b
      · rw [if_pos e] at k'; exact k'
      · rw [if_neg e, show b = a from by omega] at k'; exact k'
  · rw [jn_6] at k
    simp (decide := true) only [show clc 6 = 10010 from by decide, false_implies, true_implies, not_false_eq_true, not_true_eq_false, and_true, true_and, forall_const]
    have k' := k
    refine ki_lt a b (fun h => cj b (by omega) (by omega) _ l2 ?_) (fun h => cj a (by omega) (by omega) _ l1 ?_)
    · rw [clip_id b1 b2]; rw [if_neg (by omega)] at k'; exact k'
    · rw [clip_id a1 a2]
      by_cases e : b < a
      · rw [if_pos e] at k'; exact k'
      · rw [if_neg e, show b = a from by omega] at k'; exact k'
  · rw [jn_7] at k
    simp (decide := true) only [show clc 7 = 10004 from by decide, false_implies, true_implies, not_false_eq_true, not_true_eq_false, and_true, true_and, forall_const]
    have k' := k
    refine ki_le b a (fun h => cj 0 (by omega) (by omega) _ rfl ?_) (fun h => cj 1 (by omega) (by omega) _ rfl ?_)
    · rw [if_neg (by omega)] at k'; rw [clip_id (by omega) (by omega)]; exact k'
    · rw [if_pos (by omega)] at k'; rw [clip_id (by omega) (by omega)]; exact k'
  · rw [jn_8] at k
    simp (decide := true) only [show clc 8 = 10005 from by decide, false_implies, true_implies, not_false_eq_true, not_true_eq_false, and_true, true_and, forall_const]
    have k' := k
    refine ki_le a b (fun h => cj 0 (by omega) (by omega) _ rfl ?_) (fun h => cj 1 (by omega) (by omega) _ rfl ?_)
    · rw [if_neg (by omega)] at k'; rw [clip_id (by omega) (by omega)]; exact k'
    · rw [if_pos (by omega)] at k'; rw [clip_id (by omega) (by omega)]; exact k'
  · rw [jn_9] at k
    simp (decide := true) only [show clc 9 = 10006 from by decide, false_implies, true_implies, not_false_eq_true, not_true_eq_false, and_true, true_and, forall_const]
    have k' := k
    refine ki_ne a b (fun h => cj 0 (by omega) (by omega) _ rfl ?_) (fun h => cj 1 (by omega) (by omega) _ rfl ?_)
    · rw [if_neg (by omega)] at k'; rw [clip_id (by omega) (by omega)]; exact k'
    · rw [if_pos (by omega)] at k'; rw [clip_id (by omega) (by omega)]; exact k'
  · rw [jn_10] at k
    simp (decide := true) only [show clc 10 = 10007 from by decide, false_implies, true_implies, not_false_eq_true, not_true_eq_false, and_true, true_and, forall_const]
    have e := hk (Or.inl rfl)
    rcases e with ⟨rfl | rfl, rfl | rfl⟩
    · exact cj 0 (by omega) (by omega) _ (by decide) (by rw [clip_id (by omega) (by omega)]; exact k)
    · exact cj 0 (by omega) (by omega) _ (by decide) (by rw [clip_id (by omega) (by omega)]; exact k)
    · exact cj 0 (by omega) (by omega) _ (by decide) (by rw [clip_id (by omega) (by omega)]; exact k)
    · exact cj 1 (by omega) (by omega) _ (by decide) (by rw [clip_id (by omega) (by omega)]; exact k)
  · rw [jn_11] at k
    simp (decide := true) only [show clc 11 = 10008 from by decide, false_implies, true_implies, not_false_eq_true, not_true_eq_false, and_true, true_and, forall_const]
    have e := hk (Or.inr rfl)
    rcases e with ⟨rfl | rfl, rfl | rfl⟩
    · exact cj 0 (by omega) (by omega) _ (by decide) (by rw [clip_id (by omega) (by omega)]; rw [if_neg (by omega)] at k; exact k)
    · exact cj 1 (by omega) (by omega) _ (by decide) (by rw [clip_id (by omega) (by omega)]; rw [if_pos (by omega)] at k; exact k)
    · exact cj 1 (by omega) (by omega) _ (by decide) (by rw [clip_id (by omega) (by omega)]; rw [if_pos (by omega)] at k; exact k)
    · exact cj 1 (by omega) (by omega) _ (by decide) (by rw [clip_id (by omega) (by omega)]; rw [if_pos (by omega)] at k; exact k)
