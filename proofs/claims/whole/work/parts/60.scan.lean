/-! the text: blanks, words, numbers, signs -/
def isB (b : Nat) : Bool := b == 10 || b == 32
def isL (b : Nat) : Bool := decide (97 ≤ b) && decide (b ≤ 122)
def isG (b : Nat) : Bool := decide (48 ≤ b) && decide (b ≤ 57)
def rnA (f : Nat → Bool) : Nat → Nat → Nat
  | 0, p => p
  | d + 1, p => if f p = true then rnA f d (p + 1) else p
/-- the first place from p on where f ends, or n -/
def rn (f : Nat → Bool) (n p : Nat) : Nat := rnA f (n - p) p
theorem rn_st {f : Nat → Bool} {n p : Nat} (h : p < n) (hf : f p = true) : rn f n p = rn f n (p + 1) := by
  unfold rn
  obtain ⟨d, hd⟩ : ∃ d, n - p = d + 1 := ⟨n - p - 1, by omega⟩
  rw [hd, show n - (p + 1) = d from by omega]
  show (if f p = true then rnA f d (p + 1) else p) = _
  rw [if_pos hf]
theorem rn_no {f : Nat → Bool} {n p : Nat} (h : p < n → f p = false) : rn f n p = p := by
  unfold rn
  by_cases hp : p < n
  · obtain ⟨d, hd⟩ : ∃ d, n - p = d + 1 := ⟨n - p - 1, by omega⟩
    rw [hd]
    show (if f p = true then rnA f d (p + 1) else p) = _
    rw [if_neg (by rw [h hp]; decide)]
  · rw [show n - p = 0 from by omega]; rfl
theorem rn_all {f : Nat → Bool} {n : Nat} : ∀ (d p : Nat), n - p = d → p ≤ rn f n p ∧ (p ≤ n → rn f n p ≤ n) ∧ (rn f n p < n → f (rn f n p) = false) ∧ ∀ q, p ≤ q → q < rn f n p → f q = true
  | 0, p, hd => by
    rw [rn_no (fun h => absurd h (by omega))]
    exact ⟨Nat.le_refl _, fun h => h, fun h => by omega, fun q h1 h2 => by omega⟩
  | d + 1, p, hd => by
    cases hf : f p with
    | true =>
      rw [rn_st (by omega) hf]
      obtain ⟨a, b, c, e⟩ := rn_all (f := f) (n := n) d (p + 1) (by omega)
      refine ⟨by omega, fun h => b (by omega), c, fun q h1 h2 => ?_⟩
      by_cases q1 : q = p
      · rw [q1]; exact hf
      · exact e q (by omega) h2
    | false =>
      rw [rn_no (fun _ => hf)]
      exact ⟨Nat.le_refl _, fun h => h, fun _ => hf, fun q h1 h2 => by omega⟩
theorem rn_ge (f : Nat → Bool) (n p : Nat) : p ≤ rn f n p := (rn_all _ p rfl).1
theorem rn_le {f : Nat → Bool} {n p : Nat} (h : p ≤ n) : rn f n p ≤ n := (rn_all _ p rfl).2.1 h
theorem rn_at {f : Nat → Bool} {n p : Nat} (h : rn f n p < n) : f (rn f n p) = false := (rn_all _ p rfl).2.2.1 h
theorem rn_in {f : Nat → Bool} {n p q : Nat} (h1 : p ≤ q) (h2 : q < rn f n p) : f q = true := (rn_all _ p rfl).2.2.2 q h1 h2
theorem rn_idem {f : Nat → Bool} {n p : Nat} : rn f n (rn f n p) = rn f n p := rn_no rn_at
def sk (T : Nat → Nat) (n p : Nat) : Nat := rn (fun k => isB (T k)) n p
def wE (T : Nat → Nat) (n q : Nat) : Nat := rn (fun k => isL (T k)) n q
def dE (T : Nat → Nat) (n q : Nat) : Nat := rn (fun k => isG (T k)) n q
theorem sk_ge (T : Nat → Nat) (n p : Nat) : p ≤ sk T n p := rn_ge _ _ _
theorem sk_le {T : Nat → Nat} {n p : Nat} (h : p ≤ n) : sk T n p ≤ n := rn_le h
theorem sk_sk (T : Nat → Nat) (n p : Nat) : sk T n (sk T n p) = sk T n p := rn_idem
/-- a place in the text: behind which byte, and whether a word or a number ended there -/
abbrev ts : Type := Nat × Bool
/-- the kind of the token behind a place: 1 a word, 2 a number, 3 a sign, 4 glued, 5 the end -/
def tK (T : Nat → Nat) (n : Nat) (s : ts) : Nat :=
  if n ≤ sk T n s.1 then 5
  else if s.2 = true ∧ sk T n s.1 = s.1 ∧ (isL (T s.1) = true ∨ isG (T s.1) = true) then 4
  else if isL (T (sk T n s.1)) = true then 1 else if isG (T (sk T n s.1)) = true then 2 else 3
/-- where it ends -/
def tE (T : Nat → Nat) (n : Nat) (s : ts) : Nat :=
  if tK T n s = 5 then sk T n s.1 else if tK T n s = 1 then wE T n (sk T n s.1) else if tK T n s = 2 then dE T n (sk T n s.1) else sk T n s.1 + 1
def tX (T : Nat → Nat) (n : Nat) (s : ts) : ts := (tE T n s, decide (tK T n s = 1 ∨ tK T n s = 2))
/-- letters as 1 to 26 -/
def ltr (T : Nat → Nat) (q : Nat) : Nat → List Nat
  | 0 => []
  | d + 1 => ltr T q d ++ [T (q + d) - 96]
def tW (T : Nat → Nat) (n : Nat) (s : ts) : List Nat := if tK T n s = 1 then ltr T (sk T n s.1) (tE T n s - sk T n s.1) else []
def tS (T : Nat → Nat) (n : Nat) (s : ts) : Nat := if tK T n s = 3 then T (sk T n s.1) else 0
theorem tK_le (T : Nat → Nat) (n : Nat) (s : ts) : 1 ≤ tK T n s ∧ tK T n s ≤ 5 := by
  unfold tK
  repeat' split
  all_goals omega
theorem tK_5 {T : Nat → Nat} {n : Nat} {s : ts} : tK T n s = 5 ↔ n ≤ sk T n s.1 := by
  unfold tK
  repeat' split
  all_goals simp_all
theorem tK_lt {T : Nat → Nat} {n : Nat} {s : ts} (h : tK T n s ≠ 5) : sk T n s.1 < n := Nat.lt_of_not_le (fun q => h (tK_5.mpr q))
theorem tK_1 {T : Nat → Nat} {n : Nat} {s : ts} (h : tK T n s = 1) : sk T n s.1 < n ∧ isL (T (sk T n s.1)) = true ∧ ¬ (s.2 = true ∧ sk T n s.1 = s.1) := by
  have h5 := tK_lt (T := T) (n := n) (s := s) (by omega)
  unfold tK at h
  rw [if_neg (by omega)] at h
  split at h
  · omega
  · rename_i h4
    split at h
    · rename_i h1
      exact ⟨h5, h1, fun q => h4 ⟨q.1, q.2, Or.inl (by rw [q.2] at h1; exact h1)⟩⟩
    · split at h <;> omega
theorem tK_2 {T : Nat → Nat} {n : Nat} {s : ts} (h : tK T n s = 2) : sk T n s.1 < n ∧ isG (T (sk T n s.1)) = true ∧ isL (T (sk T n s.1)) = false ∧ ¬ (s.2 = true ∧ sk T n s.1 = s.1) := by
  have h5 := tK_lt (T := T) (n := n) (s := s) (by omega)
  unfold tK at h
  rw [if_neg (by omega)] at h
  split at h
  · omega
  · rename_i h4
    split at h
    · omega
    · rename_i h1
      split at h
      · rename_i h2
        exact ⟨h5, h2, by simpa using h1, fun q => h4 ⟨q.1, q.2, Or.inr (by rw [q.2] at h2; exact h2)⟩⟩
      · omega
theorem tK_3 {T : Nat → Nat} {n : Nat} {s : ts} (h : tK T n s = 3) : sk T n s.1 < n ∧ isL (T (sk T n s.1)) = false ∧ isG (T (sk T n s.1)) = false := by
  have h5 := tK_lt (T := T) (n := n) (s := s) (by omega)
  unfold tK at h
  rw [if_neg (by omega)] at h
  split at h
  · omega
  · split at h
    · omega
    · rename_i h1
      split at h
      · omega
      · rename_i h2
        exact ⟨h5, by simpa using h1, by simpa using h2⟩
theorem tK_4 {T : Nat → Nat} {n : Nat} {s : ts} (h : tK T n s = 4) : sk T n s.1 < n ∧ s.2 = true ∧ sk T n s.1 = s.1 ∧ (isL (T s.1) = true ∨ isG (T s.1) = true) := by
  have h5 := tK_lt (T := T) (n := n) (s := s) (by omega)
  unfold tK at h
  rw [if_neg (by omega)] at h
  split at h
  · rename_i h4; exact ⟨h5, h4⟩
  · split at h
    · omega
    · split at h <;> omega
theorem tE_1 {T : Nat → Nat} {n : Nat} {s : ts} (h : tK T n s = 1) : tE T n s = wE T n (sk T n s.1) ∧ sk T n s.1 < tE T n s := by
  have e : tE T n s = wE T n (sk T n s.1) := by unfold tE; rw [if_neg (by omega), if_pos h]
  refine ⟨e, ?_⟩
  have h1 := tK_1 h
  rw [e]
  unfold wE
  rw [rn_st h1.1 h1.2.1]
  exact rn_ge _ _ _
theorem tE_2 {T : Nat → Nat} {n : Nat} {s : ts} (h : tK T n s = 2) : tE T n s = dE T n (sk T n s.1) ∧ sk T n s.1 < tE T n s := by
  have e : tE T n s = dE T n (sk T n s.1) := by unfold tE; rw [if_neg (by omega), if_neg (by omega), if_pos h]
  refine ⟨e, ?_⟩
  have h1 := tK_2 h
  rw [e]
  unfold dE
  rw [rn_st h1.1 h1.2.1]
  exact rn_ge _ _ _
theorem tE_3 {T : Nat → Nat} {n : Nat} {s : ts} (h : tK T n s = 3 ∨ tK T n s = 4) : tE T n s = sk T n s.1 + 1 := by unfold tE; rw [if_neg (by omega), if_neg (by omega), if_neg (by omega)]
theorem tE_5 {T : Nat → Nat} {n : Nat} {s : ts} (h : tK T n s = 5) : tE T n s = sk T n s.1 := by unfold tE; rw [if_pos h]
theorem tE_le {T : Nat → Nat} {n : Nat} {s : ts} (h : s.1 ≤ n) : tE T n s ≤ n := by
  have h1 := sk_le (T := T) h
  have h2 := tK_le T n s
  rcases (show tK T n s = 1 ∨ tK T n s = 2 ∨ (tK T n s = 3 ∨ tK T n s = 4) ∨ tK T n s = 5 from by omega) with q | q | q | q
  · rw [(tE_1 q).1]; exact rn_le h1
  · rw [(tE_2 q).1]; exact rn_le h1
  · rw [tE_3 q]; have := tK_lt (T := T) (n := n) (s := s) (by omega); omega
  · rw [tE_5 q]; exact h1
theorem tE_gt {T : Nat → Nat} {n : Nat} {s : ts} (h : tK T n s ≠ 5) : sk T n s.1 < tE T n s := by
  have h2 := tK_le T n s
  rcases (show tK T n s = 1 ∨ tK T n s = 2 ∨ (tK T n s = 3 ∨ tK T n s = 4) from by omega) with q | q | q
  · exact (tE_1 q).2
  · exact (tE_2 q).2
  · rw [tE_3 q]; omega
theorem tX_gt {T : Nat → Nat} {n : Nat} {s : ts} (h : tK T n s ≠ 5) : s.1 < (tX T n s).1 := Nat.lt_of_le_of_lt (sk_ge T n s.1) (tE_gt h)
theorem tX_le {T : Nat → Nat} {n : Nat} {s : ts} (h : s.1 ≤ n) : (tX T n s).1 ≤ n := tE_le h
theorem ltr_len (T : Nat → Nat) (q : Nat) : ∀ d, (ltr T q d).length = d
  | 0 => rfl
  | d + 1 => by
    show (ltr T q d ++ [_]).length = _
    rw [List.length_append, ltr_len T q d]; rfl
theorem ltr_get {T : Nat → Nat} {q : Nat} : ∀ {d i : Nat}, i < d → (ltr T q d)[i]? = some (T (q + i) - 96)
  | d + 1, i, h => by
    show (ltr T q d ++ [_])[i]? = _
    by_cases e : i = d
    · subst e
      rw [List.getElem?_append_right (by rw [ltr_len]; exact Nat.le_refl _), ltr_len, Nat.sub_self]; rfl
    · rw [List.getElem?_append_left (by rw [ltr_len]; omega)]
      exact ltr_get (by omega)
theorem ltr_in {T : Nat → Nat} {q : Nat} : ∀ {d : Nat}, (∀ i, i < d → isL (T (q + i)) = true) → ∀ x ∈ ltr T q d, 1 ≤ x ∧ x ≤ 26
  | 0, _, x, hx => absurd hx (List.not_mem_nil)
  | d + 1, h, x, hx => by
    rcases List.mem_append.mp hx with hx | hx
    · exact ltr_in (fun i hi => h i (by omega)) x hx
    · rw [List.mem_singleton.mp hx]
      have := h d (by omega)
      unfold isL at this
      rw [Bool.and_eq_true, decide_eq_true_iff, decide_eq_true_iff] at this
      omega
theorem tW_in {T : Nat → Nat} {n : Nat} {s : ts} : ∀ x ∈ tW T n s, 1 ≤ x ∧ x ≤ 26 := by
  unfold tW
  split
  · rename_i h
    have h1 := tE_1 h
    refine ltr_in (fun i hi => ?_)
    rw [h1.1] at hi
    unfold wE at hi
    exact rn_in (f := fun k => isL (T k)) (Nat.le_add_right _ _) (n := n) (by omega)
  · intro x hx; exact absurd hx (List.not_mem_nil)
theorem tW_len {T : Nat → Nat} {n : Nat} {s : ts} (h : tK T n s = 1) : (tW T n s).length = tE T n s - sk T n s.1 := by unfold tW; rw [if_pos h, ltr_len]
/-- the words -/
def wdT : List (List Nat) := [[8, 15, 21, 18], [19, 15, 14, 7], [12, 15, 14, 7], [19, 20, 25, 12, 5], [1, 19, 11, 5, 18], [23, 1, 14, 20, 19], [4, 9, 5, 19], [13, 9, 14, 4, 19], [5, 1, 18], [20, 1, 19, 20, 5], [6, 1, 4, 5, 19], [16, 12, 1, 25, 19], [23, 15, 18, 20, 8], [8, 21, 19, 8], [20, 15, 12, 12], [1, 7, 5], [19, 9, 14, 3, 5], [16, 12, 1, 25, 5, 4], [4, 1, 25], [14, 21, 13, 2, 5, 18], [1, 12, 9, 22, 5], [15, 14], [15, 18], [1, 14, 4], [14, 15, 20], [1, 12, 12], [13, 9, 14], [13, 1, 24], [6, 9, 18, 19, 20], [12, 1, 19, 20], [15, 6, 20, 5, 14], [20, 15, 20, 1, 12], [13, 15, 19, 20], [12, 5, 1, 19, 20]]
def wdA (w : Nat) : List Nat := wdT.getD w []
/-- a word's number; 34 for none -/
def kwN (T : Nat → Nat) (n : Nat) (s : ts) : Nat := wdT.idxOf (tW T n s)
theorem wd_ok : ∀ w, w < 34 → wdT.idxOf (wdA w) = w ∧ 1 ≤ (wdA w).length ∧ (wdA w).length ≤ 6 ∧ ∀ x ∈ wdA w, 1 ≤ x ∧ x ≤ 26 := by decide
theorem kwN_le (T : Nat → Nat) (n : Nat) (s : ts) : kwN T n s ≤ 34 := List.idxOf_le_length
theorem kwN_eq {T : Nat → Nat} {n : Nat} {s : ts} {w : Nat} (hw : w < 34) : kwN T n s = w ↔ tW T n s = wdA w := by
  constructor
  · intro h
    have h1 : wdT.idxOf (tW T n s) < wdT.length := by
      show kwN T n s < _
      rw [h]; exact hw
    have h2 := List.getElem_idxOf h1
    unfold wdA
    rw [List.getD_eq_getElem?_getD, ← h]
    unfold kwN
    rw [List.getElem?_eq_getElem h1, h2]; rfl
  · intro h
    unfold kwN
    rw [h]; exact (wd_ok w hw).1
theorem kwN_1 {T : Nat → Nat} {n : Nat} {s : ts} (h : kwN T n s < 34) : tK T n s = 1 ∧ tE T n s - sk T n s.1 ≤ 6 := by
  have h1 := (kwN_eq (T := T) (n := n) (s := s) h).mp rfl
  have h2 := wd_ok _ h
  by_cases h3 : tK T n s = 1
  · have := tW_len h3
    rw [h1] at this
    exact ⟨h3, by omega⟩
  · unfold tW at h1
    rw [if_neg h3] at h1
    rw [← h1] at h2
    exact absurd h2.2.1 (by decide)
theorem kwN_no {T : Nat → Nat} {n : Nat} {s : ts} (h : tK T n s ≠ 1) : kwN T n s = 34 := by
  have h1 := kwN_le T n s
  rcases Nat.lt_or_ge (kwN T n s) 34 with q | q
  · exact absurd (kwN_1 q).1 h
  · omega
theorem tS_k {T : Nat → Nat} {n : Nat} {s : ts} {c : Nat} (hc : 0 < c) (h : tS T n s = c) : tK T n s = 3 ∧ T (sk T n s.1) = c := by
  unfold tS at h
  split at h
  · rename_i q; exact ⟨q, h⟩
  · omega
theorem pkN_inj : ∀ {l r : List Nat}, (∀ x ∈ l, 1 ≤ x ∧ x ≤ 26) → (∀ x ∈ r, 1 ≤ x ∧ x ≤ 26) → pkN l = pkN r → l = r
  | [], [], _, _, _ => rfl
  | [], y :: t, _, h2, e => by
    have := h2 y (List.mem_cons_self ..)
    have e : 0 = y + 32 * pkN t := e
    omega
  | x :: s, [], h1, _, e => by
    have := h1 x (List.mem_cons_self ..)
    have e : x + 32 * pkN s = 0 := e
    omega
  | x :: s, y :: t, h1, h2, e => by
    have a := h1 x (List.mem_cons_self ..)
    have b := h2 y (List.mem_cons_self ..)
    have e : x + 32 * pkN s = y + 32 * pkN t := e
    have e2 : pkN s = pkN t := by omega
    rw [pkN_inj (fun z hz => h1 z (List.mem_cons_of_mem _ hz)) (fun z hz => h2 z (List.mem_cons_of_mem _ hz)) e2, show x = y from by omega]
theorem pkN_app : ∀ (l : List Nat) (x : Nat), pkN (l ++ [x]) = pkN l + 32 ^ l.length * x
  | [], x => by
    show x + 32 * 0 = 0 + 1 * x
    omega
  | y :: t, x => by
    show y + 32 * pkN (t ++ [x]) = y + 32 * pkN t + 32 ^ (t.length + 1) * x
    rw [pkN_app t x, Nat.pow_succ, Nat.mul_add, ← Nat.mul_assoc, Nat.mul_comm 32 (32 ^ t.length)]; omega
/-- a number's value, its first d digits -/
def nvA (T : Nat → Nat) (q : Nat) : Nat → Nat
  | 0 => 0
  | d + 1 => 10 * nvA T q d + (T (q + d) - 48)
theorem nvA_lt {T : Nat → Nat} {q : Nat} : ∀ {d : Nat}, (∀ i, i < d → isG (T (q + i)) = true) → nvA T q d < 10 ^ d
  | 0, _ => (by decide : 0 < 1)
  | d + 1, h => by
    have h1 := nvA_lt (fun i hi => h i (Nat.lt_succ_of_lt hi))
    have h2 := h d (Nat.lt_succ_self d)
    unfold isG at h2
    rw [Bool.and_eq_true, decide_eq_true_iff, decide_eq_true_iff] at h2
    show 10 * nvA T q d + (T (q + d) - 48) < 10 ^ (d + 1)
    rw [Nat.pow_succ]; omega
/-- what comes of reading: a fault's kind and place, or what was read and the place behind it -/
abbrev rs (A : Type) : Type := Sum (Nat × Nat) (A × ts)
def rNum (T : Nat → Nat) (n lo hi : Nat) (s : ts) : rs Nat :=
  if tK T n s = 2 then
    (if 4 < tE T n s - sk T n s.1 then .inl (1, sk T n s.1 + 4)
     else if nvA T (sk T n s.1) (tE T n s - sk T n s.1) < lo ∨ hi < nvA T (sk T n s.1) (tE T n s - sk T n s.1) then .inl (2, sk T n s.1)
     else .inr (nvA T (sk T n s.1) (tE T n s - sk T n s.1), tX T n s))
  else .inl (1, sk T n s.1)
def rNam (T : Nat → Nat) (n : Nat) (s : ts) : rs (List Nat) :=
  if tK T n s = 1 ∧ 28 ≤ kwN T n s then
    (if 6 < tE T n s - sk T n s.1 then .inl (1, sk T n s.1 + 6) else .inr (tW T n s, tX T n s))
  else .inl (1, sk T n s.1)
def rSgn (T : Nat → Nat) (n c : Nat) (s : ts) : rs Unit := if tS T n s = c then .inr ((), tX T n s) else .inl (1, sk T n s.1)
def rWrd (T : Nat → Nat) (n w : Nat) (s : ts) : rs Unit := if kwN T n s = w then .inr ((), tX T n s) else .inl (1, sk T n s.1)
