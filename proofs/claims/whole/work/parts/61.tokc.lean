/-! the class's tokens -/
def fT (a k : Nat) : Prop := a = 6 ∧ 3 ≤ k
def wdC (M : pm) : Prop := ∀ w, w < 34 → mI M 7 w = nI (pkN (wdA w))
set_option maxRecDepth 100000 in
theorem pM2_w : ∀ w, w < 34 → mI pM2 7 w = nI (pkN (wdA w)) := by decide +kernel
theorem wdC_of {M : pm} (h : iWrd M) : wdC M := fun w hw => (h.1 w hw).trans (pM2_w w hw)
def txC (M : pm) (T : Nat → Nat) (n : Nat) : Prop := tpC M T ∧ n ≤ 1600 ∧ mR M 6 1 = 4 ∧ mI M 6 2 = nI n ∧ wdC M
def tkC (M : pm) (T : Nat → Nat) (n : Nat) (s : ts) : Prop := txC M T n ∧ s.1 ≤ n ∧ mI M 6 3 = nI (tK T n s) ∧ mI M 6 4 = nI (sk T n s.1) ∧ mI M 6 5 = nI (tE T n s) ∧ ((tW T n s).length ≤ 6 → mI M 6 6 = nI (pkN (tW T n s))) ∧ mI M 6 7 = 0 ∧ mI M 6 8 = -1
/-- behind a fault -/
def tkS (M : pm) (e : Nat × Nat) : Prop := mI M 6 3 = 6 ∧ mI M 6 7 = nI e.1 ∧ mI M 6 8 = nI e.2 ∧ 1 ≤ e.1 ∧ e.1 < 6
theorem txC_c {M M' : pm} {T : Nat → Nat} {n : Nat} (e4 : mI M' 4 = mI M 4) (e7 : mI M' 7 = mI M 7) (er : mR M' 6 1 = mR M 6 1) (e2 : mI M' 6 2 = mI M 6 2) (h : txC M T n) : txC M' T n :=
  ⟨tpC_c e4 h.1, h.2.1, by rw [er]; exact h.2.2.1, by rw [e2]; exact h.2.2.2.1, fun w hw => by rw [e7]; exact h.2.2.2.2 w hw⟩
theorem txC_f {A : Nat → Nat → Prop} {M M' : pm} {T : Nat → Nat} {n : Nat} (f : fG A M M') (a4 : ∀ k, ¬ A 4 k) (a7 : ∀ k, ¬ A 7 k) (a6 : ¬ A 6 2) (h : txC M T n) : txC M' T n := txC_c (f.row a4) (f.row a7) (by rw [f.2.1]) (f.2.2.2 6 2 a6) h
theorem sb_B : ∀ b, b < 256 → (sb b = 32 → isB b = true) ∧ (sb b = 10 → isB b = true) ∧ (¬ sb b = 32 → ¬ sb b = 10 → isB b = false) := by decide +kernel
theorem sb_L : ∀ b, b < 256 → (sb b < 97 → isL b = false) ∧ (122 < sb b → isL b = false) ∧ (¬ sb b < 97 → ¬ 122 < sb b → isL b = true) := by decide +kernel
theorem sb_G : ∀ b, b < 256 → (sb b < 48 → isG b = false) ∧ (57 < sb b → isG b = false) ∧ (¬ sb b < 48 → ¬ 57 < sb b → isG b = true) := by decide +kernel
theorem sb_v {b : Nat} (h : b < 128) : sb b = nI b := by unfold sb; rw [if_pos h]
theorem isL_r {b : Nat} (h : isL b = true) : 97 ≤ b ∧ b ≤ 122 := by
  unfold isL at h
  rw [Bool.and_eq_true, decide_eq_true_iff, decide_eq_true_iff] at h
  exact h
theorem isG_r {b : Nat} (h : isG b = true) : 48 ≤ b ∧ b ≤ 57 := by
  unfold isG at h
  rw [Bool.and_eq_true, decide_eq_true_iff, decide_eq_true_iff] at h
  exact h
theorem c_L {b : Nat} (hb : b < 256) {A B : Prop} (f : isL b = true → A) (g : isL b = false → B) : (sb b < 97 → B) ∧ (¬ sb b < 97 → ((122 < sb b → B) ∧ (¬ 122 < sb b → A))) :=
  ⟨fun q => g ((sb_L b hb).1 q), fun q => ⟨fun r => g ((sb_L b hb).2.1 r), fun r => f ((sb_L b hb).2.2 q r)⟩⟩
theorem c_G {b : Nat} (hb : b < 256) {A B : Prop} (f : isG b = true → A) (g : isG b = false → B) : (sb b < 48 → B) ∧ (¬ sb b < 48 → ((57 < sb b → B) ∧ (¬ 57 < sb b → A))) :=
  ⟨fun q => g ((sb_G b hb).1 q), fun q => ⟨fun r => g ((sb_G b hb).2.1 r), fun r => f ((sb_G b hb).2.2 q r)⟩⟩
theorem lay4 : (lay 4).2 = 1600 := by decide
theorem c_skip {M : pm} {T : Nat → Nat} {n : Nat} (hx : txC M T n) {x1 : Int32} {K : Int32 → Int32 → pm → Prop} {Q : pm → Prop} {p : Nat} (hp : p ≤ n) (k : K x1 (nI (sk T n p)) M) : ∃ m, w_X6_take_37 m x1 (nI p) M K Q := by
  obtain ⟨hT, h16, hr, h2, -⟩ := hx
  have key : ∀ d m p, n - p = d → p ≤ n → d < m → K x1 (nI (sk T n p)) M → w_X6_take_37 m x1 (nI p) M K Q := by
    intro d
    induction d with
    | zero =>
      intro m p hd hp hm k
      obtain ⟨m, rfl⟩ : ∃ m', m = m' + 1 := ⟨m - 1, by omega⟩
      have e : sk T n p = p := rn_no (fun h => absurd h (by omega))
      rw [e] at k
      unfold w_X6_take_37
      rw [h2]
      exact k_yes (nI_le (by omega) (by omega)) k
    | succ d ih =>
      intro m p hd hp hm k
      obtain ⟨m, rfl⟩ : ∃ m', m = m' + 1 := ⟨m - 1, by omega⟩
      obtain ⟨hb, ht⟩ := hT p (by omega)
      have go : isB (T p) = true → w_X6_take_37 m x1 (nI (p + 1)) M K Q := fun q => ih m (p + 1) (by omega) (by omega) (by omega) (by
        have e : sk T n p = sk T n (p + 1) := rn_st (f := fun k => isB (T k)) (by omega) q
        rw [← e]; exact k)
      have st : isB (T p) = false → K x1 (nI p) M := fun q => by
        have e : sk T n p = p := rn_no (f := fun k => isB (T k)) (fun _ => q)
        rw [e] at k; exact k
      have sB := sb_B _ hb
      unfold w_X6_take_37
      rw [h2, hr, lay4, nI_clamp (by omega), ht, nI_1]
      exact k_no (nI_ge (by omega) (by omega)) ⟨vp_in_nI (by omega) (by decide), fun q => go (sB.1 q), fun q => ⟨vp_in_nI (by omega) (by decide), fun q2 => st (sB.2.2 q q2), fun q2 => go (sB.2.1 q2)⟩⟩
  exact ⟨n - p + 1, key _ _ p rfl hp (by omega) k⟩
theorem c_digs {M : pm} {T : Nat → Nat} {n : Nat} (hx : txC M T n) {Q : pm → Prop} {p : Nat} (hp : p ≤ n) (k : Q (sI M 6 5 (nI (dE T n p)))) : ∃ m, w_X6_take_301 m (nI p) M Q := by
  obtain ⟨hT, h16, hr, h2, -⟩ := hx
  have key : ∀ d m p, n - p = d → p ≤ n → d < m → Q (sI M 6 5 (nI (dE T n p))) → w_X6_take_301 m (nI p) M Q := by
    intro d
    induction d with
    | zero =>
      intro m p hd hp hm k
      obtain ⟨m, rfl⟩ : ∃ m', m = m' + 1 := ⟨m - 1, by omega⟩
      have e : dE T n p = p := rn_no (fun h => absurd h (by omega))
      rw [e] at k
      unfold w_X6_take_301
      rw [h2]
      exact k_yes (nI_le (by omega) (by omega)) k
    | succ d ih =>
      intro m p hd hp hm k
      obtain ⟨m, rfl⟩ : ∃ m', m = m' + 1 := ⟨m - 1, by omega⟩
      obtain ⟨hb, ht⟩ := hT p (by omega)
      have go : isG (T p) = true → w_X6_take_301 m (nI (p + 1)) M Q := fun q => ih m (p + 1) (by omega) (by omega) (by omega) (by
        have e : dE T n p = dE T n (p + 1) := rn_st (f := fun k => isG (T k)) (by omega) q
        rw [← e]; exact k)
      have st : isG (T p) = false → Q (sI M 6 5 (nI p)) := fun q => by
        have e : dE T n p = p := rn_no (f := fun k => isG (T k)) (fun _ => q)
        rw [e] at k; exact k
      have sG := sb_G _ hb
      unfold w_X6_take_301
      rw [h2, hr, lay4, nI_clamp (by omega), ht, nI_1]
      exact k_no (nI_ge (by omega) (by omega)) ⟨vp_in_nI (by omega) (by decide), fun q => st (sG.1 q), fun q => ⟨vp_in_nI (by omega) (by decide), fun q2 => st (sG.2.1 q2), fun q2 => go (sG.2.2 q q2)⟩⟩
  exact ⟨n - p + 1, key _ _ p rfl hp (by omega) k⟩
theorem c_or {l : List Nat} {x : Nat} (h6 : l.length < 6) (hl : ∀ y ∈ l, 1 ≤ y ∧ y ≤ 26) (hx : x ≤ 26) : nI (pkN l) ||| (nI x <<< (nI (5 * l.length) &&& 31)) = nI (pkN (l ++ [x])) := by
  have h1 := pkN_lt l hl
  have e5 : (32 : Nat) ^ l.length = 2 ^ (5 * l.length) := by rw [show (32 : Nat) = 2 ^ 5 from rfl, ← Nat.pow_mul]
  have h2 : (2 : Nat) ^ (5 * l.length) ≤ 2 ^ 25 := Nat.pow_le_pow_right (by decide) (by omega)
  have h3 : x * 2 ^ (5 * l.length) < 2 ^ 31 := by
    have : x * 2 ^ (5 * l.length) ≤ 26 * 2 ^ 25 := Nat.mul_le_mul hx h2
    omega
  rw [pk_shlN (n := x) (nI (5 * l.length) &&& 31) (5 * l.length) (b_s (by omega)) (by omega), b_or (by omega) h3, pkN_app, e5]
  congr 1
  rw [Nat.or_comm, Nat.mul_comm x, ← Nat.two_pow_add_eq_or_of_lt (by omega)]; omega
theorem c_lets {M : pm} {T : Nat → Nat} {n : Nat} (hx : txC M T n) {q : Nat} (h4 : mI M 6 4 = nI q) (h6 : mI M 6 6 = 0) (hq : q ≤ n) {Q : pm → Prop} (k : ∀ M', fG fT M M' → mI M' 6 3 = mI M 6 3 → mI M' 6 4 = nI q → mI M' 6 5 = nI (wE T n q) → (wE T n q - q ≤ 6 → mI M' 6 6 = nI (pkN (ltr T q (wE T n q - q)))) → mI M' 6 7 = mI M 6 7 → mI M' 6 8 = mI M 6 8 → Q M') : ∃ m, w_X6_take_211 m (nI q) M Q := by
  have key : ∀ d m p M1, n - p = d → q ≤ p → p ≤ n → d < m → fG (fun a k => a = 6 ∧ k = 6) M M1 → (p - q ≤ 6 → mI M1 6 6 = nI (pkN (ltr T q (p - q)))) → wE T n q = wE T n p → (∀ j, q ≤ j → j < p → isL (T j) = true) → w_X6_take_211 m (nI p) M1 Q := by
    intro d
    induction d with
    | zero =>
      intro m p M1 hd hqp hp hm f hn hw hl
      obtain ⟨m, rfl⟩ : ∃ m', m = m' + 1 := ⟨m - 1, by omega⟩
      obtain ⟨hT, h16, hr, h2, -⟩ := hx
      have e : wE T n p = p := rn_no (fun h => absurd h (by omega))
      unfold w_X6_take_211
      rw [f.2.2.2 6 2 (by omega), h2]
      refine k_yes (nI_le (by omega) (by omega)) (k _ ⟨f.1, f.2.1, f.2.2.1, fun a j h => ?_⟩ ?_ ?_ ?_ ?_ ?_ ?_)
      · unfold fT at h; rw [rI (by omega)]; exact f.2.2.2 a j (by omega)
      · rw [rI (by omega)]; exact f.2.2.2 6 3 (by omega)
      · rw [rI (by omega), f.2.2.2 6 4 (by omega), h4]
      · rw [rIs, hw, e]
      · intro h; rw [rI (by omega), hn (by rw [hw, e] at h; exact h), hw, e]
      · rw [rI (by omega)]; exact f.2.2.2 6 7 (by omega)
      · rw [rI (by omega)]; exact f.2.2.2 6 8 (by omega)
    | succ d ih =>
      intro m p M1 hd hqp hp hm f hn hw hl
      obtain ⟨m, rfl⟩ : ∃ m', m = m' + 1 := ⟨m - 1, by omega⟩
      obtain ⟨hT, h16, hr, h2, -⟩ := id hx
      obtain ⟨hb, ht⟩ := hT p (by omega)
      have st : isL (T p) = false → Q (sI M1 6 5 (nI p)) := fun qq => by
        have e : wE T n p = p := rn_no (f := fun k => isL (T k)) (fun _ => qq)
        refine k _ ⟨f.1, f.2.1, f.2.2.1, fun a j h => ?_⟩ ?_ ?_ ?_ ?_ ?_ ?_
        · unfold fT at h; rw [rI (by omega)]; exact f.2.2.2 a j (by omega)
        · rw [rI (by omega)]; exact f.2.2.2 6 3 (by omega)
        · rw [rI (by omega), f.2.2.2 6 4 (by omega), h4]
        · rw [rIs, hw, e]
        · intro h; rw [rI (by omega), hn (by rw [hw, e] at h; exact h), hw, e]
        · rw [rI (by omega)]; exact f.2.2.2 6 7 (by omega)
        · rw [rI (by omega)]; exact f.2.2.2 6 8 (by omega)
      have go : isL (T p) = true → ∀ v, (p - q < 6 → v = nI (pkN (ltr T q (p + 1 - q)))) → w_X6_take_211 m (nI (p + 1)) (sI M1 6 6 v) Q := fun qq v hv => by
        refine ih m (p + 1) _ (by omega) (by omega) (by omega) (by omega) ⟨f.1, f.2.1, f.2.2.1, fun a j h => ?_⟩ (fun h => ?_) ?_ (fun j h1 h2 => ?_)
        · rw [rI (by omega)]; exact f.2.2.2 a j h
        · rw [rIs]; exact hv (by omega)
        · rw [hw]; exact rn_st (f := fun k => isL (T k)) (by omega) qq
        · by_cases e : j = p
          · rw [e]; exact qq
          · exact hl j h1 (by omega)
      unfold w_X6_take_211
      rw [f.2.2.2 6 2 (by omega), h2, f.2.1, hr, lay4, f.2.2.2 6 4 (by omega), h4, f.2.2.2 4 _ (by omega), nI_clamp (by omega), ht, nI_1, pk_sub hqp, show (5 : Int32) * nI (p - q) = nI (5 * (p - q)) from pk_mul 5 _]
      have sL := sb_L _ hb
      refine k_no (nI_ge (by omega) (by omega)) ⟨vp_in_nI (by omega) (by decide), fun q1 => st (sL.1 q1), fun q1 => ⟨vp_in_nI (by omega) (by decide), fun q2 => st (sL.2.1 q2), fun q2 => ?_⟩⟩
      have hL := sL.2.2 q1 q2
      have hr := isL_r hL
      refine pk_le 6 (p - q) (fun h => go hL _ (fun h' => absurd h' (by omega))) (fun h => ⟨vp_in_nI (by omega) (by decide), go hL _ (fun _ => ?_)⟩)
      rw [hn (by omega), sb_v (by omega), show nI (T p) - 97 = nI (T p - 97) from pk_sub (a := T p) (b := 97) (by omega), nI_1]
      have hin : ∀ y ∈ ltr T q (p - q), 1 ≤ y ∧ y ≤ 26 := ltr_in (fun i hi => hl (q + i) (by omega) (by omega))
      have := c_or (l := ltr T q (p - q)) (x := T p - 97 + 1) (by rw [ltr_len]; omega) hin (by omega)
      rw [ltr_len] at this
      rw [this, show p + 1 - q = (p - q) + 1 from by omega]
      show _ = nI (pkN (ltr T q (p - q) ++ [T (q + (p - q)) - 96]))
      rw [show q + (p - q) = p from by omega, show T p - 97 + 1 = T p - 96 from by omega]
  exact ⟨n - q + 1, key _ _ q M rfl (Nat.le_refl _) hq (by omega) (fG.rf M) (fun _ => by rw [h6, Nat.sub_self]; rfl) rfl (fun j h1 h2 => absurd h2 (by omega))⟩
/-- to the next token -/
theorem c_take0 {M : pm} {T : Nat → Nat} {n : Nat} (hx : txC M T n) {p K : Nat} (hp : p ≤ n) (hK : K < 6) (h3 : mI M 6 3 = nI K) (h5 : mI M 6 5 = nI p) (h7 : mI M 6 7 = 0) (h8 : mI M 6 8 = -1) {Q : pm → Prop} (k : ∀ M', fG fT M M' → tkC M' T n (p, decide (K = 1 ∨ K = 2)) → Q M') : w_X6_take M Q := by
  have h16 := hx.2.1
  have hq := sk_le (T := T) hp
  have hge := sk_ge T n p
  generalize hs : ((p, decide (K = 1 ∨ K = 2)) : ts) = s at k
  have s1 : s.1 = p := by rw [← hs]
  have s2 : s.2 = decide (K = 1 ∨ K = 2) := by rw [← hs]
  have fin : ∀ M', fG fT M M' → mI M' 6 3 = nI (tK T n s) → mI M' 6 4 = nI (sk T n p) → mI M' 6 5 = nI (tE T n s) → ((tW T n s).length ≤ 6 → mI M' 6 6 = nI (pkN (tW T n s))) → mI M' 6 7 = mI M 6 7 → mI M' 6 8 = mI M 6 8 → Q M' := fun M' f e3 e4 e5 e6 e7 e8 => k M' f ⟨txC_f f (fun _ => by unfold fT; omega) (fun _ => by unfold fT; omega) (by unfold fT; omega) hx, by rw [s1]; exact hp, e3, by rw [s1]; exact e4, e5, e6, by rw [e7, h7], by rw [e8, h8]⟩
  have f1 : ∀ {j : Nat} {v : Int32} {M1 : pm}, fG fT M M1 → 3 ≤ j → fG fT M (sI M1 6 j v) := fun h hj => h.up ⟨rfl, hj⟩ _
  have nw : tK T n s ≠ 1 → tW T n s = [] := fun h => by unfold tW; rw [if_neg h]
  -- behind the blanks
  have main : ∀ x1 : Int32, (x1 = 0 ∧ s.2 = false ∨ x1 = 1 ∧ s.2 = true) → (((mI M 6 2) ≤ nI (sk T n p) → (w_X6_take_91 x1 (nI (sk T n p)) 0 M Q)) ∧ (¬ (mI M 6 2) ≤ nI (sk T n p) → (vp_in (nI (sk T n p)) (lay (mR M 6 1)).2 ∧ (w_X6_take_91 x1 (nI (sk T n p)) (mI M (mR M 6 1) (nI (sk T n p)).toNatClampNeg) M Q)))) := by
    intro x1 hx1
    rw [hx.2.2.2.1, hx.2.2.1, lay4]
    refine pk_le n (sk T n p) (fun h => ?_) (fun h => ⟨vp_in_nI (by omega) (by decide), ?_⟩)
    · have e5 : tK T n s = 5 := tK_5.mpr (by rw [s1]; exact h)
      have last : ∀ t0, w_X6_take_147 (nI (sk T n p)) 0 0 t0 M Q := fun t0 => by
        unfold w_X6_take_147
        rw [hx.2.2.2.1]
        refine k_no (nI_nlt h (by omega)) (fin _ (f1 (f1 (f1 (f1 (fG.rf M) (by decide)) (by decide)) (by decide)) (by decide)) ?_ ?_ ?_ (fun _ => ?_) ?_ ?_)
        · rw [rI (by omega), rIs, e5]; rfl
        · rw [rI (by omega), rI (by omega), rI (by omega), rIs]
        · rw [rIs, tE_5 e5, s1]
        · rw [rI (by omega), rI (by omega), rIs, nw (by omega)]; rfl
        · rw [rI (by omega), rI (by omega), rI (by omega), rI (by omega)]
        · rw [rI (by omega), rI (by omega), rI (by omega), rI (by omega)]
      refine k_yes (by decide) (k_yes (by decide) ⟨fun _ => last 0, fun _ => ⟨fun _ => last 0, fun _ => last 1⟩⟩)
    · obtain ⟨hb, ht⟩ := hx.1 (sk T n p) (by omega)
      rw [nI_clamp (by omega), ht]
      have eL : isL (T (sk T n p)) = true → isG (T (sk T n p)) = false := fun q => by
        have := isL_r q
        unfold isG
        rw [show decide (T (sk T n p) ≤ 57) = false from decide_eq_false (by omega), Bool.and_false]
      have n5 : tK T n s ≠ 5 := fun q => by have := tK_5.mp q; rw [s1] at this; omega
      -- the four ends
      have glu : tK T n s = 4 → Q (sI (sI (sI (sI M 6 4 (nI (sk T n p))) 6 6 0) 6 3 4) 6 5 (nI (sk T n p) + 1)) := fun e4 => by
        refine fin _ (f1 (f1 (f1 (f1 (fG.rf M) (by decide)) (by decide)) (by decide)) (by decide)) ?_ ?_ ?_ (fun _ => ?_) ?_ ?_
        · rw [rI (by omega), rIs, e4]; rfl
        · rw [rI (by omega), rI (by omega), rI (by omega), rIs]
        · rw [rIs, tE_3 (Or.inr e4), s1, nI_1]
        · rw [rI (by omega), rI (by omega), rIs, nw (by omega)]; rfl
        · rw [rI (by omega), rI (by omega), rI (by omega), rI (by omega)]
        · rw [rI (by omega), rI (by omega), rI (by omega), rI (by omega)]
      have sgn : tK T n s = 3 → Q (sI (sI (sI (sI M 6 4 (nI (sk T n p))) 6 6 0) 6 3 3) 6 5 (nI (sk T n p) + 1)) := fun e4 => by
        refine fin _ (f1 (f1 (f1 (f1 (fG.rf M) (by decide)) (by decide)) (by decide)) (by decide)) ?_ ?_ ?_ (fun _ => ?_) ?_ ?_
        · rw [rI (by omega), rIs, e4]; rfl
        · rw [rI (by omega), rI (by omega), rI (by omega), rIs]
        · rw [rIs, tE_3 (Or.inl e4), s1, nI_1]
        · rw [rI (by omega), rI (by omega), rIs, nw (by omega)]; rfl
        · rw [rI (by omega), rI (by omega), rI (by omega), rI (by omega)]
        · rw [rI (by omega), rI (by omega), rI (by omega), rI (by omega)]
      have dig : tK T n s = 2 → ∃ m, w_X6_take_301 m (nI (sk T n p)) (sI (sI (sI M 6 4 (nI (sk T n p))) 6 6 0) 6 3 2) Q := fun e4 => by
        refine c_digs (T := T) (n := n) ?_ hq (fin _ (f1 (f1 (f1 (f1 (fG.rf M) (by decide)) (by decide)) (by decide)) (by decide)) ?_ ?_ ?_ (fun _ => ?_) ?_ ?_)
        · exact txC_f (A := fT) (f1 (f1 (f1 (fG.rf M) (by decide)) (by decide)) (by decide)) (fun _ => by unfold fT; omega) (fun _ => by unfold fT; omega) (by unfold fT; omega) hx
        · rw [rI (by omega), rIs, e4]; rfl
        · rw [rI (by omega), rI (by omega), rI (by omega), rIs]
        · rw [rIs, (tE_2 e4).1, s1]
        · rw [rI (by omega), rI (by omega), rIs, nw (by omega)]; rfl
        · rw [rI (by omega), rI (by omega), rI (by omega), rI (by omega)]
        · rw [rI (by omega), rI (by omega), rI (by omega), rI (by omega)]
      have let_ : tK T n s = 1 → ∃ m, w_X6_take_211 m (nI (sk T n p)) (sI (sI (sI M 6 4 (nI (sk T n p))) 6 6 0) 6 3 1) Q := fun e4 => by
        have fx : fG fT M (sI (sI (sI M 6 4 (nI (sk T n p))) 6 6 0) 6 3 1) := f1 (f1 (f1 (fG.rf M) (by decide)) (by decide)) (by decide)
        refine c_lets (T := T) (n := n) (txC_f (A := fT) fx (fun _ => by unfold fT; omega) (fun _ => by unfold fT; omega) (by unfold fT; omega) hx) (by rw [rI (by omega), rI (by omega), rIs]) (by rw [rI (by omega), rIs]) hq (fun M' f e3 e4' e5 e6 e7 e8 => fin M' (fx.tr f) ?_ e4' ?_ (fun h => ?_) ?_ ?_)
        · rw [e3, rIs, e4]; rfl
        · rw [e5, (tE_1 e4).1, s1]
        · have e9 := (tE_1 e4).1
          rw [s1] at e9
          rw [tW_len e4, s1, e9] at h
          rw [e6 h]
          unfold tW
          rw [if_pos e4, s1, e9]
        · rw [e7, rI (by omega), rI (by omega), rI (by omega)]
        · rw [e8, rI (by omega), rI (by omega), rI (by omega)]
      have hk := tK_le T n s
      -- letter and digit
      have l147 : ∀ (a b t0 : Int32), (isL (T (sk T n p)) = true ∧ a = 1 ∧ b = 0 ∨ isL (T (sk T n p)) = false ∧ isG (T (sk T n p)) = true ∧ a = 0 ∧ b = 1 ∨ isL (T (sk T n p)) = false ∧ isG (T (sk T n p)) = false ∧ a = 0 ∧ b = 0) → (t0 = 0 ∧ ¬ (s.2 = true ∧ sk T n p = p) ∨ t0 = 1 ∧ s.2 = true ∧ sk T n p = p) → w_X6_take_147 (nI (sk T n p)) a b t0 M Q := by
        intro a b t0 hab ht0
        have t4 : (isL (T (sk T n p)) = true ∨ isG (T (sk T n p)) = true) → s.2 = true ∧ sk T n p = p → tK T n s = 4 := fun q1 q2 => by
          unfold tK
          rw [s1, if_neg (by omega), if_pos ⟨q2.1, q2.2, by rw [q2.2] at q1; exact q1⟩]
        have tN : ¬ (s.2 = true ∧ sk T n p = p) → tK T n s = (if isL (T (sk T n p)) = true then 1 else if isG (T (sk T n p)) = true then 2 else 3) := fun q => by
          unfold tK
          rw [s1, if_neg (by omega), if_neg (fun z => q ⟨z.1, z.2.1⟩)]
        unfold w_X6_take_147
        rw [hx.2.2.2.1]
        refine k_yes (nI_lt h (by omega)) ?_
        rcases ht0 with ⟨rfl, hg⟩ | ⟨rfl, hg⟩
        · refine k_yes rfl ?_
          have e := tN hg
          unfold w_X6_take_201
          rcases hab with ⟨hl, rfl, rfl⟩ | ⟨hl, hd, rfl, rfl⟩ | ⟨hl, hd, rfl, rfl⟩
          · rw [if_pos hl] at e
            exact k_no (by decide) (let_ e)
          · rw [if_neg (by rw [hl]; decide), if_pos hd] at e
            exact k_yes rfl (k_no (by decide) (dig e))
          · rw [if_neg (by rw [hl]; decide), if_neg (by rw [hd]; decide)] at e
            exact k_yes rfl (k_yes rfl (sgn e))
        · refine k_no (by decide) ?_
          rcases hab with ⟨hl, rfl, rfl⟩ | ⟨hl, hd, rfl, rfl⟩ | ⟨hl, hd, rfl, rfl⟩
          · exact k_no' (by decide) (glu (t4 (Or.inl hl) hg))
          · exact k_yes' rfl (k_no (by decide) (glu (t4 (Or.inr hd) hg)))
          · refine k_yes' rfl (k_yes rfl (k_yes rfl (k_yes rfl (sgn ?_))))
            unfold tK
            rw [s1, if_neg (by omega), if_neg (fun z => by
              have e := hg.2
              rcases z.2.2 with z | z
              · rw [e] at hl; rw [hl] at z; exact absurd z (by decide)
              · rw [e] at hd; rw [hd] at z; exact absurd z (by decide)), if_neg (by rw [hl]; decide), if_neg (by rw [hd]; decide)]
      have l128 : ∀ (a b : Int32), (isL (T (sk T n p)) = true ∧ a = 1 ∧ b = 0 ∨ isL (T (sk T n p)) = false ∧ isG (T (sk T n p)) = true ∧ a = 0 ∧ b = 1 ∨ isL (T (sk T n p)) = false ∧ isG (T (sk T n p)) = false ∧ a = 0 ∧ b = 0) → w_X6_take_128 x1 (nI (sk T n p)) a b M Q := by
        intro a b hab
        unfold w_X6_take_128
        rw [h5]
        rcases hx1 with ⟨rfl, hg⟩ | ⟨rfl, hg⟩
        · exact k_yes rfl (l147 a b 0 hab (Or.inl ⟨rfl, fun q => by rw [hg] at q; exact absurd q.1 (by decide)⟩))
        · exact k_no (by decide) (pk_ne (sk T n p) p (fun q => l147 a b 0 hab (Or.inl ⟨rfl, fun z => q z.2⟩)) (fun q => l147 a b 1 hab (Or.inr ⟨rfl, hg, q⟩)))
      exact c_L hb (fun hl => c_G hb (fun hg => absurd hg (by rw [eL hl]; decide)) (fun hg => l128 1 0 (Or.inl ⟨hl, rfl, rfl⟩))) (fun hl => c_G hb (fun hg => l128 0 1 (Or.inr (Or.inl ⟨hl, hg, rfl, rfl⟩))) (fun hg => l128 0 0 (Or.inr (Or.inr ⟨hl, hg, rfl, rfl⟩))))
  unfold w_X6_take
  rw [h3, h5]
  refine ⟨fun _ => ⟨fun e => ?_, fun e1 => ⟨fun e2 => ?_, fun e => ?_⟩⟩, fun e => absurd ((nI_eq (b := 6) (by omega) (by decide)).mp e) (by omega)⟩
  · have e := (nI_eq (b := 1) (by omega) (by decide)).mp e
    exact c_skip hx hp (main 1 (Or.inr ⟨rfl, by rw [s2]; exact decide_eq_true (Or.inl e)⟩))
  · refine c_skip hx hp (main 0 (Or.inl ⟨rfl, ?_⟩))
    rw [s2]
    refine decide_eq_false (fun q => ?_)
    rcases q with q | q
    · exact e1 (by rw [q]; rfl)
    · exact e2 (by rw [q]; rfl)
  · have e := (nI_eq (b := 2) (by omega) (by decide)).mp e
    exact c_skip hx hp (main 1 (Or.inr ⟨rfl, by rw [s2]; exact decide_eq_true (Or.inr e)⟩))
