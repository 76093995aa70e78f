/-! chance -/
def nxt (n : Nat) : Nat := (1103515245 * n + 12345) % 2147483648
theorem nxt_lt (n : Nat) : nxt n < 2 ^ 31 := Nat.mod_lt _ (by decide)
theorem l_and {x : Nat} (hx : x < 2 ^ 63) : lN x &&& (2147483647 : Int64) = lN (x % 2147483648) := by
  apply Int64.toBitVec_inj.mp
  apply BitVec.eq_of_toNat_eq
  rw [Int64.toBitVec_and, BitVec.toNat_and]
  have e1 : (lN x).toBitVec.toNat = x := Nat.mod_eq_of_lt (by omega : x < 2 ^ 64)
  have e2 : (lN (x % 2147483648)).toBitVec.toNat = x % 2147483648 := Nat.mod_eq_of_lt (by omega : x % 2147483648 < 2 ^ 64)
  have e3 : (2147483647 : Int64).toBitVec.toNat = 2 ^ 31 - 1 := by decide
  rw [e1, e2, e3, Nat.and_two_pow_sub_one_eq_mod]
theorem nxt_c {n : Nat} (hn : n < 2 ^ 31) : Int64.toInt32 ((((1103515245 : Int64) * (Int32.toInt64 (nI n))) + (12345 : Int64)) &&& (2147483647 : Int64)) = nI (nxt n) := by
  rw [nI_l hn, show (1103515245 : Int64) = lN 1103515245 from rfl, lN_mul, show (12345 : Int64) = lN 12345 from rfl, lN_add, l_and (by omega), lN_i]
  rfl
theorem c_draw {M : pm} {n m : Nat} (hn : n < 2 ^ 31) (h : mI M 3 18 = nI n) (m0 : 0 < m) (hm : m < 2 ^ 31) {Q : Int32 → pm → Prop} (k : Q (nI (nxt n / 64 % m)) (sI M 3 18 (nI (nxt n)))) : w_X7_draw (nI m) M Q := by
  have h1 := nxt_lt n
  unfold w_X7_draw
  rw [h, nxt_c hn]
  refine k_no (nI_nle m0 hm) ⟨nI_ne0 m0 hm, ?_⟩
  rw [show nI (nxt n) / 64 = nI (nxt n / 64) from pk_div (d := 64) h1 (by decide) (by decide), irm_n (by omega) m0 hm]
  exact k
theorem m_draw {M : pm} {n m : Nat} (hn : n < 2 ^ 31) (h : mJ M 277 71 = lN n) (m0 : 0 < m) (hm : m < 2 ^ 31) {Q : Int32 → pm → Prop} (k : Q (nI (nxt n / 64 % m)) (sJ M 277 71 (lN (nxt n)))) : w_X8_drawOf (nI m) M Q := by
  have h1 := nxt_lt n
  have e : lrm ((1103515245 : Int64) * lN n + (12345 : Int64)) (2147483648 : Int64) = lN (nxt n) := by
    rw [show (1103515245 : Int64) = lN 1103515245 from rfl, lN_mul, show (12345 : Int64) = lN 12345 from rfl, lN_add]
    exact pk_lRem (b := 2147483648) (by omega) (by decide) (by decide)
  have e2 : lN (nxt n) / (64 : Int64) = lN (nxt n / 64) := pk_lDiv (b := 64) (by omega) (by decide) (by decide)
  have e3 : lrm (lN (nxt n / 64)) (lN m) = lN (nxt n / 64 % m) := pk_lRem (by omega) m0 (by omega)
  unfold w_X8_drawOf
  rw [h, nI_l hm, e, e2, e3, lN_i]
  exact ⟨fun z => by have := (lN_eq (b := 0) hm (by decide)).mp z; omega, k⟩
/-- who is alive -/
def lvd (S : Nat → Nat) : Nat → Nat → Nat
  | 0, _ => 0
  | d + 1, b => (if S (3 + 5 * b) ≤ S 0 then 0 else 1) + lvd S d (b + 1)
theorem lvd_dd (S : Nat → Nat) : ∀ d b, lvd S d b + ddN S (b + d) = d + ddN S b
  | 0, b => rfl
  | d + 1, b => by
    have h := lvd_dd S d (b + 1)
    rw [ddN_s, show b + 1 + d = b + (d + 1) from by omega] at h
    unfold lvd
    split at h
    · rename_i q; rw [if_pos q]; omega
    · rename_i q; rw [if_neg q]; omega
def alF (S : Nat → Nat) : Nat → Nat → Nat → Nat
  | 0, b, _ => b
  | d + 1, b, p => if S (3 + 5 * b) ≤ S 0 then alF S d (b + 1) p else if p = 0 then b else alF S d (b + 1) (p - 1)
theorem alF_lt (S : Nat → Nat) : ∀ d b p, p < lvd S d b → alF S d b p < b + d
  | 0, b, p, h => absurd h (Nat.not_lt_zero _)
  | d + 1, b, p, h => by
    unfold lvd at h
    unfold alF
    by_cases q : S (3 + 5 * b) ≤ S 0
    · rw [if_pos q] at h ⊢
      have := alF_lt S d (b + 1) p (by omega); omega
    · rw [if_neg q] at h ⊢
      by_cases z : p = 0
      · rw [if_pos z]; omega
      · rw [if_neg z]
        have := alF_lt S d (b + 1) (p - 1) (by omega); omega
theorem c_living {M : pm} {t : Nat} {D S : Nat → Nat} {P : Nat → List Nat} (h3 : mR M 3 3 = t) (hd : dC M t D P) (hD : okD D P) (hs : sC M 57 D S) (hS : okS D S) {Q : Int32 → pm → Prop} (k : Q (nI (D 2 - ddN S (D 2))) M) : w_X7_countLiving M Q := by
  have h8 := hD.2.2.1
  have key : ∀ d n b, b + d = D 2 → d < n → w_X7_countLiving_4 n (nI (b - ddN S b)) (nI b) M Q := by
    intro d
    induction d with
    | zero =>
      intro n b hb hn
      obtain ⟨n, rfl⟩ : ∃ n', n = n' + 1 := ⟨n - 1, by omega⟩
      unfold w_X7_countLiving_4
      rw [h3, hd.2.2.1]
      refine k_yes (nI_le (by omega) (by omega)) ?_
      rw [show b = D 2 from by omega]; exact k
    | succ d ih =>
      intro n b hb hn
      obtain ⟨n, rfl⟩ : ∃ n', n = n' + 1 := ⟨n - 1, by omega⟩
      have g := ih n (b + 1) (by omega) (by omega)
      have dl := ddN_le S b
      rw [ddN_s] at g
      unfold w_X7_countLiving_4
      rw [h3, hd.2.2.1, nI_1]
      refine k_no (nI_ge (by omega) (by omega)) (s_isDead (by omega) hs hS (by omega) ?_)
      by_cases h : S (3 + 5 * b) ≤ S 0
      · rw [if_pos h] at g ⊢
        refine k_no' (by decide) ?_
        rw [show b + 1 - (ddN S b + 1) = b - ddN S b from by omega] at g
        exact g
      · rw [if_neg h] at g ⊢
        refine k_yes' rfl ?_
        rw [nI_1, show b - ddN S b + 1 = b + 1 - (ddN S b + 0) from by omega]
        exact g
  exact ⟨_, key (D 2) (D 2 + 1) 0 (by omega) (by omega)⟩
theorem c_death38 {M : pm} {t : Nat} {D S : Nat → Nat} {P : Nat → List Nat} (h3 : mR M 3 3 = t) (hd : dC M t D P) (hD : okD D P) (hs : sC M 57 D S) (hS : okS D S) {Q : Int32 → pm → Prop} : ∀ (d n b p : Nat), b + d = D 2 → d < n → p < lvd S d b → Q 1 (sI M 59 (alF S d b p) (nI (S 0))) → w_X7_drawDeath_38 n (nI p) (nI b) M Q := by
  have h8 := hD.2.2.1
  intro d
  induction d with
  | zero => intro n b p hb hn hp k; exact absurd hp (Nat.not_lt_zero _)
  | succ d ih =>
    intro n b p hb hn hp k
    obtain ⟨n, rfl⟩ : ∃ n', n = n' + 1 := ⟨n - 1, by omega⟩
    have pl : p < 8 := by have := lvd_dd S (d + 1) b; have := ddN_le S b; omega
    unfold lvd at hp
    unfold alF at k
    unfold w_X7_drawDeath_38
    rw [h3, hd.2.2.1, nI_1]
    refine k_no (nI_ge (by omega) (by omega)) (s_isDead (by omega) hs hS (by omega) ?_)
    by_cases q : S (3 + 5 * b) ≤ S 0
    · rw [if_pos q] at hp k ⊢
      exact k_no' (by decide) (ih n (b + 1) p (by omega) (by omega) (by omega) k)
    · rw [if_neg q] at hp k ⊢
      refine k_yes' rfl ?_
      by_cases z : p = 0
      · rw [if_pos z] at k
        refine k_yes' (by rw [z]; rfl) ⟨vp_in_nI (by omega) (by decide), ?_⟩
        rw [nI_clamp (by omega), hs.1]; exact k
      · rw [if_neg z] at k
        refine k_no' (nI_ne0 (by omega) (by omega)) ?_
        rw [show nI p + (-1) = nI (p - 1) from by rw [show p = (p - 1) + 1 from by omega]; exact pk_m1 _]
        exact ih n (b + 1) (p - 1) (by omega) (by omega) (by omega) k
theorem m_alive {M : pm} {D S : Nat → Nat} {P : Nat → List Nat} (hD : okD D P) (hs : sM M D S) (hS : okS D S) {Q : Int32 → pm → Prop} : ∀ (d n b p : Nat), b + d = D 2 → d < n → p < lvd S d b → Q (nI (alF S d b p)) M → w_X8_aliveOf_2 n (nI p) (nI b) M Q := by
  have h8 := hD.2.2.1
  intro d
  induction d with
  | zero => intro n b p hb hn hp k; exact absurd hp (Nat.not_lt_zero _)
  | succ d ih =>
    intro n b p hb hn hp k
    obtain ⟨n, rfl⟩ : ∃ n', n = n' + 1 := ⟨n - 1, by omega⟩
    have pl : p < 8 := by have := lvd_dd S (d + 1) b; have := ddN_le S b; omega
    unfold lvd at hp
    unfold alF at k
    unfold w_X8_aliveOf_2
    rw [nI_1]
    refine m_isDead (by omega) hs hS (by omega) ?_
    by_cases q : S (3 + 5 * b) ≤ S 0
    · rw [if_pos q] at hp k ⊢
      refine k_no' (by decide) (m_isDead (by omega) hs hS (by omega) ?_)
      rw [if_pos q]
      exact k_no' (by decide) (ih n (b + 1) p (by omega) (by omega) (by omega) k)
    · rw [if_neg q] at hp k ⊢
      refine k_yes' rfl ?_
      by_cases z : p = 0
      · rw [if_pos z] at k
        exact k_yes (by rw [z]; decide) k
      · rw [if_neg z] at k
        refine k_no (nI_nle (by omega) (by omega)) (m_isDead (by omega) hs hS (by omega) ?_)
        rw [if_neg q]
        refine k_yes' rfl ?_
        rw [show nI p + (-1) = nI (p - 1) from by rw [show p = (p - 1) + 1 from by omega]; exact pk_m1 _]
        exact ih n (b + 1) (p - 1) (by omega) (by omega) (by omega) k
/-- one draw of a death: the state, the seed, how many died -/
def dth (D S : Nat → Nat) (n : Nat) : (Nat → Nat) × Nat × Nat := if D 4 ≤ nxt n / 64 % 100 ∨ D 2 - ddN S (D 2) = 0 then (S, nxt n, 0) else (up1 S (3 + 5 * alF S (D 2) 0 (nxt (nxt n) / 64 % (D 2 - ddN S (D 2)))) (S 0), nxt (nxt n), 1)
theorem dth_pk {D S : Nat → Nat} {n : Nat} (h : ¬ D 2 - ddN S (D 2) = 0) : nxt (nxt n) / 64 % (D 2 - ddN S (D 2)) < lvd S (D 2) 0 := by
  have := lvd_dd S (D 2) 0
  rw [Nat.zero_add, show ddN S 0 = 0 from rfl] at this
  have h2 := Nat.mod_lt (nxt (nxt n) / 64) (Nat.pos_of_ne_zero h)
  omega
theorem dth_ok {D S : Nat → Nat} {n : Nat} (hS : okS D S) (h9 : S 0 ≤ 999) : okS D (dth D S n).1 ∧ (dth D S n).1 0 = S 0 ∧ (dth D S n).2.1 < 2 ^ 31 ∧ (dth D S n).2.2 ≤ 1 := by
  unfold dth
  by_cases h : D 4 ≤ nxt n / 64 % 100 ∨ D 2 - ddN S (D 2) = 0
  · rw [if_pos h]
    exact ⟨hS, rfl, nxt_lt _, Nat.zero_le _⟩
  · rw [if_neg h]
    refine ⟨⟨?_, ?_, fun q hq => ?_⟩, ?_, nxt_lt _, Nat.le_refl _⟩
    · show up1 _ _ _ 0 ≤ 2000
      unfold up1; rw [if_neg (by omega)]; exact hS.1
    · show up1 _ _ _ 1 ≤ 999
      unfold up1; rw [if_neg (by omega)]; exact hS.2.1
    · have z := hS.2.2 q hq
      dsimp only
      generalize alF S (D 2) 0 (nxt (nxt n) / 64 % (D 2 - ddN S (D 2))) = a
      unfold up1
      rw [if_neg (by omega : ¬ 2 + 5 * q = 3 + 5 * a), if_neg (by omega : ¬ 4 + 5 * q = 3 + 5 * a), if_neg (by omega : ¬ 5 + 5 * q = 3 + 5 * a), if_neg (by omega : ¬ 6 + 5 * q = 3 + 5 * a), if_neg (by omega : ¬ 0 = 3 + 5 * a)]
      refine ⟨z.1, ?_, z.2.2⟩
      split
      · exact h9
      · exact z.2.1
    · show up1 _ _ _ 0 = _
      unfold up1; rw [if_neg (by omega)]
theorem fcl_s (M : pm) (v : Int32) : fcl M (sI M 3 18 v) := ⟨rfl, rfl, rfl, fun a _ h2 => mI_off h2, fun k hk => rI (by omega)⟩
theorem fcl_d9 (M : pm) (j : Nat) (v : Int32) : fcl M (sI M 59 j v) := ⟨rfl, rfl, rfl, fun a h1 _ => mI_off (by omega), fun k hk => rI (by omega)⟩
theorem c_death {M : pm} {t n : Nat} {D S : Nat → Nat} {P : Nat → List Nat} (ht : t = 14 ∨ t = 29) (h3 : mR M 3 3 = t) (hd : dC M t D P) (hD : okD D P) (hs : sC M 57 D S) (hS : okS D S) (hn : n < 2 ^ 31) (h18 : mI M 3 18 = nI n) {Q : Int32 → pm → Prop} (k : ∀ M', fcl M M' → sC M' 57 D (dth D S n).1 → mI M' 3 18 = nI (dth D S n).2.1 → mI M' 57 = mI M 57 → (∀ a, 63 ≤ a → mI M' a = mI M a) → Q (nI (dth D S n).2.2) M') : w_X7_drawDeath M Q := by
  have h8 := hD.2.2.1
  have h100 := hD.2.2.2.2.1
  unfold w_X7_drawDeath
  have f1 : fcl M (sI M 3 18 (nI (nxt n))) := ⟨rfl, rfl, rfl, fun a _ h2 => mI_off h2, fun k hk => rI (by omega)⟩
  refine c_draw (m := 100) hn h18 (by decide) (by decide) ?_
  have s1 : sC (sI M 3 18 (nI (nxt n))) 57 D S := sC_c (fun b b1 b2 => mI_off (by omega)) hs
  have d1 := fcl_d f1 ht hd
  refine c_living (M := sI M 3 18 (nI (nxt n))) (t := t) h3 d1 hD s1 hS ?_
  have kk := k
  unfold dth at kk
  rw [show mR (sI M 3 18 (nI (nxt n))) 3 3 = t from h3, d1.2.2.2.2.1]
  by_cases h : D 4 ≤ nxt n / 64 % 100 ∨ D 2 - ddN S (D 2) = 0
  · rw [if_pos h] at kk
    have fin := kk _ f1 s1 (rIs _ _ _ _) (mI_off (by decide)) (fun a ha => mI_off (by omega))
    refine pk_le (D 4) (nxt n / 64 % 100) (fun _ => fin) (fun z => k_yes' ?_ fin)
    rw [show D 2 - ddN S (D 2) = 0 from by omega]; rfl
  · rw [if_neg h] at kk
    have pk := dth_pk (D := D) (S := S) (n := n) (by omega)
    have al := alF_lt S (D 2) 0 _ pk
    rw [Nat.zero_add] at al
    refine k_no (nI_ge (by omega) (by omega)) (k_no' (nI_ne0 (by omega) (by omega)) (c_draw (n := nxt n) (nxt_lt n) (rIs _ _ _ _) (by omega) (by omega) ⟨D 2 + 1, ?_⟩))
    have f2 : fcl M (sI (sI M 3 18 (nI (nxt n))) 3 18 (nI (nxt (nxt n)))) := f1.tr (fcl_s _ _)
    have s2 : sC (sI (sI M 3 18 (nI (nxt n))) 3 18 (nI (nxt (nxt n)))) 57 D S := sC_c (fun b b1 b2 => mI_off (by omega)) s1
    refine c_death38 (M := sI (sI M 3 18 (nI (nxt n))) 3 18 (nI (nxt (nxt n)))) (t := t) h3 (fcl_d f2 ht hd) hD s2 hS (D 2) (D 2 + 1) 0 _ (by omega) (by omega) pk ?_
    refine kk _ (f2.tr (fcl_d9 _ _ _)) (sC_up (i := 3) (by decide) (by decide) s2 rfl) ?_ ?_ (fun a ha => ?_)
    · rw [rI (by omega), rIs]
    · rw [mI_off (by decide), mI_off (by decide), mI_off (by decide)]
    · rw [mI_off (by omega), mI_off (by omega), mI_off (by omega)]
abbrev csT : Type := dsT × Nat
noncomputable def cst (D : Nat → Nat) (P : Nat → List Nat) (s : csT) : csT := (dst D P ((dth D s.1.1 s.2).1, s.1.2), (dth D s.1.1 s.2).2.1)
noncomputable def crs (D : Nat → Nat) (P : Nat → List Nat) : Nat → csT → csT
  | 0, s => s
  | d + 1, s => crs D P d (cst D P s)
noncomputable def ccn (D : Nat → Nat) (P : Nat → List Nat) : Nat → csT → Nat
  | 0, _ => 0
  | d + 1, s => (dth D s.1.1 s.2).2.2 + ccn D P d (cst D P s)
def cok (D : Nat → Nat) (s : csT) : Prop := dok D s.1 ∧ s.2 < 2 ^ 31
theorem cst_ok {D : Nat → Nat} {P : Nat → List Nat} {s : csT} (h : cok D s) (h9 : s.1.1 0 < 999) : cok D (cst D P s) ∧ (cst D P s).1.1 0 = s.1.1 0 + 1 := by
  obtain ⟨z1, z2, z3, z4⟩ := dth_ok (n := s.2) h.1.1 h.1.2.1
  have ok : dok D ((dth D s.1.1 s.2).1, s.1.2) := ⟨z1, by dsimp only; rw [z2]; exact h.1.2.1, h.1.2.2⟩
  have g := dst_ok (P := P) ok (by dsimp only; rw [z2]; exact h9)
  refine ⟨⟨g.1, z3⟩, ?_⟩
  have := g.2
  dsimp only at this
  rw [z2] at this
  exact this
theorem crs_ok {D : Nat → Nat} {P : Nat → List Nat} : ∀ (d : Nat) (s : csT), cok D s → s.1.1 0 + d ≤ 999 → cok D (crs D P d s)
  | 0, s, h, _ => h
  | d + 1, s, h, h9 => crs_ok d (cst D P s) (cst_ok h (by omega)).1 (by rw [(cst_ok h (by omega)).2]; omega)
theorem c_chance {M : pm} {t : Nat} {D : Nat → Nat} {P : Nat → List Nat} {N : Nat} (hN : N ≤ 100) (ht : t = 14 ∨ t = 29) (h3 : mR M 3 3 = t) (hd : dC M t D P) (hD : okD D P) {Q : Int32 → pm → Prop} : ∀ (d n i : Nat) (s : csT) (a : Nat) (M1 : pm), i + d = N → d < n → fcl M M1 → sC M1 57 D s.1.1 → kC M1 s.1.2.1 s.1.2.2 → mI M1 3 18 = nI s.2 → cok D s → s.1.1 0 + d ≤ 999 → (∀ M', fcl M M' → sC M' 57 D (crs D P d s).1.1 → kC M' (crs D P d s).1.2.1 (crs D P d s).1.2.2 → mI M' 3 18 = nI (crs D P d s).2 → Q (nI (a + ccn D P d s)) M') → w_X7_chance_30 n (nI N) (nI a) (nI i) M1 Q := by
  intro d
  induction d with
  | zero =>
    intro n i s a M1 hi hn hf hs hk h18 ok h9 k
    obtain ⟨n, rfl⟩ : ∃ n', n = n' + 1 := ⟨n - 1, by omega⟩
    unfold w_X7_chance_30
    exact k_yes (nI_le (by omega) (by omega)) (k M1 hf hs hk h18)
  | succ d ih =>
    intro n i s a M1 hi hn hf hs hk h18 ok h9 k
    obtain ⟨n, rfl⟩ : ∃ n', n = n' + 1 := ⟨n - 1, by omega⟩
    obtain ⟨z1, z2, z3, z4⟩ := dth_ok (n := s.2) ok.1.1 ok.1.2.1
    have okd : dok D ((dth D s.1.1 s.2).1, s.1.2) := ⟨z1, by dsimp only; rw [z2]; exact ok.1.2.1, ok.1.2.2⟩
    unfold w_X7_chance_30
    rw [nI_1]
    refine k_no (nI_ge (by omega) (by omega)) (c_death ht (by rw [hf.2.1]; exact h3) (fcl_d hf ht hd) hD hs ok.1.1 ok.2 h18 (fun M2 f2 s2 e2 e57 e63 => ?_))
    refine c_passDay (s := ((dth D s.1.1 s.2).1, s.1.2)) ht (by rw [f2.2.1, hf.2.1]; exact h3) (fcl_d (hf.tr f2) ht hd) hD s2 okd (by dsimp only; rw [z2]; omega) (kC_c (by rw [e57]) (e63 63 (by decide)) (e63 64 (by decide)) (e63 65 (by decide)) hk) (fun M3 f3 s3 k3 => ?_)
    rw [nI_add]
    refine ih n (i + 1) (cst D P s) _ M3 (by omega) (by omega) ((hf.tr f2).tr (fI_cl f3)) s3 k3 (by rw [f3.2.2.2 3 (by unfold xD; omega)]; exact e2) (cst_ok ok (by omega)).1 (by rw [(cst_ok ok (by omega)).2]; omega) (fun M' f' s' k' e' => ?_)
    rw [Nat.add_assoc]
    exact k M' f' s' k' e'
theorem m_chance {M : pm} {D : Nat → Nat} {P : Nat → List Nat} {N : Nat} (hN : N ≤ 100) (hd : dM M D P) (hD : okD D P) (h58 : mI M 277 58 = 0) {Q : Int32 → pm → Prop} : ∀ (d n i : Nat) (s : csT) (a : Nat) (M1 : pm), i + d = N → d < n → fml M M1 → sM M1 D s.1.1 → kM M1 s.1.2.1 s.1.2.2 → mJ M1 277 71 = lN s.2 → cok D s → s.1.1 0 + d ≤ 999 → (∀ M', fml M M' → sM M' D (crs D P d s).1.1 → kM M' (crs D P d s).1.2.1 (crs D P d s).1.2.2 → mJ M' 277 71 = lN (crs D P d s).2 → Q (nI (a + ccn D P d s)) M') → w_X8_chance_25 n (nI N) (nI a) (nI i) M1 Q := by
  have h8 := hD.2.2.1
  have h100 := hD.2.2.2.2.1
  intro d
  induction d with
  | zero =>
    intro n i s a M1 hi hn hf hs hk h18 ok h9 k
    obtain ⟨n, rfl⟩ : ∃ n', n = n' + 1 := ⟨n - 1, by omega⟩
    unfold w_X8_chance_25
    exact k_yes (nI_le (by omega) (by omega)) (k M1 hf hs hk h18)
  | succ d ih =>
    intro n i s a M1 hi hn hf hs hk h18 ok h9 k
    obtain ⟨n, rfl⟩ : ∃ n', n = n' + 1 := ⟨n - 1, by omega⟩
    obtain ⟨z1, z2, z3, z4⟩ := dth_ok (n := s.2) ok.1.1 ok.1.2.1
    have okd : dok D ((dth D s.1.1 s.2).1, s.1.2) := ⟨z1, by dsimp only; rw [z2]; exact ok.1.2.1, ok.1.2.2⟩
    have d1 := fml_d hf hd
    have dl := ddN_le s.1.1 (D 2)
    have e58 : mI M1 277 58 = 0 := by rw [hf.2.2.2.1 58 (by decide) (by decide) (by decide) (by decide) (by decide) (by decide)]; exact h58
    have j1 : ∀ v, fml M1 (sJ M1 277 71 v) := fun v => ⟨rfl, rfl, fun _ _ _ => rfl, fun _ _ _ _ _ _ _ => rfl, fun a _ _ h3 => mJ_off h3⟩
    have go : ∀ (M2 : pm) (c : Nat), fml M1 M2 → mI M2 277 58 = 0 → sM M2 D (dth D s.1.1 s.2).1 → kM M2 s.1.2.1 s.1.2.2 → mJ M2 277 71 = lN (dth D s.1.1 s.2).2.1 → c = (dth D s.1.1 s.2).2.2 → w_X8_dayGoes M2 (fun M17 => w_X8_chance_25 n (nI N) (nI (a + c)) (nI (i + 1)) M17 Q) := by
      intro M2 c f2 e2 s2 k2 j2 hc
      subst hc
      refine m_dayN (s := ((dth D s.1.1 s.2).1, s.1.2)) (fml_d f2 d1) hD s2 okd k2 e2 (fun M3 f3 j3 s3 k3 _ => ?_)
      refine ih n (i + 1) (cst D P s) _ M3 (by omega) (by omega) ((hf.tr f2).tr f3) s3 k3 (by rw [j3]; exact j2) (cst_ok ok (by omega)).1 (by rw [(cst_ok ok (by omega)).2]; omega) (fun M' f' s' k' e' => ?_)
      rw [Nat.add_assoc]
      exact k M' f' s' k' e'
    unfold w_X8_chance_25 w_X8_askerMany
    dsimp only
    rw [nI_1, d1.2.2.1]
    refine k_no (nI_ge (by omega) (by omega)) (m_deadMany d1 hD hs ok.1.1 ?_)
    rw [pk_sub dl]
    refine m_draw (m := 100) ok.2 h18 (by decide) (by decide) ?_
    rw [show mI (sJ M1 277 71 (lN (nxt s.2))) 308 5 = nI (D 4) from d1.2.2.2.2.1]
    have gg := go
    unfold dth at gg
    by_cases h : D 4 ≤ nxt s.2 / 64 % 100 ∨ D 2 - ddN s.1.1 (D 2) = 0
    · rw [if_pos h] at gg
      have fin := gg (sJ M1 277 71 (lN (nxt s.2))) 0 (j1 _) e58 (sM_c rfl hs) (kM_c ok.1.2.2 (fun _ _ => rfl) hk) (rJs _ _ _ _) rfl
      refine pk_le (D 4) (nxt s.2 / 64 % 100) (fun _ => fin) (fun z => k_yes ?_ fin)
      rw [show D 2 - ddN s.1.1 (D 2) = 0 from by omega]; decide
    · rw [if_neg h] at gg
      have pk := dth_pk (D := D) (S := s.1.1) (n := s.2) (by omega)
      have al := alF_lt s.1.1 (D 2) 0 _ pk
      rw [Nat.zero_add] at al
      refine k_no (nI_ge (by omega) (by omega)) (k_no (nI_nle (by omega) (by omega)) (m_draw (n := nxt s.2) (nxt_lt _) (rJs _ _ _ _) (by omega) (by omega) ⟨D 2 + 1, m_alive (M := sJ (sJ M1 277 71 (lN (nxt s.2))) 277 71 (lN (nxt (nxt s.2)))) hD (sM_c (M := M1) rfl hs) ok.1.1 (D 2) (D 2 + 1) 0 _ (by omega) (by omega) pk ?_⟩))
      rw [show (3 : Int32) + 5 * nI (alF s.1.1 (D 2) 0 (nxt (nxt s.2) / 64 % (D 2 - ddN s.1.1 (D 2)))) = nI (3 + 5 * alF s.1.1 (D 2) 0 (nxt (nxt s.2) / 64 % (D 2 - ddN s.1.1 (D 2)))) from m_ix (j := 3) (by omega) (by decide), nI_clamp (by omega), nI_1]
      refine ⟨vp_in_nI (by omega) (by decide), ?_⟩
      rw [show mI (sJ (sJ M1 277 71 (lN (nxt s.2))) 277 71 (lN (nxt (nxt s.2)))) 317 0 = nI (s.1.1 0) from hs 0 (by omega)]
      refine gg _ 1 ⟨rfl, rfl, fun a _ h2 => mI_off h2, fun k _ _ _ _ _ _ => rI (by omega), fun a _ _ h3 => by show mJ (sJ (sJ M1 277 71 _) 277 71 _) a = _; rw [mJ_off h3, mJ_off h3]⟩ (by rw [rI (by omega)]; exact e58) (sM_up (M := sJ (sJ M1 277 71 (lN (nxt s.2))) 277 71 (lN (nxt (nxt s.2)))) (sM_c (M := M1) rfl hs) rfl) (kM_c ok.1.2.2 (fun j hj => by rw [rI (by omega)]; rfl) hk) ?_ rfl
      show mJ (sJ (sJ M1 277 71 _) 277 71 _) 277 71 = _
      exact rJs _ _ _ _
theorem p_chance (x : Int32) (M : pm) (hI : Inv M) : stp Inv (w_X7_chance x) (w_X8_chance x) M := by
  obtain ⟨t, D, P, S, R⟩ := Rp_of hI
  obtain ⟨r1, r2, r3, r4, r5, r6, r7, r8, r9, r10, r11, r12⟩ := id R
  have h8 := r3.2.2.1
  have e317 : mI M 317 0 = mI M 57 0 := by rw [r9 0 (by omega), r8.1]
  rcases ahd R x (lo := 1) (hi := 100) (by decide) (by decide) with h | ⟨q1, q2, q3, q4, n, n1, n2, rfl, n3, -⟩
  · refine stp_ref hI (j := 3) (by decide) (-1) (fun K k => c_canPass_no h (k_yes' rfl (s_refuse (by decide) k))) (fun M1 e Q k => m_isAhead_no (lo := 1) (hi := 100) ?_ (k_yes' rfl (rfs3 k)))
    rw [e, rI (by omega), rI (by omega), ← r10, e317]
    exact h
  · obtain ⟨u, w, u1, w1, g1, g2, g3, g4, g5, g6, -⟩ := hist_of hI R
    obtain ⟨c, c40, f, f1, f2⟩ := kt_to g5
    obtain ⟨sd, sd1, sd2, sd3⟩ := hI.2.2.2.2.1
    intro K hK
    refine k_no q2 (k_no q3 (c_ahead_yes q1 q4 (k_no (by decide) (k_no' (by decide) (c_remember u1 g1 g4 (fun M1 a1 a2 a3 a4 a5 => ⟨n + 1, ?_⟩))))))
    have ok : cok D (((S, c, f), sd) : csT) := ⟨⟨r6, r7, c40⟩, sd1⟩
    have d1 : dC M1 t D P := dC_c (fun b b1 b2 => a4 b (by omega)) r4
    refine c_chance n2 r1 (by rw [a3 3 (by decide)]; exact r2) d1 r3 n (n + 1) 0 ((S, c, f), sd) 0 M1 (by omega) (by omega) (fcl.rf M1) (sC_c (fun b b1 b2 => a4 b (by omega)) r8) (kC_c (by rw [a4 57 (by omega)]) (a4 63 (by omega)) (a4 64 (by omega)) (a4 65 (by omega)) f1) (by rw [a4 3 (by omega)]; exact sd2) ok n3 (fun M2 h2 s2 k2 i2 => ?_)
    refine hK _ M2 ⟨by rw [h2.1, a1], by rw [h2.2.2.2.1 1 (by omega) (by decide), a4 1 (by omega)]⟩ (fun Q hQ => ?_)
    have e2 : ∀ a, 257 ≤ a → mI M2 a = mI M a := fun a ha => by rw [h2.2.2.2.1 a (by omega) (by omega), a4 a (by omega)]
    refine m_isAhead_yes (lo := 1) (hi := 100) ?_ q2 q3 ?_ (k_no' (by decide) (m_keeps (u := u) (w := w) u1 w1 (by rw [e2 277 (by decide)]; exact g2) (by rw [e2 277 (by decide)]; exact g3) (fun M3 b1 b2 b3 b4 b5 b6 => ⟨n + 1, ?_⟩)))
    · rw [e2 277 (by decide), ← r10]; exact q1
    · rw [e2 317 (by decide), e317]; exact q4
    have e3 : ∀ a, 257 ≤ a → a ≠ 277 → a ≠ 325 → mI M3 a = mI M a := fun a h1 h2 h3 => by rw [b4 a h2 h3, e2 a h1]
    refine m_chance n2 (dM_c (fun b b1 b2 _ => e3 b (by omega) (by omega) (by omega)) r5) r3 (by rw [b5 58 (by decide) (by decide), e2 277 (by decide)]; exact r12) n (n + 1) 0 ((S, c, f), sd) 0 M3 (by omega) (by omega) (fml.rf _) (sM_c (e3 317 (by decide) (by decide) (by decide)) r9) (kM_c c40 (fun j _ => by rw [e3 317 (by decide) (by decide) (by decide)]) f2) (by rw [b3, h2.2.2.1, a2]; exact sd3) ok n3 (fun M4 m4 s4 k4 j4 => ?_)
    have okn := crs_ok (P := P) n ((S, c, f), sd) ok n3
    refine hQ M4 (act_days hI R g6 a1 a2 a3 a4 a5 h2 s2 k2 b1 b2 b3 b4 b5 b6 m4 s4 k4 ⟨_, okn.2, ?_, j4⟩ okn.1) ⟨by rw [m4.1, b1], by rw [m4.2.2.1 1 (by decide) (by decide), b4 1 (by decide) (by decide)]⟩
    rw [m4.2.2.1 3 (by decide) (by decide), b4 3 (by decide) (by decide)]; exact i2
