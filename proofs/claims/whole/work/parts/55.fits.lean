/-! fits, tells -/
/-- what was seen: r rows, in f the day, the asker, whether played -/
def sn (D : Nat → Nat) (r : Nat) (f : Nat → Nat) : Prop := r ≤ 16 ∧ ∀ q, q < r → f (3 * q) ≤ 30 ∧ f (3 * q + 1) < D 2 ∧ f (3 * q + 2) ≤ 1
def snC (M : pm) (r : Nat) (f : Nat → Nat) : Prop := mI M 3 13 = nI r ∧ ∀ q, q < r → mI M (258 + q) 0 = nI (f (3 * q)) ∧ mI M (258 + q) 1 = nI (f (3 * q + 1)) ∧ mI M (258 + q) 2 = nI (f (3 * q + 2))
def snM (M : pm) (r : Nat) (f : Nat → Nat) : Prop := mI M 277 63 = nI r ∧ ∀ q, q < r → mI M 322 (3 * q) = nI (f (3 * q)) ∧ mI M 322 (3 * q + 1) = nI (f (3 * q + 1)) ∧ mI M 322 (3 * q + 2) = nI (f (3 * q + 2))
theorem seen_of {M : pm} {t : Nat} {D S : Nat → Nat} {P : Nat → List Nat} (hI : Inv M) (R : Rp M t D P S) : ∃ r f, sn D r f ∧ snC M r f ∧ snM M r f := by
  obtain ⟨-, -, -, -, -, -, -, t', ns, na, ne, hr, i8, -, i10, -⟩ := hI
  obtain ⟨-, rfl, rfl, -, -⟩ := Rp_n R i8
  obtain ⟨r, h1, h2, h3, h4⟩ := i10
  have key : ∀ q, q < r → ∃ d a v : Nat, d ≤ 30 ∧ a < D 2 ∧ v ≤ 1 ∧ (mI M 322 (3 * q)).toNatClampNeg = d ∧ (mI M 322 (3 * q + 1)).toNatClampNeg = a ∧ (mI M 322 (3 * q + 2)).toNatClampNeg = v ∧ mI M (258 + q) 0 = nI d ∧ mI M 322 (3 * q) = nI d ∧ mI M (258 + q) 1 = nI a ∧ mI M 322 (3 * q + 1) = nI a ∧ mI M (258 + q) 2 = nI v ∧ mI M 322 (3 * q + 2) = nI v := fun q hq => by
    obtain ⟨d, a, v, e1, e2, e3, e4, e5, e6, e7, e8, e9⟩ := h4 q hq
    have h8 := R.2.2.1.2.2.1
    exact ⟨d, a, v, e1, e2, e3, by rw [e5, nI_clamp (by omega)], by rw [e7, nI_clamp (by omega)], by rw [e9, nI_clamp (by omega)], e4, e5, e6, e7, e8, e9⟩
  refine ⟨r, fun k => (mI M 322 k).toNatClampNeg, ⟨h1, fun q hq => ?_⟩, ⟨h2, fun q hq => ?_⟩, ⟨h3, fun q hq => ?_⟩⟩
  · obtain ⟨d, a, v, e1, e2, e3, c1, c2, c3, -⟩ := key q hq
    dsimp only; rw [c1, c2, c3]; exact ⟨e1, e2, e3⟩
  · obtain ⟨d, a, v, e1, e2, e3, c1, c2, c3, d1, d2, d3, d4, d5, d6⟩ := key q hq
    dsimp only; rw [c1, c2, c3]; exact ⟨d1, d3, d5⟩
  · obtain ⟨d, a, v, e1, e2, e3, c1, c2, c3, d1, d2, d3, d4, d5, d6⟩ := key q hq
    dsimp only; rw [c1, c2, c3]; exact ⟨d2, d4, d6⟩
theorem snC_c {M M' : pm} {r : Nat} {f : Nat → Nat} (hr : r ≤ 16) (e : mI M' 3 13 = mI M 3 13) (e2 : ∀ a, 258 ≤ a → a < 274 → mI M' a = mI M a) (h : snC M r f) : snC M' r f := by
  refine ⟨by rw [e]; exact h.1, fun q hq => ?_⟩
  rw [e2 (258 + q) (by omega) (by omega)]
  exact h.2 q hq
theorem snM_c {M M' : pm} {r : Nat} {f : Nat → Nat} (e : mI M' 277 63 = mI M 277 63) (e2 : mI M' 322 = mI M 322) (h : snM M r f) : snM M' r f := by
  refine ⟨by rw [e]; exact h.1, fun q hq => ?_⟩
  rw [e2]
  exact h.2 q hq
/-- the rows of one day agree with a set -/
def rag (r : Nat) (f : Nat → Nat) (d set : Nat) : Prop := ∀ q, q < r → f (3 * q) = d → set / 2 ^ f (3 * q + 1) % 2 = f (3 * q + 2)
theorem c_rag {M : pm} {D : Nat → Nat} {r : Nat} {f : Nat → Nat} (h8 : D 2 ≤ 8) (hs : sn D r f) (hc : snC M r f) {d set : Nat} (hd : d ≤ 1000) (hset : set < 256) {Q : Int32 → pm → Prop} (k : Q (nI (pN (rag r f d set))) M) : w_X7_rowsAgree (nI d) (nI set) M Q := by
  have h16 := hs.1
  have key : ∀ l n q, q + l = r → l < n → (∀ j, j < q → f (3 * j) = d → set / 2 ^ f (3 * j + 1) % 2 = f (3 * j + 2)) → w_X7_rowsAgree_2 n (nI d) (nI set) (nI q) M Q := by
    intro l
    induction l with
    | zero =>
      intro n q hq hn hj
      obtain ⟨n, rfl⟩ : ∃ n', n = n' + 1 := ⟨n - 1, by omega⟩
      unfold w_X7_rowsAgree_2
      rw [hc.1]
      rw [pN_1 (show rag r f d set from fun j j1 j2 => hj j (by omega) j2)] at k
      exact k_yes (nI_le (by omega) (by omega)) k
    | succ l ih =>
      intro n q hq hn hj
      obtain ⟨n, rfl⟩ : ∃ n', n = n' + 1 := ⟨n - 1, by omega⟩
      obtain ⟨s1, s2, s3⟩ := hs.2 q (by omega)
      obtain ⟨c1, c2, c3⟩ := hc.2 q (by omega)
      unfold w_X7_rowsAgree_2
      have hv : vp_in (nI q) 16 := vp_in_nI (by omega) (by decide)
      have ml : set / 2 ^ f (3 * q + 1) % 2 < 2 := Nat.mod_lt _ (by decide)
      rw [hc.1, nI_clamp (by omega), c1, c2, c3, nI_1, b_bit (by omega) (by omega)]
      have nx : (f (3 * q) = d → set / 2 ^ f (3 * q + 1) % 2 = f (3 * q + 2)) → w_X7_rowsAgree_2 n (nI d) (nI set) (nI (q + 1)) M Q := fun h => ih n (q + 1) (by omega) (by omega) (fun j j1 j2 => by
        by_cases e : j = q
        · subst e; exact h j2
        · exact hj j (by omega) j2)
      refine k_no (nI_ge (by omega) (by omega)) ⟨hv, pk_ne (f (3 * q)) d (fun z => nx (fun y => absurd y z)) (fun z => ⟨hv, hv, pk_eq (set / 2 ^ f (3 * q + 1) % 2) (f (3 * q + 2)) (fun y => nx (fun _ => y)) (fun y => ?_)⟩)⟩
      rw [pN_0 (fun w : rag r f d set => y (w q (by omega) z))] at k
      exact k
  exact ⟨r + 1, key r (r + 1) 0 (by omega) (by omega) (fun j hj => by omega)⟩
theorem m_rag {M : pm} {D : Nat → Nat} {r : Nat} {f : Nat → Nat} (h8 : D 2 ≤ 8) (hs : sn D r f) (hc : snM M r f) {d set day : Nat} (hd : d ≤ 1000) (hset : set < 256) (h56 : mI M 277 56 = nI set) (h0 : mI M 317 0 = nI day) (hday : day ≤ 2000) {Q : Int32 → pm → Prop} (k : Q (nI (pN (∀ q, q < r → f (3 * q) = d → day ≤ 999 ∧ set / 2 ^ f (3 * q + 1) % 2 = f (3 * q + 2)))) M) : w_X8_isAsSeen (nI d) M Q := by
  have h16 := hs.1
  have key : ∀ l n q, q + l = r → l < n → (∀ j, j < q → f (3 * j) = d → day ≤ 999 ∧ set / 2 ^ f (3 * j + 1) % 2 = f (3 * j + 2)) → w_X8_isAsSeen_2 n (nI d) (nI q) M Q := by
    intro l
    induction l with
    | zero =>
      intro n q hq hn hj
      obtain ⟨n, rfl⟩ : ∃ n', n = n' + 1 := ⟨n - 1, by omega⟩
      unfold w_X8_isAsSeen_2
      rw [hc.1]
      rw [pN_1 (fun j j1 j2 => hj j (by omega) j2)] at k
      exact k_yes (nI_le (by omega) (by omega)) k
    | succ l ih =>
      intro n q hq hn hj
      obtain ⟨n, rfl⟩ : ∃ n', n = n' + 1 := ⟨n - 1, by omega⟩
      obtain ⟨s1, s2, s3⟩ := hs.2 q (by omega)
      obtain ⟨c1, c2, c3⟩ := hc.2 q (by omega)
      have ml : set / 2 ^ f (3 * q + 1) % 2 < 2 := Nat.mod_lt _ (by decide)
      unfold w_X8_isAsSeen_2
      rw [hc.1, show (3 : Int32) * nI q = nI (3 * q) from pk_mul 3 q, nI_1, nI_1, show nI (3 * q) + 2 = nI (3 * q + 2) from nI_add _ 2, nI_clamp (by omega : 3 * q < 2 ^ 31), nI_clamp (by omega : 3 * q + 1 < 2 ^ 31), nI_clamp (by omega : 3 * q + 2 < 2 ^ 31), c1, c2, c3, h56, h0, b_bit (by omega) (by omega)]
      have nx : (f (3 * q) = d → day ≤ 999 ∧ set / 2 ^ f (3 * q + 1) % 2 = f (3 * q + 2)) → w_X8_isAsSeen_2 n (nI d) (nI (q + 1)) M Q := fun h => ih n (q + 1) (by omega) (by omega) (fun j j1 j2 => by
        by_cases e : j = q
        · subst e; exact h j2
        · exact hj j (by omega) j2)
      have no : ∀ (z : f (3 * q) = d), ¬ (day ≤ 999 ∧ set / 2 ^ f (3 * q + 1) % 2 = f (3 * q + 2)) → Q 0 M := fun z y => by
        rw [pN_0 (fun w => y (w q (by omega) z))] at k
        exact k
      refine k_no (nI_ge (by omega) (by omega)) ⟨vp_in_nI (by omega) (by decide), pk_ne (f (3 * q)) d (fun z => nx (fun y => absurd y z)) (fun z => pk_lt 999 day (fun y => no z (fun w => by omega)) (fun y => ⟨vp_in_nI (by omega) (by decide), vp_in_nI (by omega) (by decide), pk_eq (set / 2 ^ f (3 * q + 1) % 2) (f (3 * q + 2)) (fun w => nx (fun _ => ⟨y, w⟩)) (fun w => no z (fun u => w u.2))⟩))⟩
  exact ⟨r + 1, key r (r + 1) 0 (by omega) (by omega) (fun j hj => by omega)⟩
/-- the last day seen, one up -/
def lsd (f : Nat → Nat) : Nat → Nat
  | 0 => 0
  | q + 1 => max (lsd f q) (f (3 * q) + 1)
theorem lsd_le {D : Nat → Nat} {r : Nat} {f : Nat → Nat} (hs : sn D r f) : ∀ q, q ≤ r → lsd f q ≤ 31
  | 0, _ => Nat.zero_le _
  | q + 1, h => by
    have h1 := lsd_le hs q (by omega)
    have h2 := (hs.2 q (by omega)).1
    unfold lsd; omega
theorem lsd_ge (f : Nat → Nat) : ∀ q j, j < q → f (3 * j) + 1 ≤ lsd f q
  | 0, j, h => absurd h (Nat.not_lt_zero _)
  | q + 1, j, h => by
    unfold lsd
    by_cases e : j = q
    · subst e; omega
    · have := lsd_ge f q j (by omega); omega
theorem lsd_at (f : Nat → Nat) : ∀ q, lsd f q = 0 ∨ ∃ j, j < q ∧ f (3 * j) + 1 = lsd f q
  | 0 => Or.inl rfl
  | q + 1 => by
    unfold lsd
    rcases Nat.lt_or_ge (lsd f q) (f (3 * q) + 1) with h | h
    · exact Or.inr ⟨q, by omega, by omega⟩
    · rcases lsd_at f q with e | ⟨j, j1, j2⟩
      · omega
      · exact Or.inr ⟨j, by omega, by omega⟩
def lI (n : Nat) : Int32 := zI ((n : Int) - 1)
theorem c_lsd {M : pm} {D : Nat → Nat} {r : Nat} {f : Nat → Nat} (hs : sn D r f) (hc : snC M r f) {Q : Int32 → pm → Prop} (k : Q (lI (lsd f r)) M) : w_X7_lastSeenDay M Q := by
  have h16 := hs.1
  have key : ∀ l n q, q + l = r → l < n → w_X7_lastSeenDay_4 n (lI (lsd f q)) (nI q) M Q := by
    intro l
    induction l with
    | zero =>
      intro n q hq hn
      obtain ⟨n, rfl⟩ : ∃ n', n = n' + 1 := ⟨n - 1, by omega⟩
      have e : q = r := by omega
      subst e
      unfold w_X7_lastSeenDay_4
      rw [hc.1]
      exact k_yes (nI_le (Nat.le_refl _) (by omega)) k
    | succ l ih =>
      intro n q hq hn
      obtain ⟨n, rfl⟩ : ∃ n', n = n' + 1 := ⟨n - 1, by omega⟩
      have g := ih n (q + 1) (by omega) (by omega)
      have l1 := lsd_le hs q (by omega)
      have s1 := (hs.2 q (by omega)).1
      unfold w_X7_lastSeenDay_4
      rw [hc.1, nI_clamp (by omega), (hc.2 q (by omega)).1, nI_1, ← zI_n (f (3 * q))]
      refine k_no (nI_ge (by omega) (by omega)) ⟨vp_in_nI (by omega) (by decide), s_max (x := ((lsd f q : Nat) : Int) - 1) (by omega) (by omega) (by omega) (by omega) ?_⟩
      have e : max (((lsd f q : Nat) : Int) - 1) ((f (3 * q) : Nat) : Int) = ((lsd f (q + 1) : Nat) : Int) - 1 := by
        show _ = ((max (lsd f q) (f (3 * q) + 1) : Nat) : Int) - 1
        omega
      rw [e]
      exact g
  exact ⟨r + 1, key r (r + 1) 0 (by omega) (by omega)⟩
/-- by v minded: the best programme of day d; whether it is all as seen -/
noncomputable def bvd (D S : Nat → Nat) (P : Nat → List Nat) (a v d : Nat) : Nat := bst D (itA D (up1 S (4 + 5 * a) v) P d) P
def fitP (D S : Nat → Nat) (P : Nat → List Nat) (r : Nat) (f : Nat → Nat) (a v : Nat) : Prop := ∀ q, q < r → S 0 + f (3 * q) ≤ 999 ∧ bvd D S P a v (f (3 * q)) / 2 ^ f (3 * q + 1) % 2 = f (3 * q + 2)
noncomputable def cF (D S : Nat → Nat) (P : Nat → List Nat) (r : Nat) (f : Nat → Nat) (a : Nat) : Nat → Nat
  | 0 => 0
  | v + 1 => cF D S P r f a v + pN (fitP D S P r f a v)
theorem cF_le (D S : Nat → Nat) (P : Nat → List Nat) (r : Nat) (f : Nat → Nat) (a : Nat) : ∀ v, cF D S P r f a v ≤ v
  | 0 => Nat.le_refl _
  | v + 1 => by
    have h1 := cF_le D S P r f a v
    have h2 := pN_le (fitP D S P r f a v)
    unfold cF; omega
theorem okS_up4 {D S : Nat → Nat} {a v : Nat} (hS : okS D S) (hv : v ≤ 99) : okS D (up1 S (4 + 5 * a) v) := by
  refine ⟨?_, ?_, fun q hq => ?_⟩
  · unfold up1; rw [if_neg (by omega)]; exact hS.1
  · unfold up1; rw [if_neg (by omega)]; exact hS.2.1
  · have z := hS.2.2 q hq
    unfold up1
    rw [if_neg (by omega : ¬ 3 + 5 * q = 4 + 5 * a), if_neg (by omega : ¬ 2 + 5 * q = 4 + 5 * a), if_neg (by omega : ¬ 5 + 5 * q = 4 + 5 * a), if_neg (by omega : ¬ 6 + 5 * q = 4 + 5 * a), if_neg (by omega : ¬ 0 = 4 + 5 * a)]
    refine ⟨z.1, z.2.1, ?_, z.2.2.2⟩
    split
    · exact hv
    · exact z.2.2.1
/-- the class's rows that fits may change -/
def xF (c : Nat) : Prop := xT c ∨ c = 274
theorem fF_same {M M' : pm} (h : fI xF M M') : same M M' := ⟨h.1, h.2.1, fun a h1 _ => h.2.2.2 a (fun q => h1 (by unfold xF xT at q; unfold scrA; omega)), fun k _ => by rw [h.2.2.2 277 (by unfold xF xT; omega)], by rw [h.2.2.1], by rw [h.2.2.1]⟩
theorem xTF {M M' : pm} (h : fI xT M M') : fI xF M M' := h.mo (fun a ha => Or.inl ha)
/-- bits of the days on which he is played -/
noncomputable def pbN (D S : Nat → Nat) (P : Nat → List Nat) (a v : Nat) : Nat → Nat
  | 0 => 0
  | d + 1 => pbN D S P a v d + (bvd D S P a v d / 2 ^ a % 2) * 2 ^ d
theorem pbN_lt (D S : Nat → Nat) (P : Nat → List Nat) (a v : Nat) : ∀ d, pbN D S P a v d < 2 ^ d
  | 0 => (by decide : 0 < 1)
  | d + 1 => by
    have h1 := pbN_lt D S P a v d
    have h2 : bvd D S P a v d / 2 ^ a % 2 < 2 := Nat.mod_lt _ (by decide)
    unfold pbN
    rw [Nat.pow_succ]
    rcases (show bvd D S P a v d / 2 ^ a % 2 = 0 ∨ bvd D S P a v d / 2 ^ a % 2 = 1 from by omega) with e | e
    · rw [e]; omega
    · rw [e]; omega
theorem pbN_bit (D S : Nat → Nat) (P : Nat → List Nat) (a v : Nat) : ∀ n d, d < n → pbN D S P a v n / 2 ^ d % 2 = bvd D S P a v d / 2 ^ a % 2
  | 0, d, h => absurd h (Nat.not_lt_zero _)
  | n + 1, d, h => by
    have h1 := pbN_lt D S P a v n
    have h2 : bvd D S P a v n / 2 ^ a % 2 < 2 := Nat.mod_lt _ (by decide)
    have hp : 0 < 2 ^ d := Nat.two_pow_pos _
    unfold pbN
    by_cases e : d = n
    · subst e
      rw [Nat.add_mul_div_right _ _ hp, Nat.div_eq_of_lt h1, Nat.zero_add, Nat.mod_eq_of_lt h2]
    · have ih := pbN_bit D S P a v n d (by omega)
      obtain ⟨j, hj⟩ : ∃ j, n = d + (j + 1) := ⟨n - d - 1, by omega⟩
      have e2 : (bvd D S P a v n / 2 ^ a % 2) * 2 ^ n = ((bvd D S P a v n / 2 ^ a % 2) * 2 ^ j * 2) * 2 ^ d := by
        rw [hj, Nat.pow_add, Nat.pow_succ, Nat.mul_assoc, Nat.mul_assoc, Nat.mul_comm (2 ^ d) (2 ^ j * 2), Nat.mul_assoc]
      rw [e2, Nat.add_mul_div_right _ _ hp]
      omega
theorem or_add {x d : Nat} (h : x < 2 ^ d) : x ||| 2 ^ d = x + 2 ^ d := by
  have := Nat.two_pow_add_eq_or_of_lt h 1
  rw [Nat.mul_one] at this
  rw [Nat.or_comm, ← this, Nat.add_comm]
theorem ff_or {x b d : Nat} (h : x < 2 ^ d) (hb : b < 2) (hd : d ≤ 30) : nI x ||| (nI b <<< (nI d &&& 31)) = nI (x + b * 2 ^ d) := by
  have hp : 2 ^ d ≤ 2 ^ 30 := Nat.pow_le_pow_right (by decide) hd
  have hq : (2 : Nat) ^ 30 = 1073741824 := by decide
  rcases (show b = 0 ∨ b = 1 from by omega) with rfl | rfl
  · rw [pk_shlN (n := 0) _ d (b_s (by omega)) (by omega), Nat.zero_mul, Nat.add_zero, b_or (by omega) (by decide), Nat.or_zero]
  · rw [pk_shlN (n := 1) _ d (b_s (by omega)) (by omega), Nat.one_mul, b_or (by omega) (by omega), or_add h]
theorem lI_lt {L d : Nat} (hL : L ≤ 1000) (hd : d ≤ 1000) : lI L < nI d ↔ L ≤ d := by
  unfold lI
  rw [← zI_n, zI_lt (by omega) (by omega) (by omega) (by omega)]
  omega
theorem c_ff46 {M : pm} {t : Nat} {D S : Nat → Nat} {P : Nat → List Nat} {r a v L : Nat} {f : Nat → Nat} (ht : t = 14 ∨ t = 29) (h3 : mR M 3 3 = t) (hd : dC M t D P) (hD : okD D P) (h57 : mI M 57 0 = nI (S 0)) (hS : okS D S) (h9 : S 0 ≤ 999) (hon : ¬ mI M 3 5 = 0) (hsn : sn D r f) (hsc : snC M r f) (ha : a < D 2) (hv : v ≤ 99) (hL1 : lsd f r ≤ L) (hL2 : L ≤ 31) (can : ∀ q, q < r → S 0 + f (3 * q) ≤ 999) {x4 x5 : Int32} {k131 : Int32 → Int32 → Int32 → Int32 → Int32 → Int32 → Int32 → pm → Prop} {Q : Int32 → pm → Prop} (k1 : fitP D S P r f a v → ∀ M', fI xF M M' → mI M' 274 = mI M 274 → k131 (nI a) (lI L) 1 x4 x5 1 (nI (pbN D S P a v (min L (1000 - S 0)))) M') (k0 : ¬ fitP D S P r f a v → ∀ M' x7, fI xF M M' → mI M' 274 = mI M 274 → k131 (nI a) (lI L) 1 x4 x5 0 x7 M') : ∀ (l n d : Nat) (M1 : pm), d + l = L → l + 1 < n → d ≤ 1000 - S 0 → fI xT M M1 → (S 0 + d ≤ 999 → sC M1 66 D (itA D (up1 S (4 + 5 * a) v) P d)) → (∀ q, q < r → f (3 * q) < d → bvd D S P a v (f (3 * q)) / 2 ^ f (3 * q + 1) % 2 = f (3 * q + 2)) → w_X7_findFitting_46 n (nI a) (lI L) 1 x4 x5 1 (nI (pbN D S P a v d)) (nI d) M1 k131 Q := by
  have h8 := hD.2.2.1
  intro l
  induction l with
  | zero =>
    intro n d M1 hl hn hd9 f1 s1 hrow
    obtain ⟨n, rfl⟩ : ∃ n', n = n' + 1 := ⟨n - 1, by omega⟩
    unfold w_X7_findFitting_46
    rw [show d = min L (1000 - S 0) from by omega]
    refine k_yes ((lI_lt (by omega) (by omega)).mpr (by omega)) (k1 (fun q hq => ⟨can q hq, hrow q hq ?_⟩) M1 (xTF f1) (f1.2.2.2 274 (by unfold xT; omega)))
    have := lsd_ge f r q hq
    omega
  | succ l ih =>
    intro n d M1 hl hn hd9 f1 s1 hrow
    obtain ⟨n, rfl⟩ : ∃ n', n = n' + 1 := ⟨n - 1, by omega⟩
    have e3 : mI M1 3 = mI M 3 := f1.2.2.2 3 (by unfold xT; omega)
    have e57 : mI M1 57 0 = nI (S 0) := by rw [f1.2.2.2 57 (by unfold xT; omega)]; exact h57
    have hpl := pbN_lt D S P a v d
    have hp30 : 2 ^ d ≤ 2 ^ 30 := Nat.pow_le_pow_right (by decide) (by omega)
    unfold w_X7_findFitting_46
    refine k_no (fun z => by have := (lI_lt (by omega) (by omega)).mp z; omega) (k_no (by decide) ?_)
    by_cases q9 : 999 < S 0 + d
    · refine c_ahead_no (Or.inr (by rw [e57, nI_add]; exact nI_lt (a := 999) q9 (by omega))) (k_yes rfl ?_)
      rw [show d = min L (1000 - S 0) from by omega]
      refine k1 (fun q hq => ⟨can q hq, hrow q hq ?_⟩) M1 (xTF f1) (f1.2.2.2 274 (by unfold xT; omega))
      have := can q hq
      omega
    · have ok := itA_ok (P := P) (okS_up4 (a := a) hS hv) d (by rw [up1_0 (by omega)]; omega)
      have e0 : itA D (up1 S (4 + 5 * a) v) P d 0 = S 0 + d := by rw [itA_0, up1_0 (by omega)]
      refine c_ahead_yes (by rw [e3]; exact hon) (by rw [e57, nI_add]; exact nI_nlt (a := 999) (by omega) (by decide)) (k_no (by decide) ?_)
      rw [f1.2.1, h3, nI_1]
      refine c_day (R := fun _ _ _ => True) ht (tC f1 ht hd) hD (s1 (by omega)) ok (fun M2 f2 s2 hb pd => ?_)
      have hb2 := best256 hD hb
      have f12 := f1.tr f2
      have sc2 : snC M2 r f := snC_c hsn.1 (by rw [f12.2.2.2 3 (by unfold xT; omega)]) (fun c c1 c2 => f12.2.2.2 c (by unfold xT; omega)) hsc
      refine c_rag h8 hsn sc2 (by omega) hb2.1 ?_
      rw [f12.2.1, h3]
      refine pd _ (fun M3 y f3 s3 => ?_)
      have f13 := f1.tr f3
      have eb : (nI (pbN D S P a v d) ||| (((nI (bst D (itA D (up1 S (4 + 5 * a) v) P d) P) >>> (nI a &&& 31)) &&& 1) <<< (nI d &&& 31))) = nI (pbN D S P a v (d + 1)) := by
        rw [b_bit (by omega) (by omega), ff_or hpl (Nat.mod_lt _ (by decide)) (by omega)]
        rfl
      rw [eb]
      by_cases hr : rag r f d (bst D (itA D (up1 S (4 + 5 * a) v) P d) P)
      · rw [pN_1 hr]
        refine ih n (d + 1) M3 (by omega) (by omega) (by omega) f13 (fun z => ?_) (fun q hq hq2 => ?_)
        · rw [dayC_eq (by rw [e0]; omega)] at s3
          exact s3
        · by_cases e : f (3 * q) = d
          · have := hr q hq e
            rw [e]; exact this
          · exact hrow q hq (by omega)
      · rw [pN_0 hr]
        obtain ⟨n, rfl⟩ : ∃ n', n = n' + 1 := ⟨n - 1, by omega⟩
        have nf : ¬ fitP D S P r f a v := fun z => hr (fun q hq e => by
          have := (z q hq).2
          rw [e] at this; exact this)
        have fin := k0 nf M3 (nI (pbN D S P a v (d + 1))) (xTF f13) (f13.2.2.2 274 (by unfold xT; omega))
        unfold w_X7_findFitting_46
        exact ⟨fun _ => fin, fun _ => k_yes rfl fin⟩
def ftC (D S : Nat → Nat) (P : Nat → List Nat) (r : Nat) (f : Nat → Nat) (a E : Nat) (M : pm) (n : Nat) : Prop := ∀ v, v < n → (fitP D S P r f a v → mI M 274 v = nI (pbN D S P a v E)) ∧ (¬ fitP D S P r f a v → mI M 274 v = -1)
theorem c_ff {M : pm} {t : Nat} {D S : Nat → Nat} {P : Nat → List Nat} {r a L : Nat} {f : Nat → Nat} (R : Rp M t D P S) (hon : ¬ mI M 3 5 = 0) (hsn : sn D r f) (hsc : snC M r f) (ha : a < D 2) (hL1 : lsd f r ≤ L) (hL2 : L ≤ 31) {Q : Int32 → pm → Prop} (k : ∀ M', fI xF M M' → ftC D S P r f a (min L (1000 - S 0)) M' 100 → Q (nI (cF D S P r f a 100)) M') : w_X7_findFitting (nI a) (lI L) M Q := by
  obtain ⟨ht, h3, hD, hd, r5, hS, h9, hs, r9, r10, r11, r12⟩ := R
  have h8 := hD.2.2.1
  have ll := lsd_le hsn r (Nat.le_refl _)
  refine c_lsd hsn hsc ?_
  -- the loop over the numbers, for either answer of canBe
  have key : ∀ (cb : Prop) (x3 : Int32), ((cb ∧ x3 = 1 ∧ ∀ q, q < r → S 0 + f (3 * q) ≤ 999) ∨ (¬ cb ∧ x3 = 0 ∧ ∀ v, ¬ fitP D S P r f a v)) → ∀ l n v M1, v + l = 100 → l < n → fI xF M M1 → ftC D S P r f a (min L (1000 - S 0)) M1 v → w_X7_findFitting_15 n (nI a) (lI L) x3 (nI (cF D S P r f a v)) (nI v) M1 Q := by
    intro cb x3 hx l
    induction l with
    | zero =>
      intro n v M1 hv hn f1 g1
      obtain ⟨n, rfl⟩ : ∃ n', n = n' + 1 := ⟨n - 1, by omega⟩
      have e : v = 100 := by omega
      subst e
      unfold w_X7_findFitting_15
      exact k_yes (by decide) (k M1 f1 g1)
    | succ l ih =>
      intro n v M1 hv hn f1 g1
      obtain ⟨n, rfl⟩ : ∃ n', n = n' + 1 := ⟨n - 1, by omega⟩
      have cl := cF_le D S P r f a v
      have hs1 : sC M1 57 D S := sC_c (fun c c1 c2 => f1.2.2.2 c (by unfold xF xT; omega)) hs
      unfold w_X7_findFitting_15
      refine k_no (nI_nlt (a := 99) (by omega) (by decide)) (c_try h8 hs1 (fun M2 f2 s2 => ⟨vp_in_nI (by omega) (by decide), ?_⟩))
      rw [nI_clamp (by omega)]
      have e274 : mI (sI M2 69 a (nI v)) 274 = mI M1 274 := by rw [mI_off (by decide), f2.2.2.2 274 (by unfold xT; omega)]
      have f3 : fI xT M1 (sI M2 69 a (nI v)) := f2.up (Or.inr ⟨by decide, by decide⟩) _ _
      have f3F : fI xF M (sI M2 69 a (nI v)) := f1.tr (xTF f3)
      have fin0 : ¬ fitP D S P r f a v → ∀ M' x7, fI xF M M' → mI M' 274 = mI M1 274 → (((0 : Int32) = 0 → (w_X7_findFitting_148 (nI a) (lI L) x3 (nI (cF D S P r f a v)) (nI v) 0 (nI v) (-1) M' (fun x1 x2 x3 x4 x5 M => w_X7_findFitting_15 n x1 x2 x3 x4 x5 M Q) Q)) ∧ (¬ (0 : Int32) = 0 → (w_X7_findFitting_148 (nI a) (lI L) x3 (nI (cF D S P r f a v)) (nI v) 0 (nI v) x7 M' (fun x1 x2 x3 x4 x5 M => w_X7_findFitting_15 n x1 x2 x3 x4 x5 M Q) Q))) := by
        intro nf M' x7 f' e'
        refine k_yes rfl ⟨vp_in_nI (by omega) (by decide), k_yes rfl ?_⟩
        have g := ih n (v + 1) (sI M' 274 v (-1)) (by omega) (by omega) (f'.up (Or.inr rfl) _ _) (fun w hw => by
          by_cases e : w = v
          · subst e; exact ⟨fun z => absurd z nf, fun _ => rIs _ _ _ _⟩
          · rw [rI (by omega), e']; exact g1 w (by omega))
        have ec : cF D S P r f a (v + 1) = cF D S P r f a v + 0 := by
          show _ + pN _ = _
          rw [pN_0 nf]
        rw [ec, Nat.add_zero] at g
        rw [nI_clamp (by omega), nI_1, show nI (cF D S P r f a v) + 0 = nI (cF D S P r f a v) from Int32.add_zero _]
        exact g
      rcases hx with ⟨_, rfl, can⟩ | ⟨_, rfl, nf⟩
      · refine ⟨L + 2, c_ff46 (M := sI M2 69 a (nI v)) (v := v) ht (by rw [f3F.2.1]; exact h3) (dC_c (fun c c1 c2 => f3F.2.2.2 c (by unfold xF xT; omega)) hd) hD (by rw [f3F.2.2.2 57 (by unfold xF xT; omega)]; exact hs.1) hS h9 (by rw [f3F.2.2.2 3 (by unfold xF xT; omega)]; exact hon) hsn (snC_c hsn.1 (by rw [f3F.2.2.2 3 (by unfold xF xT; omega)]) (fun c c1 c2 => f3F.2.2.2 c (by unfold xF xT; omega)) hsc) ha (by omega) hL1 hL2 can (fun hf M' f' e' => ?_) (fun nf M' x7 f' e' => fin0 nf M' x7 (f3F.tr f') (by rw [e', e274])) L (L + 2) 0 _ (by omega) (by omega) (by omega) (fI.rf _) (fun _ => sC_up (i := 4) (by decide) (by decide) s2 rfl) (fun q hq hq2 => by omega)⟩
        refine k_no (by decide) ⟨vp_in_nI (by omega) (by decide), k_no (by decide) ?_⟩
        have g := ih n (v + 1) (sI M' 274 v (nI (pbN D S P a v (min L (1000 - S 0))))) (by omega) (by omega) ((f3F.tr f').up (Or.inr rfl) _ _) (fun w hw => by
          by_cases e : w = v
          · subst e; exact ⟨fun _ => rIs _ _ _ _, fun z => absurd hf z⟩
          · rw [rI (by omega), e', e274]; exact g1 w (by omega))
        have ec : cF D S P r f a (v + 1) = cF D S P r f a v + 1 := by
          show _ + pN _ = _
          rw [pN_1 hf]
        rw [ec] at g
        rw [nI_clamp (by omega), nI_1, nI_1]
        exact g
      · refine ⟨1, ?_⟩
        have fin := fin0 (nf v) _ 0 f3F e274
        unfold w_X7_findFitting_46
        exact ⟨fun _ => fin, fun _ => k_yes rfl fin⟩
  have es : mI M 57 0 + lI (lsd f r) = zI ((S 0 : Int) + ((lsd f r : Nat) : Int) - 1) := by
    rw [hs.1, ← zI_n]
    unfold lI
    rw [zI_add]; congr 1; omega
  by_cases hc : (999 : Int) < (S 0 : Int) + ((lsd f r : Nat) : Int) - 1
  · refine c_ahead_no (Or.inr (by rw [es]; exact (zI_lt (a := 999) (by omega) (by omega) (by omega) (by omega)).mpr hc)) ⟨102, key False 0 (Or.inr ⟨fun z => z, rfl, fun v z => ?_⟩) 100 102 0 M (by omega) (by omega) (fI.rf M) (fun v hv => by omega)⟩
    rcases lsd_at f r with e | ⟨j, j1, j2⟩
    · omega
    · have := (z j j1).1
      omega
  · refine c_ahead_yes hon (by rw [es]; exact fun z => hc ((zI_lt (a := 999) (by omega) (by omega) (by omega) (by omega)).mp z)) ⟨102, key True 1 (Or.inl ⟨trivial, rfl, fun q hq => ?_⟩) 100 102 0 M (by omega) (by omega) (fI.rf M) (fun v hv => by omega)⟩
    have := lsd_ge f r q hq
    omega
