/-! feed, letter -/
theorem an_b (y : Int32) : y &&& 255 = nI (y.toBitVec.toNat % 256) := pk_and y 8 (by decide)
theorem sb_t {b : Nat} (h : b < 256) : (sb b).toInt = if b < 128 then (b : Int) else (b : Int) - 256 := by
  unfold sb
  split
  · exact nI_toInt (by omega)
  · have := pk_sub_toInt (a := b) (b := 256) (by omega) (by decide)
    exact this
theorem sby_b (y : Int32) : vp_nar .byte (y.toInt8.toInt32) = sb (y.toBitVec.toNat % 256) := by
  rw [pk_vb]
  apply Int32.toInt_inj.mp
  have hlt : y.toBitVec.toNat % 256 < 256 := Nat.mod_lt _ (by decide)
  rw [sb_t hlt, Int8.toInt_toInt32, Int32.toInt_toInt8]
  have e : y.toInt = Int.bmod (y.toBitVec.toNat : Int) (2 ^ 32) := BitVec.toInt_eq_toNat_bmod _
  rw [e, Int.bmod_bmod_of_dvd (by decide)]
  generalize y.toBitVec.toNat = n
  unfold Int.bmod
  dsimp only
  split <;> split <;> omega
def byt (x : Int32) (i : Nat) : Nat := ((x >>> nI (24 - 8 * i)).toBitVec.toNat) % 256
theorem byt_lt (x : Int32) (i : Nat) : byt x i < 256 := Nat.mod_lt _ (by decide)
def fT4 (M M' : pm) : Prop := mL M' = mL M ∧ mR M' = mR M ∧ mJ M' = mJ M ∧ (∀ a, a ≠ 3 → a ≠ 4 → mI M' a = mI M a) ∧ ∀ k, k ≠ 1 → mI M' 3 k = mI M 3 k
theorem fT4.rf (M : pm) : fT4 M M := ⟨rfl, rfl, rfl, fun _ _ _ => rfl, fun _ _ => rfl⟩
theorem fT4.tr {M M1 M2 : pm} (h : fT4 M M1) (g : fT4 M1 M2) : fT4 M M2 := ⟨g.1.trans h.1, g.2.1.trans h.2.1, g.2.2.1.trans h.2.2.1, fun a h1 h2 => (g.2.2.2.1 a h1 h2).trans (h.2.2.2.1 a h1 h2), fun k hk => (g.2.2.2.2 k hk).trans (h.2.2.2.2 k hk)⟩
theorem c_put1 {M : pm} {n m : Nat} (hn : n < 1600) (h : mI M 3 1 = nI n) {x s : Int32} (hs : ¬ s < 0) {Q : pm → Prop} {w : Nat} (ew : (x >>> (s &&& 31)).toBitVec.toNat % 256 = w) (k : w_X7_putOnTape_3 m x (s + (-8)) (sI (sI M 4 n (sb w)) 3 1 (nI (n + 1))) Q) : w_X7_putOnTape_3 (m + 1) x s M Q := by
  unfold w_X7_putOnTape_3
  rw [h, sby_b, ew, nI_1, nI_clamp (by omega)]
  exact k_no hs (k_no (nI_ge (b := 1600) hn (by decide)) ⟨vp_in_nI hn (by decide), k⟩)
theorem c_put {M : pm} {n : Nat} (hn : n + 4 ≤ 1600) (h : mI M 3 1 = nI n) {x : Int32} {Q : pm → Prop} (k : ∀ M', fT4 M M' → mI M' 3 1 = nI (n + 4) → (∀ j, mI M' 4 j = if n ≤ j ∧ j < n + 4 then sb (byt x (j - n)) else mI M 4 j) → Q M') : w_X7_putOnTape x M Q := by
  refine ⟨5, c_put1 (n := n) (w := byt x 0) (by omega) h (by decide) rfl ?_⟩
  rw [show (24 : Int32) + (-8) = 16 from by decide]
  refine c_put1 (n := n + 1) (w := byt x 1) (by omega) (rIs _ _ _ _) (by decide) rfl ?_
  rw [show (16 : Int32) + (-8) = 8 from by decide]
  refine c_put1 (n := n + 2) (w := byt x 2) (by omega) (rIs _ _ _ _) (by decide) rfl ?_
  rw [show (8 : Int32) + (-8) = 0 from by decide]
  refine c_put1 (n := n + 3) (w := byt x 3) (by omega) (rIs _ _ _ _) (by decide) rfl ?_
  unfold w_X7_putOnTape_3
  refine k_yes (by decide) (k _ ⟨rfl, rfl, rfl, fun a h1 h2 => ?_, fun j hj => ?_⟩ (rIs _ _ _ _) (fun j => ?_))
  · rw [mI_off h1, mI_off h2, mI_off h1, mI_off h2, mI_off h1, mI_off h2, mI_off h1, mI_off h2]
  · rw [rI (by omega), rI (by omega), rI (by omega), rI (by omega), rI (by omega), rI (by omega), rI (by omega), rI (by omega)]
  · rw [rI (by omega), mI_sI, rI (by omega), mI_sI, rI (by omega), mI_sI, rI (by omega), mI_sI]
    by_cases q3 : j = n + 3
    · subst q3; rw [if_pos ⟨rfl, rfl⟩, if_pos (by omega)]; congr 2; omega
    · rw [if_neg (fun z => q3 z.2)]
      by_cases q2 : j = n + 2
      · subst q2; rw [if_pos ⟨rfl, rfl⟩, if_pos (by omega)]; congr 2; omega
      · rw [if_neg (fun z => q2 z.2)]
        by_cases q1 : j = n + 1
        · subst q1; rw [if_pos ⟨rfl, rfl⟩, if_pos (by omega)]; congr 2; omega
        · rw [if_neg (fun z => q1 z.2)]
          by_cases q0 : j = n
          · subst q0; rw [if_pos ⟨rfl, rfl⟩, if_pos (by omega)]; congr 2; omega
          · rw [if_neg (fun z => q0 z.2), if_neg (by omega)]
def fw5 (a b c d e : Int32) (j : Nat) : Int32 := if j < 4 then a else if j < 8 then b else if j < 12 then c else if j < 16 then d else e
theorem fsh : ∀ j, j < 20 → ((8 : Int32) * (3 - irm (nI j) 4)) &&& 31 = nI (24 - 8 * (j % 4)) := by decide
theorem m_feed {M : pm} {n : Nat} (hn : n + 20 ≤ 1600) {a b c d e : Int32} {Q : Int32 → pm → Prop} (k : ∀ M', mL M' = mL M → mR M' = mR M → mJ M' = mJ M → (∀ q, q ≠ 277 → q ≠ 278 → mI M' q = mI M q) → (∀ j, j ≠ 1 → mI M' 277 j = mI M 277 j) → mI M' 277 1 = nI (n + 20) → (∀ j, mI M' 278 j = if n ≤ j ∧ j < n + 20 then nI (byt (fw5 a b c d e (j - n)) ((j - n) % 4)) else mI M 278 j) → Q (nI (n + 20)) M') (h : mI M 277 1 = nI n) : ∃ m, w_X8_feed_28 m a b c d e 0 M Q := by
  have key : ∀ l m i M1, i + l = 20 → l < m → mL M1 = mL M → mR M1 = mR M → mJ M1 = mJ M → (∀ q, q ≠ 277 → q ≠ 278 → mI M1 q = mI M q) → (∀ j, j ≠ 1 → mI M1 277 j = mI M 277 j) → mI M1 277 1 = nI (n + i) → (∀ j, mI M1 278 j = if n ≤ j ∧ j < n + i then nI (byt (fw5 a b c d e (j - n)) ((j - n) % 4)) else mI M 278 j) → w_X8_feed_28 m a b c d e (nI i) M1 Q := by
    intro l
    induction l with
    | zero =>
      intro m i M1 hi hm e1 e2 e3 e4 e5 e6 e7
      obtain ⟨m, rfl⟩ : ∃ m', m = m' + 1 := ⟨m - 1, by omega⟩
      have : i = 20 := by omega
      subst this
      unfold w_X8_feed_28
      rw [e6]
      exact k_yes (by decide) (k M1 e1 e2 e3 e4 e5 e6 e7)
    | succ l ih =>
      intro m i M1 hi hm e1 e2 e3 e4 e5 e6 e7
      obtain ⟨m, rfl⟩ : ∃ m', m = m' + 1 := ⟨m - 1, by omega⟩
      have fin : ∀ t0, t0 = fw5 a b c d e i → w_X8_feed_81 a b c d e (nI i) t0 M1 (fun x1 x2 x3 x4 x5 x6 M => w_X8_feed_28 m x1 x2 x3 x4 x5 x6 M Q) Q := by
        intro t0 ht
        unfold w_X8_feed_81
        rw [e6, fsh i (by omega), an_b, nI_1, nI_1, nI_clamp (by omega)]
        refine ⟨vp_in_nI (by omega) (by decide), ih m (i + 1) _ (by omega) (by omega) e1 e2 e3 (fun q h1 h2 => by rw [mI_off h1, mI_off h2]; exact e4 q h1 h2) (fun j hj => by rw [rI (by omega), rI (by omega)]; exact e5 j hj) (by rw [rIs]; rfl) (fun j => ?_)⟩
        rw [rI (by omega), mI_sI]
        by_cases q : j = n + i
        · subst q
          rw [if_pos ⟨rfl, rfl⟩, if_pos (by omega), ht, show n + i - n = i from by omega]; rfl
        · rw [if_neg (fun z => q z.2), e7 j]
          by_cases q2 : n ≤ j ∧ j < n + i
          · rw [if_pos q2, if_pos (by omega)]
          · rw [if_neg q2, if_neg (by omega)]
      unfold w_X8_feed_28
      refine k_no (nI_ge (b := 20) (by omega) (by decide)) (pk_le 4 i (fun q4 => pk_le 8 i (fun q8 => pk_le 12 i (fun q12 => pk_le 16 i (fun q16 => fin _ ?_) (fun q16 => fin _ ?_)) (fun q12 => fin _ ?_)) (fun q8 => fin _ ?_)) (fun q4 => fin _ ?_))
      · unfold fw5; rw [if_neg (by omega), if_neg (by omega), if_neg (by omega), if_neg (by omega)]
      · unfold fw5; rw [if_neg (by omega), if_neg (by omega), if_neg (by omega), if_pos (by omega)]
      · unfold fw5; rw [if_neg (by omega), if_neg (by omega), if_pos (by omega)]
      · unfold fw5; rw [if_neg (by omega), if_pos (by omega)]
      · unfold fw5; rw [if_pos (by omega)]
  exact ⟨21, key 20 21 0 M (by omega) (by omega) rfl rfl rfl (fun _ _ _ => rfl) (fun _ _ => rfl) h (fun j => by rw [if_neg (by omega)])⟩
theorem p_feed (a b c d e : Int32) (M : pm) (hI : Inv M) : stp Inv (w_X7_feed a b c d e) (w_X8_feed a b c d e) M := by
  obtain ⟨i1, i2, i3, i4, i5, i6, -⟩ := id hI
  obtain ⟨n, hn, t1, t2, t3⟩ := i2
  by_cases h : n + 20 ≤ 1600
  · intro K hK
    refine k_yes (by rw [t1]; show nI n + nI 20 ≤ _; rw [nI_add]; exact nI_le (b := 1600) h (by decide)) (c_put (n := n) (by omega) t1 (fun M1 f1 l1 b1 => c_put (n := n + 4) (by omega) l1 (fun M2 f2 l2 b2 => c_put (n := n + 8) (by omega) l2 (fun M3 f3 l3 b3 => c_put (n := n + 12) (by omega) l3 (fun M4 f4 l4 b4 => c_put (n := n + 16) (by omega) l4 (fun M5 f5 l5 b5 => ?_))))))
    have f := (((f1.tr f2).tr f3).tr f4).tr f5
    have by5 : ∀ j, mI M5 4 j = if n ≤ j ∧ j < n + 20 then sb (byt (fw5 a b c d e (j - n)) ((j - n) % 4)) else mI M 4 j := by
      intro j
      rw [b5 j]
      by_cases q5 : n + 16 ≤ j ∧ j < n + 16 + 4
      · rw [if_pos q5, if_pos (by omega)]
        unfold fw5; rw [if_neg (by omega), if_neg (by omega), if_neg (by omega), if_neg (by omega)]; congr 2; omega
      · rw [if_neg q5, b4 j]
        by_cases q4 : n + 12 ≤ j ∧ j < n + 12 + 4
        · rw [if_pos q4, if_pos (by omega)]
          unfold fw5; rw [if_neg (by omega), if_neg (by omega), if_neg (by omega), if_pos (by omega)]; congr 2; omega
        · rw [if_neg q4, b3 j]
          by_cases q3 : n + 8 ≤ j ∧ j < n + 8 + 4
          · rw [if_pos q3, if_pos (by omega)]
            unfold fw5; rw [if_neg (by omega), if_neg (by omega), if_pos (by omega)]; congr 2; omega
          · rw [if_neg q3, b2 j]
            by_cases q2 : n + 4 ≤ j ∧ j < n + 4 + 4
            · rw [if_pos q2, if_pos (by omega)]
              unfold fw5; rw [if_neg (by omega), if_pos (by omega)]; congr 2; omega
            · rw [if_neg q2, b1 j]
              by_cases q1 : n ≤ j ∧ j < n + 4
              · rw [if_pos q1, if_pos (by omega)]
                unfold fw5; rw [if_pos (by omega)]; congr 2; omega
              · rw [if_neg q1, if_neg (by omega)]
    rw [l5]
    refine hK _ M5 ⟨f.1, f.2.2.2.1 1 (by decide) (by decide)⟩ (fun Q hQ => k_yes ?_ (m_feed (n := n) h (fun M6 e1 e2 e3 e4 e5 e6 e7 => hQ M6 ?_ ⟨e1, e4 1 (by decide) (by decide)⟩) ?_))
    · rw [f.2.2.2.1 277 (by decide) (by decide), t2]; show nI n + nI 20 ≤ _; rw [nI_add]; exact nI_le (b := 1600) h (by decide)
    · have g : ∀ q, q ≠ 3 → q ≠ 4 → q ≠ 277 → q ≠ 278 → mI M6 q = mI M q := fun q h1 h2 h3 h4 => by rw [e4 q h3 h4, f.2.2.2.1 q h1 h2]
      have g3 : ∀ k, k ≠ 1 → mI M6 3 k = mI M 3 k := fun k hk => by rw [e4 3 (by decide) (by decide), f.2.2.2.2 k hk]
      have g7 : ∀ k, k ≠ 1 → mI M6 277 k = mI M 277 k := fun k hk => by rw [e5 k hk, f.2.2.2.1 277 (by decide) (by decide)]
      refine Inv_upd (M := M) (by rw [e1, f.1]) (by rw [e2, f.2.1]) (by rw [e3, f.2.2.1]) hI ⟨n + 20, h, ?_, e6, fun k hk => ?_⟩ (iFlt_c (g3 6 (by decide)) (g3 7 (by decide)) (g7 7 (by decide)) (g7 8 (by decide)) i3) (iRef_c (g 276 (by decide) (by decide) (by decide) (by decide)) (g 279 (by decide) (by decide) (by decide) (by decide)) i4) (iSeed_c (g3 18 (by decide)) (by rw [e3, f.2.2.1]) i5) (iPic_c (g3 16 (by decide)) (g7 106 (by decide)) (g 275 (by decide) (by decide) (by decide) (by decide)) (g 352 (by decide) (by decide) (by decide) (by decide)) i6) (fun q k hq => ?_)
      · rw [e4 3 (by decide) (by decide)]; exact l5
      · rw [e7 k, e4 4 (by decide) (by decide), by5 k, f.2.2.2.1 278 (by decide) (by decide)]
        by_cases q : n ≤ k ∧ k < n + 20
        · rw [if_pos q, if_pos q]
          exact ⟨_, byt_lt _ _, rfl, rfl⟩
        · rw [if_neg q, if_neg q]; exact t3 k hk
      · unfold SS at hq
        by_cases q3 : q = 3
        · subst q3; exact g3 k (by omega)
        · by_cases q7 : q = 277
          · subst q7; exact g7 k (by omega)
          · rw [g q q3 (by omega) q7 (by omega)]
    · rw [f.2.2.2.1 277 (by decide) (by decide)]; exact t2
  · have nle : ¬ nI n + 20 ≤ 1600 := by show ¬ nI n + nI 20 ≤ _; rw [nI_add]; exact nI_ge (a := 1600) (by omega) (by omega)
    refine stp_ref hI (j := 0) (by decide) (-1) (fun K k => k_no (by rw [t1]; exact nle) (s_refuse (by decide) k)) (fun M1 e Q k => k_no ?_ k)
    rw [e, rI (by omega), t2]; exact nle
/-! names -/
def v27 : List Nat → Nat
  | [] => 0
  | x :: t => x + 27 * v27 t
theorem v27_f : ∀ r : List Nat, v27 r = r.foldr (fun x y => 27 * y + x) 0
  | [] => rfl
  | x :: t => by
    show x + 27 * v27 t = 27 * (t.foldr (fun x y => 27 * y + x) 0) + x
    rw [v27_f t]; omega
theorem b27_r (l : List Nat) : b27 l = v27 l.reverse := by
  unfold b27
  rw [List.foldl_eq_foldr_reverse, v27_f]
theorem v27_lt : ∀ r : List Nat, (∀ x ∈ r, 1 ≤ x ∧ x ≤ 26) → v27 r < 27 ^ r.length
  | [], _ => by decide
  | x :: t, h => by
    have h1 := v27_lt t (fun y hy => h y (List.mem_cons_of_mem _ hy))
    have h2 := h x (List.mem_cons_self ..)
    show x + 27 * v27 t < 27 ^ (t.length + 1)
    rw [Nat.pow_succ]; omega
theorem v27_get : ∀ (r : List Nat) (j : Nat), (∀ x ∈ r, 1 ≤ x ∧ x ≤ 26) → v27 r / 27 ^ j % 27 = r.getD j 0
  | [], j, _ => by
    show 0 / 27 ^ j % 27 = 0
    rw [Nat.zero_div]
  | x :: t, 0, h => by
    have h2 := h x (List.mem_cons_self ..)
    show (x + 27 * v27 t) / 27 ^ 0 % 27 = x
    rw [Nat.pow_zero, Nat.div_one]; omega
  | x :: t, j + 1, h => by
    have h2 := h x (List.mem_cons_self ..)
    show (x + 27 * v27 t) / 27 ^ (j + 1) % 27 = t.getD j 0
    rw [Nat.pow_succ, Nat.mul_comm (27 ^ j) 27, ← Nat.div_div_eq_div_mul, show (x + 27 * v27 t) / 27 = v27 t from by omega]
    exact v27_get t j (fun y hy => h y (List.mem_cons_of_mem _ hy))
theorem pkN_get : ∀ (r : List Nat) (j : Nat), (∀ x ∈ r, 1 ≤ x ∧ x ≤ 26) → pkN r / 32 ^ j % 32 = r.getD j 0
  | [], j, _ => by
    show 0 / 32 ^ j % 32 = 0
    rw [Nat.zero_div]
  | x :: t, 0, h => by
    have h2 := h x (List.mem_cons_self ..)
    show (x + 32 * pkN t) / 32 ^ 0 % 32 = x
    rw [Nat.pow_zero, Nat.div_one]; omega
  | x :: t, j + 1, h => by
    have h2 := h x (List.mem_cons_self ..)
    show (x + 32 * pkN t) / 32 ^ (j + 1) % 32 = t.getD j 0
    rw [Nat.pow_succ, Nat.mul_comm (32 ^ j) 32, ← Nat.div_div_eq_div_mul, show (x + 32 * pkN t) / 32 = pkN t from by omega]
    exact pkN_get t j (fun y hy => h y (List.mem_cons_of_mem _ hy))
theorem pkN_lt : ∀ r : List Nat, (∀ x ∈ r, 1 ≤ x ∧ x ≤ 26) → pkN r < 32 ^ r.length
  | [], _ => by decide
  | x :: t, h => by
    have h1 := pkN_lt t (fun y hy => h y (List.mem_cons_of_mem _ hy))
    have h2 := h x (List.mem_cons_self ..)
    show x + 32 * pkN t < 32 ^ (t.length + 1)
    rw [Nat.pow_succ]; omega
theorem c_letterOf {l : List Nat} (h6 : l.length ≤ 6) (hl : ∀ x ∈ l, 1 ≤ x ∧ x ≤ 26) {k : Nat} (hk : k < 6) {M : pm} {Q : Int32 → pm → Prop} (kk : Q (nI (l.getD k 0)) M) : w_X7_letterOf (nI (pkN l)) (nI k) M Q := by
  have h1 := pkN_lt l hl
  have h2 : 32 ^ l.length ≤ 32 ^ 6 := Nat.pow_le_pow_right (by decide) h6
  have h7 : 32 ^ 6 = 2 ^ 30 := by decide
  have h3 : pkN l < 2 ^ 30 := by omega
  unfold w_X7_letterOf
  rw [show (5 : Int32) * nI k = nI (5 * k) from pk_mul 5 k, b_shr (by omega) (by omega)]
  have h4 : pkN l / 2 ^ (5 * k) ≤ pkN l := Nat.div_le_self _ _
  rw [pk_andN (n := pkN l / 2 ^ (5 * k)) (by omega) (m := 31) 5 (by decide)]
  have h5 := pkN_get l k hl
  rw [show (32 : Nat) = 2 ^ 5 from rfl, ← Nat.pow_mul] at h5
  rw [h5]
  exact kk
theorem m_digits {M : pm} {x3 : Int32} {x4 : Int64} {k90 : Int32 → Int64 → Int32 → pm → Prop} {Q : Int32 → pm → Prop} : ∀ (r : List Nat) (n i : Nat), (∀ x ∈ r, 1 ≤ x ∧ x ≤ 26) → v27 r < 2 ^ 31 → r.length < n → k90 x3 x4 (nI (i + r.length)) M → w_X8_letter_69 n x3 x4 (nI i) (lN (v27 r)) M k90 Q
  | [], n, i, _, _, hn, k => by
    obtain ⟨n, rfl⟩ : ∃ n', n = n' + 1 := ⟨n - 1, by simp only [List.length_nil] at hn; omega⟩
    unfold w_X8_letter_69
    exact k_yes (by decide) k
  | x :: t, n, i, h, h31, hn, k => by
    rw [List.length_cons] at hn k
    obtain ⟨n, rfl⟩ : ∃ n', n = n' + 1 := ⟨n - 1, by omega⟩
    have h2 := h x (List.mem_cons_self ..)
    have e : v27 (x :: t) = x + 27 * v27 t := rfl
    unfold w_X8_letter_69
    refine k_no (fun z => ?_) ?_
    · have := (lN_le (b := 0) h31 (by decide)).mp z
      omega
    · rw [show lN (v27 (x :: t)) / (27 : Int64) = lN (v27 (x :: t) / 27) from pk_lDiv (b := 27) (by omega) (by decide) (by decide), e, show (x + 27 * v27 t) / 27 = v27 t from by omega, nI_1]
      refine m_digits t n (i + 1) (fun y hy => h y (List.mem_cons_of_mem _ hy)) (by omega) (by omega) ?_
      rw [show i + 1 + t.length = i + (t.length + 1) from by omega]; exact k
theorem m_div {M : pm} {kk : Nat} {Q : Int32 → pm → Prop} : ∀ (d n v : Nat), v < 2 ^ 31 → kk + d < 100 → d < n → Q (nI (v / 27 ^ d % 27)) M → w_X8_letter_104 n (nI kk) (lN v) (nI (kk + d)) M Q
  | 0, n, v, hv, hk, hn, k => by
    obtain ⟨n, rfl⟩ : ∃ n', n = n' + 1 := ⟨n - 1, by omega⟩
    unfold w_X8_letter_104
    rw [show lrm (lN v) (27 : Int64) = lN (v % 27) from pk_lRem (b := 27) (by omega) (by decide) (by decide), lN_i]
    rw [Nat.pow_zero, Nat.div_one] at k
    exact k_yes (nI_le (by omega) (by omega)) k
  | d + 1, n, v, hv, hk, hn, k => by
    obtain ⟨n, rfl⟩ : ∃ n', n = n' + 1 := ⟨n - 1, by omega⟩
    have h4 : v / 27 ≤ v := Nat.div_le_self _ _
    unfold w_X8_letter_104
    rw [show lN v / (27 : Int64) = lN (v / 27) from pk_lDiv (b := 27) (by omega) (by decide) (by decide), show nI (kk + (d + 1)) + (-1) = nI (kk + d) from pk_m1 _]
    refine k_no (nI_ge (by omega) (by omega)) (m_div d n (v / 27) (by omega) (by omega) (by omega) ?_)
    rw [Nat.div_div_eq_div_mul, Nat.mul_comm, ← Nat.pow_succ]; exact k
theorem m_name {l : List Nat} (h6 : l.length ≤ 6) (hl : ∀ x ∈ l, 1 ≤ x ∧ x ≤ 26) {k : Nat} (hk : k < 6) {M : pm} {Q : Int32 → pm → Prop} (kk : Q (nI (l.getD k 0)) M) : ∃ n15, w_X8_letter_69 n15 (nI k) (lN (b27 l)) 0 (lN (b27 l)) M (fun x3 x4 x6 M16 => ((x3 < x6 → (∃ n17, w_X8_letter_104 n17 x3 x4 (x6 - 1) M16 Q)) ∧ (¬ x3 < x6 → (Q 0 M16)))) Q := by
  have hr : ∀ x ∈ l.reverse, 1 ≤ x ∧ x ≤ 26 := fun x hx => hl x (List.mem_reverse.mp hx)
  have h1 := v27_lt l.reverse hr
  have h2 : 27 ^ l.reverse.length ≤ 27 ^ 6 := Nat.pow_le_pow_right (by decide) (by rw [List.length_reverse]; exact h6)
  have h7 : 27 ^ 6 < 2 ^ 31 := by decide
  have h3 : v27 l.reverse < 2 ^ 31 := by omega
  rw [b27_r]
  refine ⟨l.reverse.length + 1, m_digits l.reverse _ 0 hr h3 (by omega) ?_⟩
  rw [Nat.zero_add, List.length_reverse]
  by_cases q : k < l.length
  · refine k_yes (nI_lt q (by omega)) ⟨l.length, ?_⟩
    rw [show nI l.length - 1 = nI (k + (l.length - 1 - k)) from by rw [show k + (l.length - 1 - k) = l.length - 1 from by omega]; exact pk_sub (a := l.length) (b := 1) (by omega)]
    refine m_div (l.length - 1 - k) _ _ h3 (by omega) (by omega) ?_
    rw [v27_get _ _ hr]
    have : l.reverse.getD (l.length - 1 - k) 0 = l.getD k 0 := by
      rw [List.getD_eq_getElem?_getD, List.getD_eq_getElem?_getD, List.getElem?_reverse (by omega), show l.length - 1 - (l.length - 1 - k) = k from by omega]
    rw [this]; exact kk
  · refine k_no (nI_nlt (by omega) (by omega)) ?_
    have : l.getD k 0 = 0 := by rw [List.getD_eq_getElem?_getD, List.getElem?_eq_none (by omega)]; rfl
    rw [this] at kk
    exact kk
theorem p_letter (x y z : Int32) (M : pm) (hI : Inv M) : stp Inv (w_X7_letter x y z) (w_X8_letter x y z) M := by
  obtain ⟨t, D, P, S, R⟩ := Rp_of hI
  obtain ⟨-, -, -, -, -, -, -, t', ns, na, ne, hr, i8, -, -, -⟩ := id hI
  obtain ⟨rfl, rfl, rfl, rfl, -⟩ := Rp_n R i8
  obtain ⟨-, -, -, -, -, -, -, -, -, -, -, -, -, -, -, -, -, n1, n2, n3, -⟩ := i8
  obtain ⟨r1, r2, r3, r4, r5, r6, r7, r8, r9, r10, r11, r12⟩ := id R
  obtain ⟨d0, d1, d2, d3, -⟩ := id r3
  have j05 : ∀ {M1 : pm} {Q : Int32 → pm → Prop}, (z < 0 ∨ (¬ z < 0 ∧ nI 6 ≤ z)) → Q 0 M1 → w_X8_isIn (Int32.toInt64 z) (0 : Int64) (5 : Int64) M1 Q := fun h k => by
    rw [j0, j5]
    exact isIn_no (h.elim Or.inl (fun q => Or.inr (le_pred (n := 6) (by decide) q.2))) k
  have clsz : (z < 0 ∨ (¬ z < 0 ∧ nI 6 ≤ z)) → ∀ K : Int32 → pm → Prop, K (-1) M → w_X7_letter x y z M K := fun h K k => ⟨fun _ => k, fun h1 => ⟨fun h2 => by
    rcases h with h | h
    · exact absurd h h1
    · exact absurd h2 (Int32.not_lt.mpr h.2), fun _ => k⟩⟩
  -- a kind that is none
  have noK : (x < 0 ∨ (¬ x < 0 ∧ nI 3 ≤ x)) → stp Inv (w_X7_letter x y z) (w_X8_letter x y z) M := fun h => by
    have x0 : ¬ x = 0 := fun e => by subst e; rcases h with h | h; exact absurd h (by decide); exact absurd h.2 (by decide)
    have x1 : ¬ x = 1 := fun e => by subst e; rcases h with h | h; exact absurd h (by decide); exact absurd h.2 (by decide)
    have x2 : ¬ x = 2 := fun e => by subst e; rcases h with h | h; exact absurd h (by decide); exact absurd h.2 (by decide)
    refine stp_ro hI (-1) (fun K k => ?_) (fun M1 s1 Q k => ?_)
    · have k := k M (same.rf M)
      exact ⟨fun _ => k, fun _ => ⟨fun _ => k_no' x0 (k_no' x1 (k_no' x2 k)), fun _ => k⟩⟩
    · unfold w_X8_letter
      rw [j0, j2]
      exact isIn_no (h.elim Or.inl (fun q => Or.inr (le_pred (n := 3) (by decide) q.2))) (k_yes rfl (k M1 (same.rf M1)))
  rcases ix3 x (n := 3) (by decide) with hx | hx | ⟨i, hi, rfl⟩
  · exact noK (Or.inl hx)
  · exact noK (Or.inr hx)
  have dk : D (1 + i) ≤ 8 := by
    rcases (show i = 0 ∨ i = 1 ∨ i = 2 from by omega) with rfl | rfl | rfl
    · exact Nat.le_trans d1 (by decide)
    · exact d2
    · exact Nat.le_trans d3 (by decide)
  have mk : ∀ {M1 : pm}, same M M1 → mI M1 309 (3 + i) = nI (D (1 + i)) := fun s1 => by
    have q := (Rp_same s1 R).2.2.2.2.1
    rcases (show i = 0 ∨ i = 1 ∨ i = 2 from by omega) with rfl | rfl | rfl
    · exact q.2.1
    · exact q.2.2.1
    · exact q.2.2.2.1
  have ref : ∀ {M1 : pm} {Q : Int32 → pm → Prop}, same M M1 → w_X8_isIn (Int32.toInt64 y) (Int32.toInt64 0) (Int32.toInt64 (nI (D (1 + i)) - 1)) M1 (fun y7 M6 => ((y7 = 0 → (Q (-1) M6)) ∧ (¬ y7 = 0 → (w_X8_isIn (Int32.toInt64 z) (0 : Int64) (5 : Int64) M6 (fun y11 M10 => ((¬ y11 = 0 → (vp_in ((24 + (8 * nI i)) + y) 48 ∧ (∃ n15, w_X8_letter_69 n15 z (mJ M10 310 (((24 + (8 * nI i)) + y).toNatClampNeg)) 0 (mJ M10 310 (((24 + (8 * nI i)) + y).toNatClampNeg)) M10 (fun x3 x4 x6 M16 => ((x3 < x6 → (∃ n17, w_X8_letter_104 n17 x3 x4 (x6 - 1) M16 Q)) ∧ (¬ x3 < x6 → (Q 0 M16)))) Q))) ∧ (y11 = 0 → (Q (-1) M10)))))))) → w_X8_letter (nI i) y z M1 Q := fun s1 h => by
    unfold w_X8_letter
    rw [show (3 : Int32) + nI i = nI (3 + i) from nI_add 3 i, nI_clamp (by omega)]
    rw [j0, j2]
    refine isIn_yes (nI_pos (by omega)) (nI_nlt (a := 2) (by omega) (by omega)) (k_no (by decide) ⟨vp_in_nI (by omega) (by decide), ?_⟩)
    rw [mk s1]
    exact h
  have cno : (y < 0 ∨ (¬ y < 0 ∧ nI (D (1 + i)) ≤ y)) → ∀ K : Int32 → pm → Prop, K (-1) M → w_X7_letter (nI i) y z M K := fun h K k => by
    refine ⟨fun _ => k, fun _ => ⟨fun _ => ?_, fun _ => k⟩⟩
    rcases (show i = 0 ∨ i = 1 ∨ i = 2 from by omega) with rfl | rfl | rfl
    · exact k_yes' rfl (c_isSong_no R h (k_yes rfl (k_no' (by decide) (k_no' (by decide) k))))
    · exact k_no' (by decide) (k_yes' rfl (c_isAsker_no R h (k_yes rfl (k_no' (by decide) k))))
    · refine k_no' (by decide) (k_no' (by decide) (k_yes' rfl ⟨fun _ => k_yes rfl k, fun h1 => ⟨fun _ => k_yes rfl k, fun h2 => ?_⟩⟩))
      rw [r2, r4.2.2.2.1] at h2
      rcases h with h | h
      · exact absurd h h1
      · exact absurd h.2 h2
  have noW : (y < 0 ∨ (¬ y < 0 ∧ nI (D (1 + i)) ≤ y)) → stp Inv (w_X7_letter (nI i) y z) (w_X8_letter (nI i) y z) M := fun h => stp_ro hI (-1) (fun K k => cno h K (k M (same.rf M))) (fun M1 s1 Q k => ref s1 (isIn_no (h.elim Or.inl (fun q => Or.inr (le_pred (by omega) q.2))) (k_yes rfl (k M1 (same.rf M1)))))
  rcases ix3 y (n := D (1 + i)) (by omega) with hy | hy | ⟨w, hw, rfl⟩
  · exact noW (Or.inl hy)
  · exact noW (Or.inr hy)
  have ep : nI (D (1 + i)) - 1 = nI (D (1 + i) - 1) := pk_sub (a := D (1 + i)) (b := 1) (by omega)
  have noZ : (z < 0 ∨ (¬ z < 0 ∧ nI 6 ≤ z)) → stp Inv (w_X7_letter (nI i) (nI w) z) (w_X8_letter (nI i) (nI w) z) M := fun h => stp_ro hI (-1) (fun K k => clsz h K (k M (same.rf M))) (fun M1 s1 Q k => ref s1 (by
    rw [ep]
    exact isIn_yes (nI_pos (by omega)) (nI_nlt (by omega) (by omega)) (k_no (by decide) (j05 h (k_yes' rfl (k M1 (same.rf M1)))))))
  rcases ix3 z (n := 6) (by decide) with hz | hz | ⟨k, hk, rfl⟩
  · exact noZ (Or.inl hz)
  · exact noZ (Or.inr hz)
  have nm : ∃ a : Nat, (a = 1 ∧ i = 0 ∨ a = 4 ∧ i = 1 ∨ a = 8 ∧ i = 2) ∧ nmR (mI M (t' + a) w) (mJ M 310 (24 + 8 * i + w)) := by
    rcases (show i = 0 ∨ i = 1 ∨ i = 2 from by omega) with rfl | rfl | rfl
    · obtain ⟨_, _, _, _, _, _, _, _, _, q⟩ := n1 w hw
      exact ⟨1, by omega, q⟩
    · exact ⟨4, by omega, n2 w hw⟩
    · obtain ⟨_, _, _, _, q⟩ := n3 w hw
      exact ⟨8, by omega, q⟩
  obtain ⟨a, ha, l, l1, l6, ll, lp, lv⟩ := nm
  refine stp_ro hI (nI (l.getD k 0)) (fun K kk => ?_) (fun M1 s1 Q kk => ref s1 ?_)
  · have kk := kk M (same.rf M)
    refine k_no (nI_pos (by omega)) (k_yes (nI_lt (b := 6) hk (by decide)) ?_)
    rcases ha with ⟨rfl, rfl⟩ | ⟨rfl, rfl⟩ | ⟨rfl, rfl⟩
    · refine k_yes' rfl (c_isSong_yes R hw (k_no (by decide) ⟨vp_in_nI (Nat.lt_of_lt_of_le hw d1) (by decide), ?_⟩))
      rw [nI_clamp (by omega), r2, lp]
      exact c_letterOf l6 ll hk kk
    · refine k_no' (by decide) (k_yes' rfl (c_isAsker_yes R hw (k_no (by decide) ⟨vp_in_nI (by omega) (by decide), ?_⟩)))
      rw [nI_clamp (by omega), r2, lp]
      exact c_letterOf l6 ll hk kk
    · refine k_no' (by decide) (k_no' (by decide) (k_yes' rfl (k_no (nI_pos (by omega)) ?_)))
      rw [r2, r4.2.2.2.1]
      refine k_no (nI_ge hw (by omega)) (k_no (by decide) ⟨vp_in_nI (Nat.lt_of_lt_of_le hw d3) (by decide), ?_⟩)
      rw [nI_clamp (by omega), r2, lp]
      exact c_letterOf l6 ll hk kk
  · have kk := kk M1 (same.rf M1)
    rw [ep]
    refine isIn_yes (nI_pos (by omega)) (nI_nlt (by omega) (by omega)) (k_no (by decide) ?_)
    rw [j0, j5]
    refine isIn_yes (nI_pos (by omega)) (nI_nlt (a := 5) (by omega) (by omega)) (k_no' (by decide) ?_)
    rw [show (8 : Int32) * nI i = nI (8 * i) from pk_mul 8 i, show (24 : Int32) + nI (8 * i) = nI (24 + 8 * i) from nI_add 24 _, nI_add, nI_clamp (by omega), s1.2.2.2.2.1, lv]
    exact ⟨vp_in_nI (by omega) (by decide), m_name l6 ll hk kk⟩
