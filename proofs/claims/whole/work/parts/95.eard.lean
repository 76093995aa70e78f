/-! heard: the class's choice -/
theorem tbl_at {M : pm} {D S : Nat → Nat} {s e k u : Nat} (h : tbl M D S s 0) (ek : D 3 = e + k) (he : e ≤ 5) (hu : u < 256) : mI M (51 + e) u = nI (wD (pbE D S) s (D 2) k e u) := by
  have := h e (Nat.zero_le _) he u hu
  rw [show D 3 - e = k from by omega] at this
  exact this
theorem c_hb31 {M : pm} {t e u s k : Nat} {D S : Nat → Nat} {P : Nat → List Nat} (hd : dC M t D P) (hD : okD D P) (hs : sC M 57 D S) (hS : okS D S) (hs8 : s < 256) (hu : u < 256) (ek : D 3 = e + (k + 1)) (htb : tbl M D S s 0) {x4 : Int32} {k128 : Nat → Nat → Int32 → Int32 → Int32 → Int32 → Int32 → pm → Prop} {Q : Int32 → pm → Prop} (kk : k128 t 57 (nI s) x4 (nI u) (lI (gC (pbE D S) s (D 2) k e u)) (nI e) M) : ∃ m, w_X1_heardBy_31 m t 57 (nI s) x4 (nI u) (-1) (nI e) 0 M k128 Q := by
  have h8 := hD.2.2.1
  have h5 := hD.2.2.2.1
  have wl := fun k e u => wD_le (s := s) (na := D 2) (pbE_le D S) k e u
  have t1 : ∀ u, u < 256 → mI M (51 + (e + 1)) u = nI (wD (pbE D S) s (D 2) k (e + 1) u) := fun u h => tbl_at htb (by omega) (by omega) h
  have t0 : mI M (51 + e) u = nI (wD (pbE D S) s (D 2) (k + 1) e u) := tbl_at htb ek (by omega) hu
  by_cases q : wD (pbE D S) s (D 2) k (e + 1) u = wD (pbE D S) s (D 2) (k + 1) e u
  · have g0 : gC (pbE D S) s (D 2) k e u = 0 := by unfold gC; rw [if_pos q]
    rw [g0] at kk
    refine ⟨1, ?_⟩
    unfold w_X1_heardBy_31
    rw [nI_1]
    refine ⟨fun _ => kk, fun _ => c_pleased (by omega) hu (t1 u hu) (c_pleased (by omega) hu t0 (k_yes (by rw [q]) kk))⟩
  · have g0 : gC (pbE D S) s (D 2) k e u = fA (pbE D S) s (wD (pbE D S) s (D 2) k (e + 1)) (wD (pbE D S) s (D 2) (k + 1) e u) e u (D 2) := by unfold gC; rw [if_neg q]
    rw [g0] at kk
    have key : ∀ l m a, a + l = D 2 → l < m → w_X1_heardBy_31 m t 57 (nI s) x4 (nI u) (lI (fA (pbE D S) s (wD (pbE D S) s (D 2) k (e + 1)) (wD (pbE D S) s (D 2) (k + 1) e u) e u a)) (nI e) (nI a) M k128 Q := by
      intro l
      induction l with
      | zero =>
        intro m a ha hm
        obtain ⟨m, rfl⟩ : ∃ m', m = m' + 1 := ⟨m - 1, by omega⟩
        have e2 : a = D 2 := by omega
        unfold w_X1_heardBy_31
        rw [hd.2.2.1, e2]
        exact k_yes (nI_le (Nat.le_refl _) (by omega)) kk
      | succ l ih =>
        intro m a ha hm
        obtain ⟨m, rfl⟩ : ∃ m', m = m' + 1 := ⟨m - 1, by omega⟩
        have g := ih m (a + 1) (by omega) (by omega)
        have fo := fA_ok (pb := pbE D S) (s := s) (W := wD (pbE D S) s (D 2) k (e + 1)) (w := wD (pbE D S) s (D 2) (k + 1) e u) (e := e) (u := u) a
        have fl : fA (pbE D S) s (wD (pbE D S) s (D 2) k (e + 1)) (wD (pbE D S) s (D 2) (k + 1) e u) e u a ≤ 1000 := by
          by_cases z : fA (pbE D S) s (wD (pbE D S) s (D 2) k (e + 1)) (wD (pbE D S) s (D 2) (k + 1) e u) e u a = 0
          · omega
          · have := (fo.2 z).1; omega
        have w1 := wl k (e + 1) u
        have w0 := wl (k + 1) e u
        unfold w_X1_heardBy_31
        rw [hd.2.2.1, andn hs8 hu, or_nI hu (by omega), nI_1, nI_1, lI_eq fl]
        refine k_no (nI_ge (by omega) (by omega)) (c_pleased (by omega) hu (t1 u hu) (c_pleased (by omega) hu t0 (k_no (fun z => q ((nI_eq (by omega) (by omega)).mp z)) ⟨fun z => ?_, fun z => ?_⟩)))
        · have e3 := fA_st z (l + 1)
          rw [ha] at e3
          rw [e3] at kk
          exact kk
        · have gz : fA (pbE D S) s (wD (pbE D S) s (D 2) k (e + 1)) (wD (pbE D S) s (D 2) (k + 1) e u) e u (a + 1) = if oka s u a = true ∧ pbE D S e a + wD (pbE D S) s (D 2) k (e + 1) (u ||| 2 ^ a) = wD (pbE D S) s (D 2) (k + 1) e u then a + 1 else 0 := by
            show (if _ then _ else _) = _
            rw [if_pos z]
          rw [gz] at g
          refine b_if (andn_lt hs8) (by omega) (fun y => ?_) (fun y => ?_)
          · rw [andn_tb (by omega)] at y
            have w2 := wl k (e + 1) (u ||| 2 ^ a)
            have p9 := pbE_le D S e a
            refine c_pleasedBy hd hD hs hS (by omega) (by omega) (c_pleased (by omega) (or_256 hu (by omega)) (t1 _ (or_256 hu (by omega))) (c_pleased (by omega) hu t0 ?_))
            rw [nI_add]
            refine pk_ne _ _ (fun x => ?_) (fun x => ?_)
            · rw [if_neg (fun v => x v.2)] at g
              rw [z]; exact g
            · rw [if_pos ⟨y, x⟩, lI_s] at g
              exact g
          · rw [andn_tb (by omega)] at y
            rw [if_neg (fun v => by rw [y] at v; exact absurd v.1 (by decide))] at g
            rw [z]; exact g
    exact ⟨D 2 + 1, key (D 2) (D 2 + 1) 0 (by omega) (by omega)⟩
theorem uN_lt {u c : Nat} (hu : u < 256) (hc : c ≤ 8) : uN u c < 256 := by
  unfold uN
  split
  · exact hu
  · exact or_256 hu (by omega)
theorem c_hb9 {M : pm} {t s : Nat} {D S : Nat → Nat} {P : Nat → List Nat} (hd : dC M t D P) (hD : okD D P) (hs : sC M 57 D S) (hS : okS D S) (hs8 : s < 256) (htb : tbl M D S s 0) {Q : Int32 → pm → Prop} : ∀ (k e u j m : Nat) (x6 : Int32), D 3 = e + k → u < 256 → j < k → j + 1 < m → Q (lI (dgt (D 2) k (fRw (pbE D S) s (D 2) k e u) j)) M → w_X1_heardBy_9 m t 57 (nI s) (nI (e + j)) (nI u) x6 (nI e) M Q := by
  have h8 := hD.2.2.1
  have h5 := hD.2.2.2.1
  intro k
  induction k with
  | zero => intro e u j m x6 ek hu hj; omega
  | succ k ih =>
    intro e u j m x6 ek hu hj hm kk
    obtain ⟨m, rfl⟩ : ∃ m', m = m' + 1 := ⟨m - 1, by omega⟩
    have fd := fRw_d (pb := pbE D S) (s := s) (na := D 2) (k := k) (e := e) (u := u)
    have gc := (gC_ok (pb := pbE D S) (s := s) (na := D 2) (k := k) (e := e) (u := u)).1
    unfold w_X1_heardBy_9
    rw [hd.2.2.2.1]
    refine k_no (nI_nlt (by omega) (by omega)) (k_no (nI_ge (by omega) (by omega)) (c_hb31 hd hD hs hS hs8 hu ek htb ?_))
    have nx : w_X1_heardBy_9 m t 57 (nI s) (nI (e + j)) (nI (uN u (gC (pbE D S) s (D 2) k e u))) (lI (gC (pbE D S) s (D 2) k e u)) (nI (e + 1)) M Q := by
      match j, hj, hm, kk with
      | 0, hj, hm, kk =>
        obtain ⟨m, rfl⟩ : ∃ m', m = m' + 1 := ⟨m - 1, by omega⟩
        have kk : Q (lI (fRw (pbE D S) s (D 2) (k + 1) e u / (D 2 + 1) ^ k)) M := kk
        rw [fd.1] at kk
        unfold w_X1_heardBy_9
        exact k_yes (nI_lt (by omega) (by omega)) kk
      | j + 1, hj, hm, kk =>
        have kk : Q (lI (dgt (D 2) k (fRw (pbE D S) s (D 2) (k + 1) e u % (D 2 + 1) ^ k) j)) M := kk
        rw [fd.2] at kk
        rw [show e + (j + 1) = e + 1 + j from by omega]
        exact ih (e + 1) _ j m _ (by omega) (uN_lt hu (by omega)) (by omega) (by omega) kk
    unfold w_X1_heardBy_128
    rw [lI_eq (by omega), nI_1]
    refine ⟨fun z => ?_, fun z => ?_⟩
    · rw [z] at nx ⊢
      exact nx
    · obtain ⟨c, hc⟩ : ∃ c, gC (pbE D S) s (D 2) k e u = c + 1 := ⟨gC (pbE D S) s (D 2) k e u - 1, by omega⟩
      rw [hc] at nx gc ⊢
      unfold uN at nx
      rw [if_neg (by omega), lI_s, show c + 1 - 1 = c from rfl] at nx
      rw [lI_s, or_nI hu (by omega)]
      exact nx
/-- what heard answers -/
noncomputable def hrE (D S : Nat → Nat) (P : Nat → List Nat) (j : Nat) : Int32 := lI (dgt (D 2) (D 3) (fRw (pbE D S) (bst D S P) (D 2) (D 3) 0 0) j)
theorem bst_256 {D S : Nat → Nat} {P : Nat → List Nat} (hD : okD D P) (h : isBest D S P (bst D S P)) : bst D S P < 256 := Nat.lt_of_lt_of_le h.1.1 (show 2 ^ D 2 ≤ 2 ^ 8 from Nat.pow_le_pow_right (by decide) hD.2.2.1)
theorem c_heard15 {M : pm} {t : Nat} {D S : Nat → Nat} {P : Nat → List Nat} (ht : t = 14 ∨ t = 29) (h33 : mR M 3 3 = t) (hd : dC M t D P) (hD : okD D P) (hs : sC M 57 D S) (hS : okS D S) {x : Int32} {Q : Int32 → pm → Prop} (k1 : x = -1 → ∀ M', fI xC M M' → Q (nI (wD (pbE D S) (bst D S P) (D 2) (D 3) 0 0)) M') (k2 : ∀ j, j < D 3 → x = nI j → ∀ M', fI xC M M' → Q (hrE D S P j) M') (hx : x = -1 ∨ ∃ j, j < D 3 ∧ x = nI j) : w_X7_heard_15 x M Q := by
  have h5 := hD.2.2.2.1
  unfold w_X7_heard_15
  rw [h33]
  refine s_bestBits (by omega) (Nat.le_refl _) hd hD hs hS (fun M1 f1 hb => ?_)
  have b8 := bst_256 hD hb
  have d1 : ∀ {M'}, fI xC M M' → dC M' t D P ∧ sC M' 57 D S := fun f => ⟨dC_c (fun b b1 b2 => f.2.2.2 b (by unfold xC; omega)) hd, sC_c (fun b b1 b2 => f.2.2.2 b (by unfold xC; omega)) hs⟩
  rw [f1.2.1, h33]
  refine c_pleaseEars ht (d1 f1).1 hD (d1 f1).2 hS b8 (fun M2 f2 h2 => ?_)
  have f12 := f1.tr f2
  rcases hx with hx | ⟨j, hj, hx⟩
  · refine k_yes' hx (c_pleased (e := 0) (u := 0) (by decide) (by decide) (tbl_at (e := 0) h2 (by omega) (by decide) (by decide)) (k1 hx M2 f12))
  · refine k_no' (by rw [hx]; exact n_m1 (by omega)) ?_
    rw [f12.2.1, h33, hx]
    have := c_hb9 (d1 f12).1 hD (d1 f12).2 hS b8 h2 (Q := Q) (D 3) 0 0 j (j + 2) (-1) (by omega) (by decide) hj (by omega) (k2 j hj hx M2 f12)
    rw [Nat.zero_add] at this
    exact ⟨j + 2, this⟩
