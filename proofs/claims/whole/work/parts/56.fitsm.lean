/-! fits, tells: the reference, and both -/
theorem thk_i {M0 M : pm} (h : thk M0 M) {a j : Nat} {v : Int32} (ha : a = 323 ∨ a = 324) : thk M0 (sI M a j v) := by
  obtain ⟨h1, h2, h3, h4, h5, h6, h7, h8⟩ := h
  refine ⟨h1, h2, fun c c1 c2 c3 c4 c5 => by rw [mI_off (by omega)]; exact h3 c c1 c2 c3 c4 c5, fun k k1 k2 k3 k4 k5 k6 k7 k8 => by rw [rI (by omega)]; exact h4 k k1 k2 k3 k4 k5 k6 k7 k8, h5, fun j hj => by rw [rI (by omega)]; exact h6 j hj, fun j hj => by rw [rI (by omega)]; exact h7 j hj, by rw [rI (by omega)]; exact h8⟩
theorem thk_67 {M0 M : pm} (h : thk M0 M) {v : Int32} : thk M0 (sI M 277 67 v) := by
  obtain ⟨h1, h2, h3, h4, h5, h6, h7, h8⟩ := h
  refine ⟨h1, h2, fun c c1 c2 c3 c4 c5 => by rw [mI_off c1]; exact h3 c c1 c2 c3 c4 c5, fun k k1 k2 k3 k4 k5 k6 k7 k8 => by rw [rI (by omega)]; exact h4 k k1 k2 k3 k4 k5 k6 k7 k8, h5, fun j hj => by rw [rI (by omega)]; exact h6 j hj, fun j hj => by rw [rI (by omega)]; exact h7 j hj, by rw [rI (by omega)]; exact h8⟩
theorem thk_sn {M0 M : pm} (h : thk M0 M) {r : Nat} {f : Nat → Nat} (hs : snM M0 r f) : snM M r f := snM_c (h.2.2.2.1 63 (by decide) (by decide) (by decide) (by decide) (by decide) (by decide) (by decide) (by decide)) (h.2.2.1 322 (by decide) (by decide) (by decide) (by decide) (by decide)) hs
theorem nb0 : vp_nar .boolean 0 = 0 := by decide
theorem nb1 : vp_nar .boolean 1 = 1 := by decide
def prF (D S : Nat → Nat) (P : Nat → List Nat) (r : Nat) (f : Nat → Nat) (a v d : Nat) : Prop := ∀ q, q < r → f (3 * q) < d → S 0 + f (3 * q) ≤ 999 ∧ bvd D S P a v (f (3 * q)) / 2 ^ f (3 * q + 1) % 2 = f (3 * q + 2)
theorem m_ff33 {M0 : pm} {D S : Nat → Nat} {P : Nat → List Nat} {r a v : Nat} {f : Nat → Nat} (hd : dM M0 D P) (hD : okD D P) (hS : okS D S) (h9 : S 0 ≤ 999) (hsn : sn D r f) (hsm : snM M0 r f) (ha : a < D 2) (hv : v ≤ 99) (N : pm) {k106 : Int32 → Int32 → Int32 → pm → Prop} {Q : pm → Prop} (k : ∀ M', thk M0 M' → mI M' 277 67 = mI N 277 67 → mI M' 324 = mI N 324 → (∀ j, j < 31 * v → mI M' 323 j = mI N 323 j) → (∀ i, i < 31 → mI M' 323 (31 * v + i) = nI (bvd D S P a v i / 2 ^ a % 2)) → k106 (nI a) (nI v) (nI (pN (fitP D S P r f a v))) M') : ∀ (l n d : Nat) (M1 : pm), d + l = 31 → l < n → thk M0 M1 → sM M1 D (itA D (up1 S (4 + 5 * a) v) P d) → mI M1 277 67 = mI N 277 67 → mI M1 324 = mI N 324 → (∀ j, j < 31 * v → mI M1 323 j = mI N 323 j) → (∀ i, i < d → mI M1 323 (31 * v + i) = nI (bvd D S P a v i / 2 ^ a % 2)) → w_X8_laysFits_33 n (nI a) (nI v) (nI (pN (prF D S P r f a v d))) (nI d) M1 k106 Q := by
  have h8 := hD.2.2.1
  intro l
  induction l with
  | zero =>
    intro n d M1 hl hn t1 s1 g1 g2 g3 g4
    obtain ⟨n, rfl⟩ : ∃ n', n = n' + 1 := ⟨n - 1, by omega⟩
    have e : d = 31 := by omega
    subst e
    unfold w_X8_laysFits_33
    have ee : pN (prF D S P r f a v 31) = pN (fitP D S P r f a v) := by
      by_cases h : fitP D S P r f a v
      · rw [pN_1 h, pN_1 (show prF D S P r f a v 31 from fun q hq _ => h q hq)]
      · rw [pN_0 h, pN_0 (fun z : prF D S P r f a v 31 => h (fun q hq => z q hq (by have := (hsn.2 q hq).1; omega)))]
    rw [ee]
    exact k_yes (by decide) (k M1 t1 g1 g2 g3 g4)
  | succ l ih =>
    intro n d M1 hl hn t1 s1 g1 g2 g3 g4
    obtain ⟨n, rfl⟩ : ∃ n', n = n' + 1 := ⟨n - 1, by omega⟩
    have e0 : itA D (up1 S (4 + 5 * a) v) P d 0 = S 0 + d := by rw [itA_0, up1_0 (by omega)]
    have ok := itA_ok (P := P) (okS_up4 (a := a) hS hv) d (by rw [up1_0 (by omega)]; omega)
    have pl := pN_le (prF D S P r f a v d)
    unfold w_X8_laysFits_33
    refine k_no (nI_nlt (a := 30) (by omega) (by decide)) (m_laysBest (thk_d t1 hd) hD s1 ok (fun M2 f2 hb e56 _ _ => ?_))
    have hb2 := best256 hD hb
    have t2 := thk_M t1 f2
    have s2 := fM_s f2 s1
    have bl : bvd D S P a v d / 2 ^ a % 2 < 2 := Nat.mod_lt _ (by decide)
    -- one day, its row written
    have fin : ∀ t0, t0 = nI (pN (prF D S P r f a v (d + 1))) → w_X8_laysFits_62 (nI a) (nI v) (nI d) t0 M2 (fun x1 x2 x3 x4 M => w_X8_laysFits_33 n x1 x2 x3 x4 M k106 Q) k106 Q := by
      intro t0 et
      subst et
      unfold w_X8_laysFits_62
      rw [e56, show (31 : Int32) * nI v = nI (31 * v) from pk_mul 31 v, nI_add, nI_clamp (by omega), nb0, nb1, nI_1]
      have go : ∀ w, w = bvd D S P a v d / 2 ^ a % 2 → vp_in (nI (31 * v + d)) 3100 ∧ (w_X8_dayBy (nI (bst D (itA D (up1 S (4 + 5 * a) v) P d) P)) (sI M2 323 (31 * v + d) (nI w)) (fun M12 => w_X8_laysFits_33 n (nI a) (nI v) (nI (pN (prF D S P r f a v (d + 1)))) (nI (d + 1)) M12 k106 Q)) := by
        intro w ew
        subst ew
        have t3 : thk M0 (sI M2 323 (31 * v + d) (nI (bvd D S P a v d / 2 ^ a % 2))) := thk_i t2 (Or.inl rfl)
        refine ⟨vp_in_nI (by omega) (by decide), m_dayT (thk_d t3 hd) hD (sM_c (mI_off (by decide)) s2) ok hb2.1 hb2.2 t3.2.2.2.2.2.2.2 (fun M4 f4 s4 => ?_)⟩
        refine ih n (d + 1) M4 (by omega) (by omega) (thk_D t3 f4) s4 ?_ ?_ (fun j hj => ?_) (fun i hi => ?_)
        · rw [f4.2.2.2.1 67 (by decide) (by decide) (by decide), rI (by omega), f2.2.2.2.1 67 (by decide) (by decide) (by decide) (by decide) (by decide), g1]
        · rw [f4.2.2.1 324 (by decide) (by decide), mI_off (by decide), f2.2.2.1 324 (by decide), g2]
        · rw [f4.2.2.1 323 (by decide) (by decide), rI (by omega), f2.2.2.1 323 (by decide)]; exact g3 j hj
        · rw [f4.2.2.1 323 (by decide) (by decide)]
          by_cases e : i = d
          · subst e; exact rIs _ _ _ _
          · rw [rI (by omega), f2.2.2.1 323 (by decide)]; exact g4 i (by omega)
      rw [b_bit (by omega) (by omega)]
      refine pk_ne (bst D (itA D (up1 S (4 + 5 * a) v) P d) P / 2 ^ a % 2) 1 (fun z => go 0 ?_) (fun z => go 1 ?_) rfl rfl (by have : bst D (itA D (up1 S (4 + 5 * a) v) P d) P / 2 ^ a % 2 < 2 := Nat.mod_lt _ (by decide); omega)
      · have : bvd D S P a v d / 2 ^ a % 2 ≠ 1 := z
        omega
      · have : bvd D S P a v d / 2 ^ a % 2 = 1 := z
        omega
    by_cases hp : prF D S P r f a v d
    · rw [pN_1 hp]
      refine k_no (by decide) (m_rag (day := S 0 + d) h8 hsn (thk_sn t2 hsm) (by omega) hb2.1 e56 (by rw [s2 0 (by omega), e0]) (by omega) ?_)
      by_cases hq : ∀ q, q < r → f (3 * q) = d → S 0 + d ≤ 999 ∧ bst D (itA D (up1 S (4 + 5 * a) v) P d) P / 2 ^ f (3 * q + 1) % 2 = f (3 * q + 2)
      · rw [pN_1 hq]
        refine k_no (by decide) (fin 1 ?_)
        rw [pN_1 (show prF D S P r f a v (d + 1) from fun q hq1 hq2 => ?_)]
        · rfl
        · by_cases e : f (3 * q) = d
          · have := hq q hq1 e
            rw [e]; exact this
          · exact hp q hq1 (by omega)
      · rw [pN_0 hq]
        refine k_yes rfl (fin 0 ?_)
        rw [pN_0 (fun z : prF D S P r f a v (d + 1) => hq (fun q hq1 e => by
          have := z q hq1 (by omega)
          rw [e] at this; exact this))]
        rfl
    · rw [pN_0 hp]
      refine k_yes rfl (fin 0 ?_)
      rw [pN_0 (fun z : prF D S P r f a v (d + 1) => hp (fun q hq1 hq2 => z q hq1 (by omega)))]
      rfl
def ftM (D S : Nat → Nat) (P : Nat → List Nat) (r : Nat) (f : Nat → Nat) (a : Nat) (M : pm) (n : Nat) : Prop := mI M 277 67 = nI (cF D S P r f a n) ∧ (∀ v, v < n → mI M 324 v = nI (pN (fitP D S P r f a v))) ∧ ∀ v d, v < n → d < 31 → mI M 323 (31 * v + d) = nI (bvd D S P a v d / 2 ^ a % 2)
theorem m_laysFits {M : pm} {t : Nat} {D S : Nat → Nat} {P : Nat → List Nat} {r a : Nat} {f : Nat → Nat} (R : Rp M t D P S) (hsn : sn D r f) (hsm : snM M r f) (ha : a < D 2) {Q : pm → Prop} (k : ∀ M', same M M' → ftM D S P r f a M' 100 → Q M') : w_X8_laysFits (nI a) M Q := by
  obtain ⟨r1, r2, hD, r4, hd, hS, h9, r8, r9, r10, r11, r12⟩ := R
  have h8 := hD.2.2.1
  refine m_putsAside h8 r9 (fun M1 t1 s1 => ⟨101, ?_⟩)
  have key : ∀ l n v M2, v + l = 100 → l < n → thk M M2 → sM M2 D S → ftM D S P r f a M2 v → w_X8_laysFits_11 n (nI a) (nI v) M2 Q := by
    intro l
    induction l with
    | zero =>
      intro n v M2 hv hn t2 s2 g
      obtain ⟨n, rfl⟩ : ∃ n', n = n' + 1 := ⟨n - 1, by omega⟩
      have e : v = 100 := by omega
      subst e
      unfold w_X8_laysFits_11
      refine k_yes (by decide) (m_takesBack r12 t2 (fun M3 s3 e1 e2 => k M3 s3 ⟨?_, fun w hw => ?_, fun w d hw hd => ?_⟩))
      · rw [e1 67 (by decide)]; exact g.1
      · rw [e2 324 (by decide) (by decide)]; exact g.2.1 w hw
      · rw [e2 323 (by decide) (by decide)]; exact g.2.2 w d hw hd
    | succ l ih =>
      intro n v M2 hv hn t2 s2 g
      obtain ⟨n, rfl⟩ : ∃ n', n = n' + 1 := ⟨n - 1, by omega⟩
      have cl := cF_le D S P r f a v
      unfold w_X8_laysFits_11
      rw [show (4 : Int32) + 5 * nI a = nI (4 + 5 * a) from m_ix (j := 4) (by omega) (by decide), nI_clamp (by omega)]
      have t3 : thk M (sI M2 317 (4 + 5 * a) (nI v)) := thk_D t2 ((fD.rf M2).i (by omega) _)
      have f33 := m_ff33 (M0 := M) (v := v) (N := M2) (k106 := (fun x1 x2 x3 M24 => w_X8_triesAnew M24 (fun M25 => vp_in x2 100 ∧ ((x3 = 0 → (w_X8_laysFits_11 n x1 (x2 + 1) (sI M25 324 x2.toNatClampNeg (vp_nar .boolean x3)) Q)) ∧ (¬ x3 = 0 → (w_X8_laysFits_11 n x1 (x2 + 1) (sI (sI M25 324 x2.toNatClampNeg (vp_nar .boolean x3)) 277 67 ((mI M25 277 67) + 1)) Q)))))) (Q := Q) hd hD hS h9 hsn hsm ha (by omega) (fun M4 t4 e67 e324 e323 eB => ?_) 31 32 0 (sI M2 317 (4 + 5 * a) (nI v)) (by omega) (by omega) t3 (sM_up s2 rfl) (rI (by omega)) (mI_off (by decide)) (fun j _ => by rw [mI_off (by decide)]) (fun i hi => by omega)
      · rw [pN_1 (show prF D S P r f a v 0 from fun q _ hq => absurd hq (Nat.not_lt_zero _))] at f33
        exact k_no (nI_ge (b := 100) (by omega) (by decide)) ⟨vp_in_nI (by omega) (by decide), 32, f33⟩
      · have pl := pN_le (fitP D S P r f a v)
        refine m_triesAnew t4 (fun M5 t5 e5 ea5 _ => ⟨vp_in_nI (by omega) (by decide), ?_⟩)
        have s5 : sM M5 D S := sM_c e5 r9
        rw [nI_clamp (by omega), nI_1, ea5 277 (by decide), e67, g.1, nI_1]
        have e324' : ∀ w, mI M5 324 w = mI M2 324 w := fun w => by rw [ea5 324 (by decide), e324]
        have e323' : ∀ w d, w < v + 1 → d < 31 → mI M5 323 (31 * w + d) = nI (bvd D S P a w d / 2 ^ a % 2) := fun w d hw hd => by
          rw [ea5 323 (by decide)]
          by_cases e : w = v
          · subst e; exact eB d hd
          · rw [e323 _ (by omega)]; exact g.2.2 w d (by omega) hd
        by_cases hf : fitP D S P r f a v
        · rw [pN_1 hf, show vp_nar .boolean (nI 1) = nI 1 from nb1]
          refine k_no (by decide) (ih n (v + 1) _ (by omega) (by omega) (thk_67 (thk_i t5 (Or.inr rfl))) (sM_c (by rw [mI_off (by decide), mI_off (by decide)]) s5) ⟨?_, fun w hw => ?_, fun w d hw hd => ?_⟩)
          · rw [rIs]
            show _ = nI (cF D S P r f a v + pN (fitP D S P r f a v))
            rw [pN_1 hf]
          · rw [rI (by omega)]
            by_cases e : w = v
            · subst e; rw [rIs, pN_1 hf]
            · rw [rI (by omega), e324']; exact g.2.1 w (by omega)
          · rw [rI (by omega), rI (by omega)]; exact e323' w d hw hd
        · rw [pN_0 hf, show vp_nar .boolean (nI 0) = nI 0 from nb0]
          refine k_yes rfl (ih n (v + 1) _ (by omega) (by omega) (thk_i t5 (Or.inr rfl)) (sM_c (mI_off (by decide)) s5) ⟨?_, fun w hw => ?_, fun w d hw hd => ?_⟩)
          · rw [rI (by omega), ea5 277 (by decide), e67, g.1]
            show _ = nI (cF D S P r f a v + pN (fitP D S P r f a v))
            rw [pN_0 hf, Nat.add_zero]
          · by_cases e : w = v
            · subst e; rw [rIs, pN_0 hf]
            · rw [rI (by omega), e324']; exact g.2.1 w (by omega)
          · rw [rI (by omega)]; exact e323' w d hw hd
  exact key 100 101 0 _ (by omega) (by omega) (thk_67 t1) (sM_c (mI_off (by decide)) s1) ⟨rIs _ _ _ _, fun v hv => by omega, fun v d hv => by omega⟩
