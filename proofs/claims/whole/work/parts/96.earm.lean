/-! heard: the reference -/
def rwI (M : pm) (r na : Nat) : Nat → Nat → Nat → Prop
  | 0, _, _ => True
  | k + 1, e, m => mI M r e = nI (m / (na + 1) ^ k) ∧ rwI M r na k (e + 1) (m % (na + 1) ^ k)
theorem rwI_c {M M' : pm} {r na : Nat} : ∀ {k e m : Nat}, (∀ i, e ≤ i → mI M' r i = mI M r i) → rwI M r na k e m → rwI M' r na k e m
  | 0, _, _, _, _ => trivial
  | k + 1, e, m, h, q => ⟨by rw [h e (Nat.le_refl _)]; exact q.1, rwI_c (fun i hi => h i (by omega)) q.2⟩
theorem rwI_r {M M' : pm} {r r' na : Nat} : ∀ {k e m : Nat}, (∀ i, i < e + k → mI M' r' i = mI M r i) → rwI M r na k e m → rwI M' r' na k e m
  | 0, _, _, _, _ => trivial
  | k + 1, e, m, h, q => ⟨by rw [h e (by omega)]; exact q.1, rwI_r (fun i hi => h i (by omega)) q.2⟩
theorem rwI_d {M : pm} {r na : Nat} : ∀ {k e m j : Nat}, rwI M r na k e m → j < k → mI M r (e + j) = nI (dgt na k m j)
  | 0, _, _, _, _, hj => absurd hj (Nat.not_lt_zero _)
  | k + 1, e, m, 0, h, _ => h.1
  | k + 1, e, m, j + 1, h, hj => by
    rw [show e + (j + 1) = e + 1 + j from by omega]
    exact rwI_d h.2 (by omega)
theorem rwI_0 {M : pm} {r na : Nat} : ∀ {k e : Nat}, (∀ i, i < e + k → mI M r i = 0) → rwI M r na k e 0
  | 0, _, _ => trivial
  | k + 1, e, h => ⟨by rw [h e (by omega), Nat.zero_div]; rfl, by rw [Nat.zero_mod]; exact rwI_0 (fun i hi => h i (by omega))⟩
def a320 (a _k : Nat) : Prop := a = 320
theorem m_nx {na : Nat} (hna : na ≤ 8) {Q : Int32 → pm → Prop} : ∀ (k e : Nat) (M : pm) (m n : Nat), e + k ≤ 5 → mI M 309 4 = nI na → rwI M 320 na k e m → m < (na + 1) ^ k → (m + 1 < (na + 1) ^ k → ∀ M', fG a320 M M' → (∀ j, j < e → mI M' 320 j = mI M 320 j) → rwI M' 320 na k e (m + 1) → Q 1 M') → (m + 1 = (na + 1) ^ k → ∀ M', fG a320 M M' → (∀ j, j < e → mI M' 320 j = mI M 320 j) → rwI M' 320 na k e 0 → w_X8_isNextRow_7 n (lI e) M' (fun x1 M10 => w_X8_isNextRow_37 x1 M10 Q) Q) → w_X8_isNextRow_7 (n + k) (lI (e + k)) M (fun x1 M10 => w_X8_isNextRow_37 x1 M10 Q) Q := by
  intro k
  induction k with
  | zero =>
    intro e M m n he h4 hr hm done cont
    have m0 : m < 1 := hm
    exact cont (by show m + 1 = 1; omega) M (fG.rf M) (fun _ _ => rfl) trivial
  | succ k ih =>
    intro e M m n he h4 hr hm done cont
    have hB : 0 < (na + 1) ^ k := Nat.pow_pos (Nat.succ_pos _)
    have hq : m / (na + 1) ^ k < na + 1 := Nat.div_lt_of_lt_mul (by rw [Nat.mul_comm, Nat.mul_comm, ← Nat.pow_succ]; exact hm)
    have hmr : m % (na + 1) ^ k < (na + 1) ^ k := Nat.mod_lt _ hB
    have md := Nat.div_add_mod m ((na + 1) ^ k)
    have hp : (na + 1) ^ (k + 1) = (na + 1) * (na + 1) ^ k := by rw [Nat.pow_succ, Nat.mul_comm]
    rw [show n + (k + 1) = n + 1 + k from by omega, show e + (k + 1) = e + 1 + k from by omega]
    refine ih (e + 1) M (m % (na + 1) ^ k) (n + 1) (by omega) h4 hr.2 hmr (fun z M' f' s' r' => ?_) (fun z M' f' s' r' => ?_)
    · have d1 : (m + 1) / (na + 1) ^ k = m / (na + 1) ^ k := by
        rw [← md, Nat.add_assoc, Nat.mul_add_div hB, Nat.div_eq_of_lt z, Nat.add_zero, md]
      have d2 : (m + 1) % (na + 1) ^ k = m % (na + 1) ^ k + 1 := by
        conv => lhs; rw [← md, Nat.add_assoc, Nat.mul_add_mod, Nat.mod_eq_of_lt z]
      refine done ?_ M' f' (fun j hj => s' j (by omega)) ⟨?_, ?_⟩
      · rw [hp]
        have := Nat.mul_le_mul_right ((na + 1) ^ k) (show m / (na + 1) ^ k + 1 ≤ na + 1 from hq)
        rw [Nat.add_mul, Nat.one_mul, Nat.mul_comm (m / (na + 1) ^ k)] at this
        generalize (na + 1) ^ k * (m / (na + 1) ^ k) = X at this md
        generalize (na + 1) * (na + 1) ^ k = Y at this ⊢
        generalize m % (na + 1) ^ k = R at z md
        omega
      · rw [s' e (by omega), d1]; exact hr.1
      · rw [d2]; exact r'
    · have h4' : mI M' 309 4 = nI na := by rw [f'.2.2.2 309 4 (by unfold a320; omega)]; exact h4
      have he' : mI M' 320 e = nI (m / (na + 1) ^ k) := by rw [s' e (by omega)]; exact hr.1
      have e1 : m + 1 = (m / (na + 1) ^ k + 1) * (na + 1) ^ k := by
        rw [Nat.add_mul, Nat.one_mul, Nat.mul_comm (m / (na + 1) ^ k)]
        generalize (na + 1) ^ k * (m / (na + 1) ^ k) = X at md ⊢
        generalize m % (na + 1) ^ k = R at z md
        omega
      rw [lI_s]
      unfold w_X8_isNextRow_7 w_X8_askerMany
      rw [nI_clamp (by omega), lI_p, he']
      refine k_no (nI_pos (by omega)) ⟨vp_in_nI (by omega) (by decide), ?_⟩
      show (¬ nI (m / (na + 1) ^ k) = mI M' 309 4 → _) ∧ (nI (m / (na + 1) ^ k) = mI M' 309 4 → _)
      rw [h4']
      refine pk_ne (m / (na + 1) ^ k) na (fun y => ?_) (fun y => ⟨vp_in_nI (by omega) (by decide), ?_⟩) rfl rfl (Nat.lt_of_lt_of_le hq (by omega)) (by omega)
      · show w_X8_isNextRow_37 (nI e) M' Q
        unfold w_X8_isNextRow_37
        rw [nI_clamp (by omega), he', nI_1]
        refine k_yes (nI_le (a := 0) (by omega) (by omega)) ⟨vp_in_nI (by omega) (by decide), vp_in_nI (by omega) (by decide), done ?_ _ (f'.up rfl _) (fun j hj => ?_) ⟨?_, ?_⟩⟩
        · rw [e1, hp]
          exact Nat.mul_lt_mul_of_pos_right (by omega) hB
        · rw [rI (by omega)]; exact s' j (by omega)
        · rw [rIs, e1, Nat.mul_div_cancel _ hB]
        · rw [e1, Nat.mul_mod_left]
          exact rwI_c (fun i hi => rI (by omega)) r'
      · refine cont ?_ _ (f'.up rfl _) (fun j hj => ?_) ⟨?_, ?_⟩
        · rw [e1, hp, y]
        · rw [rI (by omega)]; exact s' j (by omega)
        · rw [rIs, Nat.zero_div]; rfl
        · rw [Nat.zero_mod]
          exact rwI_c (fun i hi => rI (by omega)) r'
theorem m_next {na ne : Nat} (hna : na ≤ 8) (hne : ne ≤ 5) {M : pm} {m : Nat} (h4 : mI M 309 4 = nI na) (h5 : mI M 309 5 = nI ne) (hr : rwI M 320 na ne 0 m) (hm : m < (na + 1) ^ ne) {Q : Int32 → pm → Prop} (done : m + 1 < (na + 1) ^ ne → ∀ M', fG a320 M M' → rwI M' 320 na ne 0 (m + 1) → Q 1 M') (cont : m + 1 = (na + 1) ^ ne → ∀ M', fG a320 M M' → Q 0 M') : w_X8_isNextRow M Q := by
  unfold w_X8_isNextRow w_X8_earMany
  show ∃ n9, w_X8_isNextRow_7 n9 (mI M 309 5 - 1) M _ Q
  refine ⟨1 + ne, ?_⟩
  have e1 : nI ne - 1 = lI (0 + ne) := by
    rw [Nat.zero_add]
    unfold lI
    rw [← zI_n, show (1 : Int32) = zI 1 from rfl, zI_sub]
  rw [h5, e1]
  refine m_nx hna ne 0 M m 1 (by omega) h4 hr hm (fun z M' f' _ r' => done z M' f' r') (fun z M' f' _ _ => ?_)
  unfold w_X8_isNextRow_7
  refine k_yes (by decide) ?_
  unfold w_X8_isNextRow_37
  exact k_no (by decide) (cont z M' f')
theorem m_pb6 {M : pm} {s : Nat} {D S : Nat → Nat} {P : Nat → List Nat} (hd : dM M D P) (hD : okD D P) (hs : sM M D S) (hS : okS D S) (h56 : mI M 277 56 = nI s) (hs8 : s < 256) {Q : Int32 → pm → Prop} : ∀ (k e u m acc n : Nat), D 3 = e + k → u < 256 → k < n → acc + 9 * k ≤ 1000 → rwI M 320 (D 2) k e m → m < (D 2 + 1) ^ k → (∀ v, vS (pbE D S) s (D 2) k e u m = some v → Q (nI (acc + v)) M) → (vS (pbE D S) s (D 2) k e u m = none → Q (-1) M) → w_X8_pleasedBy_6 n (nI acc) (nI u) (nI e) M Q := by
  have h8 := hD.2.2.1
  have h5 := hD.2.2.2.1
  intro k
  induction k with
  | zero =>
    intro e u m acc n ek hu hn ha hr hm k1 k0
    obtain ⟨n, rfl⟩ : ∃ n', n = n' + 1 := ⟨n - 1, by omega⟩
    unfold w_X8_pleasedBy_6 w_X8_earMany
    show (mI M 309 5 ≤ nI e → _) ∧ _
    rw [hd.2.2.2.1]
    exact k_yes (nI_le (by omega) (by omega)) (k1 0 rfl)
  | succ k ih =>
    intro e u m acc n ek hu hn ha hr hm k1 k0
    obtain ⟨n, rfl⟩ : ∃ n', n = n' + 1 := ⟨n - 1, by omega⟩
    have hB : 0 < (D 2 + 1) ^ k := Nat.pow_pos (Nat.succ_pos _)
    have hq : m / (D 2 + 1) ^ k < D 2 + 1 := Nat.div_lt_of_lt_mul (by rw [Nat.mul_comm, Nat.mul_comm, ← Nat.pow_succ]; exact hm)
    have hmr : m % (D 2 + 1) ^ k < (D 2 + 1) ^ k := Nat.mod_lt _ hB
    have hr1 := hr.1
    have hr2 := hr.2
    unfold vS at k1 k0
    generalize m / (D 2 + 1) ^ k = c at k1 k0 hr1 hq
    generalize m % (D 2 + 1) ^ k = r at k1 k0 hr2 hmr
    unfold w_X8_pleasedBy_6 w_X8_earMany
    show (mI M 309 5 ≤ nI e → _) ∧ (¬ mI M 309 5 ≤ nI e → _)
    rw [hd.2.2.2.1, nI_clamp (n := e) (by omega), hr1, h56, nI_1]
    refine k_no (nI_ge (by omega) (by omega)) ⟨vp_in_nI (by omega) (by decide), pk_ne c 0 (fun z => ⟨vp_in_nI (by omega) (by decide), ?_⟩) (fun z => ?_)⟩
    · rw [if_neg z] at k1 k0
      obtain ⟨a, rfl⟩ : ∃ a, c = a + 1 := ⟨c - 1, by omega⟩
      rw [show a + 1 - 1 = a from rfl] at k1 k0
      rw [nI_pred, b_bit (by omega) (by omega)]
      have sb : s / 2 ^ a % 2 < 2 := Nat.mod_lt _ (by decide)
      refine pk_eq (s / 2 ^ a % 2) 0 (fun y => k0 ?_) (fun y => b_if (s := u) (by omega) (by omega) (fun w => k0 ?_) (fun w => ?_))
      · rw [if_neg (fun v => ?_)]
        unfold oka at v
        rw [Bool.and_eq_true] at v
        have := (b_tb s a).mp v.1
        omega
      · rw [if_neg (fun v => ?_)]
        unfold oka at v
        rw [w] at v
        rw [Bool.and_eq_true] at v
        exact absurd v.2 (by decide)
      · have ho : oka s u a = true := by
          unfold oka
          rw [w, (b_tb s a).mpr (by omega)]; rfl
        rw [if_pos ho] at k1 k0
        have q := (hS.2.2 a (by omega)).1
        have x9 := (hD.2.2.2.2.2.1 _ q).2.2
        have y9 := hD.2.2.2.2.2.2.1 e (by omega)
        refine m_styleOf hd hD hs hS (by omega) ?_
        rw [show (5 : Int32) + nI e = nI (5 + e) from nI_add 5 e, nI_clamp (n := 5 + e) (by omega), hd.2.2.2.2.2.2.1 e (by omega), or_nI hu (by omega)]
        refine ⟨vp_in_nI (by omega) (by decide), ?_⟩
        have p9 := pbE_le D S e a
        have go : w_X8_pleasedBy_6 n (nI acc + nI (pbE D S e a)) (nI (u ||| 2 ^ a)) (nI (e + 1)) M Q := by
          rw [nI_add]
          refine ih (e + 1) (u ||| 2 ^ a) r (acc + pbE D S e a) n (by omega) (or_256 hu (by omega)) (by omega) (by omega) hr2 hmr (fun v hv => ?_) (fun hv => ?_)
          · have := k1 (pbE D S e a + v) (by rw [hv]; rfl)
            rw [← Nat.add_assoc] at this
            exact this
          · exact k0 (by rw [hv]; rfl)
        unfold pbE at go
        rcases abs9 (D (20 + S (2 + 5 * a))) (by omega) (D (30 + e)) (by omega) with h | h
        · rw [← h.2] at go; exact k_yes h.1 go
        · rw [← h.2] at go; exact k_no h.1 go
    · rw [if_pos z] at k1 k0
      exact ih (e + 1) u r acc n (by omega) hu (by omega) (by omega) hr2 hmr k1 k0
