/-! the tape read; image, see, on -/
def fG (A : Nat → Nat → Prop) (M M' : pm) : Prop := mL M' = mL M ∧ mR M' = mR M ∧ mJ M' = mJ M ∧ ∀ a k, ¬ A a k → mI M' a k = mI M a k
theorem fG.rf {A : Nat → Nat → Prop} (M : pm) : fG A M M := ⟨rfl, rfl, rfl, fun _ _ _ => rfl⟩
theorem fG.tr {A : Nat → Nat → Prop} {M M1 M2 : pm} (h : fG A M M1) (g : fG A M1 M2) : fG A M M2 := ⟨g.1.trans h.1, g.2.1.trans h.2.1, g.2.2.1.trans h.2.2.1, fun a k h1 => (g.2.2.2 a k h1).trans (h.2.2.2 a k h1)⟩
theorem fG.up {A : Nat → Nat → Prop} {M M1 : pm} (h : fG A M M1) {c j : Nat} (hc : A c j) (v : Int32) : fG A M (sI M1 c j v) := ⟨h.1, h.2.1, h.2.2.1, fun a k ha => by rw [rI (fun q => ha (by rw [q.1, q.2]; exact hc))]; exact h.2.2.2 a k ha⟩
theorem fG.row {A : Nat → Nat → Prop} {M M' : pm} (h : fG A M M') {a : Nat} (ha : ∀ k, ¬ A a k) : mI M' a = mI M a := funext fun k => h.2.2.2 a k (ha k)
def tpC (M : pm) (T : Nat → Nat) : Prop := ∀ k, k < 1600 → T k < 256 ∧ mI M 4 k = sb (T k)
def tpM (M : pm) (T : Nat → Nat) : Prop := ∀ k, k < 1600 → T k < 256 ∧ mI M 278 k = nI (T k)
theorem tape_of {M : pm} (h : iTape M) : ∃ (n : Nat) (T : Nat → Nat), n ≤ 1600 ∧ mI M 3 1 = nI n ∧ mI M 277 1 = nI n ∧ tpC M T ∧ tpM M T := by
  obtain ⟨n, h1, h2, h3, h4⟩ := h
  have key : ∀ k, k < 1600 → (mI M 278 k).toNatClampNeg < 256 ∧ mI M 278 k = nI (mI M 278 k).toNatClampNeg ∧ mI M 4 k = sb (mI M 278 k).toNatClampNeg := fun k hk => by
    obtain ⟨b, b1, b2, b3⟩ := h4 k hk
    have : (mI M 278 k).toNatClampNeg = b := by rw [b2, nI_clamp (by omega)]
    rw [this]; exact ⟨b1, b2, b3⟩
  exact ⟨n, fun k => (mI M 278 k).toNatClampNeg, h1, h2, h3, fun k hk => ⟨(key k hk).1, (key k hk).2.2⟩, fun k hk => ⟨(key k hk).1, (key k hk).2.1⟩⟩
theorem tape_to {M : pm} {n : Nat} {T : Nat → Nat} (h1 : n ≤ 1600) (h2 : mI M 3 1 = nI n) (h3 : mI M 277 1 = nI n) (hc : tpC M T) (hm : tpM M T) : iTape M := ⟨n, h1, h2, h3, fun k hk => ⟨T k, (hc k hk).1, (hm k hk).2, (hc k hk).2⟩⟩
theorem tpC_c {M M' : pm} {T : Nat → Nat} (e : mI M' 4 = mI M 4) (h : tpC M T) : tpC M' T := by unfold tpC at h ⊢; rw [e]; exact h
theorem tpM_c {M M' : pm} {T : Nat → Nat} (e : mI M' 278 = mI M 278) (h : tpM M T) : tpM M' T := by unfold tpM at h ⊢; rw [e]; exact h
theorem sb_and : ∀ b, b < 256 → sb b &&& 255 = nI b := by decide +kernel
def pr (T : Nat → Nat) (k : Nat) : Nat := T k * 256 + T (k + 1)
theorem c_tb {M : pm} {T : Nat → Nat} (h : tpC M T) {k : Nat} (hk : k < 1600) {Q : Int32 → pm → Prop} (kk : Q (nI (T k)) M) : w_X7_tapeByte (nI k) M Q := by
  refine k_no (nI_pos (by omega)) (k_no (nI_ge (b := 1600) hk (by decide)) ⟨vp_in_nI hk (by decide), ?_⟩)
  rw [nI_clamp (by omega), (h k hk).2, sb_and _ (h k hk).1]
  exact kk
theorem c_tp {M : pm} {T : Nat → Nat} (h : tpC M T) {k : Nat} (hk : k + 1 < 1600) {Q : Int32 → pm → Prop} (kk : Q (nI (pr T k)) M) : w_X7_tapePair (nI k) M Q := by
  refine c_tb h (by omega) ?_
  rw [nI_1]
  refine c_tb h hk ?_
  rw [show nI (T k) * 256 = nI (T k * 256) from pk_mul _ 256, nI_add]
  exact kk
theorem m_tp {M : pm} {T : Nat → Nat} (h : tpM M T) {k : Nat} (hk : k + 1 < 1600) {Q : Int32 → pm → Prop} (kk : Q (nI (pr T k)) M) : w_X8_twoAt (nI k) M Q := by
  unfold w_X8_twoAt
  rw [nI_1, nI_clamp (by omega), nI_clamp (by omega), (h k (by omega)).2, (h (k + 1) hk).2, show (256 : Int32) * nI (T k) = nI (256 * T k) from pk_mul 256 _, nI_add, Nat.mul_comm 256]
  exact ⟨vp_in_nI (by omega) (by decide), vp_in_nI hk (by decide), kk⟩
theorem pr_lt {T : Nat → Nat} {M : pm} (h : tpM M T) {k : Nat} (hk : k + 1 < 1600) : pr T k < 65536 := by
  have h1 := (h k (by omega)).1
  have h2 := (h (k + 1) hk).1
  unfold pr; omega
theorem cA_no {M : pm} {t : Nat} {D : Nat → Nat} {P : Nat → List Nat} (h3 : mR M 3 3 = t) (hd : dC M t D P) {x : Int32} (h : nI (D 2) ≤ x) {Q : Int32 → pm → Prop} (k : Q 0 M) : w_X7_isAsker x M Q := by
  refine ⟨fun _ => k, fun h1 => ⟨fun _ => k, fun h2 => ?_⟩⟩
  rw [h3, hd.2.2.1] at h2
  exact absurd h h2
theorem cA_yes {M : pm} {t : Nat} {D : Nat → Nat} {P : Nat → List Nat} (h3 : mR M 3 3 = t) (hd : dC M t D P) (hD : okD D P) {b : Nat} (h : b < D 2) {Q : Int32 → pm → Prop} (k : Q 1 M) : w_X7_isAsker (nI b) M Q := by
  have h8 := hD.2.2.1
  refine k_no (nI_pos (by omega)) ?_
  rw [h3, hd.2.2.1]
  exact k_no (nI_ge h (by omega)) k
theorem cS_no {M : pm} {t : Nat} {D : Nat → Nat} {P : Nat → List Nat} (h3 : mR M 3 3 = t) (hd : dC M t D P) {x : Int32} (h : nI (D 1) ≤ x) {Q : Int32 → pm → Prop} (k : Q 0 M) : w_X7_isSong x M Q := by
  refine ⟨fun _ => k, fun h1 => ⟨fun _ => k, fun h2 => ?_⟩⟩
  rw [h3, hd.2.1] at h2
  exact absurd h h2
theorem cS_yes {M : pm} {t : Nat} {D : Nat → Nat} {P : Nat → List Nat} (h3 : mR M 3 3 = t) (hd : dC M t D P) (hD : okD D P) {b : Nat} (h : b < D 1) {Q : Int32 → pm → Prop} (k : Q 1 M) : w_X7_isSong (nI b) M Q := by
  have h8 := hD.2.1
  refine k_no (nI_pos (by omega)) ?_
  rw [h3, hd.2.1]
  exact k_no (nI_ge h (by omega)) k
theorem Inv_mk {M M2 : pm} (hI : Inv M) (hL : mL M2 = mL M) (hw : iWrd M2) (ht : iTape M2) (hf : iFlt M2) (hr : iRef M2) (hs : iSeed M2) (hp : iPic M2) (h : ∀ t ns na ne hr, iSta M t ns na ne hr → iNow M ns na → iSeen M na → iHist M ns na → iSta M2 t ns na ne hr ∧ iNow M2 ns na ∧ iSeen M2 na ∧ iHist M2 ns na) : Inv M2 := by
  obtain ⟨i1, i2, i3, i4, i5, i6, i7, t, ns, na, ne, hr', i8, i9, i10, i11⟩ := hI
  exact ⟨by rw [hL]; exact i1, ht, hf, hr, hs, hp, hw, t, ns, na, ne, hr', h t ns na ne hr' i8 i9 i10 i11⟩
/-- the tape gone, and refused -/
theorem stp_clr {A : Type} {wx wm : pm → (A → pm → Prop) → Prop} {M : pm} (hI : Inv M) {j : Nat} (hj : j < 6) (y : A) (hx : ∀ K : A → pm → Prop, K y (sI (sI M 3 1 0) 276 j (mI (sI M 3 1 0) 276 j + 1)) → wx M K) (hm : ∀ M1, M1 = sI (sI M 3 1 0) 276 j (mI (sI M 3 1 0) 276 j + 1) → ∀ Q : A → pm → Prop, Q y (sI (sI M1 277 1 0) 279 j (mI (sI M1 277 1 0) 279 j + 1)) → wm M1 Q) : stp Inv wx wm M := by
  intro K hK
  refine hx K (hK y _ ⟨rfl, by rw [mI_off (by decide), mI_off (by decide)]⟩ (fun Q hQ => hm _ rfl Q (hQ _ ?_ ⟨rfl, by rw [mI_off (by decide), mI_off (by decide)]⟩)))
  obtain ⟨i1, i2, i3, i4, i5, i6, -⟩ := id hI
  obtain ⟨n, hn, t1, t2, t3⟩ := i2
  generalize hM4 : sI (sI (sI (sI M 3 1 0) 276 j (mI (sI M 3 1 0) 276 j + 1)) 277 1 0) 279 j (mI (sI (sI (sI M 3 1 0) 276 j (mI (sI M 3 1 0) 276 j + 1)) 277 1 0) 279 j + 1) = M4
  have e : ∀ a k, a ≠ 276 → a ≠ 279 → ¬ (a = 3 ∧ k = 1) → ¬ (a = 277 ∧ k = 1) → mI M4 a k = mI M a k := fun a k h1 h2 h3 h4 => by
    rw [← hM4, rI (by omega), rI (by omega), rI (by omega), rI (by omega)]
  refine Inv_upd (M := M) (by rw [← hM4]; rfl) (by rw [← hM4]; rfl) (by rw [← hM4]; rfl) hI ⟨0, by decide, ?_, ?_, fun k hk => ?_⟩ (iFlt_c (e _ _ (by decide) (by decide) (by decide) (by decide)) (e _ _ (by decide) (by decide) (by decide) (by decide)) (e _ _ (by decide) (by decide) (by decide) (by decide)) (e _ _ (by decide) (by decide) (by decide) (by decide)) i3) (fun k hk => ?_) (iSeed_c (e _ _ (by decide) (by decide) (by decide) (by decide)) (by rw [← hM4]; rfl) i5) (iPic_c (e _ _ (by decide) (by decide) (by decide) (by decide)) (e _ _ (by decide) (by decide) (by decide) (by decide)) (funext fun k => e _ _ (by decide) (by decide) (by omega) (by omega)) (funext fun k => e _ _ (by decide) (by decide) (by omega) (by omega)) i6) (fun a k h => e a k (by unfold SS at h; omega) (by unfold SS at h; omega) (by unfold SS at h; omega) (by unfold SS at h; omega))
  · rw [← hM4, rI (by omega), rI (by omega), rI (by omega), rIs]; rfl
  · rw [← hM4, rI (by omega), rIs]; rfl
  · rw [e _ _ (by decide) (by decide) (by omega) (by omega), e _ _ (by decide) (by decide) (by omega) (by omega)]; exact t3 k hk
  · by_cases q : k = j
    · subst q
      rw [← hM4, rI (by omega), rI (by omega), rIs, rIs, rI (by omega), rI (by omega), rI (by omega), rI (by omega), i4 k hk]
    · rw [← hM4, rI (by omega), rI (by omega), rI (by omega), rI (by omega), rI (by omega), rI (by omega), rI (by omega), rI (by omega)]; exact i4 k hk
/-! image -/
abbrev ipT : Type := Nat × (Nat → Nat)
def snc (p : ipT) (x : Nat) : ipT := (p.1 + 1, fun k => if k = p.1 then x else p.2 k)
def imP (S : Nat → Nat) : Nat → ipT
  | 0 => snc (snc (snc (snc (0, fun _ => 0) (S 0 / 256)) (S 0 % 256)) (S 1 / 256)) (S 1 % 256)
  | b + 1 => snc (snc (snc (snc (snc (snc (snc (snc (imP S b) (S (2 + 5 * b))) (S (3 + 5 * b) / 256)) (S (3 + 5 * b) % 256)) (S (4 + 5 * b))) (S (5 + 5 * b) / 256)) (S (5 + 5 * b) % 256)) (S (6 + 5 * b) / 256)) (S (6 + 5 * b) % 256)
theorem imP_len (S : Nat → Nat) : ∀ b, (imP S b).1 = 4 + 8 * b
  | 0 => rfl
  | b + 1 => by
    show (imP S b).1 + 1 + 1 + 1 + 1 + 1 + 1 + 1 + 1 = _
    rw [imP_len S b]; omega
def chF (g : Nat → Nat) : Nat → Nat
  | 0 => 151
  | n + 1 => (3 * chF g n + g n) % 251
theorem chF_lt (g : Nat → Nat) : ∀ n, chF g n < 251
  | 0 => (by decide : 151 < 251)
  | n + 1 => Nat.mod_lt _ (by decide)
def iA (a k : Nat) : Prop := (a = 3 ∧ k = 16) ∨ a = 275 ∨ (a = 277 ∧ k = 106) ∨ a = 352
def iM (a k : Nat) : Prop := (a = 277 ∧ k = 106) ∨ a = 352
def picC (M : pm) (p : ipT) : Prop := mI M 3 16 = nI p.1 ∧ ∀ k, k < p.1 → p.2 k < 256 ∧ mI M 275 k = nI (p.2 k)
def picM (M : pm) (p : ipT) : Prop := mI M 277 106 = nI p.1 ∧ ∀ k, k < p.1 → p.2 k < 256 ∧ mI M 352 k = nI (p.2 k)
theorem c_byte {M : pm} {p : ipT} {x : Nat} (h : picC M p) (hp : p.1 < 69) (hx : x < 256) {y : Int32} (hy : y &&& 255 = nI x) {Q : pm → Prop} (k : ∀ M', fG iA M M' → picC M' (snc p x) → Q M') : w_X7_drawByte y M Q := by
  unfold w_X7_drawByte
  rw [h.1, hy, nI_clamp (by omega), nI_1]
  refine k_no (nI_ge (b := 69) hp (by decide)) ⟨vp_in_nI hp (by decide), k _ (((fG.rf M).up (Or.inr (Or.inl rfl)) _).up (Or.inl ⟨rfl, rfl⟩) _) ⟨rIs _ _ _ _, fun j hj => ?_⟩⟩
  show (if j = p.1 then x else p.2 j) < 256 ∧ _ = nI (if j = p.1 then x else p.2 j)
  rw [rI (by omega)]
  by_cases q : j = p.1
  · rw [if_pos q, q]; exact ⟨hx, rIs _ _ _ _⟩
  · rw [if_neg q, rI (by omega)]
    have : j < p.1 + 1 := hj
    exact h.2 j (by omega)
theorem nan255 {x : Nat} (h : x < 2 ^ 31) : nI x &&& 255 = nI (x % 256) := pk_andN (by omega) 8 (by decide)
theorem c_pair {M : pm} {p : ipT} {x : Nat} (h : picC M p) (hp : p.1 + 1 < 69) (hx : x < 65536) {Q : pm → Prop} (k : ∀ M', fG iA M M' → picC M' (snc (snc p (x / 256)) (x % 256)) → Q M') : w_X7_drawPair (nI x) M Q := by
  unfold w_X7_drawPair
  rw [show (8 : Int32) = nI 8 from rfl, b_shr (by omega) (by decide)]
  refine c_byte (x := x / 256) h (by omega) (by omega) ?_ (fun M1 f1 p1 => c_byte (x := x % 256) p1 hp (Nat.mod_lt _ (by decide)) (nan255 (by omega)) (fun M2 f2 p2 => k M2 (f1.tr f2) p2))
  rw [show (2 : Nat) ^ 8 = 256 from rfl, nan255 (by omega), Nat.mod_eq_of_lt (by omega)]
theorem m_byte {M : pm} {p : ipT} {x : Nat} (h : picM M p) (hp : p.1 < 69) (hx : x < 256) {Q : pm → Prop} (k : ∀ M', fG iM M M' → picM M' (snc p x) → Q M') : w_X8_writes (nI x) M Q := by
  unfold w_X8_writes
  rw [h.1, nI_clamp (by omega), nI_1]
  refine ⟨vp_in_nI hp (by decide), k _ (((fG.rf M).up (Or.inr rfl) _).up (Or.inl ⟨rfl, rfl⟩) _) ⟨rIs _ _ _ _, fun j hj => ?_⟩⟩
  show (if j = p.1 then x else p.2 j) < 256 ∧ _ = nI (if j = p.1 then x else p.2 j)
  rw [rI (by omega)]
  by_cases q : j = p.1
  · rw [if_pos q, q]; exact ⟨hx, rIs _ _ _ _⟩
  · rw [if_neg q, rI (by omega)]
    have : j < p.1 + 1 := hj
    exact h.2 j (by omega)
theorem m_pair {M : pm} {p : ipT} {x : Nat} (h : picM M p) (hp : p.1 + 1 < 69) (hx : x < 65536) {Q : pm → Prop} (k : ∀ M', fG iM M M' → picM M' (snc (snc p (x / 256)) (x % 256)) → Q M') : w_X8_writesTwo (nI x) M Q := by
  unfold w_X8_writesTwo
  rw [show nI x / 256 = nI (x / 256) from pk_div (d := 256) (by omega) (by decide) (by decide), show irm (nI x) 256 = nI (x % 256) from irm_n (d := 256) (by omega) (by decide) (by decide)]
  exact m_byte h (by omega) (by omega) (fun M1 f1 p1 => m_byte p1 hp (Nat.mod_lt _ (by decide)) (fun M2 f2 p2 => k M2 (f1.tr f2) p2))
theorem iA_C {M M' : pm} (h : fG iA M M') {t : Nat} {D S : Nat → Nat} {P : Nat → List Nat} (R : Rp M t D P S) : mR M' 3 3 = t ∧ dC M' t D P ∧ sC M' 57 D S ∧ dM M' D P ∧ sM M' D S := by
  obtain ⟨r1, r2, r3, r4, r5, r6, r7, r8, r9, r10, r11, r12⟩ := R
  exact ⟨by rw [h.2.1]; exact r2, dC_c (fun c c1 c2 => h.row (fun k => by unfold iA; omega)) r4, sC_c (fun c c1 c2 => h.row (fun k => by unfold iA; omega)) r8, dM_c (fun c c1 c2 _ => h.row (fun k => by unfold iA; omega)) r5, sM_c (h.row (fun k => by unfold iA; omega)) r9⟩
theorem m_check {M : pm} {a : Nat} {g : Nat → Nat} {n : Nat} (hn : n ≤ (lay a).2) (h16 : (lay a).2 ≤ 1600) (h : ∀ k, k < n → g k < 256 ∧ mI M a k = nI (g k)) {Q : Int32 → pm → Prop} (k : Q (nI (chF g n)) M) : w_X8_checked a (nI n) M Q := by
  have key : ∀ d m i, i + d = n → d < m → w_X8_checked_6 m a (nI n) (nI (chF g i)) (nI i) M Q := by
    intro d
    induction d with
    | zero =>
      intro m i hi hm
      obtain ⟨m, rfl⟩ : ∃ m', m = m' + 1 := ⟨m - 1, by omega⟩
      unfold w_X8_checked_6
      rw [show i = n from by omega]
      exact k_yes (nI_le (Nat.le_refl _) (by omega)) k
    | succ d ih =>
      intro m i hi hm
      obtain ⟨m, rfl⟩ : ∃ m', m = m' + 1 := ⟨m - 1, by omega⟩
      have h1 := h i (by omega)
      have h2 := chF_lt g i
      unfold w_X8_checked_6
      rw [nI_clamp (by omega), h1.2, show (3 : Int32) * nI (chF g i) = nI (3 * chF g i) from pk_mul 3 _, nI_add, show irm (nI (3 * chF g i + g i)) 251 = nI ((3 * chF g i + g i) % 251) from irm_n (d := 251) (by omega) (by decide) (by decide), nI_1]
      exact k_no (nI_ge (by omega) (by omega)) ⟨vp_in_nI (by omega) (by omega), ih m (i + 1) (by omega) (by omega)⟩
  exact ⟨n + 1, key n (n + 1) 0 (by omega) (by omega)⟩
def imE (D S : Nat → Nat) : ipT := snc (imP S (D 2)) (chF (imP S (D 2)).2 (imP S (D 2)).1)
theorem c_image {M : pm} {t : Nat} {D S : Nat → Nat} {P : Nat → List Nat} (R : Rp M t D P S) {K : Int32 → pm → Prop} (k : ∀ M', fG iA M M' → picC M' (imE D S) → K (nI (imE D S).1) M') : w_X7_image M K := by
  obtain ⟨r1, r2, r3, r4, r5, r6, r7, r8, r9, r10, r11, r12⟩ := id R
  have h8 := r3.2.2.1
  have h6 := r3.2.1
  have s0 := r6.1
  have s1 := r6.2.1
  have lp := imP_len S
  have f0 : fG iA M (sI M 3 16 0) := (fG.rf M).up (Or.inl ⟨rfl, rfl⟩) _
  have p0 : picC (sI M 3 16 0) (0, fun _ => 0) := ⟨rIs _ _ _ _, fun k hk => absurd hk (Nat.not_lt_zero _)⟩
  have fin : ∀ M3, fG iA M M3 → picC M3 (imP S (D 2)) → ∃ n33, w_X7_image_119 n33 151 0 M3 K := by
    intro M3 f3 p3
    have l2 := lp (D 2)
    have key2 : ∀ d m i, i + d = (imP S (D 2)).1 → d < m → w_X7_image_119 m (nI (chF (imP S (D 2)).2 i)) (nI i) M3 K := by
      intro d
      induction d with
      | zero =>
        intro m i hi hm
        obtain ⟨m, rfl⟩ : ∃ m', m = m' + 1 := ⟨m - 1, by omega⟩
        have hc := chF_lt (imP S (D 2)).2 i
        unfold w_X7_image_119
        rw [p3.1]
        refine k_yes (nI_le (by omega) (by omega)) (c_byte (x := chF (imP S (D 2)).2 (imP S (D 2)).1) p3 (by omega) (by have := chF_lt (imP S (D 2)).2 (imP S (D 2)).1; omega) ?_ (fun M4 f4 p4 => ?_))
        · rw [nan255 (by omega), Nat.mod_eq_of_lt (by omega), show i = (imP S (D 2)).1 from by omega]
        · rw [p4.1]
          exact k M4 (f3.tr f4) p4
      | succ d ih =>
        intro m i hi hm
        obtain ⟨m, rfl⟩ : ∃ m', m = m' + 1 := ⟨m - 1, by omega⟩
        have hc := chF_lt (imP S (D 2)).2 i
        have h1 := p3.2 i (by omega)
        unfold w_X7_image_119
        rw [p3.1, nI_clamp (by omega), h1.2, show (3 : Int32) * nI (chF (imP S (D 2)).2 i) = nI (3 * chF (imP S (D 2)).2 i) from pk_mul 3 _, nI_add, show irm (nI (3 * chF (imP S (D 2)).2 i + (imP S (D 2)).2 i)) 251 = nI ((3 * chF (imP S (D 2)).2 i + (imP S (D 2)).2 i) % 251) from irm_n (d := 251) (by omega) (by decide) (by decide), nI_1]
        exact k_no (nI_ge (by omega) (by omega)) ⟨vp_in_nI (by omega) (by decide), ih m (i + 1) (by omega) (by omega)⟩
    exact ⟨_, key2 (imP S (D 2)).1 ((imP S (D 2)).1 + 1) 0 (by omega) (by omega)⟩
  have key : ∀ d m b M3, b + d = D 2 → d < m → fG iA M M3 → picC M3 (imP S b) → w_X7_image_29 m (nI b) M3 (fun M28 => ∃ n33, w_X7_image_119 n33 151 0 M28 K) K := by
    intro d
    induction d with
    | zero =>
      intro m b M3 hb hm f3 p3
      obtain ⟨m, rfl⟩ : ∃ m', m = m' + 1 := ⟨m - 1, by omega⟩
      have hb' : b = D 2 := by omega
      rw [hb'] at p3
      unfold w_X7_image_29
      rw [(iA_C f3 R).1, (iA_C f3 R).2.1.2.2.1]
      exact k_yes (nI_le (by omega) (by omega)) (fin M3 f3 p3)
    | succ d ih =>
      intro m b M3 hb hm f3 p3
      obtain ⟨m, rfl⟩ : ∃ m', m = m' + 1 := ⟨m - 1, by omega⟩
      have hv : vp_in (nI b) 8 := vp_in_nI (by omega) (by decide)
      have sb := r6.2.2 b (by omega)
      have lb := lp b
      unfold w_X7_image_29
      rw [(iA_C f3 R).1, (iA_C f3 R).2.1.2.2.1, nI_clamp (by omega), nI_1]
      refine k_no (nI_ge (by omega) (by omega)) ⟨hv, ?_⟩
      rw [show mI M3 58 b = nI (S (2 + 5 * b)) from ((iA_C f3 R).2.2.1.2.2 b (by omega)).1]
      refine c_byte (x := S (2 + 5 * b)) p3 (by omega) (by omega) (by rw [nan255 (by omega), Nat.mod_eq_of_lt (by omega)]) (fun M4 f4 p4 => ⟨hv, ?_⟩)
      have f4 := f3.tr f4
      rw [show mI M4 59 b = nI (S (3 + 5 * b)) from ((iA_C f4 R).2.2.1.2.2 b (by omega)).2.1]
      refine c_pair (x := S (3 + 5 * b)) p4 (by show (imP S b).1 + 1 + 1 < 69; omega) (by omega) (fun M5 f5 p5 => ⟨hv, ?_⟩)
      have f5 := f4.tr f5
      rw [show mI M5 60 b = nI (S (4 + 5 * b)) from ((iA_C f5 R).2.2.1.2.2 b (by omega)).2.2.1]
      refine c_byte (x := S (4 + 5 * b)) p5 (by show (imP S b).1 + 1 + 1 + 1 < 69; omega) (by omega) (by rw [nan255 (by omega), Nat.mod_eq_of_lt (by omega)]) (fun M6 f6 p6 => ⟨hv, ?_⟩)
      have f6 := f5.tr f6
      rw [show mI M6 61 b = nI (S (5 + 5 * b)) - 1 from ((iA_C f6 R).2.2.1.2.2 b (by omega)).2.2.2.1, show nI (S (5 + 5 * b)) - 1 + 1 = nI (S (5 + 5 * b)) from Int32.sub_add_cancel _ _]
      refine c_pair (x := S (5 + 5 * b)) p6 (by show (imP S b).1 + 1 + 1 + 1 + 1 + 1 < 69; omega) (by omega) (fun M7 f7 p7 => ⟨hv, ?_⟩)
      have f7 := f6.tr f7
      rw [show mI M7 62 b = nI (S (6 + 5 * b)) from ((iA_C f7 R).2.2.1.2.2 b (by omega)).2.2.2.2]
      refine c_pair (x := S (6 + 5 * b)) p7 (by show (imP S b).1 + 1 + 1 + 1 + 1 + 1 + 1 + 1 < 69; omega) (by omega) (fun M8 f8 p8 => ih m (b + 1) M8 (by omega) (by omega) (f7.tr f8) p8)
  unfold w_X7_image
  rw [r8.1]
  refine c_pair (x := S 0) p0 (by decide) (by omega) (fun M1 f1 p1 => ?_)
  rw [(iA_C (f0.tr f1) R).2.2.1.2.1]
  refine c_pair (x := S 1) p1 (by show 0 + 1 + 1 + 1 < 69; decide) (by omega) (fun M2 f2 p2 => ⟨D 2 + 1, key (D 2) (D 2 + 1) 0 M2 (by omega) (by omega) ((f0.tr f1).tr f2) p2⟩)
theorem m_image {M : pm} {D S : Nat → Nat} {P : Nat → List Nat} (hd : dM M D P) (hD : okD D P) (hs : sM M D S) (hS : okS D S) {K : Int32 → pm → Prop} (k : ∀ M', fG iA M M' → mI M' 275 = mI M 275 → mI M' 3 = mI M 3 → picM M' (imE D S) → K (nI (imE D S).1) M') : w_X8_image M K := by
  have h8 := hD.2.2.1
  have h6 := hD.2.1
  have s0 := hS.1
  have s1 := hS.2.1
  have lp := imP_len S
  have fr : ∀ {M'}, fG iM M M' → dM M' D P ∧ sM M' D S := fun h => ⟨dM_c (fun c c1 c2 _ => h.row (fun k => by unfold iM; omega)) hd, sM_c (h.row (fun k => by unfold iM; omega)) hs⟩
  have f0 : fG iM M (sI M 277 106 0) := (fG.rf M).up (Or.inl ⟨rfl, rfl⟩) _
  have p0 : picM (sI M 277 106 0) (0, fun _ => 0) := ⟨rIs _ _ _ _, fun k hk => absurd hk (Nat.not_lt_zero _)⟩
  have key : ∀ d m b M3, b + d = D 2 → d < m → fG iM M M3 → picM M3 (imP S b) → w_X8_image_27 m (nI b) M3 K := by
    intro d
    induction d with
    | zero =>
      intro m b M3 hb hm f3 p3
      obtain ⟨m, rfl⟩ : ∃ m', m = m' + 1 := ⟨m - 1, by omega⟩
      have hb' : b = D 2 := by omega
      rw [hb'] at p3
      have l2 := lp (D 2)
      unfold w_X8_image_27 w_X8_askerMany
      dsimp only
      rw [(fr f3).1.2.2.1]
      refine k_yes (nI_le (by omega) (by omega)) ?_
      rw [p3.1]
      refine m_check (a := 352) (by show _ ≤ 69; omega) (by show 69 ≤ 1600; decide) p3.2 (m_byte p3 (by omega) (by have := chF_lt (imP S (D 2)).2 (imP S (D 2)).1; omega) (fun M4 f4 p4 => ?_))
      rw [p4.1]
      have f := f3.tr f4
      exact k M4 ⟨f.1, f.2.1, f.2.2.1, fun a q hq => f.2.2.2 a q (fun z => hq (by unfold iM at z; unfold iA; omega))⟩ (f.row (fun q => by unfold iM; omega)) (f.row (fun q => by unfold iM; omega)) p4
    | succ d ih =>
      intro m b M3 hb hm f3 p3
      obtain ⟨m, rfl⟩ : ∃ m', m = m' + 1 := ⟨m - 1, by omega⟩
      have sb := hS.2.2 b (by omega)
      have lb := lp b
      unfold w_X8_image_27 w_X8_askerMany
      dsimp only
      rw [(fr f3).1.2.2.1, nI_1]
      refine k_no (nI_ge (by omega) (by omega)) (m_songOf (by omega) (fr f3).2 (by omega) (m_byte p3 (by omega) (by omega) (fun M4 f4 p4 => ?_)))
      have f4 := f3.tr f4
      refine m_diesOf (by omega) (fr f4).2 (by omega) (m_pair p4 (by show (imP S b).1 + 1 + 1 < 69; omega) (by omega) (fun M5 f5 p5 => ?_))
      have f5 := f4.tr f5
      refine m_mindsOf (by omega) (fr f5).2 (by omega) (m_byte p5 (by show (imP S b).1 + 1 + 1 + 1 < 69; omega) (by omega) (fun M6 f6 p6 => ?_))
      have f6 := f5.tr f6
      refine m_lastOf (by omega) (fr f6).2 (by omega) (m_pair p6 (by show (imP S b).1 + 1 + 1 + 1 + 1 + 1 < 69; omega) (by omega) (fun M7 f7 p7 => ?_))
      have f7 := f6.tr f7
      exact m_playedOf (by omega) (fr f7).2 (by omega) (m_pair p7 (by show (imP S b).1 + 1 + 1 + 1 + 1 + 1 + 1 + 1 < 69; omega) (by omega) (fun M8 f8 p8 => ih m (b + 1) M8 (by omega) (by omega) (f7.tr f8) p8))
  unfold w_X8_image
  rw [hs 0 (by omega)]
  refine m_pair (x := S 0) p0 (by decide) (by omega) (fun M1 f1 p1 => ?_)
  rw [(fr (f0.tr f1)).2 1 (by omega)]
  exact m_pair (x := S 1) p1 (by show 0 + 1 + 1 + 1 < 69; decide) (by omega) (fun M2 f2 p2 => ⟨D 2 + 1, key (D 2) (D 2 + 1) 0 M2 (by omega) (by omega) ((f0.tr f1).tr f2) p2⟩)
theorem p_image (M : pm) (hI : Inv M) : stp Inv w_X7_image w_X8_image M := by
  obtain ⟨t, D, P, S, R⟩ := Rp_of hI
  obtain ⟨r1, r2, r3, r4, r5, r6, r7, r8, r9, r10, r11, r12⟩ := id R
  obtain ⟨i1, i2, i3, i4, i5, i6, -⟩ := id hI
  have h8 := r3.2.2.1
  have l2 := imP_len S (D 2)
  intro K hK
  refine c_image R (fun M1 f1 p1 => hK _ M1 ⟨f1.1, f1.row (fun k => by unfold iA; omega)⟩ (fun Q hQ => ?_))
  obtain ⟨-, -, -, d1, m1⟩ := iA_C f1 R
  refine m_image d1 r3 m1 r6 (fun M2 f2 e275 e3 p2 => hQ M2 ?_ ⟨f2.1, f2.row (fun k => by unfold iA; omega)⟩)
  have g := f1.tr f2
  have e : ∀ a k, ¬ iA a k → mI M2 a k = mI M a k := g.2.2.2
  refine Inv_upd (M := M) g.1 g.2.1 (by rw [g.2.2.1]) hI (iTape_c (e _ _ (by unfold iA; omega)) (e _ _ (by unfold iA; omega)) (g.row (fun k => by unfold iA; omega)) (g.row (fun k => by unfold iA; omega)) i2) (iFlt_c (e _ _ (by unfold iA; omega)) (e _ _ (by unfold iA; omega)) (e _ _ (by unfold iA; omega)) (e _ _ (by unfold iA; omega)) i3) (iRef_c (g.row (fun k => by unfold iA; omega)) (g.row (fun k => by unfold iA; omega)) i4) (iSeed_c (e _ _ (by unfold iA; omega)) (by rw [g.2.2.1]) i5) ⟨(imE D S).1, ?_, by rw [e3]; exact p1.1, p2.1, fun k hk => ?_⟩ (fun a k h => e a k (by unfold SS at h; unfold iA; omega))
  · show (imP S (D 2)).1 + 1 ≤ 69
    omega
  · rw [e275, (p1.2 k hk).2, (p2.2 k hk).2]
