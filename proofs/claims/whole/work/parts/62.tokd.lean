/-! the class's tokens: what is asked of them -/
def rB {A B : Type} (r : rs A) (f : A → ts → rs B) : rs B := match r with
  | .inl e => .inl e
  | .inr (x, s) => f x s
theorem rB_r {A B : Type} {r : rs A} {x : A} {s : ts} (h : r = .inr (x, s)) (f : A → ts → rs B) : rB r f = f x s := by rw [h]; rfl
theorem rB_l {A B : Type} {r : rs A} {e : Nat × Nat} (h : r = .inl e) (f : A → ts → rs B) : rB r f = .inl e := by rw [h]; rfl
theorem rB_inv {A B : Type} {r : rs A} {f : A → ts → rs B} {y : B} {t : ts} (h : rB r f = .inr (y, t)) : ∃ x s, r = .inr (x, s) ∧ f x s = .inr (y, t) := by
  match r, h with
  | .inr (x, s), h => exact ⟨x, s, rfl, h⟩
def rTh {A B : Type} (r : rs A) (f : ts → rs B) : rs A := rB r (fun x s => rB (f s) (fun _ s' => .inr (x, s')))
def rPr {A B : Type} (r : rs A) (f : ts → rs B) : rs (A × B) := rB r (fun x s => rB (f s) (fun y s' => .inr ((x, y), s')))
def tkG {A : Type} (M : pm) (T : Nat → Nat) (n : Nat) (r : rs A) : Prop := match r with
  | .inl e => tkS M e
  | .inr (_, s) => tkC M T n s
theorem tkC_c {M M' : pm} {T : Nat → Nat} {n : Nat} {s : ts} (e4 : mI M' 4 = mI M 4) (e6 : mI M' 6 = mI M 6) (e7 : mI M' 7 = mI M 7) (er : mR M' 6 1 = mR M 6 1) (h : tkC M T n s) : tkC M' T n s := by
  obtain ⟨h1, h2, h3, h4, h5, h6, h7, h8⟩ := h
  unfold tkC
  rw [e6]
  exact ⟨txC_c e4 e7 er (by rw [e6]) h1, h2, h3, h4, h5, h6, h7, h8⟩
theorem tkS_c {M M' : pm} {e : Nat × Nat} (e6 : mI M' 6 = mI M 6) (h : tkS M e) : tkS M' e := by
  unfold tkS at h ⊢
  rw [e6]; exact h
theorem tkG_c {A : Type} {M M' : pm} {T : Nat → Nat} {n : Nat} {r : rs A} (e4 : mI M' 4 = mI M 4) (e6 : mI M' 6 = mI M 6) (e7 : mI M' 7 = mI M 7) (er : mR M' 6 1 = mR M 6 1) (h : tkG M T n r) : tkG M' T n r := by
  match r, h with
  | .inl e, h => exact tkS_c e6 h
  | .inr (x, s), h => exact tkC_c e4 e6 e7 er h
theorem tkG_f {A : Type} {B : Nat → Nat → Prop} {M M' : pm} {T : Nat → Nat} {n : Nat} {r : rs A} (f : fG B M M') (a4 : ∀ k, ¬ B 4 k) (a6 : ∀ k, ¬ B 6 k) (a7 : ∀ k, ¬ B 7 k) (h : tkG M T n r) : tkG M' T n r := tkG_c (f.row a4) (f.row a6) (f.row a7) (by rw [f.2.1]) h
theorem c_take {M : pm} {T : Nat → Nat} {n : Nat} {s : ts} (h : tkC M T n s) {Q : pm → Prop} (k : ∀ M', fG fT M M' → tkC M' T n (tX T n s) → Q M') : w_X6_take M Q := by
  obtain ⟨h1, h2, h3, h4, h5, h6, h7, h8⟩ := h
  have := tK_le T n s
  exact c_take0 h1 (tE_le h2) (by omega) h3 h5 h7 h8 k
theorem c_takeS {M : pm} {e : Nat × Nat} (h : tkS M e) {Q : pm → Prop} (k : Q M) : w_X6_take M Q := ⟨fun q => absurd h.1 q, fun _ => k⟩
theorem c_fail {M : pm} (h : mI M 6 7 = 0) (a b : Nat) {x y : Int32} (hx : x = nI a) (hy : y = nI b) (h1 : 1 ≤ a) (h2 : a < 6) {Q : pm → Prop} (k : ∀ M', fG fT M M' → tkS M' (a, b) → Q M') : w_X6_fail x y M Q := by
  refine k_yes' h (k _ ((((fG.rf M).up ⟨rfl, by decide⟩ _).up ⟨rfl, by decide⟩ _).up ⟨rfl, by decide⟩ _) ⟨rIs _ _ _ _, ?_, ?_, h1, h2⟩)
  · rw [rI (by omega), rI (by omega), rIs, hx]
  · rw [rI (by omega), rIs, hy]
theorem c_failS {M : pm} {e : Nat × Nat} (h : tkS M e) {x y : Int32} {Q : pm → Prop} (k : ∀ M', fG fT M M' → tkS M' e → Q M') : w_X6_fail x y M Q := by
  refine k_no' (by rw [h.2.1]; exact nI_ne0 (by have := h.2.2.2; omega) (by have := h.2.2.2; omega)) (k _ ((fG.rf M).up ⟨rfl, by decide⟩ _) ⟨rIs _ _ _ _, ?_, ?_, h.2.2.2⟩)
  · rw [rI (by omega)]; exact h.2.1
  · rw [rI (by omega)]; exact h.2.2.1
theorem nmC {M : pm} {T : Nat → Nat} {n : Nat} {s : ts} (h : tkC M T n s) (h1 : tK T n s = 1) (h6 : (tW T n s).length ≤ 6) {w : Nat} (hw : w < 34) : mI M 7 w = mI M 6 6 ↔ kwN T n s = w := by
  rw [h.2.2.2.2.2.1 h6, h.1.2.2.2.2 w hw, kwN_eq hw]
  have a := wd_ok w hw
  have l1 := pkN_lt (wdA w) a.2.2.2
  have l2 := pkN_lt (tW T n s) tW_in
  have p1 : 32 ^ (wdA w).length ≤ 32 ^ 6 := Nat.pow_le_pow_right (by decide) a.2.2.1
  have p2 : 32 ^ (tW T n s).length ≤ 32 ^ 6 := Nat.pow_le_pow_right (by decide) h6
  have p3 : 32 ^ 6 = 2 ^ 30 := by decide
  rw [nI_eq (by omega) (by omega)]
  exact ⟨fun e => (pkN_inj a.2.2.2 tW_in e).symm, fun e => by rw [e]⟩
theorem spC {M : pm} {T : Nat → Nat} {n : Nat} {s : ts} (h : tkC M T n s) : mI M 6 5 - mI M 6 4 = nI (tE T n s - sk T n s.1) ∧ tE T n s ≤ 1600 := by
  have h1 := tE_le (T := T) h.2.1
  have h2 := h.1.2.1
  have h3 : sk T n s.1 ≤ tE T n s := by
    by_cases q : tK T n s = 5
    · rw [tE_5 q]; exact Nat.le_refl _
    · exact Nat.le_of_lt (tE_gt q)
  rw [h.2.2.2.1, h.2.2.2.2.1, pk_sub h3]
  exact ⟨rfl, by omega⟩
theorem c_isWord {M : pm} {T : Nat → Nat} {n : Nat} {s : ts} (h : tkC M T n s) (w : Nat) (hw : w < 34) {Q : Int32 → pm → Prop} (k1 : kwN T n s = w → Q 1 M) (k0 : kwN T n s ≠ w → Q 0 M) : w_X6_isWord (nI w) M Q := by
  have hk := tK_le T n s
  have hs := spC h
  unfold w_X6_isWord
  rw [h.2.2.1, hs.1, nI_clamp (by omega)]
  refine pk_ne (tK T n s) 1 (fun q => k0 (fun z => q (kwN_1 (by omega)).1)) (fun q => pk_lt 6 (tE T n s - sk T n s.1) (fun q2 => k0 (fun z => absurd (kwN_1 (T := T) (n := n) (s := s) (by omega)).2 (by omega))) (fun q2 => k_no (nI_pos (by omega)) (k_no (nI_ge (b := 34) hw (by decide)) ⟨vp_in_nI hw (by decide), ?_⟩)))
  rw [nmC h q (by rw [tW_len q]; exact q2) hw]
  exact ⟨fun z => k0 z, fun z => k1 z⟩
theorem c_isWordS {M : pm} {e : Nat × Nat} (h : tkS M e) {x : Int32} {Q : Int32 → pm → Prop} (k : Q 0 M) : w_X6_isWord x M Q := by
  unfold w_X6_isWord
  rw [h.1]
  exact k_no' (by decide) k
theorem c_known {M : pm} {T : Nat → Nat} {n : Nat} {s : ts} (h : tkC M T n s) {Q : Int32 → pm → Prop} (k1 : kwN T n s < 34 → Q (nI (kwN T n s)) M) (k0 : kwN T n s = 34 → Q (-1) M) : w_X6_knownWord M Q := by
  have hk := tK_le T n s
  have hs := spC h
  unfold w_X6_knownWord
  rw [h.2.2.1, hs.1]
  refine pk_ne (tK T n s) 1 (fun q => k0 (kwN_no q)) (fun q => pk_lt 6 (tE T n s - sk T n s.1) (fun q2 => k0 ?_) (fun q2 => ?_))
  · have h1 := kwN_le T n s
    rcases Nat.lt_or_ge (kwN T n s) 34 with z | z
    · exact absurd (kwN_1 z).2 (by omega)
    · omega
  · have key : ∀ d m w, w + d = 34 → d < m → (∀ v, v < w → kwN T n s ≠ v) → w_X6_knownWord_24 m (nI w) M Q := by
      intro d
      induction d with
      | zero =>
        intro m w hd hm hv
        obtain ⟨m, rfl⟩ : ∃ m', m = m' + 1 := ⟨m - 1, by omega⟩
        unfold w_X6_knownWord_24
        refine k_yes (nI_le (a := 34) (by omega) (by omega)) (k0 ?_)
        have h1 := kwN_le T n s
        rcases Nat.lt_or_ge (kwN T n s) 34 with z | z
        · exact absurd rfl (hv _ (by omega))
        · omega
      | succ d ih =>
        intro m w hd hm hv
        obtain ⟨m, rfl⟩ : ∃ m', m = m' + 1 := ⟨m - 1, by omega⟩
        unfold w_X6_knownWord_24
        rw [nI_clamp (by omega), nmC h q (by rw [tW_len q]; exact q2) (by omega), nI_1]
        refine k_no (nI_ge (b := 34) (by omega) (by decide)) ⟨vp_in_nI (by omega) (by decide), fun z => ih m (w + 1) (by omega) (by omega) (fun v hv2 => ?_), fun z => ?_⟩
        · by_cases e : v = w
          · rw [e]; exact z
          · exact hv v (by omega)
        · rw [z] at k1; exact k1 (by omega)
    exact ⟨35, key 34 35 0 (by omega) (by omega) (fun v hv => absurd hv (Nat.not_lt_zero _))⟩
theorem c_knownS {M : pm} {e : Nat × Nat} (h : tkS M e) {Q : Int32 → pm → Prop} (k : Q (-1) M) : w_X6_knownWord M Q := by
  unfold w_X6_knownWord
  rw [h.1]
  exact k_no' (by decide) k
theorem sb_c : ∀ b, b < 256 → ∀ c, c < 128 → (sb b = nI c ↔ b = c) := by
  intro b hb c hc
  unfold sb
  split
  · rw [nI_eq (by omega) (by omega)]
  · constructor
    · intro e
      have := congrArg Int32.toInt e
      rw [show nI b - 256 = nI b - nI 256 from rfl, pk_sub_toInt (by omega) (by decide), nI_toInt (by omega)] at this
      omega
    · intro e; omega
theorem c_isSign {M : pm} {T : Nat → Nat} {n : Nat} {s : ts} (h : tkC M T n s) (c : Nat) (h0 : 0 < c) (hc : c < 128) {Q : Int32 → pm → Prop} (k1 : tS T n s = c → Q 1 M) (k0 : tS T n s ≠ c → Q 0 M) : w_X6_isSign (nI c) M Q := by
  have hk := tK_le T n s
  have h16 := h.1.2.1
  have hs := sk_le (T := T) h.2.1
  unfold w_X6_isSign
  rw [h.2.2.1, h.2.2.2.1, h.1.2.2.2.1, h.1.2.2.1, lay4, nI_clamp (by omega)]
  refine pk_ne (tK T n s) 3 (fun q => k0 (fun z => q (tS_k h0 z).1)) (fun q => k_no (nI_pos (by omega)) ?_)
  have hl := (tK_3 q).1
  obtain ⟨hb, ht⟩ := h.1.1 (sk T n s.1) (by omega)
  refine k_no (nI_ge hl (by omega)) ⟨vp_in_nI (by omega) (by decide), ?_⟩
  rw [ht, sb_c _ hb c hc]
  have e : tS T n s = T (sk T n s.1) := by unfold tS; rw [if_pos q]
  rw [e] at k1 k0
  exact ⟨fun z => k0 z, fun z => k1 z⟩
theorem c_isSignS {M : pm} {e : Nat × Nat} (h : tkS M e) {x : Int32} {Q : Int32 → pm → Prop} (k : Q 0 M) : w_X6_isSign x M Q := by
  unfold w_X6_isSign
  rw [h.1]
  exact k_no' (by decide) k
theorem c_needSign {A : Type} {M : pm} {T : Nat → Nat} {n : Nat} {r : rs A} (h : tkG M T n r) (c : Nat) (h0 : 0 < c) (hc : c < 128) {Q : pm → Prop} (k : ∀ M', fG fT M M' → tkG M' T n (rTh r (rSgn T n c)) → Q M') : w_X6_needSign (nI c) M Q := by
  match r, h, k with
  | .inl e, h, k => exact c_isSignS h (k_yes rfl (c_failS h (fun M1 f1 t1 => k M1 f1 t1)))
  | .inr (x, s), h, k =>
    have h : tkC M T n s := h
    refine c_isSign h c h0 hc (fun q => k_no (by decide) (c_take h (fun M1 f1 t1 => k M1 f1 ?_))) (fun q => k_yes rfl (c_fail h.2.2.2.2.2.2.1 1 (sk T n s.1) rfl h.2.2.2.1 (by decide) (by decide) (fun M1 f1 t1 => k M1 f1 ?_)))
    · show tkG M1 T n (rB (rSgn T n c s) _)
      unfold rSgn
      rw [if_pos q]; exact t1
    · show tkG M1 T n (rB (rSgn T n c s) _)
      unfold rSgn
      rw [if_neg q]; exact t1
theorem c_needWord {A : Type} {M : pm} {T : Nat → Nat} {n : Nat} {r : rs A} (h : tkG M T n r) (w : Nat) (hw : w < 34) {Q : pm → Prop} (k : ∀ M', fG fT M M' → tkG M' T n (rTh r (rWrd T n w)) → Q M') : w_X6_needWord (nI w) M Q := by
  match r, h, k with
  | .inl e, h, k => exact c_isWordS h (k_yes rfl (c_failS h (fun M1 f1 t1 => k M1 f1 t1)))
  | .inr (x, s), h, k =>
    have h : tkC M T n s := h
    refine c_isWord h w hw (fun q => k_no (by decide) (c_take h (fun M1 f1 t1 => k M1 f1 ?_))) (fun q => k_yes rfl (c_fail h.2.2.2.2.2.2.1 1 (sk T n s.1) rfl h.2.2.2.1 (by decide) (by decide) (fun M1 f1 t1 => k M1 f1 ?_)))
    · show tkG M1 T n (rB (rWrd T n w s) _)
      unfold rWrd
      rw [if_pos q]; exact t1
    · show tkG M1 T n (rB (rWrd T n w s) _)
      unfold rWrd
      rw [if_neg q]; exact t1
theorem nv_in {T : Nat → Nat} {n : Nat} {s : ts} (h : tK T n s = 2) {d : Nat} (hd : sk T n s.1 + d ≤ tE T n s) : nvA T (sk T n s.1) d < 10 ^ d := nvA_lt (fun i hi => by
  have h1 := (tE_2 h).1
  unfold dE at h1
  exact rn_in (f := fun k => isG (T k)) (n := n) (p := sk T n s.1) (Nat.le_add_right _ _) (by omega))
theorem nv_g {T : Nat → Nat} {n : Nat} {s : ts} (h : tK T n s = 2) {j : Nat} (h1 : sk T n s.1 ≤ j) (h2 : j < tE T n s) : isG (T j) = true := by
  have h3 := (tE_2 h).1
  unfold dE at h3
  exact rn_in (f := fun k => isG (T k)) (n := n) (p := sk T n s.1) h1 (by omega)
theorem c_num0 {M : pm} {T : Nat → Nat} {n : Nat} {s : ts} (h : tkC M T n s) (lo hi : Nat) (hlo : lo < 2 ^ 31) (hhi : hi < 2 ^ 31) {Q : Int32 → pm → Prop} (k1 : ∀ x s', rNum T n lo hi s = .inr (x, s') → ∀ M', fG fT M M' → tkC M' T n s' → Q (nI x) M') (k0 : ∀ e, rNum T n lo hi s = .inl e → ∀ M' v, fG fT M M' → tkS M' e → Q v M') : w_X6_needNumber (nI lo) (nI hi) M Q := by
  have hk := tK_le T n s
  have hs := spC h
  have h16 := h.1.2.1
  have hq := sk_le (T := T) h.2.1
  have hz := h.2.2.2.2.2.2.1
  unfold w_X6_needNumber
  rw [h.2.2.1, h.2.2.2.1]
  refine pk_eq (tK T n s) 2 (fun q => ?_) (fun q => c_fail hz 1 (sk T n s.1) rfl rfl (by decide) (by decide) (fun M1 f1 t1 => k0 _ (by unfold rNum; rw [if_neg q]) M1 _ f1 t1))
  have he := (tE_2 q).2
  have fin : ∀ v, (tE T n s - sk T n s.1 ≤ 4 → v = nI (nvA T (sk T n s.1) (tE T n s - sk T n s.1))) → w_X6_needNumber_78 (nI lo) (nI hi) v M Q := by
    intro v hv
    unfold w_X6_needNumber_78
    rw [hs.1, h.2.2.2.1]
    refine pk_le (tE T n s - sk T n s.1) 4 (fun q4 => ?_) (fun q4 => c_fail hz 1 (sk T n s.1 + 4) rfl (nI_add _ 4) (by decide) (by decide) (fun M1 f1 t1 => k0 _ (by unfold rNum; rw [if_pos q, if_pos q4]) M1 _ f1 t1))
    have hn := nv_in q (d := tE T n s - sk T n s.1) (by omega)
    have hp : 10 ^ (tE T n s - sk T n s.1) ≤ 10 ^ 4 := Nat.pow_le_pow_right (by decide) q4
    rw [hv q4]
    have e2 : (nvA T (sk T n s.1) (tE T n s - sk T n s.1) < lo ∨ hi < nvA T (sk T n s.1) (tE T n s - sk T n s.1)) → rNum T n lo hi s = .inl (2, sk T n s.1) := fun z => by unfold rNum; rw [if_pos q, if_neg (by omega), if_pos z]
    refine pk_lt (nvA T (sk T n s.1) (tE T n s - sk T n s.1)) lo (fun z => c_fail hz 2 (sk T n s.1) rfl rfl (by decide) (by decide) (fun M1 f1 t1 => k0 _ (e2 (Or.inl z)) M1 _ f1 t1)) (fun z => pk_le (nvA T (sk T n s.1) (tE T n s - sk T n s.1)) hi (fun z2 => c_take h (fun M1 f1 t1 => k1 _ _ (by unfold rNum; rw [if_pos q, if_neg (by omega), if_neg (by omega)]) M1 f1 t1)) (fun z2 => c_fail hz 2 (sk T n s.1) rfl rfl (by decide) (by decide) (fun M1 f1 t1 => k0 _ (e2 (Or.inr z2)) M1 _ f1 t1)))
  have key : ∀ d m j, j + d = 4 → d < m → sk T n s.1 + j ≤ tE T n s → w_X6_needNumber_27 m (nI lo) (nI hi) (nI (nvA T (sk T n s.1) j)) (nI (sk T n s.1 + j)) M (fun x1 x2 x3 M3 => w_X6_needNumber_78 x1 x2 x3 M3 Q) Q := by
    intro d
    induction d with
    | zero =>
      intro m j hj hm hje
      obtain ⟨m, rfl⟩ : ∃ m', m = m' + 1 := ⟨m - 1, by omega⟩
      have fn := fin (nI (nvA T (sk T n s.1) j)) (fun z => by rw [show tE T n s - sk T n s.1 = j from by omega])
      unfold w_X6_needNumber_27
      rw [h.2.2.2.1, h.2.2.2.2.1, h.1.2.2.2.1]
      refine ⟨fun _ => fn, fun _ => ⟨fun _ => fn, fun _ => k_yes ?_ fn⟩⟩
      rw [show nI (sk T n s.1) + 4 = nI (sk T n s.1 + 4) from nI_add _ 4]
      exact nI_le (by omega) (by omega)
    | succ d ih =>
      intro m j hj hm hje
      obtain ⟨m, rfl⟩ : ∃ m', m = m' + 1 := ⟨m - 1, by omega⟩
      by_cases z : sk T n s.1 + j = tE T n s
      · have fn := fin (nI (nvA T (sk T n s.1) j)) (fun _ => by rw [show tE T n s - sk T n s.1 = j from by omega])
        unfold w_X6_needNumber_27
        rw [h.2.2.2.2.1]
        exact k_yes (nI_le (by omega) (by omega)) fn
      · obtain ⟨hb, ht⟩ := h.1.1 (sk T n s.1 + j) (by omega)
        have hg := isG_r (nv_g q (j := sk T n s.1 + j) (by omega) (by omega))
        have hte := tE_le (T := T) h.2.1
        have g := ih m (j + 1) (by omega) (by omega) (by omega)
        unfold w_X6_needNumber_27
        rw [h.2.2.2.1, h.2.2.2.2.1, h.1.2.2.2.1, h.1.2.2.1, lay4, nI_clamp (by omega), ht, sb_v (by omega), show nI (sk T n s.1) + 4 = nI (sk T n s.1 + 4) from nI_add _ 4, show (10 : Int32) * nI (nvA T (sk T n s.1) j) = nI (10 * nvA T (sk T n s.1) j) from pk_mul 10 _, nI_add, show nI (10 * nvA T (sk T n s.1) j + T (sk T n s.1 + j)) - 48 = nI (10 * nvA T (sk T n s.1) j + T (sk T n s.1 + j) - 48) from pk_sub (b := 48) (by omega), nI_1]
        refine k_no (nI_ge (by omega) (by omega)) (k_no (nI_ge (by omega) (by omega)) (k_no (nI_ge (by omega) (by omega)) ⟨vp_in_nI (by omega) (by decide), ?_⟩))
        rw [show 10 * nvA T (sk T n s.1) j + T (sk T n s.1 + j) - 48 = nvA T (sk T n s.1) (j + 1) from by
          show _ = 10 * nvA T (sk T n s.1) j + (T (sk T n s.1 + j) - 48)
          omega]
        exact g
  exact ⟨5, key 4 5 0 (by omega) (by omega) (by omega)⟩
theorem c_needNum {A : Type} {M : pm} {T : Nat → Nat} {n : Nat} {r : rs A} (h : tkG M T n r) (lo hi : Nat) (hlo : lo < 2 ^ 31) (hhi : hi < 2 ^ 31) {Q : Int32 → pm → Prop} (k : ∀ M' v, fG fT M M' → tkG M' T n (rPr r (rNum T n lo hi)) → (∀ x s, rPr r (rNum T n lo hi) = .inr (x, s) → v = nI x.2) → Q v M') : w_X6_needNumber (nI lo) (nI hi) M Q := by
  match r, h, k with
  | .inl e, h, k =>
    have h : tkS M e := h
    unfold w_X6_needNumber
    rw [h.1]
    exact k_no (by decide) (c_failS h (fun M1 f1 t1 => k M1 _ f1 t1 (fun x s q => by cases q)))
  | .inr (x, s), h, k =>
    refine c_num0 h lo hi hlo hhi (fun y s' q M' f' t' => k M' _ f' ?_ (fun z s2 q2 => ?_)) (fun e q M' v f' t' => k M' v f' ?_ (fun z s2 q2 => ?_))
    · show tkG M' T n (rB (rNum T n lo hi s) _)
      rw [q]; exact t'
    · have q2 : rB (rNum T n lo hi s) _ = _ := q2
      rw [q] at q2
      cases q2; rfl
    · show tkG M' T n (rB (rNum T n lo hi s) _)
      rw [q]; exact t'
    · have q2 : rB (rNum T n lo hi s) _ = _ := q2
      rw [q] at q2
      cases q2
theorem c_stands {M : pm} {T : Nat → Nat} {n : Nat} {s : ts} (h : tkC M T n s) {Q : Int32 → pm → Prop} (k1 : rNam T n s = .inr (tW T n s, tX T n s) → Q 1 M) (k0 : ∀ e, rNam T n s = .inl e → ∀ M', fG fT M M' → tkS M' e → Q 0 M') : w_X6_standsName M Q := by
  have hk := tK_le T n s
  have hs := spC h
  have hz := h.2.2.2.2.2.2.1
  have l23 : ¬ (tK T n s = 1 ∧ 28 ≤ kwN T n s) → w_X6_standsName_23 M Q := fun q => by
    refine c_fail hz 1 (sk T n s.1) rfl h.2.2.2.1 (by decide) (by decide) (fun M1 f1 t1 => k_no' (by rw [t1.1]; decide) (k0 _ (by unfold rNam; rw [if_neg q]) M1 f1 t1))
  have l35 : tK T n s = 1 ∧ 28 ≤ kwN T n s → w_X6_standsName_35 M Q := fun q => by
    unfold w_X6_standsName_35
    rw [hs.1, h.2.2.1, h.2.2.2.1]
    refine pk_le (tE T n s - sk T n s.1) 6 (fun q6 => k_yes' (by rw [q.1]; rfl) (k1 (by unfold rNam; rw [if_pos q, if_neg (by omega)]))) (fun q6 => c_fail hz 1 (sk T n s.1 + 6) rfl (nI_add _ 6) (by decide) (by decide) (fun M1 f1 t1 => k_no' (by rw [t1.1]; decide) (k0 _ (by unfold rNam; rw [if_pos q, if_pos q6]) M1 f1 t1)))
  refine c_known h (fun q => ?_) (fun q => ?_)
  · have h1 := (kwN_1 q).1
    rw [h.2.2.1]
    refine k_yes' (by rw [h1]; rfl) (k_no (nI_pos (by omega)) (pk_le 28 (kwN T n s) (fun z => l35 ⟨h1, z⟩) (fun z => l23 (fun y => by omega))))
  · rw [h.2.2.1]
    exact pk_ne (tK T n s) 1 (fun z => l23 (fun y => z y.1)) (fun z => k_yes (by decide) (l35 ⟨z, by omega⟩))
theorem c_standsS {M : pm} {e : Nat × Nat} (h : tkS M e) {Q : Int32 → pm → Prop} (k : ∀ M', fG fT M M' → tkS M' e → Q 0 M') : w_X6_standsName M Q := by
  refine c_knownS h ?_
  rw [h.1]
  exact k_no' (by decide) (c_failS h (fun M1 f1 t1 => k_no' (by rw [t1.1]; decide) (k M1 f1 t1)))
