/-! the class reads a station: all of it -/
theorem sLp_ok {T : Nat → Nat} {n : Nat} : ∀ (d k : Nat) (σ : sg) (s : ts) (k' : Nat) (σ' : sg) (s' : ts), s.1 ≤ n → okG σ → sLp T n d k σ s = .inr ((k', σ'), s') → k ≤ k' ∧ k' ≤ k + d ∧ okG σ' ∧ σ'.1.1 = σ.1.1 ∧ s'.1 ≤ n ∧ tK T n s' = 5
  | 0, k, σ, s, k', σ', s', hn, ho, h => by
    unfold sLp at h
    split at h
    · rename_i q
      cases h
      exact ⟨Nat.le_refl _, Nat.le_refl _, ho, rfl, hn, q⟩
    · cases h
  | d + 1, k, σ, s, k', σ', s', hn, ho, h => by
    unfold sLp at h
    split at h
    · rename_i q
      cases h
      exact ⟨Nat.le_refl _, by omega, ho, rfl, hn, q⟩
    · obtain ⟨σ1, s1, h1, h2⟩ := rB_inv h
      have a := stm_ok hn ho h1
      have b := sLp_ok d (k + 1) σ1 s1 k' σ' s' a.2.2.1 a.1 h2
      exact ⟨by omega, by omega, b.2.2.1, by rw [b.2.2.2.1, a.2.2.2], b.2.2.2.2⟩
theorem sWh_ok {T : Nat → Nat} {n k' : Nat} {σ' : sg} {s' : ts} (h : sWh T n = .inr ((k', σ'), s')) : 1 ≤ k' ∧ k' ≤ 80 ∧ okG σ' ∧ 1 ≤ σ'.1.1 ∧ σ'.1.1 ≤ 60 ∧ s'.1 ≤ n ∧ tK T n s' = 5 := by
  obtain ⟨σ1, s1, h1, h2⟩ := rB_inv h
  have a := hst_ok (s := (0, false)) (Nat.zero_le n) h1
  have b := sLp_ok 79 1 σ1 s1 k' σ' s' a.2.2.1 a.1 h2
  exact ⟨b.1, by omega, b.2.2.1, by rw [b.2.2.2.1]; exact a.2.2.2.1, by rw [b.2.2.2.1]; exact a.2.2.2.2.1, b.2.2.2.2⟩
def cQ3 (M : pm) (T : Nat → Nat) (n t : Nat) (r : rs (Nat × sg)) (M' : pm) : Prop := fG (fC t) M M' ∧ tkG M' T n r ∧ (∀ k σ' s', r = .inr ((k, σ'), s') → ∃ L', L' + 7 ≤ s'.1 ∧ cSt M' t k σ' L') ∧ cSy M' t
theorem c_29S {M : pm} {e : Nat × Nat} (h : tkS M e) {t m : Nat} (hm : 1 ≤ m) {x : Int32} {K : Nat → pm → Prop} {Q : pm → Prop} (k : K t M) : w_X3_readStation_29 m t x M K Q := by
  obtain ⟨m, rfl⟩ : ∃ m', m = m' + 1 := ⟨m - 1, by omega⟩
  unfold w_X3_readStation_29 w_X6_goesOn
  refine ⟨fun _ => k, fun _ => ?_⟩
  rw [h.1]
  exact k_no (by decide) (k_yes rfl (k_yes rfl k))
theorem c_lpSt {T : Nat → Nat} {n t : Nat} {M0 : pm} {K : Nat → pm → Prop} {Q : pm → Prop} : ∀ (d m i : Nat) (M : pm) (σ : sg) (s : ts) (L : Nat), i + d = 80 → d + 2 ≤ m → 1 ≤ i → tkC M T n s → cSt M t i σ L → L + 7 ≤ s.1 → fG (fC t) M0 M → (∀ M', cQ3 M0 T n t (sLp T n d i σ s) M' → K t M') → w_X3_readStation_29 m t (nI i) M K Q := by
  intro d
  induction d with
  | zero =>
    intro m i M σ s L hi hm hi1 ht h hL f k
    obtain ⟨m, rfl⟩ : ∃ m', m = m' + 1 := ⟨m - 1, by omega⟩
    have hk := tK_le T n s
    have e80 : i = 80 := by omega
    unfold w_X3_readStation_29 w_X6_goesOn
    rw [ht.2.2.1]
    refine k_no (nI_nlt (a := 80) (by omega) (by decide)) (pk_eq (tK T n s) 5 (fun q => k_yes rfl (k M ⟨f, ?_, fun k' σ' s' z => ?_, cSy_x (cSx_of h)⟩)) (fun q => k_no (fun z => absurd ((nI_eq (b := 6) (by omega) (by decide)).mp z) (by omega)) (k_no (by decide) (k_yes' (by rw [e80]; rfl) (c_fail ht.2.2.2.2.2.2.1 5 (sk T n s.1) rfl ht.2.2.2.1 (by decide) (by decide) (fun M1 f1 t1 => c_29S t1 (by omega) (k M1 ⟨f.tr (fC_T f1), ?_, fun k' σ' s' z => ?_, cSy_x (cSx_T f1 (cSx_of h))⟩)))))))
    · unfold sLp; rw [if_pos q]; exact ht
    · unfold sLp at z; rw [if_pos q] at z; cases z; exact ⟨L, hL, h⟩
    · unfold sLp; rw [if_neg q]; exact t1
    · unfold sLp at z; rw [if_neg q] at z; cases z
  | succ d ih =>
    intro m i M σ s L hi hm hi1 ht h hL f k
    obtain ⟨m, rfl⟩ : ∃ m', m = m' + 1 := ⟨m - 1, by omega⟩
    have hk := tK_le T n s
    unfold w_X3_readStation_29 w_X6_goesOn
    rw [ht.2.2.1]
    refine k_no (nI_nlt (a := 80) (by omega) (by decide)) (pk_eq (tK T n s) 5 (fun q => k_yes rfl (k M ⟨f, ?_, fun k' σ' s' z => ?_, cSy_x (cSx_of h)⟩)) (fun q => k_no (fun z => absurd ((nI_eq (b := 6) (by omega) (by decide)).mp z) (by omega)) (k_no (by decide) (k_no' (fun z => absurd ((nI_eq (b := 80) (by omega) (by decide)).mp z) (by omega)) (c_stm hi1 (by omega) ht h hL (fun M1 c1 => ?_))))))
    · unfold sLp; rw [if_pos q]; exact ht
    · unfold sLp at z; rw [if_pos q] at z; cases z; exact ⟨L, hL, h⟩
    · obtain ⟨c1, c2, c3, c4⟩ := c1
      have e : sLp T n (d + 1) i σ s = rB (stm T n σ s) (fun σ' s' => sLp T n d (i + 1) σ' s') := by
        show (if tK T n s = 5 then _ else _) = _
        rw [if_neg q]
      rw [nI_1]
      cases hr : stm T n σ s with
      | inl e1 =>
        rw [hr] at c2 e
        have e : sLp T n (d + 1) i σ s = .inl e1 := e
        exact c_29S c2 (by omega) (k M1 ⟨f.tr c1, by rw [e]; exact c2, fun k' σ' s' z => (by rw [e] at z; cases z), c4⟩)
      | inr x =>
        obtain ⟨σ1, s1⟩ := x
        obtain ⟨L1, l1, l2⟩ := c3 σ1 s1 hr
        rw [hr] at c2 e
        have e : sLp T n (d + 1) i σ s = sLp T n d (i + 1) σ1 s1 := e
        exact ih m (i + 1) M1 σ1 s1 L1 (by omega) (by omega) (by omega) c2 l2 l1 (f.tr c1) (fun M' c' => k M' (by rw [e]; exact c'))
/-! what isn't told -/
def adA (pa : Nat) : List Nat → pm → (pm → Prop) → Prop
  | [], M, Q => Q M
  | c :: l, M, Q => w_X2_add pa (clc c) M (fun M1 => adA pa l M1 Q)
theorem c_adA {pa : Nat} : ∀ (l : List Nat) (M : pm) (L : Nat) (Q : pm → Prop), oPC M pa L → L + l.length ≤ 1600 → (∀ M', fG (fR pa) M M' → mI M' 6 = mI M 6 → pD M M' pa L l → Q M') → adA pa l M Q
  | [], M, L, Q, h, hL, k => k M (fG.rf M) rfl (pD_nil h)
  | c :: l, M, L, Q, h, hL, k => by
    rw [List.length_cons] at hL
    refine c_add0 h (by omega) rfl (fun M1 f1 e1 d1 => c_adA l M1 (L + 1) Q d1.1 (by omega) (fun M2 f2 e2 d2 => k M2 (f1.tr f2) (e2.trans e1) ?_))
    exact pD_app (c := [c]) d1 d2
theorem c_adX {pa : Nat} : ∀ (l : List Nat) (M : pm) (Q : pm → Prop), (∃ L, oPC M pa L) → (∀ M', fG (fR pa) M M' → mI M' 6 = mI M 6 → (∃ L, oPC M' pa L) → Q M') → adA pa l M Q
  | [], M, Q, h, k => k M (fG.rf M) rfl h
  | c :: l, M, Q, ⟨L, h⟩, k => c_addS h (fun M1 f1 e1 o1 => c_adX l M1 Q o1 (fun M2 f2 e2 o2 => k M2 (f1.tr f2) (e2.trans e1) o2))
def dfO (p : Nat) (σ : sg) : sg := (σ.1, σ.2.1, σ.2.2.1, σ.2.2.2.1, fun q => if q = p then some ((σ.2.2.2.2 p).getD (dfl p)) else σ.2.2.2.2 q)
theorem okP_d : ∀ p, p < 3 → okP p (dfl p) := by
  intro p hp
  rcases (show p = 0 ∨ p = 1 ∨ p = 2 from by omega) with rfl | rfl | rfl
  · exact ⟨by decide, by decide⟩
  · exact ⟨by decide, by decide⟩
  · exact ⟨by decide, by decide⟩
theorem dfO_ok {p : Nat} (hp : p < 3) {σ : sg} (ho : okG σ) : okG (dfO p σ) := by
  obtain ⟨o1, o2, o3, o4, o5, o6⟩ := ho
  refine ⟨o1, o2, o3, o4, o5, fun q os hq e => ?_⟩
  have e : (if q = p then some ((σ.2.2.2.2 p).getD (dfl p)) else σ.2.2.2.2 q) = some os := e
  split at e
  · rename_i z
    subst z
    cases e
    cases hP : σ.2.2.2.2 q with
    | none => exact okP_d q hp
    | some os => exact o6 q os hp hP
  · exact o6 q os hq e
theorem c_dfp {M : pm} {t k p : Nat} (hp : p < 3) {σ : sg} {L : Nat} (h : cSt M t k σ L) (hL : L + (dfl p).length ≤ 1600) {R : pm → Prop} (kk : ∀ M', fG (fC t) M M' → mI M' 6 = mI M 6 → (∃ L', L' ≤ L + (dfl p).length ∧ cSt M' t k (dfO p σ) L') → R M') : w_X2_hasPart (t + 10) (nI p) M (fun y M2 => ((¬ y = 0 → (R M2)) ∧ (y = 0 → (w_X2_beginPart (t + 10) (nI p) M2 (fun M3 => adA (t + 10) (dfl p) M3 (fun M4 => w_X2_endPart (t + 10) (nI p) M4 R)))))) := by
  obtain ⟨h1, h2, h3, h4, h5, h6, h7, h8⟩ := id h
  have tt := h1
  unfold tOk at tt
  refine k_no (nI_pos (by omega)) (k_no (nI_ge (b := 3) hp (by decide)) ⟨vp_in_nI hp (by decide), ?_⟩)
  rw [nI_clamp (by omega)]
  have h8p := h8 p hp
  cases hP : σ.2.2.2.2 p with
  | some os =>
    rw [hP] at h8p
    have g1 : mI M (t + 10 + 4) p = 1 := h8p.1
    refine k_no (by rw [g1]; decide) (k_no' (by decide) (kk M (fG.rf M) rfl ⟨L, by omega, h1, h2, h3, h4, h5, h6, dfO_ok hp h7, fun q hq => ?_⟩))
    show cPt M t L q (if q = p then some ((σ.2.2.2.2 p).getD (dfl p)) else σ.2.2.2.2 q)
    by_cases e : q = p
    · subst e
      rw [if_pos rfl, hP]
      exact h8p
    · rw [if_neg e]; exact h8 q hq
  | none =>
    rw [hP] at h8p
    have g0 : mI M (t + 10 + 4) p = 0 := h8p
    refine k_yes g0 (k_yes' rfl (k_no (nI_pos (by omega)) (k_no (nI_ge (b := 3) hp (by decide)) ⟨vp_in_nI hp (by decide), vp_in_nI hp (by decide), vp_in_nI hp (by decide), ?_⟩)))
    rw [nI_clamp (by omega), nb1]
    have hl1 : mI (sI M (t + 10 + 4) p 1) (t + 10) 1 = nI L := by rw [rI (by omega)]; exact h5.2.2.1
    have hl2 : mI (sI (sI M (t + 10 + 4) p 1) (t + 10 + 2) p (nI L)) (t + 10) 1 = nI L := by rw [rI (by omega)]; exact hl1
    rw [hl1, hl2]
    generalize hM2 : sI (sI (sI M (t + 10 + 4) p 1) (t + 10 + 2) p (nI L)) (t + 10 + 3) p (nI L) = M2
    have f2 : fG (fC t) M M2 := by
      rw [← hM2]
      exact fCu (fCu (fCu (fG.rf M) (by omega) (by omega) _) (by omega) (by omega) _) (by omega) (by omega) _
    have row2 : ∀ a, a ≠ t + 12 → a ≠ t + 13 → a ≠ t + 14 → mI M2 a = mI M a := fun a b2 b3 b4 => by
      rw [← hM2, mI_off (by omega), mI_off (by omega), mI_off (by omega)]
    have o2 : oPC M2 (t + 10) L := ⟨by rw [f2.2.1]; exact h5.1, h5.2.1, by rw [row2 (t + 10) (by omega) (by omega) (by omega)]; exact h5.2.2.1, h5.2.2.2⟩
    refine c_adA (dfl p) M2 L _ o2 hL (fun M3 f3 e3 d3 => ?_)
    have row3 : ∀ a, a ≠ 6 → a ≠ t + 10 → a ≠ t + 11 → mI M3 a = mI M2 a := fun a b1 b2 b3 => f3.row (fun k => by unfold fR fT; omega)
    refine k_no (nI_pos (by omega)) (k_no (nI_ge (b := 3) hp (by decide)) ⟨vp_in_nI hp (by decide), ?_⟩)
    rw [nI_clamp (by omega), d3.1.2.2.1]
    refine kk _ (fCu (f2.tr (fC_R f3)) (by omega) (by omega) _) ?_ ⟨L + (dfl p).length, Nat.le_refl _, h1, h2, ?_, ?_, ⟨d3.1.1, d3.1.2.1, by rw [rI (by omega)]; exact d3.1.2.2.1, d3.1.2.2.2⟩, ?_, dfO_ok hp h7, fun q hq => ?_⟩
    · rw [mI_off (by omega), e3, row2 6 (by omega) (by omega) (by omega)]
    · have hd3 : ∀ j, mI (sI M3 (t + 10 + 3) p (nI (L + (dfl p).length))) t j = mI M t j := fun j => by
        rw [rI (by omega), row3 t (by omega) (by omega) (by omega), row2 t (by omega) (by omega) (by omega)]
      unfold cHd at h3 ⊢
      rw [hd3, hd3, hd3, hd3, hd3, hd3, hd3]
      exact h3
    · exact cRw_c (σ := σ) (fun a b1 b2 => by rw [mI_off (by omega), row3 a (by omega) (by omega) (by omega), row2 a (by omega) (by omega) (by omega)]) h4
    · rw [rI (by omega), row3 5 (by omega) (by omega) (by omega), row2 5 (by omega) (by omega) (by omega)]; exact h6
    · show cPt _ t _ q (if q = p then some ((σ.2.2.2.2 p).getD (dfl p)) else σ.2.2.2.2 q)
      by_cases eq : q = p
      · subst eq
        rw [if_pos rfl, hP]
        refine ⟨?_, L, ?_, rIs _ _ _ _, Nat.le_refl _, fun i x hx => ?_⟩
        · show mI _ (t + 14) q = 1
          rw [rI (by omega), row3 (t + 14) (by omega) (by omega) (by omega), ← hM2, rI (by omega), rI (by omega)]
          exact rIs _ (t + 14) _ _
        · show mI _ (t + 12) q = nI L
          rw [rI (by omega), row3 (t + 12) (by omega) (by omega) (by omega), ← hM2, rI (by omega)]
          exact rIs _ (t + 12) _ _
        · show mI _ (t + 11) (L + i) = clc x
          rw [rI (by omega)]
          exact d3.2.2 i x hx
      · rw [if_neg eq]
        have old := h8 q hq
        have oth : ∀ a, a = t + 12 ∨ a = t + 13 ∨ a = t + 14 → mI (sI M3 (t + 10 + 3) p (nI (L + (dfl p).length))) a q = mI M a q := fun a ha => by
          rw [rI (by omega), row3 a (by omega) (by omega) (by omega), ← hM2, rI (by omega), rI (by omega), rI (by omega)]
        match hpq : σ.2.2.2.2 q, old with
        | none, old =>
          show mI _ (t + 14) q = 0
          rw [oth _ (by omega)]; exact old
        | some os, old =>
          obtain ⟨y1, f', y2, y3, y4, y5⟩ := old
          refine ⟨by rw [oth _ (by omega)]; exact y1, f', by rw [oth _ (by omega)]; exact y2, by rw [oth _ (by omega)]; exact y3, by omega, fun i x hx => ?_⟩
          have hi := (List.getElem?_eq_some_iff.mp hx).1
          have p2 := d3.2.1 (f' + i) (by omega)
          show mI _ (t + 11) (f' + i) = clc x
          rw [rI (by omega)]
          refine Eq.trans (p2 : mI M3 (t + 11) (f' + i) = mI M2 (t + 11) (f' + i)) ?_
          rw [row2 (t + 11) (by omega) (by omega) (by omega)]
          exact y5 i x hx
theorem c_dfX {M : pm} {t p : Nat} (hp : p < 3) (ht : tOk t) (h : ∃ L, oPC M (t + 10) L) {l : List Nat} {R : pm → Prop} (kk : ∀ M', fG (fC t) M M' → mI M' 6 = mI M 6 → (∃ L', oPC M' (t + 10) L') → R M') : w_X2_hasPart (t + 10) (nI p) M (fun y M2 => ((¬ y = 0 → (R M2)) ∧ (y = 0 → (w_X2_beginPart (t + 10) (nI p) M2 (fun M3 => adA (t + 10) l M3 (fun M4 => w_X2_endPart (t + 10) (nI p) M4 R)))))) := by
  have tt := ht
  unfold tOk at tt
  refine k_no (nI_pos (by omega)) (k_no (nI_ge (b := 3) hp (by decide)) ⟨vp_in_nI hp (by decide), fun _ => k_yes' rfl (k_no (nI_pos (by omega)) (k_no (nI_ge (b := 3) hp (by decide)) ⟨vp_in_nI hp (by decide), vp_in_nI hp (by decide), vp_in_nI hp (by decide), ?_⟩)), fun _ => k_no' (by decide) (kk M (fG.rf M) rfl h)⟩)
  obtain ⟨L, h5⟩ := h
  refine c_adX l _ _ ⟨L, h5.1, h5.2.1, by rw [rI (by omega), rI (by omega), rI (by omega)]; exact h5.2.2.1, h5.2.2.2⟩ (fun M3 f3 e3 o3 => k_no (nI_pos (by omega)) (k_no (nI_ge (b := 3) hp (by decide)) ⟨vp_in_nI hp (by decide), ?_⟩))
  obtain ⟨L3, o3⟩ := o3
  refine kk _ (fCu ((fCu (fCu (fCu (fG.rf M) (by omega) (by omega) _) (by omega) (by omega) _) (by omega) (by omega) _).tr (fC_R f3)) (by omega) (by omega) _) ?_ ⟨L3, o3.1, o3.2.1, by rw [rI (by omega)]; exact o3.2.2.1, o3.2.2.2⟩
  rw [mI_off (by omega), e3, mI_off (by omega), mI_off (by omega), mI_off (by omega)]
theorem ad_0 {pa : Nat} {M : pm} {R : pm → Prop} : adA pa (dfl 0) M R = w_X2_add pa 10107 M (fun M34 => w_X2_add pa 1 M34 (fun M37 => w_X2_add pa 10001 M37 (fun M40 => R M40))) := rfl
theorem ad_1 {pa : Nat} {M : pm} {R : pm → Prop} : adA pa (dfl 1) M R = w_X2_add pa 1 M (fun M25 => R M25) := rfl
theorem ad_2 {pa : Nat} {M : pm} {R : pm → Prop} : adA pa (dfl 2) M R = w_X2_add pa 10107 M (fun M16 => R M16) := rfl
def dfA (σ : sg) : sg := dfO 2 (dfO 1 (dfO 0 σ))
theorem c_dflts {M : pm} {t k : Nat} {σ : sg} {L : Nat} (h : cSt M t k σ L) (hL : L + 5 ≤ 1600) {Q : pm → Prop} (kk : ∀ M', fG (fC t) M M' → mI M' 6 = mI M 6 → (∃ L', cSt M' t k (dfA σ) L') → Q M') : w_X5_addDefaults t M Q := by
  have l0 : (dfl 0).length = 3 := rfl
  have l1 : (dfl 1).length = 1 := rfl
  have l2 : (dfl 2).length = 1 := rfl
  refine c_dfp (p := 0) (by decide) h (by omega) (R := fun M1 => w_X5_addDefaults_55 t M1 Q) (fun M1 f1 e1 c1 => ?_)
  obtain ⟨L1, b1, c1⟩ := c1
  refine c_dfp (p := 1) (by decide) c1 (by omega) (R := fun M1 => w_X5_addDefaults_90 t M1 Q) (fun M2 f2 e2 c2 => ?_)
  obtain ⟨L2, b2, c2⟩ := c2
  refine c_dfp (p := 2) (by decide) c2 (by omega) (R := Q) (fun M3 f3 e3 c3 => ?_)
  obtain ⟨L3, b3, c3⟩ := c3
  exact kk M3 ((f1.tr f2).tr f3) (e3.trans (e2.trans e1)) ⟨L3, c3⟩
theorem c_dfltsX {M : pm} {t : Nat} (ht : tOk t) (h : ∃ L, oPC M (t + 10) L) {Q : pm → Prop} (kk : ∀ M', fG (fC t) M M' → mI M' 6 = mI M 6 → Q M') : w_X5_addDefaults t M Q :=
  c_dfX (p := 0) (l := dfl 0) (by decide) ht h (R := fun M1 => w_X5_addDefaults_55 t M1 Q) (fun M1 f1 e1 c1 => c_dfX (p := 1) (l := dfl 1) (by decide) ht c1 (R := fun M1 => w_X5_addDefaults_90 t M1 Q) (fun M2 f2 e2 c2 => c_dfX (p := 2) (l := dfl 2) (by decide) ht c2 (R := Q) (fun M3 f3 e3 _ => kk M3 ((f1.tr f2).tr f3) (e3.trans (e2.trans e1)))))
/-! from the first byte -/
def fS (t : Nat) (M M' : pm) : Prop := mL M' = mL M ∧ mJ M' = mJ M ∧ (∀ a k, ¬ ((a = 5 ∧ k = 2) ∨ (a = 6 ∧ k = 1)) → mR M' a k = mR M a k) ∧ ∀ a k, ¬ (a = 5 ∨ a = 6 ∨ (t ≤ a ∧ a < t + 15)) → mI M' a k = mI M a k
theorem fS_C {t : Nat} {M M1 M2 : pm} (h : fS t M M1) (f : fG (fC t) M1 M2) : fS t M M2 := ⟨f.1.trans h.1, f.2.2.1.trans h.2.1, fun a k hk => by rw [f.2.1]; exact h.2.2.1 a k hk, fun a k hk => by rw [f.2.2.2 a k (by unfold fC; omega)]; exact h.2.2.2 a k hk⟩
theorem c_empty {M : pm} {a0 : Nat} {Q : pm → Prop} (kk : ∀ M', fG (fun a k => a = a0 ∧ k = 1 ∨ a = a0 + 2 ∨ a = a0 + 3 ∨ a = a0 + 4) M M' → mI M' a0 1 = 0 → (∀ p, p < 3 → mI M' (a0 + 4) p = 0) → Q M') : w_X2_empty a0 M Q := by
  have key : ∀ d m i M1, i + d = 3 → d < m → fG (fun a k => a = a0 ∧ k = 1 ∨ a = a0 + 2 ∨ a = a0 + 3 ∨ a = a0 + 4) M M1 → mI M1 a0 1 = 0 → (∀ p, p < i → mI M1 (a0 + 4) p = 0) → w_X2_empty_7 m a0 (nI i) M1 Q := by
    intro d
    induction d with
    | zero =>
      intro m i M1 hi hm f e1 e2
      obtain ⟨m, rfl⟩ : ∃ m', m = m' + 1 := ⟨m - 1, by omega⟩
      unfold w_X2_empty_7
      exact k_yes (nI_le (a := 3) (by omega) (by omega)) (kk M1 f e1 (fun p hp => e2 p (by omega)))
    | succ d ih =>
      intro m i M1 hi hm f e1 e2
      obtain ⟨m, rfl⟩ : ∃ m', m = m' + 1 := ⟨m - 1, by omega⟩
      unfold w_X2_empty_7
      rw [nI_clamp (by omega), nb0, nI_1]
      refine k_no (nI_ge (b := 3) (by omega) (by decide)) ⟨vp_in_nI (by omega) (by decide), vp_in_nI (by omega) (by decide), vp_in_nI (by omega) (by decide), ih m (i + 1) _ (by omega) (by omega) (((f.up (by omega) _).up (by omega) _).up (by omega) _) ?_ (fun p hp => ?_)⟩
      · rw [rI (by omega), rI (by omega), rI (by omega)]; exact e1
      · by_cases e : p = i
        · rw [e, rIs]
        · rw [rI (by omega), rI (by omega), rI (by omega)]; exact e2 p (by omega)
  exact ⟨4, key 3 4 0 _ (by omega) (by omega) ((fG.rf M).up (by omega) _) (rIs _ _ _ _) (fun p hp => absurd hp (Nat.not_lt_zero _))⟩
theorem c_read {M : pm} {T : Nat → Nat} {n : Nat} (hT : tpC M T) (hn : n ≤ 1600) (hw : wdC M) {Q : pm → Prop} (kk : ∀ M', mL M' = mL M → mJ M' = mJ M → (∀ a k, ¬ (a = 6 ∧ k = 1) → mR M' a k = mR M a k) → (∀ a, a ≠ 6 → mI M' a = mI M a) → tkC M' T n (0, false) → Q M') : w_X6_read 4 (nI n) M Q := by
  unfold w_X6_read
  rw [lay4]
  have fin : ∀ y6 : Int32, y6 = nI n → w_X6_take (sI (sI (sI (sI (sI (sI (sR M 6 1 4) 6 2 y6) 6 3 0) 6 4 0) 6 5 0) 6 7 0) 6 8 (-1)) (fun M8 => Q M8) := by
    intro y6 ey
    generalize hM2 : sI (sI (sI (sI (sI (sI (sR M 6 1 4) 6 2 y6) 6 3 0) 6 4 0) 6 5 0) 6 7 0) 6 8 (-1) = M2
    have row : ∀ a, a ≠ 6 → mI M2 a = mI M a := fun a ha => by
      rw [← hM2, mI_off ha, mI_off ha, mI_off ha, mI_off ha, mI_off ha, mI_off ha]; rfl
    have eR : ∀ a k, mR M2 a k = if a = 6 ∧ k = 1 then 4 else mR M a k := fun a k => by rw [← hM2]; exact mR_sR M 6 1 4 a k
    have tx : txC M2 T n := ⟨tpC_c (row 4 (by decide)) hT, hn, by rw [eR, if_pos ⟨rfl, rfl⟩], by rw [← hM2, rI (by omega), rI (by omega), rI (by omega), rI (by omega), rI (by omega), rIs, ey], fun w h34 => by rw [row 7 (by decide)]; exact hw w h34⟩
    refine c_take0 (K := 0) (p := 0) tx (Nat.zero_le _) (by decide) ?_ ?_ ?_ ?_ (fun M3 f3 t3 => kk M3 ?_ ?_ (fun a k hk => ?_) (fun a ha => ?_) t3)
    · rw [← hM2, rI (by omega), rI (by omega), rI (by omega), rI (by omega), rIs]; rfl
    · rw [← hM2, rI (by omega), rI (by omega), rIs]; rfl
    · rw [← hM2, rI (by omega), rIs]
    · rw [← hM2, rIs]
    · rw [f3.1, ← hM2]; rfl
    · rw [f3.2.2.1, ← hM2]; rfl
    · rw [f3.2.1, eR, if_neg hk]
    · rw [f3.row (fun k => by unfold fT; omega), row a ha]
  exact pk_lt 1600 n (fun z => by omega) (fun _ => pk_lt 0 n (fun _ => fin _ rfl) (fun z => fin _ (by rw [show n = 0 from by omega]; rfl)))
theorem c_readSt {M : pm} {T : Nat → Nat} {n t : Nat} (ht : tOk t) (hT : tpC M T) (hn : n ≤ 1600) (hw : wdC M) {Q : pm → Prop} (kk : ∀ M', fS t M M' → tkG M' T n (sWh T n) → (∀ k σ s', sWh T n = .inr ((k, σ), s') → ∃ L, cSt M' t k (dfA σ) L) → Q M') : w_X3_readStation 4 (nI n) t M Q := by
  have tt := ht
  unfold tOk at tt
  unfold w_X3_readStation w_X5_empty
  refine c_empty (fun M1 f1 l1 g1 => ?_)
  generalize hMe : sI (sI (sI (sI (sI (sI (sI M t 0 0) t 1 0) t 2 0) t 3 0) t 4 0) t 8 0) t 13 0 = Me at f1
  have fe : fG (fC t) M Me := by
    rw [← hMe]
    exact fCu (fCu (fCu (fCu (fCu (fCu (fCu (fG.rf M) (Nat.le_refl t) (by omega) _) (Nat.le_refl t) (by omega) _) (Nat.le_refl t) (by omega) _) (Nat.le_refl t) (by omega) _) (Nat.le_refl t) (by omega) _) (Nat.le_refl t) (by omega) _) (Nat.le_refl t) (by omega) _
  have fe1 : fG (fC t) M M1 := fe.tr ⟨f1.1, f1.2.1, f1.2.2.1, fun a k h => f1.2.2.2 a k (by unfold fC at h; omega)⟩
  have r1 : ∀ a, a < t ∨ t + 15 ≤ a → mI M1 a = mI M a := fun a ha => by
    rw [f1.row (fun k => by omega), ← hMe, mI_off (by omega), mI_off (by omega), mI_off (by omega), mI_off (by omega), mI_off (by omega), mI_off (by omega), mI_off (by omega)]
  have r2 : ∀ a, a ≠ 5 → mI (sI (sR M1 5 2 (t + 10)) 5 3 0) a = mI M1 a := fun a ha => by rw [mI_off ha]; rfl
  refine c_read (T := T) (n := n) (tpC_c (by rw [r2 4 (by decide), r1 4 (by omega)]) hT) hn (fun w h34 => by rw [r2 7 (by decide), r1 7 (by omega)]; exact hw w h34) (fun M5 e1 e2 e3 e4 t5 => ?_)
  have fS5 : fS t M M5 := ⟨by rw [e1]; exact fe1.1, by rw [e2]; exact fe1.2.2.1, fun a k hk => by
    rw [e3 a k (by omega)]
    show mR (sR M1 5 2 (t + 10)) a k = _
    rw [mR_sR, if_neg (by omega), fe1.2.1], fun a k hk => by
    rw [e4 a (by omega), r2 a (by omega), fe1.2.2.2 a k (by unfold fC; omega)]⟩
  have row5 : ∀ a, t ≤ a → mI M5 a = mI M1 a := fun a ha => by rw [e4 a (by omega), r2 a (by omega)]
  have t0 : ∀ j, j = 0 ∨ j = 1 ∨ j = 2 ∨ j = 3 ∨ j = 4 ∨ j = 8 ∨ j = 13 → mI M5 t j = 0 := fun j hj => by
    rw [row5 t (Nat.le_refl t), f1.2.2.2 t j (by omega), ← hMe]
    rcases hj with rfl | rfl | rfl | rfl | rfl | rfl | rfl
    · rw [rI (by omega), rI (by omega), rI (by omega), rI (by omega), rI (by omega), rI (by omega), rIs]
    · rw [rI (by omega), rI (by omega), rI (by omega), rI (by omega), rI (by omega), rIs]
    · rw [rI (by omega), rI (by omega), rI (by omega), rI (by omega), rIs]
    · rw [rI (by omega), rI (by omega), rI (by omega), rIs]
    · rw [rI (by omega), rI (by omega), rIs]
    · rw [rI (by omega), rIs]
    · rw [rIs]
  have c5 : cSt M5 t 0 sg0 0 := by
    refine ⟨ht, by decide, ⟨t0 0 (by omega), t0 1 (by omega), t0 2 (by omega), t0 3 (by omega), t0 4 (by omega), t0 8 (by omega), t0 13 (by omega)⟩, ⟨fun i q hq => (by cases hq), fun i q hq => (by cases hq), fun i q hq => (by cases hq)⟩, ⟨?_, tOk_p ht, ?_, by decide⟩, ?_, okG_0, fun p hp => ?_⟩
    · rw [e3 5 2 (by omega)]
      show mR (sR M1 5 2 (t + 10)) 5 2 = _
      rw [mR_sR, if_pos ⟨rfl, rfl⟩]
    · rw [row5 (t + 10) (by omega)]; exact l1
    · rw [e4 5 (by decide), rIs]
    · show mI M5 (t + 14) p = 0
      rw [row5 (t + 14) (by omega)]; exact g1 p hp
  -- behind the loop
  have fin : ∀ M6, fG (fC t) M5 M6 → tkG M6 T n (sWh T n) → (∀ k σ s', sWh T n = .inr ((k, σ), s') → ∃ L', L' + 7 ≤ s'.1 ∧ cSt M6 t k σ L') → cSy M6 t → w_X3_readStation_82 t M6 Q := by
    intro M6 f6 t6 s6 y6
    cases hr : sWh T n with
    | inl e =>
      rw [hr] at t6
      have d6 : ∀ M7, fG fT M6 M7 → tkS M7 e → w_X5_addDefaults t M7 Q := fun M7 f7 t7 => by
        obtain ⟨L, o6⟩ := y6.2.2
        refine c_dfltsX ht ⟨L, oPC_T f7 o6⟩ (fun M8 f8 e8 => kk M8 (fS_C (fS_C (fS_C fS5 f6) (fC_T f7)) f8) ?_ (fun k σ s' z => ?_))
        · rw [hr]; exact tkS_c e8 t7
        · rw [hr] at z; cases z
      exact ⟨fun _ => d6 M6 (fG.rf M6) t6, fun _ => c_failS t6 (fun M7 f7 t7 => d6 M7 f7 t7)⟩
    | inr x =>
      obtain ⟨⟨k, σ⟩, s'⟩ := x
      obtain ⟨L, l1, l2⟩ := s6 k σ s' hr
      have ok := sWh_ok hr
      rw [hr] at t6
      have hn1 := ok.2.2.2.2.2.1
      refine k_no' (by rw [l2.2.2.1.1]; exact nI_ne0 (by omega) (by omega)) (c_dflts l2 (by omega) (fun M8 f8 e8 c8 => kk M8 (fS_C (fS_C fS5 f6) f8) ?_ (fun k' σ' s'' z => ?_)))
      · rw [hr]; exact tkG_C (A := Nat × sg) (r := .inr ((k, σ), s')) ht f8 e8 t6
      · rw [hr] at z; cases z; exact c8
  refine ⟨83, ?_⟩
  have hk := tK_le T n (0, false)
  unfold w_X3_readStation_29 w_X6_goesOn
  rw [t5.2.2.1]
  refine k_no (by decide) (pk_eq (tK T n (0, false)) 5 (fun q => k_yes rfl ?_) (fun q => k_no (fun z => absurd ((nI_eq (b := 6) (by omega) (by decide)).mp z) (by omega)) (k_no (by decide) (k_no' (by decide) (c_hst t5 c5 (fun M6 c6 => ?_))))))
  · -- nothing to read
    have e : sWh T n = .inl (1, sk T n 0) := by
      unfold sWh hst
      rw [if_neg (by rw [kwN_no (by omega)]; decide)]; rfl
    refine k_yes' (t0 0 (by omega)) (c_fail t5.2.2.2.2.2.2.1 1 (sk T n 0) rfl t5.2.2.2.1 (by decide) (by decide) (fun M7 f7 t7 => c_dfltsX ht ⟨0, oPC_T f7 c5.2.2.2.2.1⟩ (fun M8 f8 e8 => kk M8 (fS_C (fS_C fS5 (fC_T f7)) f8) ?_ (fun k σ s' z => ?_))))
    · rw [e]; exact tkS_c e8 t7
    · rw [e] at z; cases z
  · obtain ⟨c61, c62, c63, c64⟩ := c6
    have e : sWh T n = rB (hst T n (0, false)) (fun σ s => sLp T n 79 1 σ s) := rfl
    cases hr : hst T n (0, false) with
    | inl e1 =>
      rw [hr] at c62 e
      have e : sWh T n = .inl e1 := e
      exact c_29S c62 (by decide) (fin M6 c61 (by rw [e]; exact c62) (fun k σ s' z => (by rw [e] at z; cases z)) c64)
    | inr x =>
      obtain ⟨σ1, s1⟩ := x
      obtain ⟨L1, l1, l2⟩ := c63 σ1 s1 hr
      rw [hr] at c62 e
      have e : sWh T n = sLp T n 79 1 σ1 s1 := e
      exact c_lpSt (M0 := M6) 79 82 1 M6 σ1 s1 L1 (by decide) (by decide) (by decide) c62 l2 l1 (fG.rf M6) (fun M' c' => fin M' (c61.tr c'.1) (by rw [e]; exact c'.2.1) (fun k σ s' z => c'.2.2.1 k σ s' (by rw [← e]; exact z)) c'.2.2.2)
