/-! days, chance -/
def kC (M : pm) (c : Nat) (f : Nat → Int32) : Prop := mI M 57 7 = nI c ∧ ∀ k, k < c → mI M 63 k = f (3 * k) ∧ mI M 64 k = f (3 * k + 1) ∧ mI M 65 k = f (3 * k + 2)
def kM (M : pm) (c : Nat) (f : Nat → Int32) : Prop := mI M 317 42 = nI c ∧ ∀ k, k < 3 * c → mI M 317 (43 + k) = f k
def kpN (c : Nat) : Nat := min 40 (c + 1)
def kpF (c : Nat) (f : Nat → Int32) (x y z : Int32) (k : Nat) : Int32 := if c < 40 then (if k < 3 * c then f k else if k = 3 * c then x else if k = 3 * c + 1 then y else z) else (if k < 117 then f (k + 3) else if k = 117 then x else if k = 118 then y else z)
theorem kpF_lo {c k : Nat} {f : Nat → Int32} {x y z : Int32} (h : c < 40) (hk : k < 3 * c) : kpF c f x y z k = f k := by unfold kpF; rw [if_pos h, if_pos hk]
theorem kpF_x {c : Nat} {f : Nat → Int32} {x y z : Int32} (h : c < 40) : kpF c f x y z (3 * c) = x := by unfold kpF; rw [if_pos h, if_neg (by omega), if_pos rfl]
theorem kpF_y {c : Nat} {f : Nat → Int32} {x y z : Int32} (h : c < 40) : kpF c f x y z (3 * c + 1) = y := by unfold kpF; rw [if_pos h, if_neg (by omega), if_neg (by omega), if_pos rfl]
theorem kpF_z {c : Nat} {f : Nat → Int32} {x y z : Int32} (h : c < 40) : kpF c f x y z (3 * c + 2) = z := by unfold kpF; rw [if_pos h, if_neg (by omega), if_neg (by omega), if_neg (by omega)]
theorem kpF_hi {k : Nat} {f : Nat → Int32} {x y z : Int32} (hk : k < 117) : kpF 40 f x y z k = f (k + 3) := by unfold kpF; rw [if_neg (by decide), if_pos hk]
theorem kC_c {M M' : pm} {c : Nat} {f : Nat → Int32} (e : mI M' 57 7 = mI M 57 7) (e3 : mI M' 63 = mI M 63) (e4 : mI M' 64 = mI M 64) (e5 : mI M' 65 = mI M 65) (h : kC M c f) : kC M' c f := by
  unfold kC at h ⊢
  rw [e, e3, e4, e5]; exact h
theorem kM_c {M M' : pm} {c : Nat} {f : Nat → Int32} (hc : c ≤ 40) (e : ∀ j, 42 ≤ j → mI M' 317 j = mI M 317 j) (h : kM M c f) : kM M' c f := by
  refine ⟨by rw [e 42 (by decide)]; exact h.1, fun k hk => by rw [e _ (by omega)]; exact h.2 k hk⟩
theorem kt_of {M : pm} {c : Nat} {f : Nat → Int32} (hc : c ≤ 40) (h1 : kC M c f) (h2 : kM M c f) : ktR M 57 (mI M 317) := by
  refine ⟨c, hc, h1.1, h2.1, fun k hk => ?_⟩
  obtain ⟨a1, a2, a3⟩ := h1.2 k hk
  have b1 := h2.2 (3 * k) (by omega)
  have b2 := h2.2 (3 * k + 1) (by omega)
  have b3 := h2.2 (3 * k + 2) (by omega)
  rw [show 43 + (3 * k + 1) = 44 + 3 * k from by omega] at b2
  rw [show 43 + (3 * k + 2) = 45 + 3 * k from by omega] at b3
  rw [b1, b2, b3]
  exact ⟨a1, a2, a3⟩
theorem kt_to {M : pm} (h : ktR M 57 (mI M 317)) : ∃ c, c ≤ 40 ∧ ∃ f, kC M c f ∧ kM M c f := by
  obtain ⟨c, h1, h2, h3, h4⟩ := h
  refine ⟨c, h1, fun k => mI M 317 (43 + k), ⟨h2, fun k hk => ?_⟩, h3, fun k hk => rfl⟩
  obtain ⟨a1, a2, a3⟩ := h4 k hk
  dsimp only
  rw [show 43 + (3 * k + 1) = 44 + 3 * k from by omega, show 43 + (3 * k + 2) = 45 + 3 * k from by omega]
  exact ⟨a1, a2, a3⟩
def xK (a : Nat) : Prop := a = 57 ∨ (63 ≤ a ∧ a < 66)
theorem c_keep60 {M : pm} {c : Nat} (hc : c < 40) (h7 : mI M 57 7 = nI c) {x y z : Int32} {Q : pm → Prop} (k : Q (sI (sI (sI (sI M 63 c x) 64 c y) 65 c z) 57 7 (nI (c + 1)))) : w_X4_keep_60 57 x y z M Q := by
  have hv : vp_in (nI c) 40 := vp_in_nI (by omega) (by decide)
  unfold w_X4_keep_60
  have e1 : mI (sI M (57 + 6) ((mI M 57 7).toNatClampNeg) x) 57 7 = nI c := by rw [rI (by omega)]; exact h7
  rw [e1, h7, nI_clamp (by omega)]
  have e2 : mI (sI (sI M (57 + 6) c x) (57 + 7) c y) 57 7 = nI c := by rw [rI (by omega), rI (by omega)]; exact h7
  rw [e2, nI_clamp (by omega)]
  have e3 : mI (sI (sI (sI M (57 + 6) c x) (57 + 7) c y) (57 + 8) c z) 57 7 = nI c := by rw [rI (by omega), rI (by omega), rI (by omega)]; exact h7
  rw [e3, nI_1]
  exact ⟨hv, hv, hv, k⟩
theorem c_keep {M : pm} {c : Nat} {f : Nat → Int32} (hc : c ≤ 40) (h : kC M c f) {x y z : Int32} {Q : pm → Prop} (k : ∀ M', fI xK M M' → (∀ j, j ≠ 7 → mI M' 57 j = mI M 57 j) → kC M' (kpN c) (kpF c f x y z) → Q M') : w_X4_keep 57 x y z M Q := by
  by_cases h4 : c < 40
  · refine k_yes (by rw [h.1]; exact nI_lt (b := 40) h4 (by decide)) (c_keep60 h4 h.1 (k _ ?_ (fun j hj => ?_) ⟨?_, fun j hj => ?_⟩))
    · exact ((((fI.rf M).up (Or.inr ⟨by decide, by decide⟩) _ _).up (Or.inr ⟨by decide, by decide⟩) _ _).up (Or.inr ⟨by decide, by decide⟩) _ _).up (Or.inl rfl) _ _
    · rw [rI (by omega), rI (by omega), rI (by omega), rI (by omega)]
    · rw [rIs]; unfold kpN; congr 1; omega
    · unfold kpN at hj
      have g := h.2 j
      refine ⟨?_, ?_, ?_⟩
      · rw [rI (by omega), rI (by omega), rI (by omega)]
        by_cases e : j = c
        · rw [e, rIs, kpF_x h4]
        · rw [rI (by omega), kpF_lo h4 (by omega)]; exact (g (by omega)).1
      · rw [rI (by omega), rI (by omega)]
        by_cases e : j = c
        · rw [e, rIs, kpF_y h4]
        · rw [rI (by omega), rI (by omega), kpF_lo h4 (by omega)]; exact (g (by omega)).2.1
      · rw [rI (by omega)]
        by_cases e : j = c
        · rw [e, rIs, kpF_z h4]
        · rw [rI (by omega), rI (by omega), rI (by omega), kpF_lo h4 (by omega)]; exact (g (by omega)).2.2
  · have e40 : c = 40 := by omega
    subst e40
    refine k_no (by rw [h.1]; decide) (c_keep60 (c := 39) (by decide) (rIs _ _ _ _) (k _ ?_ (fun j hj => ?_) ⟨?_, fun j hj => ?_⟩))
    · refine ⟨rfl, rfl, rfl, fun a ha => funext fun j => ?_⟩
      unfold xK at ha
      rw [rI (by omega), rI (by omega), rI (by omega), rI (by omega), rI (by omega), mI_cpI, if_neg (by omega), mI_cpI, if_neg (by omega), mI_cpI, if_neg (by omega)]
    · rw [rI (by omega), rI (by omega), rI (by omega), rI (by omega), rI (by omega), mI_cpI, if_neg (by omega), mI_cpI, if_neg (by omega), mI_cpI, if_neg (by omega)]
    · rw [rIs]; rfl
    · unfold kpN at hj
      have g := h.2 (j + 1)
      refine ⟨?_, ?_, ?_⟩
      · rw [rI (by omega), rI (by omega), rI (by omega)]
        by_cases e : j = 39
        · rw [e, rIs]; rfl
        · rw [rI (by omega), rI (by omega), mI_cpI, if_neg (by omega), mI_cpI, if_neg (by omega), mI_cpI, if_pos (by omega), show 1 + (j - 0) = j + 1 from by omega, kpF_hi (by omega), show 3 * j + 3 = 3 * (j + 1) from by omega]; exact (g (by omega)).1
      · rw [rI (by omega), rI (by omega)]
        by_cases e : j = 39
        · rw [e, rIs]; rfl
        · rw [rI (by omega), rI (by omega), rI (by omega), mI_cpI, if_neg (by omega), mI_cpI, if_pos (by omega), mI_cpI, if_neg (by omega), show 1 + (j - 0) = j + 1 from by omega, kpF_hi (by omega), show 3 * j + 1 + 3 = 3 * (j + 1) + 1 from by omega]; exact (g (by omega)).2.1
      · rw [rI (by omega)]
        by_cases e : j = 39
        · rw [e, rIs]; rfl
        · rw [rI (by omega), rI (by omega), rI (by omega), rI (by omega), mI_cpI, if_pos (by omega), mI_cpI, if_neg (by omega), mI_cpI, if_neg (by omega), show 1 + (j - 0) = j + 1 from by omega, kpF_hi (by omega), show 3 * j + 2 + 3 = 3 * (j + 1) + 2 from by omega]; exact (g (by omega)).2.2
theorem m_kept64 {M : pm} {c : Nat} (hc : c < 40) (h : mI M 317 42 = nI (c + 1)) {x y : Int32} {Q : pm → Prop} (k : Q (sI (sI (sI M 317 (43 + 3 * c) (mI M 317 0)) 317 (44 + 3 * c) x) 317 (45 + 3 * c) y)) : w_X8_isKept_64 x y M Q := by
  have e : (43 : Int32) + 3 * nI (c + 1) - 3 = nI (43 + 3 * c) := by
    rw [show (3 : Int32) * nI (c + 1) = nI (3 * (c + 1)) from pk_mul 3 _, show (43 : Int32) + nI (3 * (c + 1)) = nI (43 + 3 * (c + 1)) from nI_add 43 _]
    have := pk_sub (a := 43 + 3 * (c + 1)) (b := 3) (by omega)
    rw [show 43 + 3 * (c + 1) - 3 = 43 + 3 * c from by omega] at this
    exact this
  unfold w_X8_isKept_64
  rw [h, e, nI_1, show nI (43 + 3 * c) + 2 = nI (43 + 3 * c + 2) from nI_add _ 2, nI_clamp (by omega), nI_clamp (by omega), nI_clamp (by omega), show 43 + 3 * c + 1 = 44 + 3 * c from by omega, show 43 + 3 * c + 2 = 45 + 3 * c from by omega]
  exact ⟨vp_in_nI (by omega) (by decide), vp_in_nI (by omega) (by decide), vp_in_nI (by omega) (by decide), k⟩
theorem m_isKept {M : pm} {c : Nat} {f : Nat → Int32} (hc : c ≤ 40) (h58 : mI M 277 58 = 0) (h : kM M c f) {x y : Int32} {Q : pm → Prop} (k : ∀ M', mL M' = mL M → mR M' = mR M → mJ M' = mJ M → (∀ a, a ≠ 317 → mI M' a = mI M a) → (∀ j, j < 42 → mI M' 317 j = mI M 317 j) → kM M' (kpN c) (kpF c f (mI M 317 0) x y) → Q M') : w_X8_isKept x y M Q := by
  refine k_yes h58 ?_
  rw [h.1]
  by_cases h4 : c < 40
  · refine k_no' (fun z => by have := (nI_eq (b := 40) (by omega) (by decide)).mp z; omega) ?_
    rw [nI_1]
    refine m_kept64 h4 (rIs _ _ _ _) (k _ rfl rfl rfl (fun a ha => by rw [mI_off ha, mI_off ha, mI_off ha, mI_off ha]) (fun j hj => by rw [rI (by omega), rI (by omega), rI (by omega), rI (by omega)]) ⟨?_, fun j hj => ?_⟩)
    · rw [rI (by omega), rI (by omega), rI (by omega), rIs]; unfold kpN; congr 1; omega
    · unfold kpN at hj
      unfold kpF
      rw [if_pos h4]
      by_cases q1 : j < 3 * c
      · rw [rI (by omega), rI (by omega), rI (by omega), rI (by omega), if_pos q1]; exact h.2 j q1
      · rw [if_neg q1]
        by_cases q2 : j = 3 * c
        · subst q2
          rw [rI (by omega), rI (by omega), rIs, if_pos rfl, rI (by omega)]
        · rw [if_neg q2]
          by_cases q3 : j = 3 * c + 1
          · subst q3
            rw [if_pos rfl, rI (by omega), show 43 + (3 * c + 1) = 44 + 3 * c from by omega, rIs]
          · rw [if_neg q3, show 43 + j = 45 + 3 * c from by omega, rIs]
  · have e40 : c = 40 := by omega
    subst e40
    refine k_yes' rfl ?_
    have key : ∀ d n i M1, i + d = 117 → d < n → mL M1 = mL M → mR M1 = mR M → mJ M1 = mJ M → (∀ a, a ≠ 317 → mI M1 a = mI M a) → (∀ j, j ≤ 42 → mI M1 317 j = mI M 317 j) → (∀ j, j < i → mI M1 317 (43 + j) = f (j + 3)) → (∀ j, i ≤ j → j < 120 → mI M1 317 (43 + j) = f j) → w_X8_isKept_23 n x y (nI (43 + i)) M1 (fun x1 x2 M7 => w_X8_isKept_64 x1 x2 M7 Q) Q := by
      intro d
      induction d with
      | zero =>
        intro n i M1 hi hn e1 e2 e3 e4 e5 e6 e7
        obtain ⟨n, rfl⟩ : ∃ n', n = n' + 1 := ⟨n - 1, by omega⟩
        have hi' : i = 117 := by omega
        subst hi'
        unfold w_X8_isKept_23
        refine k_yes (by decide) (m_kept64 (c := 39) (by decide) (by rw [e5 42 (by decide), h.1]) (k _ e1 e2 e3 (fun a ha => by rw [mI_off ha, mI_off ha, mI_off ha]; exact e4 a ha) (fun j hj => by rw [rI (by omega), rI (by omega), rI (by omega)]; exact e5 j (by omega)) ⟨?_, fun j hj => ?_⟩))
        · rw [rI (by omega), rI (by omega), rI (by omega), e5 42 (by decide), h.1]; rfl
        · unfold kpN at hj
          unfold kpF
          rw [if_neg (by decide)]
          by_cases q1 : j < 117
          · rw [rI (by omega), rI (by omega), rI (by omega), if_pos q1]; exact e6 j q1
          · rw [if_neg q1]
            by_cases q2 : j = 117
            · subst q2
              rw [rI (by omega), rI (by omega), rIs, if_pos rfl]; exact e5 0 (by decide)
            · rw [if_neg q2]
              by_cases q3 : j = 118
              · subst q3
                rw [if_pos rfl, rI (by omega), rIs]
              · rw [if_neg q3, show j = 119 from by omega, rIs]
      | succ d ih =>
        intro n i M1 hi hn e1 e2 e3 e4 e5 e6 e7
        obtain ⟨n, rfl⟩ : ∃ n', n = n' + 1 := ⟨n - 1, by omega⟩
        unfold w_X8_isKept_23
        rw [nI_1, show nI (43 + i) + 3 = nI (43 + i + 3) from nI_add _ 3, nI_clamp (by omega), nI_clamp (by omega), show 43 + i + 3 = 43 + (i + 3) from by omega, e7 (i + 3) (by omega) (by omega)]
        refine k_no (nI_ge (b := 160) (by omega) (by decide)) ⟨vp_in_nI (by omega) (by decide), vp_in_nI (by omega) (by decide), ih n (i + 1) _ (by omega) (by omega) e1 e2 e3 (fun a ha => by rw [mI_off ha]; exact e4 a ha) (fun j hj => by rw [rI (by omega)]; exact e5 j hj) (fun j hj => ?_) (fun j j1 j2 => by rw [rI (by omega)]; exact e7 j (by omega) j2)⟩
        by_cases q : j = i
        · subst q; rw [rIs]
        · rw [rI (by omega)]; exact e6 j (by omega)
    exact ⟨118, key 117 118 0 M (by omega) (by omega) rfl rfl rfl (fun _ _ => rfl) (fun _ _ => rfl) (fun j hj => by omega) (fun j _ hj => h.2 j hj)⟩
/-- the state, how many days are kept, what is kept -/
abbrev dsT : Type := (Nat → Nat) × Nat × (Nat → Int32)
noncomputable def dst (D : Nat → Nat) (P : Nat → List Nat) (s : dsT) : dsT := (dayA D s.1 P (bst D s.1 P), kpN s.2.1, kpF s.2.1 s.2.2 (nI (s.1 0)) (nI (bst D s.1 P)) (nI (silA D s.1 (bst D s.1 P))))
def dok (D : Nat → Nat) (s : dsT) : Prop := okS D s.1 ∧ s.1 0 ≤ 999 ∧ s.2.1 ≤ 40
theorem dst_ok {D : Nat → Nat} {P : Nat → List Nat} {s : dsT} (h : dok D s) (h9 : s.1 0 < 999) : dok D (dst D P s) ∧ (dst D P s).1 0 = s.1 0 + 1 := by
  have e : (dst D P s).1 0 = s.1 0 + 1 := by
    show dayA D s.1 P (bst D s.1 P) 0 = _
    unfold dayA
    rw [if_pos rfl]
  refine ⟨⟨okS_A h.1 (by omega), by rw [e]; omega, ?_⟩, e⟩
  show kpN s.2.1 ≤ 40
  unfold kpN; omega
def fcl (M M' : pm) : Prop := mL M' = mL M ∧ mR M' = mR M ∧ mJ M' = mJ M ∧ (∀ a, ¬ (45 ≤ a ∧ a < 66) → a ≠ 3 → mI M' a = mI M a) ∧ ∀ k, k ≠ 18 → mI M' 3 k = mI M 3 k
theorem fcl.rf (M : pm) : fcl M M := ⟨rfl, rfl, rfl, fun _ _ _ => rfl, fun _ _ => rfl⟩
theorem fcl.tr {M M1 M2 : pm} (h : fcl M M1) (g : fcl M1 M2) : fcl M M2 := ⟨g.1.trans h.1, g.2.1.trans h.2.1, g.2.2.1.trans h.2.2.1, fun a h1 h2 => (g.2.2.2.1 a h1 h2).trans (h.2.2.2.1 a h1 h2), fun k hk => (g.2.2.2.2 k hk).trans (h.2.2.2.2 k hk)⟩
def xD (a : Nat) : Prop := 45 ≤ a ∧ a < 66
theorem fI_cl {M M' : pm} (h : fI xD M M') : fcl M M' := ⟨h.1, h.2.1, h.2.2.1, fun a h1 _ => h.2.2.2 a h1, fun k _ => by rw [h.2.2.2 3 (by unfold xD; omega)]⟩
theorem fcl_d {M M' : pm} (h : fcl M M') {t : Nat} {D : Nat → Nat} {P : Nat → List Nat} (ht : t = 14 ∨ t = 29) (hd : dC M t D P) : dC M' t D P := dC_c (fun c c1 c2 => h.2.2.2.1 c (by omega) (by omega)) hd
theorem c_passDay {M : pm} {t : Nat} {D : Nat → Nat} {P : Nat → List Nat} {s : dsT} (ht : t = 14 ∨ t = 29) (h3 : mR M 3 3 = t) (hd : dC M t D P) (hD : okD D P) (hs : sC M 57 D s.1) (ok : dok D s) (h9 : s.1 0 < 999) (hk : kC M s.2.1 s.2.2) {Q : Int32 → pm → Prop} (k : ∀ M', fI xD M M' → sC M' 57 D (dst D P s).1 → kC M' (dst D P s).2.1 (dst D P s).2.2 → Q (nI (pc8 (bst D s.1 P))) M') : w_X7_passDay M Q := by
  unfold w_X7_passDay
  rw [h3]
  refine s_bestBits (by omega) (by decide) hd hD hs ok.1 (fun M1 f1 hb => ?_)
  have hb2 := best256 hD hb
  have hd1 : dC M1 t D P := dC_c (fun c c1 c2 => f1.2.2.2 c (by unfold xC; omega)) hd
  have hs1 : sC M1 57 D s.1 := sC_c (fun c c1 c2 => f1.2.2.2 c (by unfold xC; omega)) hs
  rw [f1.2.1, h3]
  refine s_playDay (by omega) (by decide) hd1 hD hs1 ok.1 (by omega) hb2.2 (fun M4 f4 s4 e7 => ?_)
  rw [dayC_eq h9] at s4
  have k4 : kC M4 s.2.1 s.2.2 := kC_c (by rw [e7, f1.2.2.2 57 (by unfold xC; omega)]) (by rw [f4.2.2.2 63 (by unfold xP xE; omega), f1.2.2.2 63 (by unfold xC; omega)]) (by rw [f4.2.2.2 64 (by unfold xP xE; omega), f1.2.2.2 64 (by unfold xC; omega)]) (by rw [f4.2.2.2 65 (by unfold xP xE; omega), f1.2.2.2 65 (by unfold xC; omega)]) hk
  rw [hs1.1]
  refine c_keep ok.2.2 k4 (fun M7 f7 e57 k7 => s_bits hb2.1 (k M7 ?_ ?_ k7))
  · exact ((f1.mo (fun a ha => by unfold xC at ha; unfold xD; omega)).tr (f4.mo (fun a ha => by unfold xP xE at ha; unfold xD; omega))).tr (f7.mo (fun a ha => by unfold xK at ha; unfold xD; omega))
  · obtain ⟨z1, z2, z3⟩ := s4
    refine ⟨by rw [e57 0 (by decide)]; exact z1, by rw [e57 1 (by decide)]; exact z2, fun b hb => ?_⟩
    rw [f7.2.2.2 (57 + 1) (by unfold xK; omega), f7.2.2.2 (57 + 2) (by unfold xK; omega), f7.2.2.2 (57 + 3) (by unfold xK; omega), f7.2.2.2 (57 + 4) (by unfold xK; omega), f7.2.2.2 (57 + 5) (by unfold xK; omega)]
    exact z3 b hb
def fml (M M' : pm) : Prop := mL M' = mL M ∧ mR M' = mR M ∧ (∀ a, a ≠ 277 → a ≠ 317 → mI M' a = mI M a) ∧ (∀ k, k ≠ 51 → k ≠ 54 → k ≠ 56 → k ≠ 57 → k ≠ 59 → k ≠ 102 → mI M' 277 k = mI M 277 k) ∧ (∀ a, a ≠ 319 → a ≠ 351 → a ≠ 277 → mJ M' a = mJ M a)
theorem fml.rf (M : pm) : fml M M := ⟨rfl, rfl, fun _ _ _ => rfl, fun _ _ _ _ _ _ _ => rfl, fun _ _ _ _ => rfl⟩
theorem fml.tr {M M1 M2 : pm} (h : fml M M1) (g : fml M1 M2) : fml M M2 := ⟨g.1.trans h.1, g.2.1.trans h.2.1, fun a h1 h2 => (g.2.2.1 a h1 h2).trans (h.2.2.1 a h1 h2), fun k h1 h2 h3 h4 h5 h6 => (g.2.2.2.1 k h1 h2 h3 h4 h5 h6).trans (h.2.2.2.1 k h1 h2 h3 h4 h5 h6), fun a h1 h2 h3 => (g.2.2.2.2 a h1 h2 h3).trans (h.2.2.2.2 a h1 h2 h3)⟩
theorem fml_d {M M' : pm} (h : fml M M') {D : Nat → Nat} {P : Nat → List Nat} (hd : dM M D P) : dM M' D P := dM_c (fun b b1 b2 _ => h.2.2.1 b (by omega) (by omega)) hd
theorem m_dayN {M : pm} {D : Nat → Nat} {P : Nat → List Nat} {s : dsT} (hd : dM M D P) (hD : okD D P) (hs : sM M D s.1) (ok : dok D s) (hk : kM M s.2.1 s.2.2) (h58 : mI M 277 58 = 0) {Q : pm → Prop} (k : ∀ M', fml M M' → mJ M' 277 = mJ M 277 → sM M' D (dst D P s).1 → kM M' (dst D P s).2.1 (dst D P s).2.2 → mI M' 277 59 = mI M 277 59 + nI (pc8 (bst D s.1 P)) → Q M') : w_X8_dayGoes M Q := by
  have h8 := hD.2.2.1
  unfold w_X8_dayGoes
  refine m_laysBest hd hD hs ok.1 (fun M1 f1 hb e56 _ _ => ?_)
  have hb2 := best256 hD hb
  rw [e56]
  refine m_dayBy (fM_d f1 hd) hD (fM_s f1 hs) ok.1 hb2.1 hb2.2 (fun M2 f2 s2 e59 => ?_)
  have k2 : kM M2 s.2.1 s.2.2 := kM_c ok.2.2 (fun j hj => by rw [f2.2.2.2.2.2 j hj, f1.2.2.1 317 (by decide)]) hk
  have d0 : mI M2 317 0 = nI (s.1 0) := by rw [s2 0 (by omega), dyQ_0]
  refine m_isKept ok.2.2 (by rw [f2.2.2.2.1 58 (by decide) (by decide) (by decide), f1.2.2.2.1 58 (by decide) (by decide) (by decide) (by decide) (by decide)]; exact h58) k2 (fun M3 a1 a2 a3 a4 a5 a6 => ?_)
  rw [d0] at a6
  rw [a5 0 (by decide), d0, nI_1]
  refine k _ ⟨?_, ?_, fun a h1 h2 => ?_, fun j h1 h2 h3 h4 h5 h6 => ?_, fun a h1 h2 h3 => ?_⟩ ?_ (fun j hj => ?_) (kM_c (by show kpN s.2.1 ≤ 40; unfold kpN; omega) (fun j hj => rI (by omega)) a6) ?_
  · show mL M3 = _
    rw [a1, f2.1, f1.1]
  · show mR M3 = _
    rw [a2, f2.2.1, f1.2.1]
  · rw [mI_off h2, a4 a h2, f2.2.2.1 a h1 h2, f1.2.2.1 a h1]
  · rw [mI_off (by decide), a4 277 (by decide), f2.2.2.2.1 j h1 h5 h6, f1.2.2.2.1 j h1 h2 h3 h4 h6]
  · show mJ M3 a = _
    rw [a3, f2.2.2.2.2.1 a h2, f1.2.2.2.2 a h1 h2]
  · show mJ M3 277 = _
    rw [a3, f2.2.2.2.2.1 277 (by decide), f1.2.2.2.2 277 (by decide) (by decide)]
  · show _ = nI (dayA D s.1 P (bst D s.1 P) j)
    unfold dayA
    by_cases q : j = 0
    · subst q; rw [rIs, if_pos rfl]
    · rw [rI (by omega), if_neg q, a5 j (by omega)]; exact s2 j hj
  · rw [mI_off (by decide), a4 277 (by decide), e59, f1.2.2.2.1 59 (by decide) (by decide) (by decide) (by decide) (by decide)]
/-- d days on -/
noncomputable def drs (D : Nat → Nat) (P : Nat → List Nat) : Nat → dsT → dsT
  | 0, s => s
  | d + 1, s => drs D P d (dst D P s)
noncomputable def dcn (D : Nat → Nat) (P : Nat → List Nat) : Nat → dsT → Nat
  | 0, _ => 0
  | d + 1, s => pc8 (bst D s.1 P) + dcn D P d (dst D P s)
theorem drs_ok {D : Nat → Nat} {P : Nat → List Nat} : ∀ (d : Nat) (s : dsT), dok D s → s.1 0 + d ≤ 999 → dok D (drs D P d s)
  | 0, s, h, _ => h
  | d + 1, s, h, h9 => drs_ok d (dst D P s) (dst_ok h (by omega)).1 (by rw [(dst_ok h (by omega)).2]; omega)
theorem c_days {M : pm} {t : Nat} {D : Nat → Nat} {P : Nat → List Nat} {N : Nat} (hN : N ≤ 100) (ht : t = 14 ∨ t = 29) (h3 : mR M 3 3 = t) (hd : dC M t D P) (hD : okD D P) {Q : Int32 → pm → Prop} : ∀ (d n i : Nat) (s : dsT) (a : Nat) (M1 : pm), i + d = N → d < n → fI xD M M1 → sC M1 57 D s.1 → kC M1 s.2.1 s.2.2 → dok D s → s.1 0 + d ≤ 999 → (∀ M', fI xD M M' → sC M' 57 D (drs D P d s).1 → kC M' (drs D P d s).2.1 (drs D P d s).2.2 → Q (nI (a + dcn D P d s)) M') → w_X7_days_30 n (nI N) (nI a) (nI i) M1 Q := by
  intro d
  induction d with
  | zero =>
    intro n i s a M1 hi hn hf hs hk ok h9 k
    obtain ⟨n, rfl⟩ : ∃ n', n = n' + 1 := ⟨n - 1, by omega⟩
    unfold w_X7_days_30
    exact k_yes (nI_le (by omega) (by omega)) (k M1 hf hs hk)
  | succ d ih =>
    intro n i s a M1 hi hn hf hs hk ok h9 k
    obtain ⟨n, rfl⟩ : ∃ n', n = n' + 1 := ⟨n - 1, by omega⟩
    unfold w_X7_days_30
    rw [nI_1]
    refine k_no (nI_ge (by omega) (by omega)) (c_passDay ht (by rw [hf.2.1]; exact h3) (dC_c (fun q q1 q2 => hf.2.2.2 q (by unfold xD; omega)) hd) hD hs ok (by omega) hk (fun M2 f2 s2 k2 => ?_))
    rw [nI_add]
    refine ih n (i + 1) (dst D P s) _ M2 (by omega) (by omega) (hf.tr f2) s2 k2 (dst_ok ok (by omega)).1 (by rw [(dst_ok ok (by omega)).2]; omega) (fun M' f' s' k' => ?_)
    rw [Nat.add_assoc]
    exact k M' f' s' k'
theorem m_days {M : pm} {D : Nat → Nat} {P : Nat → List Nat} {N : Nat} (hN : N ≤ 100) (hd : dM M D P) (hD : okD D P) (h58 : mI M 277 58 = 0) {Q : pm → Prop} : ∀ (d n i : Nat) (s : dsT) (a : Nat) (M1 : pm), i + d = N → d < n → fml M M1 → mJ M1 277 = mJ M 277 → sM M1 D s.1 → kM M1 s.2.1 s.2.2 → dok D s → s.1 0 + d ≤ 999 → mI M1 277 59 = nI a → (∀ M', fml M M' → mJ M' 277 = mJ M 277 → sM M' D (drs D P d s).1 → kM M' (drs D P d s).2.1 (drs D P d s).2.2 → mI M' 277 59 = nI (a + dcn D P d s) → Q M') → w_X8_daysGo_2 n (nI N) (nI i) M1 Q := by
  intro d
  induction d with
  | zero =>
    intro n i s a M1 hi hn hf hj hs hk ok h9 ha k
    obtain ⟨n, rfl⟩ : ∃ n', n = n' + 1 := ⟨n - 1, by omega⟩
    unfold w_X8_daysGo_2
    exact k_yes (nI_le (by omega) (by omega)) (k M1 hf hj hs hk ha)
  | succ d ih =>
    intro n i s a M1 hi hn hf hj hs hk ok h9 ha k
    obtain ⟨n, rfl⟩ : ∃ n', n = n' + 1 := ⟨n - 1, by omega⟩
    unfold w_X8_daysGo_2
    rw [nI_1]
    refine k_no (nI_ge (by omega) (by omega)) (m_dayN (fml_d hf hd) hD hs ok hk (by rw [hf.2.2.2.1 58 (by decide) (by decide) (by decide) (by decide) (by decide) (by decide)]; exact h58) (fun M2 f2 j2 s2 k2 e2 => ?_))
    refine ih n (i + 1) (dst D P s) _ M2 (by omega) (by omega) (hf.tr f2) (j2.trans hj) s2 k2 (dst_ok ok (by omega)).1 (by rw [(dst_ok ok (by omega)).2]; omega) (by rw [e2, ha, nI_add]) (fun M' f' j' s' k' e' => ?_)
    rw [Nat.add_assoc] at e'
    exact k M' f' j' s' k' e'
/-- an act of days, behind both sides -/
theorem act_days {M M1 M2 M3 M4 : pm} {t : Nat} {D S : Nat → Nat} {P : Nat → List Nat} {u w : Nat} {s : dsT} (hI : Inv M) (R : Rp M t D P S) (hh : ∀ M4, remC M M4 u → remM M M4 u w → iHist M4 (D 1) (D 2))
    (a1 : mL M1 = mL M) (a2 : mJ M1 = mJ M) (a3 : ∀ c, c ≠ 76 → mR M1 c = mR M c) (a4 : ∀ c, c < 75 ∨ 257 ≤ c → mI M1 c = mI M c) (a5 : remC M M1 u)
    (c : fcl M1 M2) (c1 : sC M2 57 D s.1) (c2 : kC M2 s.2.1 s.2.2)
    (b1 : mL M3 = mL M2) (b2 : mR M3 = mR M2) (b3 : mJ M3 = mJ M2) (b4 : ∀ c, c ≠ 277 → c ≠ 325 → mI M3 c = mI M2 c) (b5 : ∀ j, j ≠ 69 → j ≠ 70 → mI M3 277 j = mI M2 277 j) (b6 : remM M2 M3 u w)
    (m : fml M3 M4) (m1 : sM M4 D s.1) (m2 : kM M4 s.2.1 s.2.2) (hs : iSeed M4) (ok : dok D s) : Inv M4 := by
  have e : ∀ a, ¬ (45 ≤ a ∧ a < 66) → ¬ (75 ≤ a ∧ a < 257) → a ≠ 3 → a ≠ 277 → a ≠ 317 → a ≠ 325 → mI M4 a = mI M a := fun a h1 h2 h3 h4 h5 h6 => by rw [m.2.2.1 a h4 h5, b4 a h4 h6, c.2.2.2.1 a h1 h3, a4 a (by omega)]
  have e5 : ∀ a, 45 ≤ a → a < 66 → mI M4 a = mI M2 a := fun a h1 h2 => by rw [m.2.2.1 a (by omega) (by omega), b4 a (by omega) (by omega)]
  refine act_fin (M := M) hI R (by rw [m.1, b1, c.1, a1]) (fun q hq => by rw [m.2.1, b2, c.2.1, a3 q hq]) (fun a ha => ?_) (fun k hk => ?_) (fun k hk => ?_) ?_ hs (stR_of (S := s.1) (sC_c (fun q q1 q2 => e5 q (by omega) (by omega)) c1) m1 ok.1 ok.2.1) (kt_of ok.2.2 (kC_c (by rw [e5 57 (by decide) (by decide)]) (e5 63 (by decide) (by decide)) (e5 64 (by decide) (by decide)) (e5 65 (by decide) (by decide)) c2) m2) (hh M4 ?_ ?_)
  · unfold actA at ha
    by_cases q : 45 ≤ a ∧ a < 66
    · exact absurd (by unfold scrA; omega) ha
    · exact e a q (by omega) (by omega) (by omega) (by omega) (by omega)
  · unfold actK scrK at hk
    rw [m.2.2.2.1 k (by omega) (by omega) (by omega) (by omega) (by omega) (by omega), b5 k (by omega) (by omega), c.2.2.2.1 277 (by omega) (by decide), a4 277 (by omega)]
  · rw [m.2.2.1 3 (by decide) (by decide), b4 3 (by decide) (by decide), c.2.2.2.2 k hk, a4 3 (by omega)]
  · rw [m.2.2.2.2 310 (by decide) (by decide) (by decide), b3, c.2.2.1, a2]
  · refine remC_c (fun q q1 q2 => ?_) ?_ a5
    · rw [m.2.2.1 q (by omega) (by omega), b4 q (by omega) (by omega), c.2.2.2.1 q (by omega) (by omega)]
    · rw [m.2.1, b2, c.2.1]
  · refine remM_c (M2 := M2) (M3 := M3) ?_ ?_ ?_ ?_ (m.2.2.1 325 (by decide) (by decide)) b6
    · rw [c.2.2.2.1 317 (by omega) (by decide), a4 317 (by omega)]
    · rw [c.2.2.2.1 325 (by omega) (by decide), a4 325 (by omega)]
    · exact m.2.2.2.1 69 (by decide) (by decide) (by decide) (by decide) (by decide) (by decide)
    · exact m.2.2.2.1 70 (by decide) (by decide) (by decide) (by decide) (by decide) (by decide)
theorem c_canPass_no {M : pm} {x : Int32} (h : mI M 3 5 = 0 ∨ x < 1 ∨ 100 < x ∨ 999 < mI M 57 0 + x) {Q : Int32 → pm → Prop} (k : Q 0 M) : w_X7_canPass x M Q := by
  refine ⟨fun _ => k, fun h1 => ⟨fun _ => k, fun h2 => ?_⟩⟩
  rcases h with h | h | h | h
  · exact c_ahead_no (Or.inl h) (k_yes rfl k)
  · exact absurd h h1
  · exact absurd h h2
  · exact c_ahead_no (Or.inr h) (k_yes rfl k)
theorem rfs3 {M1 : pm} {Q : Int32 → pm → Prop} (k : Q (-1) (sI M1 279 3 (mI M1 279 3 + 1))) : w_X8_refuses 3 M1 (fun y6 M5 => Q y6 M5) := ⟨vp_in_nI (n := 3) (by decide) (by decide), vp_in_nI (n := 3) (by decide) (by decide), k⟩
theorem p_days (x : Int32) (M : pm) (hI : Inv M) : stp Inv (w_X7_days x) (w_X8_days x) M := by
  obtain ⟨t, D, P, S, R⟩ := Rp_of hI
  obtain ⟨r1, r2, r3, r4, r5, r6, r7, r8, r9, r10, r11, r12⟩ := id R
  have h8 := r3.2.2.1
  have e317 : mI M 317 0 = mI M 57 0 := by rw [r9 0 (by omega), r8.1]
  rcases ahd R x (lo := 1) (hi := 100) (by decide) (by decide) with h | ⟨q1, q2, q3, q4, n, n1, n2, rfl, n3, -⟩
  · refine stp_ref hI (j := 3) (by decide) (-1) (fun K k => c_canPass_no h (k_yes' rfl (s_refuse (by decide) k))) (fun M1 e Q k => m_isAhead_no (lo := 1) (hi := 100) ?_ (k_yes' rfl (rfs3 k)))
    rw [e, rI (by omega), rI (by omega), ← r10, e317]
    exact h
  · obtain ⟨u, w, u1, w1, g1, g2, g3, g4, g5, g6, -⟩ := hist_of hI R
    obtain ⟨c, c40, f, f1, f2⟩ := kt_to g5
    intro K hK
    refine k_no q2 (k_no q3 (c_ahead_yes q1 q4 (k_no (by decide) (k_no' (by decide) (c_remember u1 g1 g4 (fun M1 a1 a2 a3 a4 a5 => ⟨n + 1, ?_⟩))))))
    have ok : dok D ((S, c, f) : dsT) := ⟨r6, r7, c40⟩
    have d1 : dC M1 t D P := dC_c (fun b b1 b2 => a4 b (by omega)) r4
    refine c_days n2 r1 (by rw [a3 3 (by decide)]; exact r2) d1 r3 n (n + 1) 0 (S, c, f) 0 M1 (by omega) (by omega) (fI.rf M1) (sC_c (fun b b1 b2 => a4 b (by omega)) r8) (kC_c (by rw [a4 57 (by omega)]) (a4 63 (by omega)) (a4 64 (by omega)) (a4 65 (by omega)) f1) ok n3 (fun M2 h2 s2 k2 => ?_)
    refine hK _ M2 ⟨by rw [h2.1, a1], by rw [h2.2.2.2 1 (by unfold xD; omega), a4 1 (by omega)]⟩ (fun Q hQ => ?_)
    have e2 : ∀ a, 257 ≤ a → mI M2 a = mI M a := fun a ha => by rw [h2.2.2.2 a (by unfold xD; omega), a4 a (by omega)]
    refine m_isAhead_yes (lo := 1) (hi := 100) ?_ q2 q3 ?_ (k_no' (by decide) (m_keeps (u := u) (w := w) u1 w1 (by rw [e2 277 (by decide)]; exact g2) (by rw [e2 277 (by decide)]; exact g3) (fun M3 b1 b2 b3 b4 b5 b6 => ⟨n + 1, ?_⟩)))
    · rw [e2 277 (by decide), ← r10]; exact q1
    · rw [e2 317 (by decide), e317]; exact q4
    have e3 : ∀ a, 257 ≤ a → a ≠ 277 → a ≠ 325 → mI (sI M3 277 59 0) a = mI M a := fun a h1 h2 h3 => by rw [mI_off h2, b4 a h2 h3, e2 a h1]
    refine m_days (M := sI M3 277 59 0) n2 (dM_c (fun b b1 b2 _ => e3 b (by omega) (by omega) (by omega)) r5) r3 (by rw [rI (by omega), b5 58 (by decide) (by decide), e2 277 (by decide)]; exact r12) n (n + 1) 0 (S, c, f) 0 _ (by omega) (by omega) (fml.rf _) rfl (sM_c (e3 317 (by decide) (by decide) (by decide)) r9) (kM_c c40 (fun j _ => by rw [e3 317 (by decide) (by decide) (by decide)]) f2) ok n3 (rIs _ _ _ _) (fun M4 m4 j4 s4 k4 e4 => ?_)
    rw [e4]
    have m4z : fml M3 (sI M3 277 59 0) := ⟨rfl, rfl, fun a h1 _ => mI_off h1, fun k _ _ _ _ h5 _ => rI (by omega), fun _ _ _ _ => rfl⟩
    have m4' : fml M3 M4 := m4z.tr m4
    refine hQ M4 (act_days hI R g6 a1 a2 a3 a4 a5 (fI_cl h2) s2 k2 b1 b2 b3 b4 b5 b6 m4' s4 k4 (iSeed_c ?_ ?_ hI.2.2.2.2.1) (drs_ok n _ ok n3)) ⟨by rw [m4'.1, b1], by rw [m4'.2.2.1 1 (by decide) (by decide), b4 1 (by decide) (by decide)]⟩
    · rw [m4'.2.2.1 3 (by decide) (by decide), b4 3 (by decide) (by decide), h2.2.2.2 3 (by unfold xD; omega), a4 3 (by omega)]
    · rw [j4]
      show mJ M3 277 71 = _
      rw [b3, h2.2.2.1, a2]
