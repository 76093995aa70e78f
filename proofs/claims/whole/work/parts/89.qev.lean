/-! a question reckoned: the reference's pile -/
theorem u_loop {M0 : pm} {a : Nat} {F : Nat → Int} {w : Nat} (hF : ∀ k, -1000000 ≤ F k ∧ F k ≤ 1000000) (hw : w ≤ 1000) {b : Bool} (hfa : ∀ j, j < 10 → ∀ (M' : pm) (R : Int64 → pm → Prop), fq M0 M' → R (zJ (F j)) M' → w_X8_qPartOf (nI j) (nI a) M' R) (hof : ∀ (M' : pm) (R : Int32 → pm → Prop), fq M0 M' → R (nI w) M' → w_X8_songOf (nI a) M' R) {Q : Int64 → pm → Prop} : ∀ (l : List Nat) (n i : Nat) (ks : List Bool) (vs : List Int) (M : pm), l.length < n → fq M0 M → (∀ j c, l[j]? = some c → mI M0 349 (i + j) = nI c) → mI M0 277 96 = nI (i + l.length) → i + l.length ≤ 1600 → kds 100 l ks = some [b] → okV ks vs → vs.length ≤ 100 → stkM M vs → mI M 277 102 = nI vs.length → (∀ M' v, fq M0 M' → evs F (w : Int) l vs = [v] → -1000000 ≤ v → v ≤ 1000000 → (b = true → v = 0 ∨ v = 1) → Q (zJ v) M') → w_X8_qTold_7 n (nI a) (nI i) M Q := by
  intro l
  induction l with
  | nil =>
    intro n i ks vs M hn hf hc he h16 hk hv hl hs hq k
    obtain ⟨n, rfl⟩ : ∃ n', n = n' + 1 := ⟨n - 1, by simp only [List.length_nil] at hn; omega⟩
    unfold w_X8_qTold_7
    have ek : ks = [b] := by unfold kds at hk; exact Option.some.inj hk
    subst ek
    match vs, hv with
    | [v], hv =>
      rw [hf.2.2.2.1 96 (by decide), he]
      refine k_yes (nI_le (Nat.le_refl _) (by simp only [List.length_nil] at h16 ⊢; omega)) ?_
      rw [show mJ M 351 0 = zJ v from hs.1]
      exact k M v hf rfl hv.1.1 hv.1.2.1 hv.1.2.2
  | cons c l ih =>
    intro n i ks vs M hn hf hc he h16 hk hv hl hs hq k
    rw [List.length_cons] at hn he h16
    obtain ⟨n, rfl⟩ : ∃ n', n = n' + 1 := ⟨n - 1, by omega⟩
    obtain ⟨ks', hk1, hkl, hk2⟩ := kds_cons hk
    have hv' := okV_1 (w := (w : Int)) hF hk1 hv
    have hl' : (ev1 F (w : Int) c vs).length ≤ 100 := by rw [okV_len hv']; exact hkl
    have hop : mI M 349 i = nI c := by rw [hf.2.2.1 _ (by decide)]; exact hc 0 c rfl
    have go : ∀ M' : pm, fq M0 M' → stkM M' (ev1 F (w : Int) c vs) → mI M' 277 102 = nI (ev1 F (w : Int) c vs).length → w_X8_qTold_7 n (nI a) (nI (i + 1)) M' Q := fun M' h1 h2 h3 => ih n (i + 1) ks' _ M' (by omega) h1 (fun j d hj => by rw [show i + 1 + j = i + (j + 1) from by omega]; exact hc (j + 1) d hj) (by rw [he]; congr 1; omega) (by omega) hk2 hv' hl' h2 h3 k
    unfold w_X8_qTold_7
    rw [hf.2.2.2.1 96 (by decide), he, nI_clamp (by omega : i < 2 ^ 31), hop]
    refine k_no (nI_ge (by omega) (by omega)) ⟨vp_in_nI (by omega) (by decide), ?_⟩
    rw [nI_1]
    rcases kd1_cases hk1 with ⟨h1, h2⟩ | ⟨h1, t, ht⟩ | ⟨h1, h2⟩ | h1 | ⟨h1, t, ht⟩ | ⟨h1, h2, k1, k2, t, ht, hb⟩
    · have ee : ev1 F (w : Int) c vs = ((c - 1000 : Nat) : Int) :: vs := by unfold ev1; rw [if_pos h1]
      refine k_no (nI_nlt (b := 1000) (by omega) (by omega)) ?_
      rw [show nI c - 1000 = nI (c - 1000) from pk_sub (a := c) (b := 1000) h1, nI_l (by omega), ← zJ_n]
      exact q_step hf (by omega) hs ee hq go
    · subst h1 ht
      match vs, hv with
      | x :: vs, hv =>
        have ee : ev1 F (w : Int) 60 (x :: vs) = (if x = (w : Int) then 1 else 0) :: vs := rfl
        rw [List.length_cons] at hl hq
        refine k_yes (by decide) (k_no (by decide) ?_)
        rw [hq, nI_pred, nI_clamp (by omega), show mJ M 351 vs.length = zJ x from hs.1]
        refine ⟨vp_in_nI (by omega) (by decide), ?_⟩
        unfold w_X8_qOf
        refine hof M _ hf ?_
        rw [nI_l (by omega), ← zJ_n]
        have fin : ∀ y : Int, y = (if x = (w : Int) then 1 else 0) → w_X8_qClip (zJ y) M (fun y24 M23 => vp_in (nI vs.length) 1700 ∧ w_X8_qTold_7 n (nI a) (nI (i + 1)) (sJ M23 351 vs.length y24) Q) := fun y ey => by
          have y01 : y = 0 ∨ y = 1 := by rw [ey]; split <;> omega
          refine m_clip (by omega) (by omega) ⟨vp_in_nI (by omega) (by decide), go _ (hf.j _ _) ?_ ?_⟩
          · rw [ee, ← ey, clip_id (by omega) (by omega)]; exact ⟨rJs _ _ _ _, stkM_up (Nat.le_refl _) hs.2⟩
          · rw [ee]; exact hq
        refine kj_ne x (w : Int) (fun h => fin 0 (by rw [if_neg h])) (fun h => fin 1 (by rw [if_pos h])) rfl rfl (by have := hv.1; omega) (by have := hv.1; omega) (by omega) (by omega)
    · have ee : ev1 F (w : Int) c vs = F (c - 40) :: vs := by unfold ev1; rw [if_neg (by omega), if_neg (by omega), if_pos h1]
      refine k_yes (nI_lt (b := 1000) (by omega) (by decide)) (k_yes (nI_lt (b := 60) (by omega) (by decide)) (k_no (nI_nlt (b := 40) (by omega) (by omega)) ?_))
      rw [show nI c - 40 = nI (c - 40) from pk_sub (a := c) (b := 40) h1]
      have hF' := hF (c - 40)
      refine hfa (c - 40) (by omega) M _ hf (m_clip (by omega) (by omega) ?_)
      rw [clip_id hF'.1 hF'.2]
      exact q_step hf (by omega) hs ee hq go
    · subst h1
      have ee : ev1 F (w : Int) 13 vs = 1 :: vs := rfl
      exact k_yes (by decide) (k_yes (by decide) (k_yes (by decide) (k_yes' (by decide) (q_step hf (by omega) hs ee hq go))))
    · subst h1 ht
      match vs, hv with
      | x :: vs, hv =>
        have ee : ev1 F (w : Int) 12 (x :: vs) = (1 - x) :: vs := rfl
        rw [List.length_cons] at hl hq
        refine k_yes (by decide) (k_yes (by decide) (k_yes (by decide) (k_no' (by decide) (k_yes' (by decide) ?_))))
        rw [hq, nI_pred, nI_clamp (by omega), show mJ M 351 vs.length = zJ x from hs.1, show (1 : Int64) = zJ 1 from rfl, zJ_sub]
        refine ⟨vp_in_nI (by omega) (by decide), vp_in_nI (by omega) (by decide), go _ (hf.j _ _) ?_ ?_⟩
        · rw [ee]; exact ⟨rJs _ _ _ _, stkM_up (Nat.le_refl _) hs.2⟩
        · rw [ee]; exact hq
    · subst ht
      match vs, hv with
      | y :: x :: vs, hv =>
        have ee : ev1 F (w : Int) c (y :: x :: vs) = jn c x y :: vs := by unfold ev1; rw [if_neg (by omega), if_neg (by omega), if_neg (by omega), if_neg (by omega), if_neg (by omega)]
        rw [List.length_cons, List.length_cons] at hl hq
        refine k_yes (nI_lt (b := 1000) (by omega) (by decide)) (k_yes (nI_lt (b := 60) (by omega) (by decide)) (k_yes (nI_lt (b := 40) (by omega) (by decide)) (k_no' (fun q => absurd ((nI_eq (b := 13) (by omega) (by decide)).mp q) (by omega)) (k_no' (fun q => absurd ((nI_eq (b := 12) (by omega) (by decide)).mp q) (by omega)) ?_))))
        refine s_qJoins h1 h2 hv.2.1.1 hv.2.1.2.1 hv.1.1 hv.1.2.1 (fun q => ⟨hv.2.1.2.2 (hb q).2, hv.1.2.2 (hb q).1⟩) (h := vs.length) (by omega) hq hs.2.1 hs.1 (go _ (((hf.i _).j _ _).i _) ?_ ?_)
        · rw [ee]; exact ⟨rJs _ _ _ _, stkM_i (stkM_up (Nat.le_refl _) (stkM_i hs.2.2 _ _ _)) _ _ _⟩
        · rw [ee]; exact rIs _ _ _ _
/-- whether asker b is on the air with the set s -/
def onB (s b : Nat) : Nat := s / 2 ^ b % 2
theorem onB_le (s b : Nat) : onB s b ≤ 1 := by unfold onB; omega
theorem fF_on {D S : Nat → Nat} {b on j : Nat} (hj : j < 9) : fF D S b on j = fF D S b 0 j := by
  have cs : j = 0 ∨ j = 1 ∨ j = 2 ∨ j = 3 ∨ j = 4 ∨ j = 5 ∨ j = 6 ∨ j = 7 ∨ j = 8 := by omega
  rcases cs with rfl | rfl | rfl | rfl | rfl | rfl | rfl | rfl | rfl <;> rfl
/-- what a question's program c says of asker b -/
def qvl (D S : Nat → Nat) (s : Nat) (c : List Nat) (b : Nat) : Int := (evs (fF D S b (onB s b)) ((S (2 + 5 * b) : Nat) : Int) c []).headD 0
theorem m_qTold {M : pm} {b s : Nat} {D S : Nat → Nat} {P : Nat → List Nat} (hd : dM M D P) (hD : okD D P) (hs : sM M D S) (hS : okS D S) (hb : b < D 2) (h31 : s < 2 ^ 31) (h56 : mI M 277 56 = nI s) {c : List Nat} (h96 : mI M 277 96 = nI c.length) (h16 : c.length ≤ 1600) (hcd : cdM M c) {bb : Bool} (hk : kds 100 c [] = some [bb]) {Q : Int64 → pm → Prop} (k : ∀ M', fq M M' → -1000000 ≤ qvl D S s c b → qvl D S s c b ≤ 1000000 → (bb = true → qvl D S s c b = 0 ∨ qvl D S s c b = 1) → Q (zJ (qvl D S s c b)) M') : w_X8_qTold (nI b) M Q := by
  have hb8 : b < 8 := by have := hD.2.2.1; omega
  have f0 : fq M (sI M 277 102 0) := (fq.rf M).i 0
  have cv : ∀ M', fq (sI M 277 102 0) M' → fq M M' := fun M' h => ⟨h.1.trans f0.1, h.2.1.trans f0.2.1, fun a ha => (h.2.2.1 a ha).trans (f0.2.2.1 a ha), fun j hj => (h.2.2.2.1 j hj).trans (f0.2.2.2.1 j hj), fun a ha => (h.2.2.2.2 a ha).trans (f0.2.2.2.2 a ha)⟩
  have dd : ∀ M', fq M M' → dM M' D P := fun M' h => dM_c (fun b b1 b2 _ => h.2.2.1 b (by omega)) hd
  have ss : ∀ M', fq M M' → sM M' D S := fun M' h => sM_c (h.2.2.1 317 (by decide)) hs
  have w6 := (hS.2.2 b hb).1
  have w7 := hD.2.1
  refine ⟨c.length + 1, u_loop (F := fF D S b (onB s b)) (w := S (2 + 5 * b)) (fF_in hD hS hb (onB_le s b)) (by omega) (fun j hj M' R h1 h2 => ?_) (fun M' R h1 h2 => m_songOf hb8 (ss M' (cv M' h1)) hb h2) c _ 0 [] [] _ (by omega) (fq.rf _) (fun j x hx => ?_) (by rw [rI (by omega), h96, Nat.zero_add]) (by omega) hk trivial (by decide) trivial (rIs _ _ _ _) (fun M' v h1 h2 h3 h4 h5 => ?_)⟩
  · by_cases q : j < 9
    · exact m_part (on := onB s b) (dd M' (cv M' h1)) hD (ss M' (cv M' h1)) hS hb q h2
    · have e9 : j = 9 := by omega
      subst e9
      unfold w_X8_qPartOf
      simp (decide := true) only [false_implies, true_implies, not_false_eq_true, not_true_eq_false, and_true, true_and, forall_const]
      rw [(cv M' h1).2.2.2.1 56 (by decide), h56, b_bit h31 (by omega), nI_l (by omega), ← zJ_n]
      exact h2
  · rw [Nat.zero_add, rI (by omega)]; exact hcd j x hx
  · have e : qvl D S s c b = v := by unfold qvl; rw [h2]; rfl
    rw [← e]
    exact k M' (cv M' h1) (by omega) (by omega) (fun q => by rw [e]; exact h5 q)
