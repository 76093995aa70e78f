/-! a station's numbers D (0 the hour, 1 songs, 2 askers, 3 ears, 4 the toll, 10 + s a song's length, 20 + s its style, 30 + e a taste), its programs P; a state S as the reference lays it -/
def okD (D : Nat → Nat) (P : Nat → List Nat) : Prop := D 0 ≤ 60 ∧ D 1 ≤ 6 ∧ D 2 ≤ 8 ∧ D 3 ≤ 5 ∧ D 4 ≤ 100 ∧ (∀ s, s < D 1 → 1 ≤ D (10 + s) ∧ D (10 + s) ≤ 60 ∧ D (20 + s) ≤ 9) ∧ (∀ e, e < D 3 → D (30 + e) ≤ 9) ∧ (0 < D 2 → ∀ p, p < 3 → kds 100 (P p) [] = some [decide (p = 1)] ∧ ∀ c ∈ P p, 1000 ≤ c ∨ c < 47)
def dC (M : pm) (t : Nat) (D : Nat → Nat) (P : Nat → List Nat) : Prop := mI M t 1 = nI (D 0) ∧ mI M t 4 = nI (D 1) ∧ mI M t 8 = nI (D 2) ∧ mI M t 13 = nI (D 3) ∧ mI M t 3 = nI (D 4) ∧ (∀ s, s < D 1 → mI M (t + 2) s = nI (D (10 + s)) ∧ mI M (t + 3) s = nI (D (20 + s))) ∧ (∀ e, e < D 3 → mI M (t + 9) e = nI (D (30 + e))) ∧ (0 < D 2 → ∀ p, p < 3 → prgC M (t + 10) p (P p))
def dM (M : pm) (D : Nat → Nat) (P : Nat → List Nat) : Prop := mI M 308 3 = nI (D 0) ∧ mI M 309 3 = nI (D 1) ∧ mI M 309 4 = nI (D 2) ∧ mI M 309 5 = nI (D 3) ∧ mI M 308 5 = nI (D 4) ∧ (∀ s, s < D 1 → mI M 311 (12 + 2 * s) = nI (D (10 + s)) ∧ mI M 311 (13 + 2 * s) = nI (D (20 + s))) ∧ (∀ e, e < D 3 → mI M 313 (5 + e) = nI (D (30 + e))) ∧ (0 < D 2 → ∀ p, p < 3 → (mI M 314 (3 + p) = -1 ∧ P p = dfl p) ∨ prgM M p (P p))
def okS (D : Nat → Nat) (S : Nat → Nat) : Prop := S 0 ≤ 2000 ∧ S 1 ≤ 999 ∧ ∀ b, b < D 2 → S (2 + 5 * b) < D 1 ∧ S (3 + 5 * b) ≤ 999 ∧ S (4 + 5 * b) ≤ 99 ∧ S (5 + 5 * b) ≤ S 0 + 1 ∧ S (6 + 5 * b) ≤ 999
def sC (M : pm) (a : Nat) (D : Nat → Nat) (S : Nat → Nat) : Prop := mI M a 0 = nI (S 0) ∧ mI M a 1 = nI (S 1) ∧ ∀ b, b < D 2 → mI M (a + 1) b = nI (S (2 + 5 * b)) ∧ mI M (a + 2) b = nI (S (3 + 5 * b)) ∧ mI M (a + 3) b = nI (S (4 + 5 * b)) ∧ mI M (a + 4) b = nI (S (5 + 5 * b)) - 1 ∧ mI M (a + 5) b = nI (S (6 + 5 * b))
def sM (M : pm) (D : Nat → Nat) (S : Nat → Nat) : Prop := ∀ k, k < 2 + 5 * D 2 → mI M 317 k = nI (S k)
/-- frames -/
def fI (A : Nat → Prop) (M M' : pm) : Prop := mL M' = mL M ∧ mR M' = mR M ∧ mJ M' = mJ M ∧ ∀ a, ¬ A a → mI M' a = mI M a
theorem fI.rf {A : Nat → Prop} (M : pm) : fI A M M := ⟨rfl, rfl, rfl, fun _ _ => rfl⟩
theorem fI.tr {A : Nat → Prop} {M M1 M2 : pm} (h : fI A M M1) (g : fI A M1 M2) : fI A M M2 := ⟨g.1.trans h.1, g.2.1.trans h.2.1, g.2.2.1.trans h.2.2.1, fun a h1 => (g.2.2.2 a h1).trans (h.2.2.2 a h1)⟩
theorem fI.up {A : Nat → Prop} {M M1 : pm} (h : fI A M M1) {c : Nat} (hc : A c) (k : Nat) (v : Int32) : fI A M (sI M1 c k v) := ⟨h.1, h.2.1, h.2.2.1, fun a ha => by rw [← h.2.2.2 a ha]; exact mI_off (fun q => ha (by rw [q]; exact hc))⟩
theorem fI.mo {A B : Nat → Prop} {M M1 : pm} (h : fI A M M1) (hAB : ∀ a, A a → B a) : fI B M M1 := ⟨h.1, h.2.1, h.2.2.1, fun a ha => h.2.2.2 a (fun q => ha (hAB a q))⟩
def xE (a : Nat) : Prop := a = 45 ∨ a = 46
def xC (a : Nat) : Prop := 45 ≤ a ∧ a < 57
theorem f45.x {M M' : pm} (h : f45 M M') : fI xE M M' := ⟨h.1, h.2.1, h.2.2.1, fun a ha => h.2.2.2 a (fun q => ha (Or.inl q))⟩
theorem xEC {M M' : pm} (h : fI xE M M') : fI xC M M' := h.mo (fun a ha => by unfold xE at ha; unfold xC; omega)
theorem dC_c {M M' : pm} {t : Nat} {D : Nat → Nat} {P : Nat → List Nat} (e : ∀ b, t ≤ b → b < t + 15 → mI M' b = mI M b) (h : dC M t D P) : dC M' t D P := by
  unfold dC prgC at h ⊢
  simp only [e t (by omega) (by omega), e (t + 2) (by omega) (by omega), e (t + 3) (by omega) (by omega), e (t + 9) (by omega) (by omega), e (t + 10 + 1) (by omega) (by omega), e (t + 10 + 2) (by omega) (by omega), e (t + 10 + 3) (by omega) (by omega)]
  exact h
theorem dM_c {M M' : pm} {D : Nat → Nat} {P : Nat → List Nat} (e : ∀ b, 308 ≤ b → b < 317 → b ≠ 312 → mI M' b = mI M b) (h : dM M D P) : dM M' D P := by
  unfold dM prgM at h ⊢
  simp only [e 308 (by omega) (by omega) (by decide), e 309 (by omega) (by omega) (by decide), e 311 (by omega) (by omega) (by decide), e 313 (by omega) (by omega) (by decide), e 314 (by omega) (by omega) (by decide), e 315 (by omega) (by omega) (by decide), e 316 (by omega) (by omega) (by decide)]
  exact h
theorem sC_c {M M' : pm} {a : Nat} {D S : Nat → Nat} (e : ∀ b, a ≤ b → b < a + 6 → mI M' b = mI M b) (h : sC M a D S) : sC M' a D S := by
  unfold sC at h ⊢
  simp only [e a (by omega) (by omega), e (a + 1) (by omega) (by omega), e (a + 2) (by omega) (by omega), e (a + 3) (by omega) (by omega), e (a + 4) (by omega) (by omega), e (a + 5) (by omega) (by omega)]
  exact h
theorem sM_c {M M' : pm} {D S : Nat → Nat} (e : mI M' 317 = mI M 317) (h : sM M D S) : sM M' D S := by
  unfold sM at h ⊢
  rw [e]
  exact h
/-! what is told of an asker -/
def sinN (S : Nat → Nat) (b : Nat) : Nat := if S (5 + 5 * b) = 0 then 99 else min 99 (S 0 + 1 - S (5 + 5 * b))
def fFN (D S : Nat → Nat) (b on k : Nat) : Nat := [S (4 + 5 * b), S 0 - S (3 + 5 * b), sinN S b, S (6 + 5 * b), S 0, D (10 + S (2 + 5 * b)), D (20 + S (2 + 5 * b)), b, if S (3 + 5 * b) ≤ S 0 then 0 else 1, on].getD k 0
def fF (D S : Nat → Nat) (b on : Nat) (k : Nat) : Int := (fFN D S b on k : Nat)
theorem fFN_le {D S : Nat → Nat} {P : Nat → List Nat} {b on : Nat} (hD : okD D P) (hS : okS D S) (hb : b < D 2) (ho : on ≤ 1) (k : Nat) : fFN D S b on k ≤ 2001 := by
  obtain ⟨s1, s2, s3⟩ := hS
  obtain ⟨d0, d1, d2, d3, d4, d5, -, -⟩ := hD
  have q := s3 b hb
  have r := d5 _ q.1
  unfold fFN sinN
  match k with
  | 0 => show S (4 + 5 * b) ≤ 2001; omega
  | 1 => show S 0 - S (3 + 5 * b) ≤ 2001; omega
  | 2 => show (if S (5 + 5 * b) = 0 then 99 else min 99 (S 0 + 1 - S (5 + 5 * b))) ≤ 2001; split <;> omega
  | 3 => show S (6 + 5 * b) ≤ 2001; omega
  | 4 => show S 0 ≤ 2001; omega
  | 5 => show D (10 + S (2 + 5 * b)) ≤ 2001; omega
  | 6 => show D (20 + S (2 + 5 * b)) ≤ 2001; omega
  | 7 => show b ≤ 2001; omega
  | 8 => show (if S (3 + 5 * b) ≤ S 0 then 0 else 1) ≤ 2001; split <;> omega
  | 9 => show on ≤ 2001; omega
  | k + 10 => exact Nat.zero_le _
theorem fF_in {D S : Nat → Nat} {P : Nat → List Nat} {b on : Nat} (hD : okD D P) (hS : okS D S) (hb : b < D 2) (ho : on ≤ 1) (k : Nat) : -1000000 ≤ fF D S b on k ∧ fF D S b on k ≤ 1000000 := by
  have := fFN_le hD hS hb ho k
  unfold fF
  omega
/-- the programs' values -/
def vA (D S : Nat → Nat) (P : Nat → List Nat) (b p : Nat) : Int := (evs (fF D S b 0) 0 (P p) []).headD 0
def canA (D S : Nat → Nat) (P : Nat → List Nat) (b : Nat) : Bool := decide (S (3 + 5 * b) ≤ S 0) && decide (S (4 + 5 * b) ≠ 0) && decide (vA D S P b 1 ≠ 0)
def fadA (D S : Nat → Nat) (P : Nat → List Nat) (b : Nat) : Nat := if vA D S P b 0 < 0 then 0 else if 99 < vA D S P b 0 then 99 else (vA D S P b 0).toNat
/-! the class -/
theorem s_max {x y : Int} (x1 : -2147483648 ≤ x) (x2 : x < 2147483648) (y1 : -2147483648 ≤ y) (y2 : y < 2147483648) {M : pm} {Q : Int32 → pm → Prop} (k : Q (zI (max x y)) M) : w_J9_max_7cf53 (zI x) (zI y) M Q := by
  refine ki_lt x y (fun h => ?_) (fun h => ?_)
  · rw [show max x y = y from by omega] at k; exact k
  · rw [show max x y = x from by omega] at k; exact k
theorem s_min {x y : Int} (x1 : -2147483648 ≤ x) (x2 : x < 2147483648) (y1 : -2147483648 ≤ y) (y2 : y < 2147483648) {M : pm} {Q : Int32 → pm → Prop} (k : Q (zI (min x y)) M) : w_J9_min_7cf53 (zI x) (zI y) M Q := by
  refine ki_lt y x (fun h => ?_) (fun h => ?_)
  · rw [show min x y = y from by omega] at k; exact k
  · rw [show min x y = x from by omega] at k; exact k
theorem s_isDead {M : pm} {a b : Nat} {D S : Nat → Nat} (hb8 : b < 8) (hs : sC M a D S) (hS : okS D S) (hb : b < D 2) {Q : Int32 → pm → Prop} (k : Q (if S (3 + 5 * b) ≤ S 0 then 1 else 0) M) : w_X4_isDead a (nI b) M Q := by
  refine ⟨vp_in_nI hb8 (by decide), ?_⟩
  have q := hS.2.2 b hb
  have q0 := hS.1
  rw [nI_clamp (by omega), (hs.2.2 b hb).2.1, hs.1]
  refine pk_lt (S 0) (S (3 + 5 * b)) (fun h => ?_) (fun h => ?_)
  · rw [if_neg (by omega)] at k; exact k
  · rw [if_pos (by omega)] at k; exact k
theorem s_ageOf {M : pm} {a b : Nat} {D S : Nat → Nat} (hb8 : b < 8) (hs : sC M a D S) (hS : okS D S) (hb : b < D 2) {Q : Int32 → pm → Prop} (k : Q (nI (S 0 - S (3 + 5 * b))) M) : w_X4_ageOf a (nI b) M Q := by
  refine ⟨vp_in_nI hb8 (by decide), ?_⟩
  have q := hS.2.2 b hb
  have q0 := hS.1
  rw [nI_clamp (by omega), (hs.2.2 b hb).2.1, hs.1, ← zI_n, ← zI_n, zI_sub]
  refine s_max (x := 0) (by omega) (by omega) (by omega) (by omega) ?_
  rw [show max (0 : Int) (↑(S 0) - ↑(S (3 + 5 * b))) = ((S 0 - S (3 + 5 * b) : Nat) : Int) from by omega, zI_n]
  exact k
theorem s_sinceOf {M : pm} {a b : Nat} {D S : Nat → Nat} (hb8 : b < 8) (hs : sC M a D S) (hS : okS D S) (hb : b < D 2) {Q : Int32 → pm → Prop} (k : Q (nI (sinN S b)) M) : w_X4_sinceOf a (nI b) M Q := by
  refine ⟨vp_in_nI hb8 (by decide), ?_⟩
  have q := hS.2.2 b hb
  have q0 := hS.1
  unfold sinN at k
  rw [nI_clamp (by omega), (hs.2.2 b hb).2.2.2.1, hs.1]
  have e1 : nI (S (5 + 5 * b)) - 1 = zI ((S (5 + 5 * b) : Int) - 1) := by rw [← zI_n, ← zI_sub]; rfl
  rw [e1, ← zI_n (S 0), zI_sub]
  refine ki_ne ((S (5 + 5 * b) : Int) - 1) (-1) (fun h => ⟨vp_in_nI hb8 (by decide), s_min (x := 99) (by omega) (by omega) (by omega) (by omega) ?_⟩) (fun h => ?_)
  · rw [if_neg (by omega)] at k
    rw [show min (99 : Int) (↑(S 0) - (↑(S (5 + 5 * b)) - 1)) = ((min 99 (S 0 + 1 - S (5 + 5 * b)) : Nat) : Int) from by omega, zI_n]
    exact k
  · rw [if_pos (by omega)] at k; exact k
theorem s_longOf {M : pm} {t s : Nat} {D : Nat → Nat} {P : Nat → List Nat} (hd : dC M t D P) (hD : okD D P) (hs : s < D 1) {Q : Int32 → pm → Prop} (k : Q (nI (D (10 + s))) M) : w_X5_longOf t (nI s) M Q := by
  have := hD.2.1
  refine k_no (nI_pos (by omega)) ?_
  rw [hd.2.1]
  refine k_no (nI_ge hs (by omega)) ⟨vp_in_nI (by omega) (by decide), ?_⟩
  rw [nI_clamp (by omega), (hd.2.2.2.2.2.1 s hs).1]
  exact k
theorem s_styleOf {M : pm} {t s : Nat} {D : Nat → Nat} {P : Nat → List Nat} (hd : dC M t D P) (hD : okD D P) (hs : s < D 1) {Q : Int32 → pm → Prop} (k : Q (nI (D (20 + s))) M) : w_X5_styleOf t (nI s) M Q := by
  have := hD.2.1
  refine k_no (nI_pos (by omega)) ?_
  rw [hd.2.1]
  refine k_no (nI_ge hs (by omega)) ⟨vp_in_nI (by omega) (by decide), ?_⟩
  rw [nI_clamp (by omega), (hd.2.2.2.2.2.1 s hs).2]
  exact k
theorem s_lookAt {M : pm} {t a b : Nat} {D S : Nat → Nat} {P : Nat → List Nat} (ht : t + 14 < 45) (ha : 57 ≤ a) (hd : dC M t D P) (hD : okD D P) (hs : sC M a D S) (hS : okS D S) (hb : b < D 2) {Q : pm → Prop} (k : ∀ M', fI xE M M' → (∀ j, j < 9 → mI M' 46 (fxN.getD j 0) = zI (fF D S b 0 j)) → mI M' 46 5 = nI (S (2 + 5 * b)) → Q M') : w_X1_lookAt t a (nI b) M Q := by
  have hb8 : b < 8 := by have := hD.2.2.1; omega
  have q := hS.2.2 b hb
  have q0 := hS.1
  refine ⟨vp_in_nI hb8 (by decide), vp_in_nI hb8 (by decide), ?_⟩
  rw [nI_clamp (by omega), (hs.2.2 b hb).2.2.1, (hs.2.2 b hb).1]
  have fr : ∀ {M1 : pm} (k : Nat) (v : Int32), fI xE M M1 → fI xE M (sI M1 46 k v) := fun k v h => h.up (Or.inr rfl) k v
  have ss : ∀ {M1 : pm}, fI xE M M1 → sC M1 a D S := fun h => sC_c (fun c c1 c2 => h.2.2.2 c (by unfold xE; omega)) hs
  have dd : ∀ {M1 : pm}, fI xE M M1 → dC M1 t D P := fun h => dC_c (fun c c1 c2 => h.2.2.2 c (by unfold xE; omega)) hd
  have f1 := fr 7 (nI (S (4 + 5 * b))) (fI.rf M)
  refine s_ageOf hb8 (ss f1) hS hb ?_
  have f2 := fr 15 (nI (S 0 - S (3 + 5 * b))) f1
  refine s_sinceOf hb8 (ss f2) hS hb ⟨vp_in_nI hb8 (by decide), ?_⟩
  have f3 := fr 16 (nI (sinN S b)) f2
  rw [((ss f3).2.2 b hb).2.2.2.2]
  have f4 := fr 17 (nI (S (6 + 5 * b))) f3
  rw [(ss f4).1]
  have f5 := fr 18 (nI (S 0)) f4
  refine s_longOf (dd f5) hD q.1 ?_
  have f6 := fr 2 (nI (D (10 + S (2 + 5 * b)))) f5
  refine s_styleOf (dd f6) hD q.1 ?_
  have f7 := fr 3 (nI (D (20 + S (2 + 5 * b)))) f6
  have f8 := fr 19 (nI b) f7
  refine s_isDead hb8 (ss f8) hS hb ?_
  by_cases h : S (3 + 5 * b) ≤ S 0
  · rw [if_pos h]
    refine k_no (by decide) (k _ (fr 5 _ (fr 20 0 f8)) (fun j hj => ?_) (rIs _ _ _ _))
    have e8 : fF D S b 0 8 = 0 := by
      show ((if S (3 + 5 * b) ≤ S 0 then 0 else 1 : Nat) : Int) = 0
      rw [if_pos h]; rfl
    match j, hj with
    | 0, _ => refine ((rI (by decide)).trans ((rI (by decide)).trans ((rI (by decide)).trans ((rI (by decide)).trans ((rI (by decide)).trans ((rI (by decide)).trans ((rI (by decide)).trans ((rI (by decide)).trans ((rI (by decide)).trans (rIs _ _ _ _)))))))))).trans (zI_n _).symm
    | 1, _ => refine ((rI (by decide)).trans ((rI (by decide)).trans ((rI (by decide)).trans ((rI (by decide)).trans ((rI (by decide)).trans ((rI (by decide)).trans ((rI (by decide)).trans ((rI (by decide)).trans (rIs _ _ _ _))))))))).trans (zI_n _).symm
    | 2, _ => refine ((rI (by decide)).trans ((rI (by decide)).trans ((rI (by decide)).trans ((rI (by decide)).trans ((rI (by decide)).trans ((rI (by decide)).trans ((rI (by decide)).trans (rIs _ _ _ _)))))))).trans (zI_n _).symm
    | 3, _ => refine ((rI (by decide)).trans ((rI (by decide)).trans ((rI (by decide)).trans ((rI (by decide)).trans ((rI (by decide)).trans ((rI (by decide)).trans (rIs _ _ _ _))))))).trans (zI_n _).symm
    | 4, _ => refine ((rI (by decide)).trans ((rI (by decide)).trans ((rI (by decide)).trans ((rI (by decide)).trans ((rI (by decide)).trans (rIs _ _ _ _)))))).trans (zI_n _).symm
    | 5, _ => refine ((rI (by decide)).trans ((rI (by decide)).trans ((rI (by decide)).trans ((rI (by decide)).trans (rIs _ _ _ _))))).trans (zI_n _).symm
    | 6, _ => refine ((rI (by decide)).trans ((rI (by decide)).trans ((rI (by decide)).trans (rIs _ _ _ _)))).trans (zI_n _).symm
    | 7, _ => refine ((rI (by decide)).trans ((rI (by decide)).trans (rIs _ _ _ _))).trans (zI_n _).symm
    | 8, _ => rw [e8]; exact ((rI (by decide)).trans (rIs _ _ _ _))
    | j + 9, hj => omega
  · rw [if_neg h]
    refine k_yes rfl (k _ (fr 5 _ (fr 20 1 f8)) (fun j hj => ?_) (rIs _ _ _ _))
    have e8 : fF D S b 0 8 = 1 := by
      show ((if S (3 + 5 * b) ≤ S 0 then 0 else 1 : Nat) : Int) = 1
      rw [if_neg h]; rfl
    match j, hj with
    | 0, _ => refine ((rI (by decide)).trans ((rI (by decide)).trans ((rI (by decide)).trans ((rI (by decide)).trans ((rI (by decide)).trans ((rI (by decide)).trans ((rI (by decide)).trans ((rI (by decide)).trans ((rI (by decide)).trans (rIs _ _ _ _)))))))))).trans (zI_n _).symm
    | 1, _ => refine ((rI (by decide)).trans ((rI (by decide)).trans ((rI (by decide)).trans ((rI (by decide)).trans ((rI (by decide)).trans ((rI (by decide)).trans ((rI (by decide)).trans ((rI (by decide)).trans (rIs _ _ _ _))))))))).trans (zI_n _).symm
    | 2, _ => refine ((rI (by decide)).trans ((rI (by decide)).trans ((rI (by decide)).trans ((rI (by decide)).trans ((rI (by decide)).trans ((rI (by decide)).trans ((rI (by decide)).trans (rIs _ _ _ _)))))))).trans (zI_n _).symm
    | 3, _ => refine ((rI (by decide)).trans ((rI (by decide)).trans ((rI (by decide)).trans ((rI (by decide)).trans ((rI (by decide)).trans ((rI (by decide)).trans (rIs _ _ _ _))))))).trans (zI_n _).symm
    | 4, _ => refine ((rI (by decide)).trans ((rI (by decide)).trans ((rI (by decide)).trans ((rI (by decide)).trans ((rI (by decide)).trans (rIs _ _ _ _)))))).trans (zI_n _).symm
    | 5, _ => refine ((rI (by decide)).trans ((rI (by decide)).trans ((rI (by decide)).trans ((rI (by decide)).trans (rIs _ _ _ _))))).trans (zI_n _).symm
    | 6, _ => refine ((rI (by decide)).trans ((rI (by decide)).trans ((rI (by decide)).trans (rIs _ _ _ _)))).trans (zI_n _).symm
    | 7, _ => refine ((rI (by decide)).trans ((rI (by decide)).trans (rIs _ _ _ _))).trans (zI_n _).symm
    | 8, _ => rw [e8]; exact ((rI (by decide)).trans (rIs _ _ _ _))
    | j + 9, hj => omega
/-- a station's program for the one looked at -/
theorem s_prog {M : pm} {t p b : Nat} {D S : Nat → Nat} {P : Nat → List Nat} (ht : t + 14 < 45) (hp : p < 3) (hd : dC M t D P) (hD : okD D P) (hS : okS D S) (hb : b < D 2) (hf : ∀ j, j < 9 → mI M 46 (fxN.getD j 0) = zI (fF D S b 0 j)) {Q : Int32 → pm → Prop} (k : ∀ M', fI xE M M' → -1000000 ≤ vA D S P b p → vA D S P b p ≤ 1000000 → (p = 1 → vA D S P b p = 0 ∨ vA D S P b p = 1) → Q (zI (vA D S P b p)) M') : w_X1_valueOf (t + 10) (nI p) M Q := by
  have h0 : 0 < D 2 := by omega
  have hk := hD.2.2.2.2.2.2.2 h0 p hp
  refine s_valueOf (b := decide (p = 1)) (F := fF D S b 0) (w := 0) (by omega) (by omega) hp (fF_in hD hS hb (by decide)) (by decide) (hd.2.2.2.2.2.2.2 h0 p hp) hk.1 (fun c hc h1 h2 => hf (c - 40) (by have := hk.2 c hc; omega)) (fun h => absurd (hk.2 60 h) (by omega)) (fun M' v h1 h2 h3 h4 h5 => ?_)
  have e : vA D S P b p = v := by unfold vA; rw [h2]; rfl
  rw [← e]
  rw [← e] at h3 h4 h5
  exact k M' h1.x h3 h4 (fun q => h5 (by rw [q]; rfl))
theorem s_canPlay {M : pm} {t a b : Nat} {D S : Nat → Nat} {P : Nat → List Nat} (ht : t + 14 < 45) (ha : 57 ≤ a) (hd : dC M t D P) (hD : okD D P) (hs : sC M a D S) (hS : okS D S) (hb : b < D 2) {Q : Int32 → pm → Prop} (k : ∀ M', fI xE M M' → Q (if canA D S P b then 1 else 0) M') : w_X1_canPlay t a (nI b) M Q := by
  have hb8 : b < 8 := by have := hD.2.2.1; omega
  have q := hS.2.2 b hb
  refine s_isDead hb8 hs hS hb ?_
  unfold canA at k
  by_cases h : S (3 + 5 * b) ≤ S 0
  · rw [if_pos h]
    refine k_no (by decide) ⟨vp_in_nI hb8 (by decide), ?_⟩
    rw [nI_clamp (by omega), (hs.2.2 b hb).2.2.1]
    refine pk_ne (S (4 + 5 * b)) 0 (fun h2 => ?_) (fun h2 => ?_)
    · refine s_lookAt ht ha hd hD hs hS hb (fun M1 f1 g1 _ => ?_)
      refine s_prog (p := 1) ht (by decide) (dC_c (fun c c1 c2 => f1.2.2.2 c (by unfold xE; omega)) hd) hD hS hb g1 (fun M2 f2 v1 v2 v3 => ?_)
      refine ki_eq (vA D S P b 1) 0 (fun e => ?_) (fun e => ?_)
      · have := k M2 (f1.tr f2)
        rw [e] at this
        simp only [h, h2, decide_true, decide_false, Bool.and_false, ne_eq, not_true_eq_false, Bool.false_eq_true, if_false] at this
        exact this
      · have := k M2 (f1.tr f2)
        simp only [h, h2, e, decide_true, Bool.and_self, ne_eq, not_false_eq_true, if_true] at this
        exact this
    · have := k M (fI.rf M)
      simp only [h, h2, decide_true, decide_false, Bool.and_false, Bool.false_and, ne_eq, not_true_eq_false, Bool.false_eq_true, if_false] at this
      exact this
  · rw [if_neg h]
    have := k M (fI.rf M)
    simp only [h, decide_false, Bool.false_and, Bool.false_eq_true, if_false] at this
    exact k_yes rfl this
theorem s_worthOf {M : pm} {t a b : Nat} {D S : Nat → Nat} {P : Nat → List Nat} (ht : t + 14 < 45) (ha : 57 ≤ a) (hd : dC M t D P) (hD : okD D P) (hs : sC M a D S) (hS : okS D S) (hb : b < D 2) {Q : Int32 → pm → Prop} (k : ∀ M', fI xE M M' → -1000000 ≤ vA D S P b 2 → vA D S P b 2 ≤ 1000000 → Q (zI (vA D S P b 2)) M') : w_X1_worthOf t a (nI b) M Q :=
  s_lookAt ht ha hd hD hs hS hb (fun M1 f1 g1 _ => s_prog (p := 2) ht (by decide) (dC_c (fun c c1 c2 => f1.2.2.2 c (by unfold xE; omega)) hd) hD hS hb g1 (fun M2 f2 v1 v2 _ => k M2 (f1.tr f2) v1 v2))
