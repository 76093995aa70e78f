/-! what both sides hold, told together; thinking ahead -/
def Rp (M : pm) (t : Nat) (D : Nat → Nat) (P : Nat → List Nat) (S : Nat → Nat) : Prop := (t = 14 ∨ t = 29) ∧ mR M 3 3 = t ∧ okD D P ∧ dC M t D P ∧ dM M D P ∧ okS D S ∧ S 0 ≤ 999 ∧ sC M 57 D S ∧ sM M D S ∧ mI M 3 5 = mI M 277 50 ∧ ((mI M 3 5 = 0 ∧ D 0 = 0 ∧ D 1 = 0 ∧ D 2 = 0 ∧ D 3 = 0) ∨ (mI M 3 5 = 1 ∧ 1 ≤ D 0)) ∧ mI M 277 58 = 0
def mkD (M : pm) (t ns na ne hr tl k : Nat) : Nat := if k = 0 then hr else if k = 1 then ns else if k = 2 then na else if k = 3 then ne else if k = 4 then tl else if k < 20 then (mI M (t + 2) (k - 10)).toNatClampNeg else if k < 30 then (mI M (t + 3) (k - 20)).toNatClampNeg else (mI M (t + 9) (k - 30)).toNatClampNeg
theorem Rp_of {M : pm} (hI : Inv M) : ∃ t D P S, Rp M t D P S := by
  obtain ⟨-, -, -, -, -, -, -, t, ns, na, ne, hr, h8, h9, -, -⟩ := hI
  obtain ⟨b1, b2, b3, b4, b5, b6, b7, b8, b9, b10, ⟨tl, b11, b12, b13⟩, b14, b15, b16, b17, b18, b19, b20, b21, b22, b23⟩ := h8
  obtain ⟨⟨d, sl, n1, n2, n3, n4, n5, n6, n7⟩, -, n8⟩ := h9
  have S0 : (mI M 317 0).toNatClampNeg = d := by rw [n4, nI_clamp (by omega)]
  have S1 : (mI M 317 1).toNatClampNeg = sl := by rw [n6, nI_clamp (by omega)]
  have d0 : ∀ k, k < 5 → mkD M t ns na ne hr tl k = if k = 0 then hr else if k = 1 then ns else if k = 2 then na else if k = 3 then ne else tl := by
    intro k hk
    unfold mkD
    repeat' split
    all_goals first | rfl | omega
  have dl : ∀ s, s < ns → mkD M t ns na ne hr tl (10 + s) = (mI M (t + 2) s).toNatClampNeg ∧ mkD M t ns na ne hr tl (20 + s) = (mI M (t + 3) s).toNatClampNeg := by
    intro s hs
    unfold mkD
    rw [if_neg (by omega), if_neg (by omega), if_neg (by omega), if_neg (by omega), if_neg (by omega), if_pos (by omega), if_neg (by omega), if_neg (by omega), if_neg (by omega), if_neg (by omega), if_neg (by omega), if_neg (by omega), if_pos (by omega), show 10 + s - 10 = s from by omega, show 20 + s - 20 = s from by omega]
    exact ⟨rfl, rfl⟩
  have de : ∀ e, e < ne → mkD M t ns na ne hr tl (30 + e) = (mI M (t + 9) e).toNatClampNeg := by
    intro e he
    unfold mkD
    rw [if_neg (by omega), if_neg (by omega), if_neg (by omega), if_neg (by omega), if_neg (by omega), if_neg (by omega), if_neg (by omega), show 30 + e - 30 = e from by omega]
  have e0 : mkD M t ns na ne hr tl 0 = hr := d0 0 (by decide)
  have e1 : mkD M t ns na ne hr tl 1 = ns := d0 1 (by decide)
  have e2 : mkD M t ns na ne hr tl 2 = na := d0 2 (by decide)
  have e3 : mkD M t ns na ne hr tl 3 = ne := d0 3 (by decide)
  have e4 : mkD M t ns na ne hr tl 4 = tl := d0 4 (by decide)
  have hP : ∃ P : Nat → List Nat, 0 < na → ∀ p, p < 3 → kds 100 (P p) [] = some [decide (p = 1)] ∧ (∀ c ∈ P p, 1000 ≤ c ∨ c < 47) ∧ prgC M (t + 10) p (P p) ∧ ((mI M 314 (3 + p) = -1 ∧ P p = dfl p) ∨ prgM M p (P p)) := by
    rcases b23 with q | ⟨_, _, q⟩
    · exact ⟨fun _ => [], fun h => by omega⟩
    · have hq : ∀ p, p < 3 → ∃ os : List Nat, kds 100 os [] = some [decide (p = 1)] ∧ (∀ c ∈ os, 1000 ≤ c ∨ c < 47) ∧ prgC M (t + 10) p os ∧ ((mI M 314 (3 + p) = -1 ∧ os = dfl p) ∨ prgM M p os) := by
        intro p hp
        obtain ⟨os, f, f1, f2, f3, f4, f5, f6, f7⟩ := q p hp
        exact ⟨os, f5, f6, ⟨f, f1, f2, f3, f4⟩, f7⟩
      obtain ⟨o0, p0⟩ := hq 0 (by decide)
      obtain ⟨o1, p1⟩ := hq 1 (by decide)
      obtain ⟨o2, p2⟩ := hq 2 (by decide)
      refine ⟨fun p => if p = 0 then o0 else if p = 1 then o1 else o2, fun _ p hp => ?_⟩
      rcases (show p = 0 ∨ p = 1 ∨ p = 2 from by omega) with rfl | rfl | rfl
      · exact p0
      · exact p1
      · exact p2
  obtain ⟨P, hP⟩ := hP
  refine ⟨t, mkD M t ns na ne hr tl, P, fun k => (mI M 317 k).toNatClampNeg, by rcases b1 with h | h <;> omega, b2, ?_, ?_, ?_, ?_, ?_, ?_, ?_, b3, ?_, n8⟩
  · refine ⟨by rw [e0]; omega, by rw [e1]; omega, by rw [e2]; omega, by rw [e3]; omega, by rw [e4]; omega, fun s hs => ?_, fun e he => ?_, fun h p hp => ?_⟩
    · rw [e1] at hs
      obtain ⟨l, y, c1, c2, c3, c4, c5, c6, c7, -⟩ := b20 s hs
      rw [(dl s hs).1, (dl s hs).2, c4, c6, nI_clamp (by omega), nI_clamp (by omega)]
      exact ⟨c1, c2, c3⟩
    · rw [e3] at he
      obtain ⟨y, c1, c2, c3, -⟩ := b22 e he
      rw [de e he, c2, nI_clamp (by omega)]
      exact c1
    · rw [e2] at h
      exact ⟨(hP h p hp).1, (hP h p hp).2.1⟩
  · refine ⟨by rw [e0]; exact b9, by rw [e1]; exact b14, by rw [e2]; exact b16, by rw [e3]; exact b18, by rw [e4]; exact b12, fun s hs => ?_, fun e he => ?_, fun h p hp => ?_⟩
    · rw [e1] at hs
      obtain ⟨l, y, c1, c2, c3, c4, c5, c6, c7, -⟩ := b20 s hs
      rw [(dl s hs).1, (dl s hs).2, c4, c6, nI_clamp (by omega), nI_clamp (by omega)]
      exact ⟨rfl, rfl⟩
    · rw [e3] at he
      obtain ⟨y, c1, c2, c3, -⟩ := b22 e he
      rw [de e he, c2, nI_clamp (by omega)]
    · rw [e2] at h
      exact (hP h p hp).2.2.1
  · refine ⟨by rw [e0]; exact b10, by rw [e1]; exact b15, by rw [e2]; exact b17, by rw [e3]; exact b19, by rw [e4]; exact b13, fun s hs => ?_, fun e he => ?_, fun h p hp => ?_⟩
    · rw [e1] at hs
      obtain ⟨l, y, c1, c2, c3, c4, c5, c6, c7, -⟩ := b20 s hs
      rw [(dl s hs).1, (dl s hs).2, c4, c6, nI_clamp (by omega), nI_clamp (by omega)]
      exact ⟨c5, c7⟩
    · rw [e3] at he
      obtain ⟨y, c1, c2, c3, -⟩ := b22 e he
      rw [de e he, c2, nI_clamp (by omega)]
      exact c3
    · rw [e2] at h
      exact (hP h p hp).2.2.2
  · refine ⟨by dsimp only; rw [S0]; omega, by dsimp only; rw [S1]; omega, fun b hb => ?_⟩
    rw [e2] at hb
    obtain ⟨s, di, mi, la, pl, c1, c2, c3, c4, c5, c6, c7, c8, c9, c10, c11, c12, c13, c14, c15⟩ := n7 b hb
    dsimp only
    rw [S0, e1, c7, c9, c11, c13, c15, nI_clamp (by omega), nI_clamp (by omega), nI_clamp (by omega), nI_clamp (by omega), nI_clamp (by omega)]
    exact ⟨c1, c2, c3, c4, c5⟩
  · dsimp only; rw [S0]; exact n1
  · refine ⟨by dsimp only; rw [S0]; exact n3, by dsimp only; rw [S1]; exact n5, fun b hb => ?_⟩
    rw [e2] at hb
    obtain ⟨s, di, mi, la, pl, c1, c2, c3, c4, c5, c6, c7, c8, c9, c10, c11, c12, c13, c14, c15⟩ := n7 b hb
    dsimp only
    rw [c7, c9, c11, c13, c15, nI_clamp (by omega), nI_clamp (by omega), nI_clamp (by omega), nI_clamp (by omega), nI_clamp (by omega)]
    exact ⟨c6, c8, c10, c12, c14⟩
  · intro k hk
    rw [e2] at hk
    dsimp only
    rcases (show k = 0 ∨ k = 1 ∨ 2 ≤ k from by omega) with rfl | rfl | h2
    · rw [S0]; exact n4
    · rw [S1]; exact n6
    · obtain ⟨s, di, mi, la, pl, c1, c2, c3, c4, c5, c6, c7, c8, c9, c10, c11, c12, c13, c14, c15⟩ := n7 ((k - 2) / 5) (by omega)
      rcases (show k = 2 + 5 * ((k - 2) / 5) ∨ k = 3 + 5 * ((k - 2) / 5) ∨ k = 4 + 5 * ((k - 2) / 5) ∨ k = 5 + 5 * ((k - 2) / 5) ∨ k = 6 + 5 * ((k - 2) / 5) from by omega) with h | h | h | h | h
      · rw [h, c7, nI_clamp (by omega)]
      · rw [h, c9, nI_clamp (by omega)]
      · rw [h, c11, nI_clamp (by omega)]
      · rw [h, c13, nI_clamp (by omega)]
      · rw [h, c15, nI_clamp (by omega)]
  · rcases b23 with ⟨q1, q2, q3, q4, q5⟩ | ⟨q1, q2, _⟩
    · exact Or.inl ⟨q1, by rw [e0]; exact q5, by rw [e1]; exact q2, by rw [e2]; exact q3, by rw [e3]; exact q4⟩
    · exact Or.inr ⟨q1, by rw [e0]; exact q2⟩
theorem Rp_same {M M' : pm} (h : same M M') {t : Nat} {D : Nat → Nat} {P : Nat → List Nat} {S : Nat → Nat} (R : Rp M t D P S) : Rp M' t D P S := by
  obtain ⟨r1, r2, r3, r4, r5, r6, r7, r8, r9, r10, r11, r12⟩ := R
  have e3 : mI M' 3 = mI M 3 := h.2.2.1 3 (by unfold scrA; omega) (by decide)
  refine ⟨r1, by rw [h.2.1]; exact r2, r3, dC_c (fun b b1 b2 => h.2.2.1 b (by unfold scrA; omega) (by omega)) r4, dM_c (fun b b1 b2 b3 => h.2.2.1 b (by unfold scrA; omega) (by omega)) r5, r6, r7, sC_c (fun b b1 b2 => h.2.2.1 b (by unfold scrA; omega) (by omega)) r8, sM_c (h.2.2.1 317 (by unfold scrA; omega) (by decide)) r9, by rw [e3, h.2.2.2.1 50 (by unfold scrK; omega)]; exact r10, by rw [e3]; exact r11, by rw [h.2.2.2.1 58 (by unfold scrK; omega)]; exact r12⟩
theorem stp_ro {A : Type} {wx wm : pm → (A → pm → Prop) → Prop} {M : pm} (hI : Inv M) (y : A) (hx : ∀ K : A → pm → Prop, (∀ M1, same M M1 → K y M1) → wx M K) (hm : ∀ M1, same M M1 → ∀ Q : A → pm → Prop, (∀ M2, same M1 M2 → Q y M2) → wm M1 Q) : stp Inv wx wm M := by
  intro K hK
  exact hx K (fun M1 s1 => hK y M1 s1.sc (fun Q hQ => hm M1 s1 Q (fun M2 s2 => hQ M2 (Inv_same s2 (Inv_same s1 hI)) s2.sc)))
/-- the class's rows that no part looks at -/
def xT (c : Nat) : Prop := (45 ≤ c ∧ c < 57) ∨ (66 ≤ c ∧ c < 75)
theorem fT_same {M M' : pm} (h : fI xT M M') : same M M' := ⟨h.1, h.2.1, fun a h1 _ => h.2.2.2 a (fun q => h1 (by unfold xT at q; unfold scrA; omega)), fun k _ => by rw [h.2.2.2 277 (by unfold xT; omega)], by rw [h.2.2.1], by rw [h.2.2.1]⟩
theorem xC_T {M M' : pm} (h : fI xC M M') : fI xT M M' := h.mo (fun a ha => Or.inl ha)
theorem xP_T {M M' : pm} (h : fI (xP 66) M M') : fI xT M M' := h.mo (fun a ha => by unfold xP xE at ha; unfold xT; omega)
theorem tC {M M' : pm} (h : fI xT M M') {t : Nat} {D : Nat → Nat} {P : Nat → List Nat} (ht : t = 14 ∨ t = 29) (hd : dC M t D P) : dC M' t D P := dC_c (fun c c1 c2 => h.2.2.2 c (by unfold xT; omega)) hd
theorem c_isAsker_no {M : pm} {t : Nat} {D S : Nat → Nat} {P : Nat → List Nat} (R : Rp M t D P S) {x : Int32} (h : x < 0 ∨ (¬ x < 0 ∧ nI (D 2) ≤ x)) {Q : Int32 → pm → Prop} (k : Q 0 M) : w_X7_isAsker x M Q := by
  refine ⟨fun _ => k, fun h1 => ⟨fun _ => k, fun h2 => ?_⟩⟩
  rw [R.2.1, R.2.2.2.1.2.2.1] at h2
  rcases h with h | h
  · exact absurd h h1
  · exact absurd h.2 h2
theorem c_isAsker_yes {M : pm} {t : Nat} {D S : Nat → Nat} {P : Nat → List Nat} (R : Rp M t D P S) {b : Nat} (h : b < D 2) {Q : Int32 → pm → Prop} (k : Q 1 M) : w_X7_isAsker (nI b) M Q := by
  have h8 := R.2.2.1.2.2.1
  refine k_no (nI_pos (by omega)) ?_
  rw [R.2.1, R.2.2.2.1.2.2.1]
  exact k_no (nI_ge h (by omega)) k
theorem m_isAsker_no {M : pm} {t : Nat} {D S : Nat → Nat} {P : Nat → List Nat} (R : Rp M t D P S) {x : Int32} (h : x < 0 ∨ (¬ x < 0 ∧ nI (D 2) ≤ x)) {Q : Int32 → pm → Prop} (k : Q 0 M) : w_X8_isAsker x M Q := by
  have h8 := R.2.2.1.2.2.1
  unfold w_X8_isAsker w_X8_askerMany
  dsimp only
  rw [R.2.2.2.2.1.2.2.1, j0]
  exact isIn_no (h.elim Or.inl (fun q => Or.inr (le_pred (by omega) q.2))) k
theorem m_isAsker_yes {M : pm} {t : Nat} {D S : Nat → Nat} {P : Nat → List Nat} (R : Rp M t D P S) {b : Nat} (h : b < D 2) {Q : Int32 → pm → Prop} (k : Q 1 M) : w_X8_isAsker (nI b) M Q := by
  have h8 := R.2.2.1.2.2.1
  unfold w_X8_isAsker w_X8_askerMany
  dsimp only
  rw [R.2.2.2.2.1.2.2.1, j0, show nI (D 2) - 1 = nI (D 2 - 1) from pk_sub (a := D 2) (b := 1) (by omega)]
  exact isIn_yes (nI_pos (by omega)) (nI_nlt (by omega) (by omega)) k
theorem m_isAhead_no {M : pm} {x lo hi : Int32} (h : mI M 277 50 = 0 ∨ x < lo ∨ hi < x ∨ 999 < mI M 317 0 + x) {Q : Int32 → pm → Prop} (k : Q 0 M) : w_X8_isAhead x lo hi M Q := by
  refine ⟨fun _ => k, fun h1 => ?_⟩
  by_cases h2 : x < lo ∨ hi < x
  · exact isIn_no h2 (k_yes rfl k)
  · refine isIn_yes (fun q => h2 (Or.inl q)) (fun q => h2 (Or.inr q)) (k_no (by decide) ⟨fun _ => k, fun h3 => ?_⟩)
    rcases h with h | h | h | h
    · exact absurd h h1
    · exact absurd (Or.inl h) h2
    · exact absurd (Or.inr h) h2
    · exact absurd h h3
theorem m_isAhead_yes {M : pm} {x lo hi : Int32} (h1 : ¬ mI M 277 50 = 0) (h2 : ¬ x < lo) (h3 : ¬ hi < x) (h4 : ¬ 999 < mI M 317 0 + x) {Q : Int32 → pm → Prop} (k : Q 1 M) : w_X8_isAhead x lo hi M Q := k_no h1 (isIn_yes h2 h3 (k_no (by decide) (k_no h4 k)))
/-- a copy of the state to try from -/
theorem c_try {M : pm} {D S : Nat → Nat} (h8 : D 2 ≤ 8) (hs : sC M 57 D S) {Q : pm → Prop} (k : ∀ M', fI xT M M' → sC M' 66 D S → Q M') : w_X7_tryFromNow M Q := by
  unfold w_X7_tryFromNow w_X4_copyNow
  dsimp only
  have off : ∀ (M1 : pm) (a b c j : Nat), c ≠ b → mI (cpI M1 a b 0 0 8) c j = mI M1 c j := fun M1 a b c j h => by rw [mI_cpI, if_neg (fun q => h q.1)]
  have on : ∀ (M1 : pm) (a b j : Nat), j < 8 → mI (cpI M1 a b 0 0 8) b j = mI M1 a j := fun M1 a b j h => by rw [mI_cpI, if_pos ⟨rfl, by omega, by omega⟩]; congr 1; omega
  refine k _ ⟨rfl, rfl, rfl, fun c hc => ?_⟩ ⟨?_, ?_, fun b hb => ?_⟩
  · funext j
    unfold xT at hc
    rw [off _ _ _ _ _ (by omega), off _ _ _ _ _ (by omega), off _ _ _ _ _ (by omega), off _ _ _ _ _ (by omega), off _ _ _ _ _ (by omega), rI (by omega), rI (by omega)]
  · rw [off _ _ _ _ _ (by decide), off _ _ _ _ _ (by decide), off _ _ _ _ _ (by decide), off _ _ _ _ _ (by decide), off _ _ _ _ _ (by decide), rI (by omega), rIs]
    exact hs.1
  · rw [off _ _ _ _ _ (by decide), off _ _ _ _ _ (by decide), off _ _ _ _ _ (by decide), off _ _ _ _ _ (by decide), off _ _ _ _ _ (by decide), rIs, rI (by omega)]
    exact hs.2.1
  · obtain ⟨c1, c2, c3, c4, c5⟩ := hs.2.2 b hb
    refine ⟨?_, ?_, ?_, ?_, ?_⟩
    · rw [off _ _ _ _ _ (by decide), off _ _ _ _ _ (by decide), off _ _ _ _ _ (by decide), off _ _ _ _ _ (by decide), on _ _ _ _ (by omega), rI (by omega), rI (by omega)]; exact c1
    · rw [off _ _ _ _ _ (by decide), off _ _ _ _ _ (by decide), off _ _ _ _ _ (by decide), on _ _ _ _ (by omega), off _ _ _ _ _ (by decide), rI (by omega), rI (by omega)]; exact c2
    · rw [off _ _ _ _ _ (by decide), off _ _ _ _ _ (by decide), on _ _ _ _ (by omega), off _ _ _ _ _ (by decide), off _ _ _ _ _ (by decide), rI (by omega), rI (by omega)]; exact c3
    · rw [off _ _ _ _ _ (by decide), on _ _ _ _ (by omega), off _ _ _ _ _ (by decide), off _ _ _ _ _ (by decide), off _ _ _ _ _ (by decide), rI (by omega), rI (by omega)]; exact c4
    · rw [on _ _ _ _ (by omega), off _ _ _ _ _ (by decide), off _ _ _ _ _ (by decide), off _ _ _ _ _ (by decide), off _ _ _ _ _ (by decide), rI (by omega), rI (by omega)]; exact c5
/-- n days on -/
noncomputable def itA (D S : Nat → Nat) (P : Nat → List Nat) : Nat → (Nat → Nat)
  | 0 => S
  | n + 1 => dayA D (itA D S P n) P (bst D (itA D S P n) P)
theorem itA_0 {D S : Nat → Nat} {P : Nat → List Nat} : ∀ n, itA D S P n 0 = S 0 + n
  | 0 => rfl
  | n + 1 => by
    show dayA D (itA D S P n) P (bst D (itA D S P n) P) 0 = _
    unfold dayA
    rw [if_pos rfl, itA_0 n]; omega
theorem itA_ok {D S : Nat → Nat} {P : Nat → List Nat} (hS : okS D S) : ∀ n, S 0 + n ≤ 2000 → okS D (itA D S P n)
  | 0, _ => hS
  | n + 1, h => okS_A (itA_ok hS n (by omega)) (by rw [itA_0]; omega)
theorem best256 {D S : Nat → Nat} {P : Nat → List Nat} (hD : okD D P) {b : Nat} (h : isBest D S P b) : b < 256 ∧ mnS D S b (D 2) ≤ D 0 := by
  have : 2 ^ D 2 ≤ 2 ^ 8 := Nat.pow_le_pow_right (by decide) hD.2.2.1
  exact ⟨by have := h.1.1; omega, h.1.2.2⟩
/-- one day of the trial -/
theorem c_day {M : pm} {t : Nat} {D S : Nat → Nat} {P : Nat → List Nat} (ht : t = 14 ∨ t = 29) (hd : dC M t D P) (hD : okD D P) (hs : sC M 66 D S) (hS : okS D S) {Q : Int32 → pm → Prop} {R : Int32 → Int32 → pm → Prop} (k1 : ∀ M', fI xT M M' → sC M' 66 D S → isBest D S P (bst D S P) → (∀ R' : Int32 → pm → Prop, (∀ M2 y, fI xT M M2 → sC M2 66 D (dayC D S P (bst D S P)) → R' y M2) → w_X1_playDay t 66 (nI (bst D S P)) M' R') → Q (nI (bst D S P)) M') : w_X1_bestBits t 66 M Q := by
  refine s_bestBits (by omega) (by decide) hd hD hs hS (fun M1 f1 hb => ?_)
  have hs1 : sC M1 66 D S := sC_c (fun c c1 c2 => f1.2.2.2 c (by unfold xC; omega)) hs
  refine k1 M1 (xC_T f1) hs1 hb (fun R' hR => ?_)
  have hb2 := best256 hD hb
  exact s_playDay (by omega) (by decide) (tC (xC_T f1) ht hd) hD hs1 hS (by omega) hb2.2 (fun M2 f2 s2 _ => hR M2 _ ((xC_T f1).tr (xP_T f2)) s2)
theorem c_tryDays {M : pm} {t : Nat} {D S : Nat → Nat} {P : Nat → List Nat} (R : Rp M t D P S) {n : Nat} (hn : S 0 + n ≤ 999) {Q : pm → Prop} (k : ∀ M', fI xT M M' → sC M' 66 D (itA D S P n) → Q M') : w_X7_tryDays (nI n) M Q := by
  obtain ⟨ht, hr, hD, hd, -, hS, -, hs, -⟩ := R
  refine c_try hD.2.2.1 hs (fun M1 f1 s1 => ?_)
  have key : ∀ d m i M2, i + d = n → d < m → fI xT M M2 → sC M2 66 D (itA D S P i) → w_X7_tryDays_6 m (nI n) (nI i) M2 Q := by
    intro d
    induction d with
    | zero =>
      intro m i M2 hi hm f2 s2
      obtain ⟨m, rfl⟩ : ∃ n', m = n' + 1 := ⟨m - 1, by omega⟩
      unfold w_X7_tryDays_6
      refine k_yes (nI_le (by omega) (by omega)) ?_
      rw [show i = n from by omega] at s2
      exact k M2 f2 s2
    | succ d ih =>
      intro m i M2 hi hm f2 s2
      obtain ⟨m, rfl⟩ : ∃ n', m = n' + 1 := ⟨m - 1, by omega⟩
      unfold w_X7_tryDays_6
      rw [nI_1, f2.2.1, hr]
      refine k_no (nI_ge (by omega) (by omega)) (c_day (R := fun _ _ _ => True) ht (tC f2 ht hd) hD s2 (itA_ok hS i (by omega)) (fun M3 f3 s3 hb pd => pd _ (fun M4 y f4 s4 => ?_)))
      rw [dayC_eq (by rw [itA_0]; omega)] at s4
      exact ih m (i + 1) M4 (by omega) (by omega) (f2.tr f4) s4
  exact ⟨_, key n (n + 1) 0 M1 (by omega) (by omega) f1 s1⟩
/-! the reference thinks -/
def thk (M0 M : pm) : Prop := mL M = mL M0 ∧ mR M = mR M0 ∧ (∀ a, a ≠ 277 → a ≠ 317 → a ≠ 318 → a ≠ 323 → a ≠ 324 → mI M a = mI M0 a) ∧ (∀ k, k ≠ 51 → k ≠ 54 → k ≠ 56 → k ≠ 57 → k ≠ 58 → k ≠ 59 → k ≠ 67 → k ≠ 102 → mI M 277 k = mI M0 277 k) ∧ (∀ a, a ≠ 319 → a ≠ 351 → mJ M a = mJ M0 a) ∧ (∀ j, j < 42 → mI M 318 j = mI M0 317 j) ∧ (∀ j, 42 ≤ j → mI M 317 j = mI M0 317 j) ∧ mI M 277 58 = 1
theorem thk_d {M0 M : pm} (h : thk M0 M) {D : Nat → Nat} {P : Nat → List Nat} (hd : dM M0 D P) : dM M D P := dM_c (fun b b1 b2 _ => h.2.2.1 b (by omega) (by omega) (by omega) (by omega) (by omega)) hd
theorem m_putsAside {M : pm} {D S : Nat → Nat} (h8 : D 2 ≤ 8) (hs : sM M D S) {Q : pm → Prop} (k : ∀ M', thk M M' → sM M' D S → Q M') : w_X8_putsAside M Q := by
  have key : ∀ d n i M1, i + d = 42 → d < n → mL M1 = mL M → mR M1 = mR M → mJ M1 = mJ M → (∀ a, a ≠ 277 → a ≠ 318 → mI M1 a = mI M a) → (∀ k, k ≠ 58 → mI M1 277 k = mI M 277 k) → mI M1 277 58 = 1 → (∀ j, j < i → mI M1 318 j = mI M 317 j) → w_X8_putsAside_7 n (nI i) M1 Q := by
    intro d
    induction d with
    | zero =>
      intro n i M1 hi hn e1 e2 e3 e4 e5 e6 e7
      obtain ⟨n, rfl⟩ : ∃ n', n = n' + 1 := ⟨n - 1, by omega⟩
      unfold w_X8_putsAside_7
      refine k_yes (nI_le (a := 42) (by omega) (by omega)) (k M1 ⟨e1, e2, fun a h1 _ h3 _ _ => e4 a h1 h3, fun k _ _ _ _ h _ _ _ => e5 k h, fun a _ _ => by rw [e3], fun j hj => e7 j (by omega), fun j hj => by rw [e4 317 (by decide) (by decide)], e6⟩ (sM_c (e4 317 (by decide) (by decide)) hs))
    | succ d ih =>
      intro n i M1 hi hn e1 e2 e3 e4 e5 e6 e7
      obtain ⟨n, rfl⟩ : ∃ n', n = n' + 1 := ⟨n - 1, by omega⟩
      unfold w_X8_putsAside_7
      rw [nI_1, nI_clamp (by omega)]
      refine k_no (nI_ge (b := 42) (by omega) (by decide)) ⟨vp_in_nI (by omega) (by decide), vp_in_nI (by omega) (by decide), ih n (i + 1) _ (by omega) (by omega) e1 e2 e3 (fun a h1 h2 => by rw [← e4 a h1 h2]; exact mI_off h2) (fun k hk => by rw [← e5 k hk]; exact rI (by omega)) (by rw [rI (by omega)]; exact e6) (fun j hj => ?_)⟩
      by_cases e : j = i
      · subst e; rw [rIs, e4 317 (by decide) (by decide)]
      · rw [rI (by omega)]; exact e7 j (by omega)
  exact ⟨_, key 42 43 0 (sI M 277 58 1) (by omega) (by omega) rfl rfl rfl (fun a h1 _ => mI_off h1) (fun k hk => rI (by omega)) (rIs _ _ _ _) (fun j hj => absurd hj (by omega))⟩
theorem m_triesAnew {M0 M : pm} (h : thk M0 M) {Q : pm → Prop} (k : ∀ M', thk M0 M' → mI M' 317 = mI M0 317 → (∀ a, a ≠ 317 → mI M' a = mI M a) → mJ M' = mJ M → Q M') : w_X8_triesAnew M Q := by
  have key : ∀ d n i M1, i + d = 42 → d < n → thk M0 M1 → (∀ j, j < i → mI M1 317 j = mI M0 317 j) → (∀ a, a ≠ 317 → mI M1 a = mI M a) → mJ M1 = mJ M → w_X8_triesAnew_2 n (nI i) M1 Q := by
    intro d
    induction d with
    | zero =>
      intro n i M1 hi hn ht e1 e2 e3
      obtain ⟨n, rfl⟩ : ∃ n', n = n' + 1 := ⟨n - 1, by omega⟩
      unfold w_X8_triesAnew_2
      refine k_yes (nI_le (a := 42) (by omega) (by omega)) (k M1 ht (funext fun j => ?_) e2 e3)
      rcases Nat.lt_or_ge j 42 with q | q
      · exact e1 j (by omega)
      · exact ht.2.2.2.2.2.2.1 j q
    | succ d ih =>
      intro n i M1 hi hn ht e1 e2 e3
      obtain ⟨n, rfl⟩ : ∃ n', n = n' + 1 := ⟨n - 1, by omega⟩
      unfold w_X8_triesAnew_2
      rw [nI_1, nI_clamp (by omega), ht.2.2.2.2.2.1 i (by omega)]
      refine k_no (nI_ge (b := 42) (by omega) (by decide)) ⟨vp_in_nI (by omega) (by decide), vp_in_nI (by omega) (by decide), ih n (i + 1) _ (by omega) (by omega) ⟨ht.1, ht.2.1, fun a h1 h2 h3 h4 h5 => ?_, fun k a1 a2 a3 a4 a5 a6 a7 a8 => ?_, ht.2.2.2.2.1, fun j hj => ?_, fun j hj => ?_, ?_⟩ (fun j hj => ?_) (fun a ha => ?_) e3⟩
      · rw [← ht.2.2.1 a h1 h2 h3 h4 h5]; exact mI_off h2
      · rw [← ht.2.2.2.1 k a1 a2 a3 a4 a5 a6 a7 a8]; exact rI (by omega)
      · rw [rI (by omega)]; exact ht.2.2.2.2.2.1 j hj
      · rw [rI (by omega)]; exact ht.2.2.2.2.2.2.1 j hj
      · rw [rI (by omega)]; exact ht.2.2.2.2.2.2.2
      · by_cases e : j = i
        · subst e; exact rIs _ _ _ _
        · rw [rI (by omega)]; exact e1 j (by omega)
      · rw [← e2 a ha]; exact mI_off ha
  exact ⟨_, key 42 43 0 M (by omega) (by omega) h (fun j hj => absurd hj (by omega)) (fun a _ => rfl) rfl⟩
theorem m_takesBack {M0 M : pm} (h58 : mI M0 277 58 = 0) (h : thk M0 M) {Q : pm → Prop} (k : ∀ M', same M0 M' → (∀ k, k ≠ 58 → mI M' 277 k = mI M 277 k) → (∀ a, a ≠ 277 → a ≠ 317 → mI M' a = mI M a) → Q M') : w_X8_takesBack M Q := by
  refine m_triesAnew h (fun M1 h1 e317 eo _ => k _ ⟨h1.1, h1.2.1, fun a a1 a2 => ?_, fun j hj => ?_, ?_, ?_⟩ (fun j hj => ?_) (fun a a1 a2 => ?_))
  · rw [mI_off a2]
    unfold scrA at a1
    by_cases e : a = 317
    · subst e; exact e317
    · exact h1.2.2.1 a a2 e (by omega) (by omega) (by omega)
  · by_cases e : j = 58
    · subst e; rw [rIs]; exact h58.symm
    · unfold scrK at hj
      rw [rI (by omega)]
      exact h1.2.2.2.1 j (by omega) (by omega) (by omega) (by omega) (by omega) (by omega) (by omega) (by omega)
  · exact h1.2.2.2.2.1 310 (by decide) (by decide)
  · rw [show mJ (sI M1 277 58 0) 277 = mJ M1 277 from rfl, h1.2.2.2.2.1 277 (by decide) (by decide)]
  · rw [rI (by omega), eo 277 (by decide)]
  · rw [mI_off a1, eo a a2]
theorem thk_M {M0 M M' : pm} (h : thk M0 M) (f : fM M M') : thk M0 M' := by
  obtain ⟨t1, t2, t3, t4, t5, t6, t7, t8⟩ := h
  refine ⟨f.1.trans t1, f.2.1.trans t2, fun a a1 a2 a3 a4 a5 => (f.2.2.1 a a1).trans (t3 a a1 a2 a3 a4 a5), fun k k1 k2 k3 k4 k5 k6 k7 k8 => (f.2.2.2.1 k k1 k2 k3 k4 k8).trans (t4 k k1 k2 k3 k4 k5 k6 k7 k8), fun a a1 a2 => (f.2.2.2.2 a a1 a2).trans (t5 a a1 a2), fun j hj => by rw [f.2.2.1 318 (by decide)]; exact t6 j hj, fun j hj => by rw [f.2.2.1 317 (by decide)]; exact t7 j hj, by rw [f.2.2.2.1 58 (by decide) (by decide) (by decide) (by decide) (by decide)]; exact t8⟩
theorem thk_D {M0 M M' : pm} (h : thk M0 M) (f : fD M M') : thk M0 M' := by
  obtain ⟨t1, t2, t3, t4, t5, t6, t7, t8⟩ := h
  refine ⟨f.1.trans t1, f.2.1.trans t2, fun a a1 a2 a3 a4 a5 => (f.2.2.1 a a1 a2).trans (t3 a a1 a2 a3 a4 a5), fun k k1 k2 k3 k4 k5 k6 k7 k8 => (f.2.2.2.1 k k1 k6 k8).trans (t4 k k1 k2 k3 k4 k5 k6 k7 k8), fun a a1 a2 => (f.2.2.2.2.1 a a2).trans (t5 a a1 a2), fun j hj => by rw [f.2.2.1 318 (by decide) (by decide)]; exact t6 j hj, fun j hj => (f.2.2.2.2.2 j hj).trans (t7 j hj), by rw [f.2.2.2.1 58 (by decide) (by decide) (by decide)]; exact t8⟩
theorem m_dayGoes {M0 M : pm} {D S : Nat → Nat} {P : Nat → List Nat} (ht : thk M0 M) (hd : dM M0 D P) (hD : okD D P) (hs : sM M D S) (hS : okS D S) {Q : pm → Prop} (k : ∀ M', thk M0 M' → sM M' D (dayA D S P (bst D S P)) → mI M' 277 56 = nI (bst D S P) → isBest D S P (bst D S P) → (∀ a, a ≠ 277 → a ≠ 317 → mI M' a = mI M a) → mI M' 277 67 = mI M 277 67 → Q M') : w_X8_dayGoes M Q := by
  refine m_laysBest (thk_d ht hd) hD hs hS (fun M1 f1 hb e56 _ _ => ?_)
  rw [e56]
  have hb2 := best256 hD hb
  have t1 := thk_M ht f1
  refine m_dayT (thk_d t1 hd) hD (fM_s f1 hs) hS hb2.1 hb2.2 t1.2.2.2.2.2.2.2 (fun M2 f2 s2 => k M2 (thk_D t1 f2) s2 ?_ hb (fun a a1 a2 => by rw [f2.2.2.1 a a1 a2, f1.2.2.1 a a1]) ?_)
  · rw [f2.2.2.2.1 56 (by decide) (by decide) (by decide)]; exact e56
  · rw [f2.2.2.2.1 67 (by decide) (by decide) (by decide), f1.2.2.2.1 67 (by decide) (by decide) (by decide) (by decide) (by decide)]
theorem m_daysGo {M0 M : pm} {D S : Nat → Nat} {P : Nat → List Nat} (ht : thk M0 M) (hd : dM M0 D P) (hD : okD D P) (hs : sM M D S) (hS : okS D S) {n : Nat} (hn : S 0 + n ≤ 999) {Q : pm → Prop} (k : ∀ M', thk M0 M' → sM M' D (itA D S P n) → Q M') : w_X8_daysGo (nI n) M Q := by
  have key : ∀ d m i M2, i + d = n → d < m → thk M0 M2 → sM M2 D (itA D S P i) → w_X8_daysGo_2 m (nI n) (nI i) M2 Q := by
    intro d
    induction d with
    | zero =>
      intro m i M2 hi hm t2 s2
      obtain ⟨m, rfl⟩ : ∃ n', m = n' + 1 := ⟨m - 1, by omega⟩
      unfold w_X8_daysGo_2
      refine k_yes (nI_le (by omega) (by omega)) ?_
      rw [show i = n from by omega] at s2
      exact k M2 t2 s2
    | succ d ih =>
      intro m i M2 hi hm t2 s2
      obtain ⟨m, rfl⟩ : ∃ n', m = n' + 1 := ⟨m - 1, by omega⟩
      unfold w_X8_daysGo_2
      rw [nI_1]
      exact k_no (nI_ge (by omega) (by omega)) (m_dayGoes t2 hd hD s2 (itA_ok hS i (by omega)) (fun M3 t3 s3 _ _ _ _ => ih m (i + 1) M3 (by omega) (by omega) t3 s3))
  exact ⟨_, key n (n + 1) 0 M (by omega) (by omega) ht hs⟩
