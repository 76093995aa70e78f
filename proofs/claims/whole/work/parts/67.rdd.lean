/-! the class's readers, each out of those below it -/
theorem tX_ge {T : Nat → Nat} {n : Nat} {s : ts} : s.1 ≤ (tX T n s).1 := by
  by_cases q5 : tK T n s = 5
  · show s.1 ≤ tE T n s
    rw [tE_5 q5]; exact sk_ge _ _ _
  · exact Nat.le_of_lt (tX_gt q5)
theorem c_isFactN {M : pm} {x : Int32} (h : ∀ j ∈ ([2, 3, 7, 15, 16, 17, 18, 19, 20, 21] : List Nat), x ≠ nI j) {Q : Int32 → pm → Prop} (k : Q 0 M) : w_X3_isFact x M Q :=
  ⟨fun q => absurd q (h 2 (by decide)), fun q => absurd q (h 3 (by decide)), fun q => absurd q (h 7 (by decide)), fun q => absurd q (h 15 (by decide)), fun q => absurd q (h 16 (by decide)), fun q => absurd q (h 17 (by decide)), fun q => absurd q (h 18 (by decide)), fun q => absurd q (h 19 (by decide)), fun q => absurd q (h 20 (by decide)), fun q => absurd q (h 21 (by decide)), fun _ _ _ _ _ _ _ _ _ _ => k⟩
theorem c_isFact {M : pm} {tk w : Nat} (htk : tk ≤ 2) (he : eC M tk) (hw : w < 34) {Q : Int32 → pm → Prop} (k1 : fcW tk w < 10 → Q 1 M) (k0 : 10 ≤ fcW tk w → Q 0 M) : w_X3_isFact (nI w) M Q := by
  have hI : ∀ j : Nat, j < 34 → (nI w = nI j ↔ w = j) := fun j hj => nI_eq (by omega) (by omega)
  by_cases q : w = 2 ∨ w = 3 ∨ w = 7 ∨ w = 15 ∨ w = 16 ∨ w = 17 ∨ w = 18 ∨ w = 19 ∨ w = 20 ∨ w = 21
  · have e1 : mI M 5 3 = 1 ∧ tk = 2 ∨ mI M 5 3 = 0 ∧ tk ≠ 2 := by
      have := he.1
      split at this
      · exact Or.inl ⟨this, by assumption⟩
      · exact Or.inr ⟨this, by assumption⟩
    have e2 : mI M 5 4 = 0 ∧ tk = 0 ∨ mI M 5 4 = 1 ∧ tk ≠ 0 := by
      have := he.2
      split at this
      · exact Or.inl ⟨this, by assumption⟩
      · exact Or.inr ⟨this, by assumption⟩
    have a1 : (fcW tk w < 10 ↔ tk = 2) → bz (mI M 5 3) ∧ Q (mI M 5 3) M := fun z => by
      rcases e1 with ⟨e, h⟩ | ⟨e, h⟩
      · rw [e]; exact ⟨Or.inr rfl, k1 (z.mpr h)⟩
      · rw [e]; exact ⟨Or.inl rfl, k0 (Nat.le_of_not_lt (fun y => h (z.mp y)))⟩
    have a2 : (fcW tk w < 10 ↔ tk ≠ 0) → bz (mI M 5 4) ∧ Q (mI M 5 4) M := fun z => by
      rcases e2 with ⟨e, h⟩ | ⟨e, h⟩
      · rw [e]; exact ⟨Or.inl rfl, k0 (Nat.le_of_not_lt (fun y => z.mp y h))⟩
      · rw [e]; exact ⟨Or.inr rfl, k1 (z.mpr h)⟩
    unfold w_X3_isFact
    have t3 : tk = 0 ∨ tk = 1 ∨ tk = 2 := by omega
    rcases q with rfl | rfl | rfl | rfl | rfl | rfl | rfl | rfl | rfl | rfl
    · exact ⟨fun _ => a2 (by rcases t3 with rfl | rfl | rfl <;> decide), fun z => absurd z (by decide), fun z => absurd z (by decide), fun z => absurd z (by decide), fun z => absurd z (by decide), fun z => absurd z (by decide), fun z => absurd z (by decide), fun z => absurd z (by decide), fun z => absurd z (by decide), fun z => absurd z (by decide), fun z => absurd rfl z⟩
    · exact ⟨fun z => absurd z (by decide), fun _ => a2 (by rcases t3 with rfl | rfl | rfl <;> decide), fun z => absurd z (by decide), fun z => absurd z (by decide), fun z => absurd z (by decide), fun z => absurd z (by decide), fun z => absurd z (by decide), fun z => absurd z (by decide), fun z => absurd z (by decide), fun z => absurd z (by decide), fun _ z => absurd rfl z⟩
    · exact ⟨fun z => absurd z (by decide), fun z => absurd z (by decide), fun _ => k1 (by rcases t3 with rfl | rfl | rfl <;> decide), fun z => absurd z (by decide), fun z => absurd z (by decide), fun z => absurd z (by decide), fun z => absurd z (by decide), fun z => absurd z (by decide), fun z => absurd z (by decide), fun z => absurd z (by decide), fun _ _ z => absurd rfl z⟩
    · exact ⟨fun z => absurd z (by decide), fun z => absurd z (by decide), fun z => absurd z (by decide), fun _ => k1 (by rcases t3 with rfl | rfl | rfl <;> decide), fun z => absurd z (by decide), fun z => absurd z (by decide), fun z => absurd z (by decide), fun z => absurd z (by decide), fun z => absurd z (by decide), fun z => absurd z (by decide), fun _ _ _ z => absurd rfl z⟩
    · exact ⟨fun z => absurd z (by decide), fun z => absurd z (by decide), fun z => absurd z (by decide), fun z => absurd z (by decide), fun _ => k1 (by rcases t3 with rfl | rfl | rfl <;> decide), fun z => absurd z (by decide), fun z => absurd z (by decide), fun z => absurd z (by decide), fun z => absurd z (by decide), fun z => absurd z (by decide), fun _ _ _ _ z => absurd rfl z⟩
    · exact ⟨fun z => absurd z (by decide), fun z => absurd z (by decide), fun z => absurd z (by decide), fun z => absurd z (by decide), fun z => absurd z (by decide), fun _ => k1 (by rcases t3 with rfl | rfl | rfl <;> decide), fun z => absurd z (by decide), fun z => absurd z (by decide), fun z => absurd z (by decide), fun z => absurd z (by decide), fun _ _ _ _ _ z => absurd rfl z⟩
    · exact ⟨fun z => absurd z (by decide), fun z => absurd z (by decide), fun z => absurd z (by decide), fun z => absurd z (by decide), fun z => absurd z (by decide), fun z => absurd z (by decide), fun _ => k1 (by rcases t3 with rfl | rfl | rfl <;> decide), fun z => absurd z (by decide), fun z => absurd z (by decide), fun z => absurd z (by decide), fun _ _ _ _ _ _ z => absurd rfl z⟩
    · exact ⟨fun z => absurd z (by decide), fun z => absurd z (by decide), fun z => absurd z (by decide), fun z => absurd z (by decide), fun z => absurd z (by decide), fun z => absurd z (by decide), fun z => absurd z (by decide), fun _ => a1 (by rcases t3 with rfl | rfl | rfl <;> decide), fun z => absurd z (by decide), fun z => absurd z (by decide), fun _ _ _ _ _ _ _ z => absurd rfl z⟩
    · exact ⟨fun z => absurd z (by decide), fun z => absurd z (by decide), fun z => absurd z (by decide), fun z => absurd z (by decide), fun z => absurd z (by decide), fun z => absurd z (by decide), fun z => absurd z (by decide), fun z => absurd z (by decide), fun _ => a1 (by rcases t3 with rfl | rfl | rfl <;> decide), fun z => absurd z (by decide), fun _ _ _ _ _ _ _ _ z => absurd rfl z⟩
    · exact ⟨fun z => absurd z (by decide), fun z => absurd z (by decide), fun z => absurd z (by decide), fun z => absurd z (by decide), fun z => absurd z (by decide), fun z => absurd z (by decide), fun z => absurd z (by decide), fun z => absurd z (by decide), fun z => absurd z (by decide), fun _ => a1 (by rcases t3 with rfl | rfl | rfl <;> decide), fun _ _ _ _ _ _ _ _ _ z => absurd rfl z⟩
  · refine c_isFactN (fun j hj => ?_) (k0 ?_)
    · rw [Ne, hI j (by simp only [List.mem_cons, List.not_mem_nil, or_false] at hj; omega)]
      simp only [List.mem_cons, List.not_mem_nil, or_false] at hj
      omega
    · unfold fcW
      rw [if_neg (by omega), if_neg (by omega), if_neg (by omega), if_neg (by omega), if_neg (by omega), if_neg (by omega), if_neg (by omega), if_neg (by omega), if_neg (by omega), if_neg (by omega)]
      exact Nat.le_refl _
theorem fc_clc {tk w : Nat} (h : fcW tk w < 10) : (10100 : Int32) + nI w = clc (40 + fcW tk w) := by
  unfold fcW at h ⊢
  repeat' split at h
  all_goals first | omega | skip
  all_goals simp_all (decide := true) <;> rfl
theorem c_mayOpen {M : pm} {T : Nat → Nat} {n o : Nat} {s : ts} (ho : o ≤ 6) (ht : tkC M T n s) {Q : Int32 → pm → Prop} (k1 : o < 6 → Q 1 M) (k0 : ¬ o < 6 → ∀ M', fG fT M M' → tkS M' (4, sk T n s.1) → Q 0 M') : w_X3_mayOpen (nI o) M Q := by
  refine pk_lt o 6 (fun q => k_no (nI_ge (b := 6) q (by decide)) (k1 q)) (fun q => c_fail ht.2.2.2.2.2.2.1 4 (sk T n s.1) rfl ht.2.2.2.1 (by decide) (by decide) (fun M1 f1 t1 => k_yes (nI_le (a := 6) q (by omega)) (k0 (by omega) M1 f1 t1)))
theorem c_cmp {M : pm} {T : Nat → Nat} {n : Nat} {s : ts} (ht : tkC M T n s) {Q : Int32 → pm → Prop} (k0 : opC T n s = 0 → Q (-1) M) (k1 : ∀ x, opC T n s = x → x ≠ 0 → s.1 < (tX T n s).1 → clc x ≠ -1 → Q (clc x) M) : w_X3_comparison M Q := by
  refine c_isSign ht 60 (by decide) (by decide) (fun q => k_no (by decide) (k1 7 (by unfold opC; rw [if_pos q]) (by decide) (op_k3 (by decide) q) (by decide))) (fun q1 => k_yes rfl (c_isSign ht 62 (by decide) (by decide) (fun q => k_no (by decide) (k1 8 (by unfold opC; rw [if_neg q1, if_pos q]) (by decide) (op_k3 (by decide) q) (by decide))) (fun q2 => k_yes rfl (c_isSign ht 61 (by decide) (by decide) (fun q => k_no (by decide) (k1 9 (by unfold opC; rw [if_neg q1, if_neg q2, if_pos q]) (by decide) (op_k3 (by decide) q) (by decide))) (fun q3 => k_yes rfl (k0 (by unfold opC; rw [if_neg q1, if_neg q2, if_neg q3])))))))
theorem c_cmpS {M : pm} {e : Nat × Nat} (h : tkS M e) {Q : Int32 → pm → Prop} (k : Q (-1) M) : w_X3_comparison M Q := c_isSignS h (k_yes rfl (c_isSignS h (k_yes rfl (c_isSignS h (k_yes rfl k)))))
/-- behind a fault nothing is read -/
theorem c_rdS {pa : Nat} : ∀ (f w : Nat), rkW w ≤ f → hSC pa (w_rd f) w
  | 0, w, hf => by
    exfalso
    have : 1 ≤ rkW w := by unfold rkW; split <;> omega
    omega
  | f + 1, 0, hf => fun M e x Q ht ho k => by
    refine c_rdS f 1 (by show 6 ≤ f; have : 7 ≤ f + 1 := hf; omega) M e x _ ht ho (fun M1 f1 t1 o1 => ⟨1, ?_⟩)
    exact k_no (by decide) (c_isWordS t1 (k_yes rfl (k M1 f1 t1 o1)))
  | f + 1, 1, hf => fun M e x Q ht ho k => by
    refine c_rdS f 2 (by show 5 ≤ f; have : 6 ≤ f + 1 := hf; omega) M e x _ ht ho (fun M1 f1 t1 o1 => ⟨1, ?_⟩)
    exact k_no (by decide) (c_isWordS t1 (k_yes rfl (k M1 f1 t1 o1)))
  | f + 1, 2, hf => fun M e x Q ht ho k => by
    show w_X3_readFact (w_rd f) x M Q
    unfold w_X3_readFact
    refine c_isWordS ht (k_yes rfl (c_isSignS ht (k_yes rfl (c_isWordS ht (k_yes rfl (c_rdS f 3 (by show 4 ≤ f; have : 5 ≤ f + 1 := hf; omega) M e x _ ht ho (fun M1 f1 t1 o1 => c_cmpS t1 (k_yes' rfl (c_failS t1 (fun M2 f2 t2 => k M2 (f1.tr (fR_T f2)) t2 ?_))))))))))
    obtain ⟨L, o1⟩ := o1
    exact ⟨L, oPC_T f2 o1⟩
  | f + 1, 3, hf => fun M e x Q ht ho k => by
    refine c_rdS f 4 (by show 3 ≤ f; have : 4 ≤ f + 1 := hf; omega) M e x _ ht ho (fun M1 f1 t1 o1 => ⟨1, ?_⟩)
    exact k_no (by decide) (c_isSignS t1 (k_yes' rfl (c_isSignS t1 (k_yes rfl (k M1 f1 t1 o1)))))
  | f + 1, 4, hf => fun M e x Q ht ho k => by
    refine c_rdS f 5 (by show 2 ≤ f; have : 3 ≤ f + 1 := hf; omega) M e x _ ht ho (fun M1 f1 t1 o1 => ⟨1, ?_⟩)
    exact k_no (by decide) (c_isSignS t1 (k_yes' rfl (c_isSignS t1 (k_yes rfl (k M1 f1 t1 o1)))))
  | f + 1, 5, hf => fun M e x Q ht ho k => by
    have ht' : tkS M e := ht
    have k127 : w_X3_readPiece_127 (w_rd f) x M Q := by
      refine c_isSignS ht (k_yes rfl (c_isWordS ht (k_yes' rfl (c_isWordS ht (k_yes rfl (c_failS ht (fun M2 f2 t2 => k M2 (fR_T f2) t2 ?_)))))))
      obtain ⟨L, o1⟩ := ho
      exact ⟨L, oPC_T f2 o1⟩
    refine k_no' (by rw [ht'.1]; decide) (c_knownS ht (c_isFactN (fun j hj => ?_) (k_yes rfl ⟨fun _ => k127, fun _ => c_isWordS ht (k_yes rfl k127)⟩)))
    exact fun q => n_m1 (g := j) (by simp only [List.mem_cons, List.not_mem_nil, or_false] at hj; omega) q.symm
  | f + 1, w + 6, hf => fun M e x Q ht ho k => by
    show w_X3_readPair (w_rd f) x M Q
    unfold w_X3_readPair w_X3_readPair_21
    refine c_isWordS ht (k_yes rfl (c_takeS ht (c_isSignS ht (k_yes' rfl (c_failS ht (fun M2 f2 t2 => k M2 (fR_T f2) t2 ?_))))))
    obtain ⟨L, o1⟩ := ho
    exact ⟨L, oPC_T f2 o1⟩
theorem rdP_ok {M M' : pm} {T : Nat → Nat} {n pa L : Nat} {r : rs (List Nat)} (hg : ∀ c s, r = .inr (c, s) → L + c.length ≤ s.1 ∧ s.1 ≤ n) (h : rdP M M' T n pa L r) : (∃ e, r = .inl e ∧ tkS M' e ∧ ∃ L', oPC M' pa L') ∨ ∃ c s, r = .inr (c, s) ∧ tkC M' T n s ∧ pD M M' pa L c ∧ L + c.length ≤ s.1 ∧ s.1 ≤ n := by
  match r, h, hg with
  | .inl e, h, _ => exact Or.inl ⟨e, rfl, h.1, h.2⟩
  | .inr (c, s), h, hg => exact Or.inr ⟨c, s, rfl, h.1, h.2, hg c s rfl⟩
theorem hG_sp {T : Nat → Nat} {n tk : Nat} (f w o : Nat) : hGC n (spR T n tk f w o) := fun s c s1 hn h => ⟨(sp_ok f w o s c s1 hn h).2.1, (sp_ok f w o s c s1 hn h).1⟩
theorem c_rdL {T : Nat → Nat} {n tk pa : Nat} (hp : pOk pa) (htk : tk ≤ 2) : ∀ (f w o : Nat), rk w o ≤ f → o ≤ 6 → hRC T n tk pa (w_rd f) w o (spR T n tk f w o)
  | 0, w, o, hf, ho6 => by
    exfalso
    have : 1 ≤ rkW w := by unfold rkW; split <;> omega
    unfold rk at hf
    omega
  | f + 1, 0, o, hf, ho6 => fun M s L Q ht he ho hl k => by
    have hf : 5 * (6 - o) + 7 ≤ f + 1 := hf
    have r1 := c_rdL (T := T) (n := n) hp htk f 1 o (by show 5 * (6 - o) + 6 ≤ f; omega) ho6
    have g1 := hG_sp (T := T) (n := n) (tk := tk) f 1 o
    exact r1 M s L _ ht he ho hl (fun M1 f1 q1 => ⟨1601, c_lpO hp r1 g1 he 1600 1601 0 M1 _ (by omega) (by omega) f1 q1 (fun c s1 h => by have := g1 s c s1 ht.2.1 h; omega) (fun M' f' r' => k M' f' r')⟩)
  | f + 1, 1, o, hf, ho6 => fun M s L Q ht he ho hl k => by
    have hf : 5 * (6 - o) + 6 ≤ f + 1 := hf
    have r1 := c_rdL (T := T) (n := n) hp htk f 2 o (by show 5 * (6 - o) + 5 ≤ f; omega) ho6
    have g1 := hG_sp (T := T) (n := n) (tk := tk) f 2 o
    exact r1 M s L _ ht he ho hl (fun M1 f1 q1 => ⟨1601, c_lpA hp r1 g1 he 1600 1601 0 M1 _ (by omega) (by omega) f1 q1 (fun c s1 h => by have := g1 s c s1 ht.2.1 h; omega) (fun M' f' r' => k M' f' r')⟩)
  | f + 1, 3, o, hf, ho6 => fun M s L Q ht he ho hl k => by
    have hf : 5 * (6 - o) + 4 ≤ f + 1 := hf
    have r1 := c_rdL (T := T) (n := n) hp htk f 4 o (by show 5 * (6 - o) + 3 ≤ f; omega) ho6
    have g1 := hG_sp (T := T) (n := n) (tk := tk) f 4 o
    exact r1 M s L _ ht he ho hl (fun M1 f1 q1 => ⟨1601, c_lpS hp r1 g1 he 1600 1601 0 M1 _ (by omega) (by omega) f1 q1 (fun c s1 h => by have := g1 s c s1 ht.2.1 h; omega) (fun M' f' r' => k M' f' r')⟩)
  | f + 1, 4, o, hf, ho6 => fun M s L Q ht he ho hl k => by
    have hf : 5 * (6 - o) + 3 ≤ f + 1 := hf
    have r1 := c_rdL (T := T) (n := n) hp htk f 5 o (by show 5 * (6 - o) + 2 ≤ f; omega) ho6
    have g1 := hG_sp (T := T) (n := n) (tk := tk) f 5 o
    exact r1 M s L _ ht he ho hl (fun M1 f1 q1 => ⟨1601, c_lpP hp r1 g1 he 1600 1601 0 M1 _ (by omega) (by omega) f1 q1 (fun c s1 h => by have := g1 s c s1 ht.2.1 h; omega) (fun M' f' r' => k M' f' r')⟩)
  | f + 1, 2, o, hf, ho6 => fun M s L Q ht he ho hl k => by
    have hf : 5 * (6 - o) + 5 ≤ f + 1 := hf
    have r3 := c_rdL (T := T) (n := n) hp htk f 3 o (by show 5 * (6 - o) + 4 ≤ f; omega) ho6
    have g3 := hG_sp (T := T) (n := n) (tk := tk) f 3 o
    have hz := ht.2.2.2.2.2.2.1
    have k : ∀ M', fG (fR pa) M M' → rdP M M' T n pa L (pFct T n (spR T n tk f 2) (spR T n tk f 0) (spR T n tk f 3) o s) → Q M' := k
    unfold pFct at k
    have go : w_X3_readFact (w_rd f) (nI o) M Q := by
      unfold w_X3_readFact
      rw [nI_1]
      refine c_isWord ht 24 (by decide) (fun q => k_no (by decide) ?_) (fun q1 => k_yes rfl (c_isSign ht 91 (by decide) (by decide) (fun q => k_no (by decide) ?_) (fun q2 => k_yes rfl (c_isWord ht 25 (by decide) (fun q => k_no (by decide) ?_) (fun q3 => k_yes rfl ?_)))))
      · rw [if_pos q] at k
        refine c_mayOpen ho6 ht (fun h6 => k_no (by decide) ?_) (fun h6 M1 f1 t1 => k_yes rfl (k M1 (fR_T f1) ?_))
        · rw [if_pos h6] at k
          exact c_step (c := []) hp (c_rdL hp htk f 2 (o + 1) (by show 5 * (6 - (o + 1)) + 5 ≤ f; omega) (by omega)) (hG_sp f 2 (o + 1)) (fG.rf M) he ht (pD_nil ho) hl (op_k1 (by omega)) (x := 12) (by decide) k
        · rw [if_neg h6]; exact ⟨t1, L, oPC_T f1 ho⟩
      · rw [if_neg q1, if_pos q] at k
        refine c_mayOpen ho6 ht (fun h6 => k_no (by decide) ?_) (fun h6 M1 f1 t1 => k_yes rfl (k M1 (fR_T f1) ?_))
        · rw [if_pos h6] at k
          exact c_par (ch := 93) hp (c_rdL hp htk f 0 (o + 1) (by show 5 * (6 - (o + 1)) + 7 ≤ f; omega) (by omega)) (by decide) (by decide) he ht ho hl (op_k3 (by decide) q) k
        · rw [if_neg h6]; exact ⟨t1, L, oPC_T f1 ho⟩
      · rw [if_neg q1, if_neg q2, if_pos q] at k
        have hgt := op_k1 (T := T) (n := n) (s := s) (by omega)
        have hle := tX_le (T := T) ht.2.1
        have h16 := ht.1.2.1
        refine c_take ht (fun M1 f1 t1 => c_out (oPC_T f1 ho) (c_add0 (oPC_T f1 ho) (by omega) (y := 13) (by decide) (fun M2 f2 e6 d2 => k M2 ((fR_T f1).tr f2) ⟨?_, pD_T0 f1 d2⟩)))
        exact tkG_R (A := List Nat) (r := .inr ([13], tX T n s)) hp f2 e6 t1
      · rw [if_neg q1, if_neg q2, if_neg q3] at k
        refine r3 M s L _ ht he ho hl (fun M1 f1 p1 => ?_)
        rcases rdP_ok (fun c s1 h => by have := g3 s c s1 ht.2.1 h; omega) p1 with ⟨e, h1, h2, L', h3⟩ | ⟨c, s1, h1, h2, h3, h4, h5⟩
        · refine c_cmpS h2 (k_yes' rfl (c_failS h2 (fun M2 f2 t2 => k M2 (f1.tr (fR_T f2)) ?_)))
          rw [h1]
          exact ⟨t2, L', oPC_T f2 h3⟩
        · rw [h1] at k
          refine c_cmp h2 (fun q => k_yes' rfl (c_fail h2.2.2.2.2.2.2.1 1 (sk T n s1.1) rfl h2.2.2.2.1 (by decide) (by decide) (fun M2 f2 t2 => k M2 (f1.tr (fR_T f2)) ?_))) (fun x ex x0 hgt hm => k_no' hm ?_)
          · show rdP M M2 T n pa L (if opC T n s1 = 0 then _ else _)
            rw [if_pos q]
            exact ⟨t2, _, oPC_T f2 h3.1⟩
          · refine c_step hp r3 g3 f1 he h2 h3 h4 hgt rfl (fun M' f' r' => k M' f' ?_)
            show rdP M M' T n pa L (if opC T n s1 = 0 then _ else _)
            rw [ex, if_neg x0]; exact r'
    exact go
  | f + 1, 5, o, hf, ho6 => fun M s L Q ht he ho hl k => by
    have hf : 5 * (6 - o) + 2 ≤ f + 1 := hf
    have hz := ht.2.2.2.2.2.2.1
    have hk := tK_le T n s
    have h16 := ht.1.2.1
    have hle := tX_le (T := T) ht.2.1
    have hkw := kwN_le T n s
    have k : ∀ M', fG (fR pa) M M' → rdP M M' T n pa L (pPce T n tk (spR T n tk f 5) (spR T n tk f 3) (spR T n tk f 6) o s) → Q M' := k
    unfold pPce at k
    have go : w_X3_readPiece (w_rd f) (nI o) M Q := by
      unfold w_X3_readPiece
      rw [ht.2.2.1, nI_1]
      refine pk_ne (tK T n s) 2 (fun q2 => ?_) (fun q2 => ?_)
      · rw [if_neg q2] at k
        have l127 : ¬ fcW tk (kwN T n s) < 10 → ¬ (tk = 2 ∧ kwN T n s = 5) → w_X3_readPiece_127 (w_rd f) (nI o) M Q := fun qf qw => by
          rw [if_neg qf, if_neg qw] at k
          unfold w_X3_readPiece_127
          rw [nI_1]
          refine c_isSign ht 40 (by decide) (by decide) (fun q => k_no (by decide) ?_) (fun q4 => k_yes rfl ?_)
          · rw [if_pos q] at k
            refine c_mayOpen ho6 ht (fun h6 => k_no (by decide) ?_) (fun h6 M1 f1 t1 => k_yes rfl (k M1 (fR_T f1) ?_))
            · rw [if_pos h6] at k
              exact c_par (ch := 41) hp (c_rdL hp htk f 3 (o + 1) (by show 5 * (6 - (o + 1)) + 4 ≤ f; omega) (by omega)) (by decide) (by decide) he ht ho hl (op_k3 (by decide) q) k
            · rw [if_neg h6]; exact ⟨t1, L, oPC_T f1 ho⟩
          · rw [if_neg q4] at k
            have pr := fun (h : kwN T n s = 26 ∨ kwN T n s = 27) => c_rdL hp htk f 6 o (by show 5 * (6 - o) + 1 ≤ f; omega) ho6 M s L (fun M16 => Q M16) ht he ho hl (fun M' f' r' => k M' f' (by rw [if_pos h]; exact r'))
            refine c_isWord ht 26 (by decide) (fun q => k_no' (by decide) (pr (Or.inl q))) (fun q6 => k_yes' rfl (c_isWord ht 27 (by decide) (fun q => k_no (by decide) (pr (Or.inr q))) (fun q7 => k_yes rfl (c_fail hz 1 (sk T n s.1) rfl ht.2.2.2.1 (by decide) (by decide) (fun M1 f1 t1 => k M1 (fR_T f1) ?_)))))
            rw [if_neg (by omega)]
            exact ⟨t1, L, oPC_T f1 ho⟩
        have nof : ¬ fcW tk (kwN T n s) < 10 → (((mI M 5 3) = 0 → (w_X3_readPiece_127 (w_rd f) (nI o) M Q)) ∧ (¬ (mI M 5 3) = 0 → (w_X6_isWord 5 M (fun y43 M42 => ((y43 = 0 → (w_X3_readPiece_127 (w_rd f) (nI o) M42 Q)) ∧ (¬ y43 = 0 → (w_X3_mayOpen (nI o) M42 (fun y47 M46 => ((y47 = 0 → (Q M46)) ∧ (¬ y47 = 0 → (w_X6_take M46 (fun M50 => w_rd f 5 (nI (o + 1)) M50 (fun M53 => ¬ (mR M53 5 2) = 0 ∧ (w_X2_add (mR M53 5 2) 10012 M53 (fun M57 => Q M57))))))))))))))) := fun qf => by
          by_cases h2 : tk = 2
          · have e3 : mI M 5 3 = 1 := by have := he.1; rw [if_pos h2] at this; exact this
            refine k_no (by rw [e3]; decide) (c_isWord ht 5 (by decide) (fun q => k_no (by decide) ?_) (fun q => k_yes rfl (l127 qf (fun z => q z.2))))
            rw [if_neg qf, if_pos ⟨h2, q⟩] at k
            refine c_mayOpen ho6 ht (fun h6 => k_no (by decide) ?_) (fun h6 M1 f1 t1 => k_yes rfl (k M1 (fR_T f1) ?_))
            · rw [if_pos h6] at k
              exact c_step (c := []) hp (c_rdL hp htk f 5 (o + 1) (by show 5 * (6 - (o + 1)) + 2 ≤ f; omega) (by omega)) (hG_sp f 5 (o + 1)) (fG.rf M) he ht (pD_nil ho) hl (op_k1 (by omega)) (x := 60) (by decide) k
            · rw [if_neg h6]; exact ⟨t1, L, oPC_T f1 ho⟩
          · have e3 : mI M 5 3 = 0 := by have := he.1; rw [if_neg h2] at this; exact this
            exact k_yes e3 (l127 qf (fun z => h2 z.1))
        refine c_known ht (fun q34 => c_isFact htk he q34 (fun qf => k_no (by decide) ?_) (fun qf => k_yes rfl (nof (by omega)))) (fun q34 => c_isFactN (fun j hj => ?_) (k_yes rfl (nof ?_)))
        · rw [if_pos qf] at k
          have hgt := op_k1 (T := T) (n := n) (s := s) q34
          refine ⟨by rw [ho.1]; unfold pOk at hp; omega, c_known ht (fun _ => ?_) (fun z => by omega)⟩
          rw [ho.1]
          refine c_add0 ho (by omega) (fc_clc qf) (fun M1 f1 e6 d1 => ?_)
          have t1 : tkC M1 T n s := tkG_R (A := Unit) (r := .inr ((), s)) hp f1 e6 ht
          exact c_take t1 (fun M2 f2 t2 => k M2 (f1.tr (fR_T f2)) ⟨t2, pD_T d1 f2⟩)
        · exact fun z => n_m1 (g := j) (by simp only [List.mem_cons, List.not_mem_nil, or_false] at hj; omega) z.symm
        · rw [q34]
          rcases (show tk = 0 ∨ tk = 1 ∨ tk = 2 from by omega) with z | z | z <;> rw [z] <;> decide
      · rw [if_pos q2] at k
        refine ⟨by rw [ho.1]; unfold pOk at hp; omega, ?_⟩
        rw [ho.1]
        refine c_num0 ht 0 9999 (by decide) (by decide) (fun x s' hr M1 f1 t1 => ?_) (fun e hr M1 v f1 t1 => ?_)
        · rw [hr] at k
          have hi := rNum_inv hr
          have hgt := tX_gt (T := T) (n := n) (s := s) (by omega)
          refine c_add0 (oPC_T f1 ho) (by omega) (y := 1000 + x) (by rw [clc_num (by omega), Nat.add_sub_cancel_left]) (fun M2 f2 e6 d2 => k M2 ((fR_T f1).tr f2) ⟨?_, pD_T0 f1 d2⟩)
          exact tkG_R (A := List Nat) (r := .inr ([1000 + x], s')) hp f2 e6 t1
        · rw [hr] at k
          exact c_addS (oPC_T f1 ho) (fun M2 f2 e6 o2 => k M2 ((fR_T f1).tr f2) ⟨tkS_c e6 t1, o2⟩)
    exact go
  | f + 1, w + 6, o, hf, ho6 => fun M s L Q ht he ho hl k => by
    have hf : 5 * (6 - o) + 1 ≤ f + 1 := hf
    have k : ∀ M', fG (fR pa) M M' → rdP M M' T n pa L (pPai T n (spR T n tk f 3) o s) → Q M' := k
    unfold pPai at k
    have l21 : ∀ (x : Nat) (t0 : Int32), t0 = clc x → (if kwN T n s = 26 then 5 else 6) = x → w_X3_readPair_21 (w_rd f) (nI o) t0 M Q := fun x t0 et ex => by
      rw [ex] at k
      unfold w_X3_readPair_21
      rw [nI_1]
      refine c_take ht (fun M1 f1 t1 => ?_)
      have o1 := oPC_T f1 ho
      have hge := tX_ge (T := T) (n := n) (s := s)
      have he1 := eC_f hp (fR_T f1) he
      refine c_isSign t1 40 (by decide) (by decide) (fun q => k_no' (by decide) ?_) (fun q => k_yes' rfl (c_fail t1.2.2.2.2.2.2.1 1 (sk T n (tX T n s).1) rfl t1.2.2.2.1 (by decide) (by decide) (fun M2 f2 t2 => k M2 ((fR_T f1).tr (fR_T f2)) ?_)))
      · rw [if_pos q] at k
        refine c_mayOpen ho6 t1 (fun h6 => k_no (by decide) ?_) (fun h6 M2 f2 t2 => k_yes rfl (k M2 ((fR_T f1).tr (fR_T f2)) ?_))
        · rw [if_pos h6] at k
          have r3 := c_rdL (T := T) (n := n) hp htk f 3 (o + 1) (by show 5 * (6 - (o + 1)) + 4 ≤ f; omega) (by omega)
          have g3 := hG_sp (T := T) (n := n) (tk := tk) f 3 (o + 1)
          have hgt := op_k3 (T := T) (n := n) (by decide) q
          refine c_par (ch := 44) hp r3 (by decide) (by decide) he1 t1 o1 (by omega) hgt (fun M2 f2 p2 => ?_)
          have f02 : fG (fR pa) M M2 := (fR_T f1).tr f2
          have hlen : ∀ c s2, rTh (spR T n tk f 3 (o + 1) (tX T n (tX T n s))) (rSgn T n 44) = .inr (c, s2) → L + c.length ≤ s2.1 ∧ s2.1 ≤ n := by
            intro c s2 h
            obtain ⟨s5, y, h7, h8⟩ := rTh_inv h
            obtain ⟨h9, h10⟩ := rSgn_inv h8
            have gg := g3 _ c s5 (tX_le (tX_le ht.2.1)) h7
            have g44 := op_k3 (T := T) (n := n) (by decide) h9
            rw [h10]
            exact ⟨by omega, tX_le gg.2⟩
          rcases rdP_ok hlen p2 with ⟨e, h1, h2, L', h3⟩ | ⟨c, s2, h1, h2, h3, h4, h5⟩
          · rw [h1] at k
            refine c_rdS f 3 (by show 4 ≤ f; omega) M2 e _ _ h2 ⟨L', h3⟩ (fun M3 f3 t3 o3 => c_needSign (A := List Nat) (T := T) (n := n) (r := .inl e) t3 41 (by decide) (by decide) (fun M4 f4 t4 => ?_))
            obtain ⟨L3, o3⟩ := o3
            exact c_out (oPC_T f4 o3) (c_addS (oPC_T f4 o3) (fun M5 f5 e6 o5 => k M5 ((f02.tr f3).tr ((fR_T f4).tr f5)) ⟨tkS_c e6 t4, o5⟩))
          · rw [h1] at k
            refine r3 M2 s2 (L + c.length) _ h2 (eC_f hp f02 he) h3.1 h4 (fun M3 f3 p3 => ?_)
            have k : ∀ M', fG (fR pa) M M' → rdP M M' T n pa L (rB (rTh (spR T n tk f 3 (o + 1) s2) (rSgn T n 41)) (fun c2 s2 => .inr (c ++ (c2 ++ [x]), s2))) → Q M' := k
            rcases rdP_ok (fun c s2 h => by have := g3 _ c s2 h5 h; omega) p3 with ⟨e, i1, i2, L', i3⟩ | ⟨c3, s3, i1, i2, i3, i4, i5⟩
            · rw [i1] at k
              exact c_needSign (A := List Nat) (T := T) (n := n) (r := .inl e) i2 41 (by decide) (by decide) (fun M4 f4 t4 => c_out (oPC_T f4 i3) (c_addS (oPC_T f4 i3) (fun M5 f5 e6 o5 => k M5 ((f02.tr f3).tr ((fR_T f4).tr f5)) ⟨tkS_c e6 t4, o5⟩)))
            · rw [i1] at k
              have gg := g3 _ c3 s3 h5 i1
              have h16 := ht.1.2.1
              refine c_needSign (A := List Nat) (r := .inr (c3, s3)) i2 41 (by decide) (by decide) (fun M4 f4 t4 => ?_)
              have d4 := pD_T i3 f4
              have hs : rTh (.inr (c3, s3)) (rSgn T n 41) = (rB (rSgn T n 41 s3) (fun _ s' => .inr (c3, s')) : rs (List Nat)) := rfl
              by_cases q41 : tS T n s3 = 41
              · have e1 : rTh (.inr (c3, s3)) (rSgn T n 41) = (.inr (c3, tX T n s3) : rs (List Nat)) := by rw [hs]; unfold rSgn; rw [if_pos q41]; rfl
                rw [e1] at k t4
                have g41 := op_k3 (T := T) (n := n) (by decide) q41
                have hle := tX_le (T := T) (n := n) (s := s3) i5
                refine c_out d4.1 (c_add0 d4.1 (by omega) et (fun M5 f5 e6 d5 => k M5 ((f02.tr f3).tr ((fR_T f4).tr f5)) ⟨?_, ?_⟩))
                · exact tkG_R (A := List Nat) (r := .inr (c3, tX T n s3)) hp f5 e6 t4
                · exact pD_app (pD_T0 f1 h3) (pD_app d4 d5)
              · have e1 : rTh (.inr (c3, s3)) (rSgn T n 41) = (.inl (1, sk T n s3.1) : rs (List Nat)) := by rw [hs]; unfold rSgn; rw [if_neg q41]; rfl
                rw [e1] at k t4
                exact c_out d4.1 (c_addS d4.1 (fun M5 f5 e6 o5 => k M5 ((f02.tr f3).tr ((fR_T f4).tr f5)) ⟨tkS_c e6 t4, o5⟩))
        · rw [if_neg h6]; exact ⟨t2, L, oPC_T f2 o1⟩
      · rw [if_neg q]; exact ⟨t2, L, oPC_T f2 o1⟩
    show w_X3_readPair (w_rd f) (nI o) M Q
    unfold w_X3_readPair
    exact c_isWord ht 26 (by decide) (fun q => k_no (by decide) (l21 5 10009 (by decide) (by rw [if_pos q]))) (fun q => k_yes rfl (l21 6 10010 (by decide) (by rw [if_neg q])))
