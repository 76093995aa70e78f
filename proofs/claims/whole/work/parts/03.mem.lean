/-! the pure memory: ints, longs, references (0: none), how many cells are made, how long the script is -/
abbrev pm : Type := (Nat → Nat → Int32) × (Nat → Nat → Int64) × (Nat → Nat → Nat) × Nat × Nat
def mI (M : pm) (a k : Nat) : Int32 := M.1 a k
def mJ (M : pm) (a k : Nat) : Int64 := M.2.1 a k
def mR (M : pm) (a k : Nat) : Nat := M.2.2.1 a k
def mN (M : pm) : Nat := M.2.2.2.1
def mL (M : pm) : Nat := M.2.2.2.2
def sI (M : pm) (a k : Nat) (v : Int32) : pm := (fun b j => if b = a ∧ j = k then v else M.1 b j, M.2)
def sJ (M : pm) (a k : Nat) (v : Int64) : pm := (M.1, fun b j => if b = a ∧ j = k then v else M.2.1 b j, M.2.2)
def sR (M : pm) (a k : Nat) (v : Nat) : pm := (M.1, M.2.1, fun b j => if b = a ∧ j = k then v else M.2.2.1 b j, M.2.2.2)
def nw (M : pm) : pm := (fun b j => if b = mN M + 3 then 0 else M.1 b j, fun b j => if b = mN M + 3 then 0 else M.2.1 b j, fun b j => if b = mN M + 3 then 0 else M.2.2.1 b j, mN M + 1, mL M)
theorem mI_sI (M : pm) (a k : Nat) (v : Int32) (b j : Nat) : mI (sI M a k v) b j = if b = a ∧ j = k then v else mI M b j := rfl
theorem mJ_sI (M : pm) (a k : Nat) (v : Int32) (b j : Nat) : mJ (sI M a k v) b j = mJ M b j := rfl
theorem mR_sI (M : pm) (a k : Nat) (v : Int32) (b j : Nat) : mR (sI M a k v) b j = mR M b j := rfl
theorem mN_sI (M : pm) (a k : Nat) (v : Int32) : mN (sI M a k v) = mN M := rfl
theorem mL_sI (M : pm) (a k : Nat) (v : Int32) : mL (sI M a k v) = mL M := rfl
theorem mI_sJ (M : pm) (a k : Nat) (v : Int64) (b j : Nat) : mI (sJ M a k v) b j = mI M b j := rfl
theorem mJ_sJ (M : pm) (a k : Nat) (v : Int64) (b j : Nat) : mJ (sJ M a k v) b j = if b = a ∧ j = k then v else mJ M b j := rfl
theorem mR_sJ (M : pm) (a k : Nat) (v : Int64) (b j : Nat) : mR (sJ M a k v) b j = mR M b j := rfl
theorem mN_sJ (M : pm) (a k : Nat) (v : Int64) : mN (sJ M a k v) = mN M := rfl
theorem mL_sJ (M : pm) (a k : Nat) (v : Int64) : mL (sJ M a k v) = mL M := rfl
theorem mI_sR (M : pm) (a k v : Nat) (b j : Nat) : mI (sR M a k v) b j = mI M b j := rfl
theorem mJ_sR (M : pm) (a k v : Nat) (b j : Nat) : mJ (sR M a k v) b j = mJ M b j := rfl
theorem mR_sR (M : pm) (a k v : Nat) (b j : Nat) : mR (sR M a k v) b j = if b = a ∧ j = k then v else mR M b j := rfl
theorem mN_sR (M : pm) (a k v : Nat) : mN (sR M a k v) = mN M := rfl
theorem mL_sR (M : pm) (a k v : Nat) : mL (sR M a k v) = mL M := rfl
/-! the layout: kind and length of each cell; cells begin at 3 (1: the script, 2: the text of the words, 0: its bytes) -/
def layT : List (Nat × Nat) := [(99, 0), (99, 0), (99, 0), (7, 19), (9, 1600), (3, 6), (6, 9), (11, 34), (9, 0), (2, 5), (11, 1600), (11, 3), (11, 3), (13, 3), (5, 17), (11, 6), (11, 6), (11, 6), (11, 8), (11, 8), (11, 8), (11, 8), (11, 5), (11, 5), (2, 5), (11, 1600), (11, 3), (11, 3), (13, 3), (5, 17), (11, 6), (11, 6), (11, 6), (11, 8), (11, 8), (11, 8), (11, 8), (11, 5), (11, 5), (2, 5), (11, 1600), (11, 3), (11, 3), (13, 3), (1, 6), (11, 128), (11, 28), (11, 8), (11, 256), (11, 256), (15, 6), (11, 256), (11, 256), (11, 256), (11, 256), (11, 256), (11, 256), (4, 11), (11, 8), (11, 8), (11, 8), (11, 8), (11, 8), (11, 40), (11, 40), (11, 40), (4, 11), (11, 8), (11, 8), (11, 8), (11, 8), (11, 8), (11, 40), (11, 40), (11, 40), (0, 2), (14, 20), (4, 11), (11, 8), (11, 8), (11, 8), (11, 8), (11, 8), (11, 40), (11, 40), (11, 40), (4, 11), (11, 8), (11, 8), (11, 8), (11, 8), (11, 8), (11, 40), (11, 40), (11, 40), (4, 11), (11, 8), (11, 8), (11, 8), (11, 8), (11, 8), (11, 40), (11, 40), (11, 40), (4, 11), (11, 8), (11, 8), (11, 8), (11, 8), (11, 8), (11, 40), (11, 40), (11, 40), (4, 11), (11, 8), (11, 8), (11, 8), (11, 8), (11, 8), (11, 40), (11, 40), (11, 40), (4, 11), (11, 8), (11, 8), (11, 8), (11, 8), (11, 8), (11, 40), (11, 40), (11, 40), (4, 11), (11, 8), (11, 8), (11, 8), (11, 8), (11, 8), (11, 40), (11, 40), (11, 40), (4, 11), (11, 8), (11, 8), (11, 8), (11, 8), (11, 8), (11, 40), (11, 40), (11, 40), (4, 11), (11, 8), (11, 8), (11, 8), (11, 8), (11, 8), (11, 40), (11, 40), (11, 40), (4, 11), (11, 8), (11, 8), (11, 8), (11, 8), (11, 8), (11, 40), (11, 40), (11, 40), (4, 11), (11, 8), (11, 8), (11, 8), (11, 8), (11, 8), (11, 40), (11, 40), (11, 40), (4, 11), (11, 8), (11, 8), (11, 8), (11, 8), (11, 8), (11, 40), (11, 40), (11, 40), (4, 11), (11, 8), (11, 8), (11, 8), (11, 8), (11, 8), (11, 40), (11, 40), (11, 40), (4, 11), (11, 8), (11, 8), (11, 8), (11, 8), (11, 8), (11, 40), (11, 40), (11, 40), (4, 11), (11, 8), (11, 8), (11, 8), (11, 8), (11, 8), (11, 40), (11, 40), (11, 40), (4, 11), (11, 8), (11, 8), (11, 8), (11, 8), (11, 8), (11, 40), (11, 40), (11, 40), (4, 11), (11, 8), (11, 8), (11, 8), (11, 8), (11, 8), (11, 40), (11, 40), (11, 40), (4, 11), (11, 8), (11, 8), (11, 8), (11, 8), (11, 8), (11, 40), (11, 40), (11, 40), (4, 11), (11, 8), (11, 8), (11, 8), (11, 8), (11, 8), (11, 40), (11, 40), (11, 40), (4, 11), (11, 8), (11, 8), (11, 8), (11, 8), (11, 8), (11, 40), (11, 40), (11, 40), (15, 16), (11, 3), (11, 3), (11, 3), (11, 3), (11, 3), (11, 3), (11, 3), (11, 3), (11, 3), (11, 3), (11, 3), (11, 3), (11, 3), (11, 3), (11, 3), (11, 3), (11, 100), (11, 69), (11, 6), (8, 107), (11, 1600), (11, 6), (10, 4), (10, 4), (10, 4), (10, 5), (10, 5), (10, 5), (10, 4), (10, 5), (10, 3), (10, 5), (10, 5), (10, 5), (10, 5), (10, 4), (10, 4), (10, 3), (10, 5), (10, 6), (10, 3), (10, 6), (10, 5), (10, 2), (10, 2), (10, 3), (10, 3), (10, 3), (10, 3), (10, 3), (11, 6), (11, 6), (12, 48), (11, 24), (11, 24), (11, 10), (11, 6), (11, 6), (11, 3200), (11, 163), (11, 42), (12, 8), (11, 5), (11, 5), (11, 48), (13, 3100), (13, 100), (11, 3260), (10, 5), (10, 4), (10, 5), (10, 5), (10, 4), (10, 5), (10, 3), (10, 3), (10, 2), (10, 3), (10, 3), (10, 3), (10, 5), (10, 3), (10, 5), (10, 6), (10, 3), (10, 4), (10, 5), (10, 6), (10, 5), (10, 2), (10, 5), (11, 1700), (11, 1700), (12, 1700), (11, 69)]
def lay (a : Nat) : Nat × Nat := layT.getD a (99, 0)
def lz (n : Nat) : Nat := (((layT.drop 3).take n).map (fun q => q.2)).sum
theorem lz_succ (n : Nat) : lz (n + 1) = lz n + (lay (n + 3)).2 := by
  unfold lz lay
  rw [List.take_succ, List.map_append, List.sum_append, List.getElem?_drop, Nat.add_comm 3 n]
  rw [List.getD_eq_getElem?_getD]
  cases layT[n + 3]? <;> simp
theorem lz_le {a b : Nat} (h : a ≤ b) : lz a ≤ lz b := by
  induction b with
  | zero => rw [show a = 0 by omega]; exact Nat.le_refl _
  | succ n ih =>
    by_cases e : a = n + 1
    · rw [e]; exact Nat.le_refl _
    · rw [lz_succ]; exact Nat.le_trans (ih (by omega)) (Nat.le_add_right _ _)
/-! the classes -/
def pT : Nat → vw_C
  | 0 => (RX0, TX0, 2)
  | 1 => (RX1, TX1, 6)
  | 2 => (RX2, TX2, 5)
  | 3 => (RX3, TX3, 6)
  | 4 => (RX4, TX4, 11)
  | 5 => (RX5, TX5, 17)
  | 6 => (RX6, TX6, 9)
  | 7 => (RX7, TX7, 19)
  | _ => (RX8, TX8, 107)
def pty : Nat → Nat → FieldType
  | 0 => tyX0
  | 1 => tyX1
  | 2 => tyX2
  | 3 => tyX3
  | 4 => tyX4
  | 5 => tyX5
  | 6 => tyX6
  | 7 => tyX7
  | _ => tyX8
theorem p9 {P : Nat → Prop} (h0 : P 0) (h1 : P 1) (h2 : P 2) (h3 : P 3) (h4 : P 4) (h5 : P 5) (h6 : P 6) (h7 : P 7) (h8 : P 8) (i : Nat) (h : i < 9) : P i := by
  rcases (by omega : i = 0 ∨ i = 1 ∨ i = 2 ∨ i = 3 ∨ i = 4 ∨ i = 5 ∨ i = 6 ∨ i = 7 ∨ i = 8) with rfl | rfl | rfl | rfl | rfl | rfl | rfl | rfl | rfl <;> assumption
theorem pT_cl : ∀ ci, ci < 9 → pcl[ci]? = some (pT ci) := p9 rfl rfl rfl rfl rfl rfl rfl rfl rfl
theorem pT_in : ∀ ci, ci < 9 → ∀ w ∈ u_ws (pT ci).1 (pT ci).2.1 (pT ci).2.2, w ∈ pBig := p9 inlX0 inlX1 inlX2 inlX3 inlX4 inlX5 inlX6 inlX7 inlX8
theorem pT_ty : ∀ ci, ci < 9 → ∀ k, k < (pT ci).2.2 → parseFieldDescriptor ((pT ci).2.1 k).2.2.1 = some (pty ci k) := p9 tyX0_ok tyX1_ok tyX2_ok tyX3_ok tyX4_ok tyX5_ok tyX6_ok tyX7_ok tyX8_ok
theorem pT_nm : ∀ ci, ci < 9 → ∀ a, a < (pT ci).2.2 → ∀ b, b < (pT ci).2.2 → a ≠ b → ((pT ci).2.1 a).2.1 ≠ ((pT ci).2.1 b).2.1 := p9 nmX0 nmX1 nmX2 nmX3 nmX4 nmX5 nmX6 nmX7 nmX8
def fk (t : FieldType) : Nat := match t with
  | .long => 1
  | .object _ => 2
  | .array _ => 2
  | _ => 0
/-! ghosts: class numbers, where the script, the text and the cells lie -/
abbrev pmt : Type := MethodName × ByteArray × Nat × Option FieldType
abbrev pgh : Type := va_G × (Nat → ClassId) × (Nat → Nat) × Nat × Option Nat
def gD (g : pgh) : va_G := g.1
def gY (g : pgh) : Nat → ClassId := g.2.1
def gL (g : pgh) : Nat → Nat := g.2.2.1
def gO (g : pgh) : Nat := g.2.2.2.1
def gQ (g : pgh) : Option Nat := g.2.2.2.2
def ad (g : pgh) (a : Nat) : Nat := if a < 3 then gL g a else gO g + (a - 3)
theorem ad_c (g : pgh) (i : Nat) : ad g (i + 3) = gO g + i := by unfold ad; rw [if_neg (by omega)]; omega
def cv (g : pgh) : Value → Value
  | .ref a => .ref (ad g a)
  | .retAddr _ => va_rf (gQ g)
  | v => v
theorem cv_cat (g : pgh) (v : Value) : (cv g v).category = v.category := by
  cases v <;> first | rfl | (show (va_rf (gQ g)).category = 1; cases gQ g <;> rfl)
def ro (g : pgh) (r : Nat) : Option Nat := if r = 0 then none else some (ad g r)
def fv (g : pgh) (M : pm) (a ci k : Nat) : Value := match fk (pty ci k) with
  | 0 => .int (mI M a k)
  | 1 => .long (mJ M a k)
  | _ => va_rf (ro g (mR M a k))
def ent (g : pgh) (M : pm) (a : Nat) : va_E :=
  if (lay a).1 < 9 then .inr ((lay a).1, (List.range (pT (lay a).1).2.2).map (fv g M a (lay a).1))
  else if (lay a).1 = 12 then .inl (gY g 12, (lay a).2, .inr (.inl (mJ M a)))
  else if (lay a).1 < 14 then .inl (gY g (lay a).1, (lay a).2, .inl (mI M a))
  else .inl (gY g (lay a).1, (lay a).2, .inr (.inr (.inr (.inr (fun i => ro g (mR M a i))))))
def mw (g : pgh) (M : pm) : va_W := (List.range (mN M)).map (fun i => (gO g + i, ent g M (i + 3)))
abbrev ptys (y : Nat → ClassId) : List (ClassId × FieldType) := [(y 9, .byte), (y 10, .char), (y 11, .int), (y 12, .long), (y 13, .boolean), (y 14, .object RX4), (y 15, .array .int)]
def pA (g : pgh) : Nat → Prop := fun q => gO g ≤ q
theorem mw_get {g : pgh} {M : pm} {i : Nat} (h : i < mN M) : (mw g M)[i]? = some (gO g + i, ent g M (i + 3)) := by
  unfold mw
  rw [List.getElem?_map, List.getElem?_range h]
  rfl
theorem mw_of {g : pgh} {M : pm} {i : Nat} {q : Nat × va_E} (h : (mw g M)[i]? = some q) : i < mN M ∧ q = (gO g + i, ent g M (i + 3)) := by
  have hl : i < (mw g M).length := (List.getElem?_eq_some_iff.mp h).1
  have hi : i < mN M := by simpa [mw] using hl
  rw [mw_get hi] at h
  exact ⟨hi, (Option.some.inj h).symm⟩
theorem mw_D (g : pgh) (M : pm) : va_D (pA g) (mw g M) := by
  refine ⟨fun i j p q hp hq he => ?_, fun k q hk => ?_⟩
  · obtain ⟨-, rfl⟩ := mw_of hp
    obtain ⟨-, rfl⟩ := mw_of hq
    have : gO g + i = gO g + j := he
    omega
  · obtain ⟨-, rfl⟩ := mw_of hk
    exact Nat.le_add_right _ _
/-! locals -/
def plo (g : pgh) (nL : Nat) (ls : List Value) (lsA : Array Slot) : Prop := lsA.size = nL ∧ lv_wf lsA ∧ ∀ (i : Nat) (v : Value), ls[i]? = some v → v ≠ .null → lsA[i]? = some (.val (cv g v))
def pas (g : pgh) (ls : List Value) : List (Nat × Value) := (List.range ls.length).filterMap (fun i => match ls[i]? with
  | some (Value.null) => none
  | some v => some (i, cv g v)
  | none => none)
theorem pas_in {g : pgh} {ls : List Value} {i : Nat} {w : Value} : (i, w) ∈ pas g ls ↔ ∃ v, ls[i]? = some v ∧ v ≠ .null ∧ w = cv g v := by
  unfold pas
  rw [List.mem_filterMap]
  constructor
  · rintro ⟨j, hj, h⟩
    cases hv : ls[j]? with
    | none => rw [hv] at h; cases h
    | some v =>
      rw [hv] at h
      cases v <;> first | (cases h; done) | (cases h; exact ⟨_, hv, by (intro q; cases q), rfl⟩)
  · rintro ⟨v, hv, hn, rfl⟩
    refine ⟨i, List.mem_range.mpr (List.getElem?_eq_some_iff.mp hv).1, ?_⟩
    rw [hv]
    cases v <;> first | rfl | exact absurd rfl hn
theorem plo_has {g : pgh} {nL : Nat} {ls : List Value} {lsA : Array Slot} (h : plo g nL ls lsA) : lv_has lsA nL (pas g ls) := by
  refine ⟨h.1, h.2.1, fun q hq => ?_⟩
  obtain ⟨v, hv, hn, e⟩ := pas_in.mp (show (q.1, q.2) ∈ pas g ls from hq)
  rw [e]
  exact h.2.2 _ _ hv hn
/-- no long begins just below place i -/
def pk1 (ls : List Value) : Nat → Bool
  | 0 => true
  | i + 1 => match ls[i]? with
    | some (.long _) => false
    | some (.double _) => false
    | _ => true
theorem pk1_ne {ls : List Value} {i : Nat} (h : pk1 ls i = true) {j : Nat} {v : Value} (hj : j + 1 = i) (hv : ls[j]? = some v) : v.category = 1 := by
  subst hj
  simp only [pk1, hv] at h
  cases v <;> first | rfl | (cases h)
theorem plo_set1 {g : pgh} {nL : Nat} {ls : List Value} {lsA : Array Slot} {i : Nat} {v : Value} (hk : pk1 ls i = true) (h : lv_has lsA nL ((i, cv g v) :: (pas g ls).filter (fun q => !(q.1 == i) && !(q.1 + 1 == i && q.2.category == 2)))) : plo g nL (ls.set i v) lsA := by
  refine ⟨h.1, h.2.1, fun j w hw hn => ?_⟩
  rw [List.getElem?_set] at hw
  by_cases e : i = j
  · subst e
    rw [if_pos rfl] at hw
    split at hw
    · cases hw
      exact h.2.2 (i, cv g v) List.mem_cons_self
    · cases hw
  · rw [if_neg e] at hw
    refine h.2.2 (j, cv g w) (List.mem_cons_of_mem _ (List.mem_filter.mpr ⟨pas_in.mpr ⟨w, hw, hn, rfl⟩, ?_⟩))
    have e1 : (j == i) = false := by simp; omega
    by_cases e2 : j + 1 = i
    · have := pk1_ne hk e2 hw
      simp [e1, cv_cat, this]
    · simp [e1, e2]
theorem plo_set2 {g : pgh} {nL : Nat} {ls : List Value} {lsA : Array Slot} {i : Nat} {v : Value} (hk : pk1 ls i = true) (h : lv_has lsA nL ((i, cv g v) :: (pas g ls).filter (fun q => !(q.1 == i) && (!(q.1 == i + 1) && !(q.1 + 1 == i && q.2.category == 2))))) : plo g nL ((ls.set i v).set (i + 1) .null) lsA := by
  refine ⟨h.1, h.2.1, fun j w hw hn => ?_⟩
  rw [List.getElem?_set] at hw
  by_cases e : i + 1 = j
  · rw [if_pos e] at hw
    split at hw
    · cases hw
      exact absurd rfl hn
    · cases hw
  · rw [if_neg e, List.getElem?_set] at hw
    by_cases e : i = j
    · subst e
      rw [if_pos rfl] at hw
      split at hw
      · cases hw
        exact h.2.2 (i, cv g v) List.mem_cons_self
      · cases hw
    · rw [if_neg e] at hw
      refine h.2.2 (j, cv g w) (List.mem_cons_of_mem _ (List.mem_filter.mpr ⟨pas_in.mpr ⟨w, hw, hn, rfl⟩, ?_⟩))
      have e1 : (j == i) = false := by simp; omega
      have e3 : (j == i + 1) = false := by simp; omega
      by_cases e2 : j + 1 = i
      · have := pk1_ne hk e2 hw
        simp [e1, e3, cv_cat, this]
      · simp [e1, e2, e3]
/-- the locals with which a method begins -/
def pen : List Value → List Value
  | [] => []
  | v :: vs => if v.category = 2 then v :: .null :: pen vs else v :: pen vs
theorem pen_args {g : pgh} (vs : List Value) : ∀ (k i : Nat) (v : Value), (pen vs)[i]? = some v → v ≠ .null → (k + i, cv g v) ∈ lv_args k (vs.map (cv g)) := by
  induction vs with
  | nil => intro k i v h; simp [pen] at h
  | cons x t ih =>
    intro k i v h hn
    show _ ∈ (k, cv g x) :: lv_args (if (cv g x).category = 2 then k + 2 else k + 1) (t.map (cv g))
    rw [cv_cat]
    unfold pen at h
    by_cases hc : x.category = 2
    · rw [if_pos hc] at h ⊢
      match i, h with
      | 0, h => cases h; exact List.mem_cons_self
      | 1, h => cases h; exact absurd rfl hn
      | i + 2, h =>
        have := ih (k + 2) i v (by simpa using h) hn
        rw [show k + (i + 2) = k + 2 + i by omega]
        exact List.mem_cons_of_mem _ this
    · rw [if_neg hc] at h ⊢
      match i, h with
      | 0, h => cases h; exact List.mem_cons_self
      | i + 1, h =>
        have := ih (k + 1) i v (by simpa using h) hn
        rw [show k + (i + 1) = k + 1 + i by omega]
        exact List.mem_cons_of_mem _ this
def pfr (nL : Nat) (av : List Value) : List Value := pen av ++ List.replicate (nL - (pen av).length) .null
theorem pen_len (g : pgh) (vs : List Value) : (lg_sl (vs.map (cv g))).length = (pen vs).length := by
  induction vs with
  | nil => rfl
  | cons x t ih =>
    simp only [lg_sl, List.map_cons, List.flatMap_cons, List.length_append, cv_cat] at ih ⊢
    unfold pen
    rw [ih]
    by_cases hc : x.category = 2
    · rw [if_pos hc, if_pos hc]; simp; omega
    · rw [if_neg hc, if_neg hc]; simp; omega
theorem plo_entry (g : pgh) (nL : Nat) (av : List Value) (h : (pen av).length ≤ nL) : plo g nL (pfr nL av) ((lg_sl (av.map (cv g)) ++ List.replicate (nL - (lg_sl (av.map (cv g))).length) Slot.unset).toArray) := by
  obtain ⟨h1, h2, h3⟩ := lv_entry (av.map (cv g)) (n := nL) (by rw [pen_len]; exact h)
  refine ⟨h1, h2, fun i v hv hn => ?_⟩
  unfold pfr at hv
  by_cases hi : i < (pen av).length
  · rw [List.getElem?_append_left hi] at hv
    have := h3 _ (pen_args (g := g) av 0 i v hv hn)
    simpa using this
  · rw [List.getElem?_append_right (by omega)] at hv
    exact absurd (List.eq_of_mem_replicate (List.mem_of_getElem? hv)) hn
