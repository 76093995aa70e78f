/-! what holds once both objects are made -/
def pS (ci a : Nat) : Prop := 3 ≤ a ∧ a < 353 ∧ (lay a).1 = ci
def rOff : Nat → Nat → Nat
  | 0, 0 => 1
  | 1, 0 => 1
  | 1, 1 => 2
  | 1, 2 => 3
  | 1, 3 => 4
  | 1, 4 => 5
  | 1, 5 => 6
  | 2, 0 => 1
  | 2, 2 => 2
  | 2, 3 => 3
  | 2, 4 => 4
  | 3, 0 => 1
  | 3, 1 => 4
  | 4, 2 => 1
  | 4, 3 => 2
  | 4, 4 => 3
  | 4, 5 => 4
  | 4, 6 => 5
  | 4, 8 => 6
  | 4, 9 => 7
  | 4, 10 => 8
  | 5, 5 => 1
  | 5, 6 => 2
  | 5, 7 => 3
  | 5, 9 => 4
  | 5, 10 => 5
  | 5, 11 => 6
  | 5, 12 => 7
  | 5, 14 => 8
  | 5, 15 => 9
  | 5, 16 => 10
  | 6, 0 => 1
  | 7, 0 => 1
  | 7, 2 => 2
  | 7, 8 => 41
  | 7, 9 => 54
  | 7, 10 => 63
  | 7, 11 => 72
  | 7, 12 => 254
  | 7, 14 => 271
  | 7, 15 => 272
  | 7, 17 => 273
  | 8, 0 => 1
  | 8, 9 => 2
  | 8, 10 => 3
  | 8, 11 => 4
  | 8, 12 => 5
  | 8, 13 => 6
  | 8, 14 => 7
  | 8, 15 => 8
  | 8, 16 => 9
  | 8, 17 => 10
  | 8, 18 => 11
  | 8, 19 => 12
  | 8, 20 => 13
  | 8, 21 => 14
  | 8, 22 => 15
  | 8, 23 => 16
  | 8, 24 => 17
  | 8, 25 => 18
  | 8, 26 => 19
  | 8, 27 => 20
  | 8, 28 => 21
  | 8, 29 => 22
  | 8, 30 => 23
  | 8, 31 => 24
  | 8, 32 => 25
  | 8, 33 => 26
  | 8, 34 => 27
  | 8, 35 => 28
  | 8, 36 => 29
  | 8, 37 => 30
  | 8, 39 => 31
  | 8, 40 => 32
  | 8, 41 => 33
  | 8, 42 => 34
  | 8, 43 => 35
  | 8, 44 => 36
  | 8, 45 => 37
  | 8, 46 => 38
  | 8, 47 => 39
  | 8, 52 => 40
  | 8, 53 => 41
  | 8, 55 => 42
  | 8, 60 => 43
  | 8, 61 => 44
  | 8, 64 => 45
  | 8, 65 => 46
  | 8, 66 => 47
  | 8, 68 => 48
  | 8, 72 => 49
  | 8, 73 => 50
  | 8, 74 => 51
  | 8, 75 => 52
  | 8, 76 => 53
  | 8, 77 => 54
  | 8, 78 => 55
  | 8, 79 => 56
  | 8, 80 => 57
  | 8, 81 => 58
  | 8, 82 => 59
  | 8, 83 => 60
  | 8, 84 => 61
  | 8, 85 => 62
  | 8, 86 => 63
  | 8, 87 => 64
  | 8, 88 => 65
  | 8, 89 => 66
  | 8, 90 => 67
  | 8, 91 => 68
  | 8, 92 => 69
  | 8, 93 => 70
  | 8, 94 => 71
  | 8, 95 => 72
  | 8, 97 => 73
  | 8, 101 => 74
  | 8, 105 => 75
  | _, _ => 0
def pG (M : pm) : Prop := mN M = 350 ∧ (∀ ci a, pS ci a → ∀ k, rOff ci k ≠ 0 → mR M a k = a + rOff ci k) ∧ (∀ a, pS 15 a → ∀ i, i < (lay a).2 → mR M a i = a + 1 + i) ∧ (∀ i, i < 20 → pS 4 (mR M 76 i)) ∧ pS 5 (mR M 3 3) ∧ pS 5 (mR M 3 4) ∧ pS 9 (mR M 6 1) ∧ (mR M 5 2 = 0 ∨ pS 2 (mR M 5 2))
theorem pG.same {M M' : pm} (h : pG M) (hn : mN M' = mN M) (hr : mR M' = mR M) : pG M' := by
  unfold pG at h ⊢
  rw [hn, hr]
  exact h
theorem pS_ne {ci a : Nat} (h : pS ci a) : a ≠ 0 := by have := h.1; omega
theorem pG_set {M : pm} (h : pG M) {a k r : Nat} (h1 : ∀ ci, pS ci a → rOff ci k = 0) (h2 : ¬ (lay a).1 = 15) (h3 : a = 76 → k < 20 → pS 4 r) (h4 : a = 3 → k = 3 → pS 5 r) (h5 : a = 3 → k = 4 → pS 5 r) (h6 : a = 6 → k = 1 → pS 9 r) (h7 : a = 5 → k = 2 → pS 2 r) : pG (sR M a k r) := by
  obtain ⟨g1, g2, g3, g4, g5, g6, g7, g8⟩ := h
  refine ⟨g1, fun ci b hb j hj => ?_, fun b hb i hi => ?_, fun i hi => ?_, ?_, ?_, ?_, ?_⟩
  · rw [mR_sR]
    by_cases e : b = a ∧ j = k
    · obtain ⟨rfl, rfl⟩ := e
      exact absurd (h1 ci hb) hj
    · rw [if_neg e]; exact g2 ci b hb j hj
  · rw [mR_sR]
    by_cases e : b = a ∧ i = k
    · obtain ⟨rfl, rfl⟩ := e
      exact absurd hb.2.2 h2
    · rw [if_neg e]; exact g3 b hb i hi
  · rw [mR_sR]
    by_cases e : 76 = a ∧ i = k
    · rw [if_pos e]; exact h3 e.1.symm (by omega)
    · rw [if_neg e]; exact g4 i hi
  · rw [mR_sR]
    by_cases e : 3 = a ∧ 3 = k
    · rw [if_pos e]; exact h4 e.1.symm e.2.symm
    · rw [if_neg e]; exact g5
  · rw [mR_sR]
    by_cases e : 3 = a ∧ 4 = k
    · rw [if_pos e]; exact h5 e.1.symm e.2.symm
    · rw [if_neg e]; exact g6
  · rw [mR_sR]
    by_cases e : 6 = a ∧ 1 = k
    · rw [if_pos e]; exact h6 e.1.symm e.2.symm
    · rw [if_neg e]; exact g7
  · rw [mR_sR]
    by_cases e : 5 = a ∧ 2 = k
    · rw [if_pos e]; exact Or.inr (h7 e.1.symm e.2.symm)
    · rw [if_neg e]; exact g8
theorem pG_told {M : pm} (h : pG M) {r : Nat} (hr : pS 5 r) : pG (sR M 3 3 r) := pG_set h (fun ci hc => by rw [← hc.2.2]; rfl) (by decide +kernel) (fun e => by omega) (fun _ _ => hr) (fun _ e => by omega) (fun e => by omega) (fun e => by omega)
theorem pG_spare {M : pm} (h : pG M) {r : Nat} (hr : pS 5 r) : pG (sR M 3 4 r) := pG_set h (fun ci hc => by rw [← hc.2.2]; rfl) (by decide +kernel) (fun e => by omega) (fun _ e => by omega) (fun _ _ => hr) (fun e => by omega) (fun e => by omega)
theorem pG_text {M : pm} (h : pG M) {r : Nat} (hr : pS 9 r) : pG (sR M 6 1 r) := pG_set h (fun ci hc => by rw [← hc.2.2]; rfl) (by decide +kernel) (fun e => by omega) (fun e => by omega) (fun e => by omega) (fun _ _ => hr) (fun e => by omega)
theorem pG_out {M : pm} (h : pG M) {r : Nat} (hr : pS 2 r) : pG (sR M 5 2 r) := pG_set h (fun ci hc => by rw [← hc.2.2]; rfl) (by decide +kernel) (fun e => by omega) (fun e => by omega) (fun e => by omega) (fun e => by omega) (fun _ _ => hr)
theorem pG_states {M : pm} (h : pG M) {i r : Nat} (hr : pS 4 r) : pG (sR M 76 i r) := pG_set h (fun ci hc => by rw [← hc.2.2]; rfl) (by decide +kernel) (fun _ _ => hr) (fun e => by omega) (fun e => by omega) (fun e => by omega) (fun e => by omega)
theorem ob {M : pm} {a ci : Nat} (hN : mN M = 350) (h : pS ci a) (hc : ci < 9) : pOb M a ci := ⟨h.1, by rw [hN]; exact h.2.1, h.2.2, hc⟩
theorem ar {M : pm} {a kd : Nat} (hN : mN M = 350) (h : pS kd a) : pAr M a kd := ⟨h.1, by rw [hN]; exact h.2.1, h.2.2⟩
theorem vp_lt {i : Int32} {n : Nat} (h : vp_in i n) : i.toNatClampNeg < n := Nat.not_le.mp fun q => h (Or.inr q)
theorem vp_c {i : Int32} {n : Nat} (h : decide (¬ (i < 0 ∨ n ≤ i.toNatClampNeg)) = true) : vp_in i n := by
  unfold vp_in
  exact of_decide_eq_true h
theorem vpl {i : Int32} {a n : Nat} (e : (lay a).2 = n) (h : vp_in i n) : vp_in i (lay a).2 := by rw [e]; exact h
def bz (x : Int32) : Prop := x = 0 ∨ x = 1
theorem bz0 : bz 0 := Or.inl rfl
theorem bz1 : bz 1 := Or.inr rfl
theorem bz_n {x : Int32} (h : bz x) : narrow .boolean (.int x) = .int x := by rcases h with rfl | rfl <;> rfl
theorem bz_f {x : Int32} (h : bz x) : fits .boolean (.int x) = true := by rcases h with rfl | rfl <;> rfl
def irm (x y : Int32) : Int32 := x - x / y * y
def lrm (x y : Int64) : Int64 := x - x / y * y
def qI (Q : Int32 → pm → Prop) : Option Value → pm → Prop := fun r M => pG M ∧ ∃ x, r = some (.int x) ∧ Q x M
def qZ (Q : Int32 → pm → Prop) : Option Value → pm → Prop := fun r M => pG M ∧ ∃ x, r = some (.int x) ∧ bz x ∧ Q x M
def qJ (Q : Int64 → pm → Prop) : Option Value → pm → Prop := fun r M => pG M ∧ ∃ x, r = some (.long x) ∧ Q x M
def qV (Q : pm → Prop) : Option Value → pm → Prop := fun r M => pG M ∧ r = none ∧ Q M
/-- fewer locals known -/
def psub : List Value → List Value → Prop
  | [], _ => True
  | .null :: t, _ :: u => psub t u
  | v :: t, w :: u => v = w ∧ psub t u
  | _ :: _, [] => False
theorem psub_get : ∀ (a b : List Value), psub a b → ∀ (i : Nat) (v : Value), a[i]? = some v → v ≠ .null → b[i]? = some v := by
  intro a
  induction a with
  | nil => intro b _ i v h; simp at h
  | cons x t ih =>
    intro b hb i v hi hn
    cases b with
    | nil => cases x <;> exact hb.elim
    | cons y u =>
      have key : (x = .null ∨ x = y) ∧ psub t u := by
        cases x <;> first | exact ⟨Or.inl rfl, hb⟩ | exact ⟨Or.inr hb.1, hb.2⟩
      cases i with
      | zero =>
        have hx : x = v := by simpa using hi
        rcases key.1 with e | e
        · exact absurd (hx.symm.trans e) hn
        · simp [← e, hx]
      | succ i => simpa using ih u key.2 i v (by simpa using hi) hn
theorem PW.drop {m : pmt} {d lim pc : Nat} {ls ls' st : List Value} {M : pm} {Q : Option Value → pm → Prop} (h : PW m d lim pc ls' st M Q) (hs : psub ls' ls) : PW m d lim pc ls st M Q :=
  fun p l e R s mi args below meth c CE SE Qf g H locs cells slots lsA C E => h p l e R s mi args below meth c CE SE Qf g H locs cells slots lsA C (E.ls' ⟨E.2.2.2.2.2.1, E.2.2.2.2.2.2.1, fun i v hv hn => E.2.2.2.2.2.2.2 i v (psub_get _ _ hs i v hv hn) hn⟩)
theorem tab_out {x : Int32} {lo hi : Int} (h : ∀ c : Int, lo ≤ c → c ≤ hi → ¬ x = Int32.ofInt c) : x.toInt < lo ∨ hi < x.toInt := by
  by_cases h1 : x.toInt < lo
  · exact Or.inl h1
  · by_cases h2 : hi < x.toInt
    · exact Or.inr h2
    · exact absurd (Int32.ofInt_toInt x).symm (h x.toInt (by omega) (by omega))
theorem pn (k j : Nat) {w : Cond} (h : (tb (k + 1))[j]? = some w) (hg : pNe w = true) : w ∈ pnest := by
  refine List.mem_filter.mpr ⟨?_, hg⟩
  have h1 := List.mem_of_getElem? h
  rcases List.mem_append.mp (tb_in (k + 1) w h1) with h2 | h2
  · exfalso
    unfold k2_sels at h2
    obtain ⟨q, -, rfl⟩ := List.mem_map.mp h2
    cases hg
  · exact h2
theorem s_3 : pS 7 3 := by unfold pS; decide +kernel
theorem s_4 : pS 9 4 := by unfold pS; decide +kernel
theorem n_4 : (lay 4).2 = 1600 := by decide +kernel
theorem s_5 : pS 3 5 := by unfold pS; decide +kernel
theorem s_6 : pS 6 6 := by unfold pS; decide +kernel
theorem s_7 : pS 11 7 := by unfold pS; decide +kernel
theorem n_7 : (lay 7).2 = 34 := by decide +kernel
theorem s_8 : pS 9 8 := by unfold pS; decide +kernel
theorem n_8 : (lay 8).2 = 0 := by decide +kernel
theorem s_9 : pS 2 9 := by unfold pS; decide +kernel
theorem s_10 : pS 11 10 := by unfold pS; decide +kernel
theorem n_10 : (lay 10).2 = 1600 := by decide +kernel
theorem s_11 : pS 11 11 := by unfold pS; decide +kernel
theorem n_11 : (lay 11).2 = 3 := by decide +kernel
theorem s_12 : pS 11 12 := by unfold pS; decide +kernel
theorem n_12 : (lay 12).2 = 3 := by decide +kernel
theorem s_13 : pS 13 13 := by unfold pS; decide +kernel
theorem n_13 : (lay 13).2 = 3 := by decide +kernel
theorem s_14 : pS 5 14 := by unfold pS; decide +kernel
theorem s_15 : pS 11 15 := by unfold pS; decide +kernel
theorem n_15 : (lay 15).2 = 6 := by decide +kernel
theorem s_16 : pS 11 16 := by unfold pS; decide +kernel
theorem n_16 : (lay 16).2 = 6 := by decide +kernel
theorem s_17 : pS 11 17 := by unfold pS; decide +kernel
theorem n_17 : (lay 17).2 = 6 := by decide +kernel
theorem s_18 : pS 11 18 := by unfold pS; decide +kernel
theorem n_18 : (lay 18).2 = 8 := by decide +kernel
theorem s_19 : pS 11 19 := by unfold pS; decide +kernel
theorem n_19 : (lay 19).2 = 8 := by decide +kernel
theorem s_20 : pS 11 20 := by unfold pS; decide +kernel
theorem n_20 : (lay 20).2 = 8 := by decide +kernel
theorem s_21 : pS 11 21 := by unfold pS; decide +kernel
theorem n_21 : (lay 21).2 = 8 := by decide +kernel
theorem s_22 : pS 11 22 := by unfold pS; decide +kernel
theorem n_22 : (lay 22).2 = 5 := by decide +kernel
theorem s_23 : pS 11 23 := by unfold pS; decide +kernel
theorem n_23 : (lay 23).2 = 5 := by decide +kernel
theorem s_24 : pS 2 24 := by unfold pS; decide +kernel
theorem s_25 : pS 11 25 := by unfold pS; decide +kernel
theorem n_25 : (lay 25).2 = 1600 := by decide +kernel
theorem s_26 : pS 11 26 := by unfold pS; decide +kernel
theorem n_26 : (lay 26).2 = 3 := by decide +kernel
theorem s_27 : pS 11 27 := by unfold pS; decide +kernel
theorem n_27 : (lay 27).2 = 3 := by decide +kernel
theorem s_28 : pS 13 28 := by unfold pS; decide +kernel
theorem n_28 : (lay 28).2 = 3 := by decide +kernel
theorem s_29 : pS 5 29 := by unfold pS; decide +kernel
theorem s_30 : pS 11 30 := by unfold pS; decide +kernel
theorem n_30 : (lay 30).2 = 6 := by decide +kernel
theorem s_31 : pS 11 31 := by unfold pS; decide +kernel
theorem n_31 : (lay 31).2 = 6 := by decide +kernel
theorem s_32 : pS 11 32 := by unfold pS; decide +kernel
theorem n_32 : (lay 32).2 = 6 := by decide +kernel
theorem s_33 : pS 11 33 := by unfold pS; decide +kernel
theorem n_33 : (lay 33).2 = 8 := by decide +kernel
theorem s_34 : pS 11 34 := by unfold pS; decide +kernel
theorem n_34 : (lay 34).2 = 8 := by decide +kernel
theorem s_35 : pS 11 35 := by unfold pS; decide +kernel
theorem n_35 : (lay 35).2 = 8 := by decide +kernel
theorem s_36 : pS 11 36 := by unfold pS; decide +kernel
theorem n_36 : (lay 36).2 = 8 := by decide +kernel
theorem s_37 : pS 11 37 := by unfold pS; decide +kernel
theorem n_37 : (lay 37).2 = 5 := by decide +kernel
theorem s_38 : pS 11 38 := by unfold pS; decide +kernel
theorem n_38 : (lay 38).2 = 5 := by decide +kernel
theorem s_39 : pS 2 39 := by unfold pS; decide +kernel
theorem s_40 : pS 11 40 := by unfold pS; decide +kernel
theorem n_40 : (lay 40).2 = 1600 := by decide +kernel
theorem s_41 : pS 11 41 := by unfold pS; decide +kernel
theorem n_41 : (lay 41).2 = 3 := by decide +kernel
theorem s_42 : pS 11 42 := by unfold pS; decide +kernel
theorem n_42 : (lay 42).2 = 3 := by decide +kernel
theorem s_43 : pS 13 43 := by unfold pS; decide +kernel
theorem n_43 : (lay 43).2 = 3 := by decide +kernel
theorem s_44 : pS 1 44 := by unfold pS; decide +kernel
theorem s_45 : pS 11 45 := by unfold pS; decide +kernel
theorem n_45 : (lay 45).2 = 128 := by decide +kernel
theorem s_46 : pS 11 46 := by unfold pS; decide +kernel
theorem n_46 : (lay 46).2 = 28 := by decide +kernel
theorem s_47 : pS 11 47 := by unfold pS; decide +kernel
theorem n_47 : (lay 47).2 = 8 := by decide +kernel
theorem s_48 : pS 11 48 := by unfold pS; decide +kernel
theorem n_48 : (lay 48).2 = 256 := by decide +kernel
theorem s_49 : pS 11 49 := by unfold pS; decide +kernel
theorem n_49 : (lay 49).2 = 256 := by decide +kernel
theorem s_50 : pS 15 50 := by unfold pS; decide +kernel
theorem n_50 : (lay 50).2 = 6 := by decide +kernel
theorem s_51 : pS 11 51 := by unfold pS; decide +kernel
theorem n_51 : (lay 51).2 = 256 := by decide +kernel
theorem s_52 : pS 11 52 := by unfold pS; decide +kernel
theorem n_52 : (lay 52).2 = 256 := by decide +kernel
theorem s_53 : pS 11 53 := by unfold pS; decide +kernel
theorem n_53 : (lay 53).2 = 256 := by decide +kernel
theorem s_54 : pS 11 54 := by unfold pS; decide +kernel
theorem n_54 : (lay 54).2 = 256 := by decide +kernel
theorem s_55 : pS 11 55 := by unfold pS; decide +kernel
theorem n_55 : (lay 55).2 = 256 := by decide +kernel
theorem s_56 : pS 11 56 := by unfold pS; decide +kernel
theorem n_56 : (lay 56).2 = 256 := by decide +kernel
theorem s_57 : pS 4 57 := by unfold pS; decide +kernel
theorem s_58 : pS 11 58 := by unfold pS; decide +kernel
theorem n_58 : (lay 58).2 = 8 := by decide +kernel
theorem s_59 : pS 11 59 := by unfold pS; decide +kernel
theorem n_59 : (lay 59).2 = 8 := by decide +kernel
theorem s_60 : pS 11 60 := by unfold pS; decide +kernel
theorem n_60 : (lay 60).2 = 8 := by decide +kernel
theorem s_61 : pS 11 61 := by unfold pS; decide +kernel
theorem n_61 : (lay 61).2 = 8 := by decide +kernel
theorem s_62 : pS 11 62 := by unfold pS; decide +kernel
theorem n_62 : (lay 62).2 = 8 := by decide +kernel
theorem s_63 : pS 11 63 := by unfold pS; decide +kernel
theorem n_63 : (lay 63).2 = 40 := by decide +kernel
theorem s_64 : pS 11 64 := by unfold pS; decide +kernel
theorem n_64 : (lay 64).2 = 40 := by decide +kernel
theorem s_65 : pS 11 65 := by unfold pS; decide +kernel
theorem n_65 : (lay 65).2 = 40 := by decide +kernel
theorem s_66 : pS 4 66 := by unfold pS; decide +kernel
theorem s_67 : pS 11 67 := by unfold pS; decide +kernel
theorem n_67 : (lay 67).2 = 8 := by decide +kernel
theorem s_68 : pS 11 68 := by unfold pS; decide +kernel
theorem n_68 : (lay 68).2 = 8 := by decide +kernel
theorem s_69 : pS 11 69 := by unfold pS; decide +kernel
theorem n_69 : (lay 69).2 = 8 := by decide +kernel
theorem s_70 : pS 11 70 := by unfold pS; decide +kernel
theorem n_70 : (lay 70).2 = 8 := by decide +kernel
theorem s_71 : pS 11 71 := by unfold pS; decide +kernel
theorem n_71 : (lay 71).2 = 8 := by decide +kernel
theorem s_72 : pS 11 72 := by unfold pS; decide +kernel
theorem n_72 : (lay 72).2 = 40 := by decide +kernel
theorem s_73 : pS 11 73 := by unfold pS; decide +kernel
theorem n_73 : (lay 73).2 = 40 := by decide +kernel
theorem s_74 : pS 11 74 := by unfold pS; decide +kernel
theorem n_74 : (lay 74).2 = 40 := by decide +kernel
theorem s_75 : pS 0 75 := by unfold pS; decide +kernel
theorem s_76 : pS 14 76 := by unfold pS; decide +kernel
theorem n_76 : (lay 76).2 = 20 := by decide +kernel
theorem s_77 : pS 4 77 := by unfold pS; decide +kernel
theorem s_78 : pS 11 78 := by unfold pS; decide +kernel
theorem n_78 : (lay 78).2 = 8 := by decide +kernel
theorem s_79 : pS 11 79 := by unfold pS; decide +kernel
theorem n_79 : (lay 79).2 = 8 := by decide +kernel
theorem s_80 : pS 11 80 := by unfold pS; decide +kernel
theorem n_80 : (lay 80).2 = 8 := by decide +kernel
theorem s_81 : pS 11 81 := by unfold pS; decide +kernel
theorem n_81 : (lay 81).2 = 8 := by decide +kernel
theorem s_82 : pS 11 82 := by unfold pS; decide +kernel
theorem n_82 : (lay 82).2 = 8 := by decide +kernel
theorem s_83 : pS 11 83 := by unfold pS; decide +kernel
theorem n_83 : (lay 83).2 = 40 := by decide +kernel
theorem s_84 : pS 11 84 := by unfold pS; decide +kernel
theorem n_84 : (lay 84).2 = 40 := by decide +kernel
theorem s_85 : pS 11 85 := by unfold pS; decide +kernel
theorem n_85 : (lay 85).2 = 40 := by decide +kernel
theorem s_86 : pS 4 86 := by unfold pS; decide +kernel
theorem s_87 : pS 11 87 := by unfold pS; decide +kernel
theorem n_87 : (lay 87).2 = 8 := by decide +kernel
theorem s_88 : pS 11 88 := by unfold pS; decide +kernel
theorem n_88 : (lay 88).2 = 8 := by decide +kernel
theorem s_89 : pS 11 89 := by unfold pS; decide +kernel
theorem n_89 : (lay 89).2 = 8 := by decide +kernel
theorem s_90 : pS 11 90 := by unfold pS; decide +kernel
theorem n_90 : (lay 90).2 = 8 := by decide +kernel
theorem s_91 : pS 11 91 := by unfold pS; decide +kernel
theorem n_91 : (lay 91).2 = 8 := by decide +kernel
theorem s_92 : pS 11 92 := by unfold pS; decide +kernel
theorem n_92 : (lay 92).2 = 40 := by decide +kernel
theorem s_93 : pS 11 93 := by unfold pS; decide +kernel
theorem n_93 : (lay 93).2 = 40 := by decide +kernel
theorem s_94 : pS 11 94 := by unfold pS; decide +kernel
theorem n_94 : (lay 94).2 = 40 := by decide +kernel
theorem s_95 : pS 4 95 := by unfold pS; decide +kernel
theorem s_96 : pS 11 96 := by unfold pS; decide +kernel
theorem n_96 : (lay 96).2 = 8 := by decide +kernel
theorem s_97 : pS 11 97 := by unfold pS; decide +kernel
theorem n_97 : (lay 97).2 = 8 := by decide +kernel
theorem s_98 : pS 11 98 := by unfold pS; decide +kernel
theorem n_98 : (lay 98).2 = 8 := by decide +kernel
theorem s_99 : pS 11 99 := by unfold pS; decide +kernel
theorem n_99 : (lay 99).2 = 8 := by decide +kernel
theorem s_100 : pS 11 100 := by unfold pS; decide +kernel
theorem n_100 : (lay 100).2 = 8 := by decide +kernel
theorem s_101 : pS 11 101 := by unfold pS; decide +kernel
theorem n_101 : (lay 101).2 = 40 := by decide +kernel
theorem s_102 : pS 11 102 := by unfold pS; decide +kernel
theorem n_102 : (lay 102).2 = 40 := by decide +kernel
theorem s_103 : pS 11 103 := by unfold pS; decide +kernel
theorem n_103 : (lay 103).2 = 40 := by decide +kernel
theorem s_104 : pS 4 104 := by unfold pS; decide +kernel
theorem s_105 : pS 11 105 := by unfold pS; decide +kernel
theorem n_105 : (lay 105).2 = 8 := by decide +kernel
theorem s_106 : pS 11 106 := by unfold pS; decide +kernel
theorem n_106 : (lay 106).2 = 8 := by decide +kernel
theorem s_107 : pS 11 107 := by unfold pS; decide +kernel
theorem n_107 : (lay 107).2 = 8 := by decide +kernel
theorem s_108 : pS 11 108 := by unfold pS; decide +kernel
theorem n_108 : (lay 108).2 = 8 := by decide +kernel
theorem s_109 : pS 11 109 := by unfold pS; decide +kernel
theorem n_109 : (lay 109).2 = 8 := by decide +kernel
theorem s_110 : pS 11 110 := by unfold pS; decide +kernel
theorem n_110 : (lay 110).2 = 40 := by decide +kernel
theorem s_111 : pS 11 111 := by unfold pS; decide +kernel
theorem n_111 : (lay 111).2 = 40 := by decide +kernel
theorem s_112 : pS 11 112 := by unfold pS; decide +kernel
theorem n_112 : (lay 112).2 = 40 := by decide +kernel
theorem s_113 : pS 4 113 := by unfold pS; decide +kernel
theorem s_114 : pS 11 114 := by unfold pS; decide +kernel
theorem n_114 : (lay 114).2 = 8 := by decide +kernel
theorem s_115 : pS 11 115 := by unfold pS; decide +kernel
theorem n_115 : (lay 115).2 = 8 := by decide +kernel
theorem s_116 : pS 11 116 := by unfold pS; decide +kernel
theorem n_116 : (lay 116).2 = 8 := by decide +kernel
theorem s_117 : pS 11 117 := by unfold pS; decide +kernel
theorem n_117 : (lay 117).2 = 8 := by decide +kernel
theorem s_118 : pS 11 118 := by unfold pS; decide +kernel
theorem n_118 : (lay 118).2 = 8 := by decide +kernel
theorem s_119 : pS 11 119 := by unfold pS; decide +kernel
theorem n_119 : (lay 119).2 = 40 := by decide +kernel
theorem s_120 : pS 11 120 := by unfold pS; decide +kernel
theorem n_120 : (lay 120).2 = 40 := by decide +kernel
theorem s_121 : pS 11 121 := by unfold pS; decide +kernel
theorem n_121 : (lay 121).2 = 40 := by decide +kernel
theorem s_122 : pS 4 122 := by unfold pS; decide +kernel
theorem s_123 : pS 11 123 := by unfold pS; decide +kernel
theorem n_123 : (lay 123).2 = 8 := by decide +kernel
theorem s_124 : pS 11 124 := by unfold pS; decide +kernel
theorem n_124 : (lay 124).2 = 8 := by decide +kernel
theorem s_125 : pS 11 125 := by unfold pS; decide +kernel
theorem n_125 : (lay 125).2 = 8 := by decide +kernel
theorem s_126 : pS 11 126 := by unfold pS; decide +kernel
theorem n_126 : (lay 126).2 = 8 := by decide +kernel
theorem s_127 : pS 11 127 := by unfold pS; decide +kernel
theorem n_127 : (lay 127).2 = 8 := by decide +kernel
theorem s_128 : pS 11 128 := by unfold pS; decide +kernel
theorem n_128 : (lay 128).2 = 40 := by decide +kernel
theorem s_129 : pS 11 129 := by unfold pS; decide +kernel
theorem n_129 : (lay 129).2 = 40 := by decide +kernel
theorem s_130 : pS 11 130 := by unfold pS; decide +kernel
theorem n_130 : (lay 130).2 = 40 := by decide +kernel
theorem s_131 : pS 4 131 := by unfold pS; decide +kernel
theorem s_132 : pS 11 132 := by unfold pS; decide +kernel
theorem n_132 : (lay 132).2 = 8 := by decide +kernel
theorem s_133 : pS 11 133 := by unfold pS; decide +kernel
theorem n_133 : (lay 133).2 = 8 := by decide +kernel
theorem s_134 : pS 11 134 := by unfold pS; decide +kernel
theorem n_134 : (lay 134).2 = 8 := by decide +kernel
theorem s_135 : pS 11 135 := by unfold pS; decide +kernel
theorem n_135 : (lay 135).2 = 8 := by decide +kernel
theorem s_136 : pS 11 136 := by unfold pS; decide +kernel
theorem n_136 : (lay 136).2 = 8 := by decide +kernel
theorem s_137 : pS 11 137 := by unfold pS; decide +kernel
theorem n_137 : (lay 137).2 = 40 := by decide +kernel
theorem s_138 : pS 11 138 := by unfold pS; decide +kernel
theorem n_138 : (lay 138).2 = 40 := by decide +kernel
theorem s_139 : pS 11 139 := by unfold pS; decide +kernel
theorem n_139 : (lay 139).2 = 40 := by decide +kernel
theorem s_140 : pS 4 140 := by unfold pS; decide +kernel
theorem s_141 : pS 11 141 := by unfold pS; decide +kernel
theorem n_141 : (lay 141).2 = 8 := by decide +kernel
theorem s_142 : pS 11 142 := by unfold pS; decide +kernel
theorem n_142 : (lay 142).2 = 8 := by decide +kernel
theorem s_143 : pS 11 143 := by unfold pS; decide +kernel
theorem n_143 : (lay 143).2 = 8 := by decide +kernel
theorem s_144 : pS 11 144 := by unfold pS; decide +kernel
theorem n_144 : (lay 144).2 = 8 := by decide +kernel
theorem s_145 : pS 11 145 := by unfold pS; decide +kernel
theorem n_145 : (lay 145).2 = 8 := by decide +kernel
theorem s_146 : pS 11 146 := by unfold pS; decide +kernel
theorem n_146 : (lay 146).2 = 40 := by decide +kernel
theorem s_147 : pS 11 147 := by unfold pS; decide +kernel
theorem n_147 : (lay 147).2 = 40 := by decide +kernel
theorem s_148 : pS 11 148 := by unfold pS; decide +kernel
theorem n_148 : (lay 148).2 = 40 := by decide +kernel
theorem s_149 : pS 4 149 := by unfold pS; decide +kernel
theorem s_150 : pS 11 150 := by unfold pS; decide +kernel
theorem n_150 : (lay 150).2 = 8 := by decide +kernel
theorem s_151 : pS 11 151 := by unfold pS; decide +kernel
theorem n_151 : (lay 151).2 = 8 := by decide +kernel
theorem s_152 : pS 11 152 := by unfold pS; decide +kernel
theorem n_152 : (lay 152).2 = 8 := by decide +kernel
theorem s_153 : pS 11 153 := by unfold pS; decide +kernel
theorem n_153 : (lay 153).2 = 8 := by decide +kernel
theorem s_154 : pS 11 154 := by unfold pS; decide +kernel
theorem n_154 : (lay 154).2 = 8 := by decide +kernel
theorem s_155 : pS 11 155 := by unfold pS; decide +kernel
theorem n_155 : (lay 155).2 = 40 := by decide +kernel
theorem s_156 : pS 11 156 := by unfold pS; decide +kernel
theorem n_156 : (lay 156).2 = 40 := by decide +kernel
theorem s_157 : pS 11 157 := by unfold pS; decide +kernel
theorem n_157 : (lay 157).2 = 40 := by decide +kernel
theorem s_158 : pS 4 158 := by unfold pS; decide +kernel
theorem s_159 : pS 11 159 := by unfold pS; decide +kernel
theorem n_159 : (lay 159).2 = 8 := by decide +kernel
theorem s_160 : pS 11 160 := by unfold pS; decide +kernel
theorem n_160 : (lay 160).2 = 8 := by decide +kernel
theorem s_161 : pS 11 161 := by unfold pS; decide +kernel
theorem n_161 : (lay 161).2 = 8 := by decide +kernel
theorem s_162 : pS 11 162 := by unfold pS; decide +kernel
theorem n_162 : (lay 162).2 = 8 := by decide +kernel
theorem s_163 : pS 11 163 := by unfold pS; decide +kernel
theorem n_163 : (lay 163).2 = 8 := by decide +kernel
theorem s_164 : pS 11 164 := by unfold pS; decide +kernel
theorem n_164 : (lay 164).2 = 40 := by decide +kernel
theorem s_165 : pS 11 165 := by unfold pS; decide +kernel
theorem n_165 : (lay 165).2 = 40 := by decide +kernel
theorem s_166 : pS 11 166 := by unfold pS; decide +kernel
theorem n_166 : (lay 166).2 = 40 := by decide +kernel
theorem s_167 : pS 4 167 := by unfold pS; decide +kernel
theorem s_168 : pS 11 168 := by unfold pS; decide +kernel
theorem n_168 : (lay 168).2 = 8 := by decide +kernel
theorem s_169 : pS 11 169 := by unfold pS; decide +kernel
theorem n_169 : (lay 169).2 = 8 := by decide +kernel
theorem s_170 : pS 11 170 := by unfold pS; decide +kernel
theorem n_170 : (lay 170).2 = 8 := by decide +kernel
theorem s_171 : pS 11 171 := by unfold pS; decide +kernel
theorem n_171 : (lay 171).2 = 8 := by decide +kernel
theorem s_172 : pS 11 172 := by unfold pS; decide +kernel
theorem n_172 : (lay 172).2 = 8 := by decide +kernel
theorem s_173 : pS 11 173 := by unfold pS; decide +kernel
theorem n_173 : (lay 173).2 = 40 := by decide +kernel
theorem s_174 : pS 11 174 := by unfold pS; decide +kernel
theorem n_174 : (lay 174).2 = 40 := by decide +kernel
theorem s_175 : pS 11 175 := by unfold pS; decide +kernel
theorem n_175 : (lay 175).2 = 40 := by decide +kernel
theorem s_176 : pS 4 176 := by unfold pS; decide +kernel
theorem s_177 : pS 11 177 := by unfold pS; decide +kernel
theorem n_177 : (lay 177).2 = 8 := by decide +kernel
theorem s_178 : pS 11 178 := by unfold pS; decide +kernel
theorem n_178 : (lay 178).2 = 8 := by decide +kernel
theorem s_179 : pS 11 179 := by unfold pS; decide +kernel
theorem n_179 : (lay 179).2 = 8 := by decide +kernel
theorem s_180 : pS 11 180 := by unfold pS; decide +kernel
theorem n_180 : (lay 180).2 = 8 := by decide +kernel
theorem s_181 : pS 11 181 := by unfold pS; decide +kernel
theorem n_181 : (lay 181).2 = 8 := by decide +kernel
theorem s_182 : pS 11 182 := by unfold pS; decide +kernel
theorem n_182 : (lay 182).2 = 40 := by decide +kernel
theorem s_183 : pS 11 183 := by unfold pS; decide +kernel
theorem n_183 : (lay 183).2 = 40 := by decide +kernel
theorem s_184 : pS 11 184 := by unfold pS; decide +kernel
theorem n_184 : (lay 184).2 = 40 := by decide +kernel
theorem s_185 : pS 4 185 := by unfold pS; decide +kernel
theorem s_186 : pS 11 186 := by unfold pS; decide +kernel
theorem n_186 : (lay 186).2 = 8 := by decide +kernel
theorem s_187 : pS 11 187 := by unfold pS; decide +kernel
theorem n_187 : (lay 187).2 = 8 := by decide +kernel
theorem s_188 : pS 11 188 := by unfold pS; decide +kernel
theorem n_188 : (lay 188).2 = 8 := by decide +kernel
theorem s_189 : pS 11 189 := by unfold pS; decide +kernel
theorem n_189 : (lay 189).2 = 8 := by decide +kernel
theorem s_190 : pS 11 190 := by unfold pS; decide +kernel
theorem n_190 : (lay 190).2 = 8 := by decide +kernel
theorem s_191 : pS 11 191 := by unfold pS; decide +kernel
theorem n_191 : (lay 191).2 = 40 := by decide +kernel
theorem s_192 : pS 11 192 := by unfold pS; decide +kernel
theorem n_192 : (lay 192).2 = 40 := by decide +kernel
theorem s_193 : pS 11 193 := by unfold pS; decide +kernel
theorem n_193 : (lay 193).2 = 40 := by decide +kernel
theorem s_194 : pS 4 194 := by unfold pS; decide +kernel
theorem s_195 : pS 11 195 := by unfold pS; decide +kernel
theorem n_195 : (lay 195).2 = 8 := by decide +kernel
theorem s_196 : pS 11 196 := by unfold pS; decide +kernel
theorem n_196 : (lay 196).2 = 8 := by decide +kernel
theorem s_197 : pS 11 197 := by unfold pS; decide +kernel
theorem n_197 : (lay 197).2 = 8 := by decide +kernel
theorem s_198 : pS 11 198 := by unfold pS; decide +kernel
theorem n_198 : (lay 198).2 = 8 := by decide +kernel
theorem s_199 : pS 11 199 := by unfold pS; decide +kernel
theorem n_199 : (lay 199).2 = 8 := by decide +kernel
theorem s_200 : pS 11 200 := by unfold pS; decide +kernel
theorem n_200 : (lay 200).2 = 40 := by decide +kernel
theorem s_201 : pS 11 201 := by unfold pS; decide +kernel
theorem n_201 : (lay 201).2 = 40 := by decide +kernel
theorem s_202 : pS 11 202 := by unfold pS; decide +kernel
theorem n_202 : (lay 202).2 = 40 := by decide +kernel
theorem s_203 : pS 4 203 := by unfold pS; decide +kernel
theorem s_204 : pS 11 204 := by unfold pS; decide +kernel
theorem n_204 : (lay 204).2 = 8 := by decide +kernel
theorem s_205 : pS 11 205 := by unfold pS; decide +kernel
theorem n_205 : (lay 205).2 = 8 := by decide +kernel
theorem s_206 : pS 11 206 := by unfold pS; decide +kernel
theorem n_206 : (lay 206).2 = 8 := by decide +kernel
theorem s_207 : pS 11 207 := by unfold pS; decide +kernel
theorem n_207 : (lay 207).2 = 8 := by decide +kernel
theorem s_208 : pS 11 208 := by unfold pS; decide +kernel
theorem n_208 : (lay 208).2 = 8 := by decide +kernel
theorem s_209 : pS 11 209 := by unfold pS; decide +kernel
theorem n_209 : (lay 209).2 = 40 := by decide +kernel
theorem s_210 : pS 11 210 := by unfold pS; decide +kernel
theorem n_210 : (lay 210).2 = 40 := by decide +kernel
theorem s_211 : pS 11 211 := by unfold pS; decide +kernel
theorem n_211 : (lay 211).2 = 40 := by decide +kernel
theorem s_212 : pS 4 212 := by unfold pS; decide +kernel
theorem s_213 : pS 11 213 := by unfold pS; decide +kernel
theorem n_213 : (lay 213).2 = 8 := by decide +kernel
theorem s_214 : pS 11 214 := by unfold pS; decide +kernel
theorem n_214 : (lay 214).2 = 8 := by decide +kernel
theorem s_215 : pS 11 215 := by unfold pS; decide +kernel
theorem n_215 : (lay 215).2 = 8 := by decide +kernel
theorem s_216 : pS 11 216 := by unfold pS; decide +kernel
theorem n_216 : (lay 216).2 = 8 := by decide +kernel
theorem s_217 : pS 11 217 := by unfold pS; decide +kernel
theorem n_217 : (lay 217).2 = 8 := by decide +kernel
theorem s_218 : pS 11 218 := by unfold pS; decide +kernel
theorem n_218 : (lay 218).2 = 40 := by decide +kernel
theorem s_219 : pS 11 219 := by unfold pS; decide +kernel
theorem n_219 : (lay 219).2 = 40 := by decide +kernel
theorem s_220 : pS 11 220 := by unfold pS; decide +kernel
theorem n_220 : (lay 220).2 = 40 := by decide +kernel
theorem s_221 : pS 4 221 := by unfold pS; decide +kernel
theorem s_222 : pS 11 222 := by unfold pS; decide +kernel
theorem n_222 : (lay 222).2 = 8 := by decide +kernel
theorem s_223 : pS 11 223 := by unfold pS; decide +kernel
theorem n_223 : (lay 223).2 = 8 := by decide +kernel
theorem s_224 : pS 11 224 := by unfold pS; decide +kernel
theorem n_224 : (lay 224).2 = 8 := by decide +kernel
theorem s_225 : pS 11 225 := by unfold pS; decide +kernel
theorem n_225 : (lay 225).2 = 8 := by decide +kernel
theorem s_226 : pS 11 226 := by unfold pS; decide +kernel
theorem n_226 : (lay 226).2 = 8 := by decide +kernel
theorem s_227 : pS 11 227 := by unfold pS; decide +kernel
theorem n_227 : (lay 227).2 = 40 := by decide +kernel
theorem s_228 : pS 11 228 := by unfold pS; decide +kernel
theorem n_228 : (lay 228).2 = 40 := by decide +kernel
theorem s_229 : pS 11 229 := by unfold pS; decide +kernel
theorem n_229 : (lay 229).2 = 40 := by decide +kernel
theorem s_230 : pS 4 230 := by unfold pS; decide +kernel
theorem s_231 : pS 11 231 := by unfold pS; decide +kernel
theorem n_231 : (lay 231).2 = 8 := by decide +kernel
theorem s_232 : pS 11 232 := by unfold pS; decide +kernel
theorem n_232 : (lay 232).2 = 8 := by decide +kernel
theorem s_233 : pS 11 233 := by unfold pS; decide +kernel
theorem n_233 : (lay 233).2 = 8 := by decide +kernel
theorem s_234 : pS 11 234 := by unfold pS; decide +kernel
theorem n_234 : (lay 234).2 = 8 := by decide +kernel
theorem s_235 : pS 11 235 := by unfold pS; decide +kernel
theorem n_235 : (lay 235).2 = 8 := by decide +kernel
theorem s_236 : pS 11 236 := by unfold pS; decide +kernel
theorem n_236 : (lay 236).2 = 40 := by decide +kernel
theorem s_237 : pS 11 237 := by unfold pS; decide +kernel
theorem n_237 : (lay 237).2 = 40 := by decide +kernel
theorem s_238 : pS 11 238 := by unfold pS; decide +kernel
theorem n_238 : (lay 238).2 = 40 := by decide +kernel
theorem s_239 : pS 4 239 := by unfold pS; decide +kernel
theorem s_240 : pS 11 240 := by unfold pS; decide +kernel
theorem n_240 : (lay 240).2 = 8 := by decide +kernel
theorem s_241 : pS 11 241 := by unfold pS; decide +kernel
theorem n_241 : (lay 241).2 = 8 := by decide +kernel
theorem s_242 : pS 11 242 := by unfold pS; decide +kernel
theorem n_242 : (lay 242).2 = 8 := by decide +kernel
theorem s_243 : pS 11 243 := by unfold pS; decide +kernel
theorem n_243 : (lay 243).2 = 8 := by decide +kernel
theorem s_244 : pS 11 244 := by unfold pS; decide +kernel
theorem n_244 : (lay 244).2 = 8 := by decide +kernel
theorem s_245 : pS 11 245 := by unfold pS; decide +kernel
theorem n_245 : (lay 245).2 = 40 := by decide +kernel
theorem s_246 : pS 11 246 := by unfold pS; decide +kernel
theorem n_246 : (lay 246).2 = 40 := by decide +kernel
theorem s_247 : pS 11 247 := by unfold pS; decide +kernel
theorem n_247 : (lay 247).2 = 40 := by decide +kernel
theorem s_248 : pS 4 248 := by unfold pS; decide +kernel
theorem s_249 : pS 11 249 := by unfold pS; decide +kernel
theorem n_249 : (lay 249).2 = 8 := by decide +kernel
theorem s_250 : pS 11 250 := by unfold pS; decide +kernel
theorem n_250 : (lay 250).2 = 8 := by decide +kernel
theorem s_251 : pS 11 251 := by unfold pS; decide +kernel
theorem n_251 : (lay 251).2 = 8 := by decide +kernel
theorem s_252 : pS 11 252 := by unfold pS; decide +kernel
theorem n_252 : (lay 252).2 = 8 := by decide +kernel
theorem s_253 : pS 11 253 := by unfold pS; decide +kernel
theorem n_253 : (lay 253).2 = 8 := by decide +kernel
theorem s_254 : pS 11 254 := by unfold pS; decide +kernel
theorem n_254 : (lay 254).2 = 40 := by decide +kernel
theorem s_255 : pS 11 255 := by unfold pS; decide +kernel
theorem n_255 : (lay 255).2 = 40 := by decide +kernel
theorem s_256 : pS 11 256 := by unfold pS; decide +kernel
theorem n_256 : (lay 256).2 = 40 := by decide +kernel
theorem s_257 : pS 15 257 := by unfold pS; decide +kernel
theorem n_257 : (lay 257).2 = 16 := by decide +kernel
theorem s_258 : pS 11 258 := by unfold pS; decide +kernel
theorem n_258 : (lay 258).2 = 3 := by decide +kernel
theorem s_259 : pS 11 259 := by unfold pS; decide +kernel
theorem n_259 : (lay 259).2 = 3 := by decide +kernel
theorem s_260 : pS 11 260 := by unfold pS; decide +kernel
theorem n_260 : (lay 260).2 = 3 := by decide +kernel
theorem s_261 : pS 11 261 := by unfold pS; decide +kernel
theorem n_261 : (lay 261).2 = 3 := by decide +kernel
theorem s_262 : pS 11 262 := by unfold pS; decide +kernel
theorem n_262 : (lay 262).2 = 3 := by decide +kernel
theorem s_263 : pS 11 263 := by unfold pS; decide +kernel
theorem n_263 : (lay 263).2 = 3 := by decide +kernel
theorem s_264 : pS 11 264 := by unfold pS; decide +kernel
theorem n_264 : (lay 264).2 = 3 := by decide +kernel
theorem s_265 : pS 11 265 := by unfold pS; decide +kernel
theorem n_265 : (lay 265).2 = 3 := by decide +kernel
theorem s_266 : pS 11 266 := by unfold pS; decide +kernel
theorem n_266 : (lay 266).2 = 3 := by decide +kernel
theorem s_267 : pS 11 267 := by unfold pS; decide +kernel
theorem n_267 : (lay 267).2 = 3 := by decide +kernel
theorem s_268 : pS 11 268 := by unfold pS; decide +kernel
theorem n_268 : (lay 268).2 = 3 := by decide +kernel
theorem s_269 : pS 11 269 := by unfold pS; decide +kernel
theorem n_269 : (lay 269).2 = 3 := by decide +kernel
theorem s_270 : pS 11 270 := by unfold pS; decide +kernel
theorem n_270 : (lay 270).2 = 3 := by decide +kernel
theorem s_271 : pS 11 271 := by unfold pS; decide +kernel
theorem n_271 : (lay 271).2 = 3 := by decide +kernel
theorem s_272 : pS 11 272 := by unfold pS; decide +kernel
theorem n_272 : (lay 272).2 = 3 := by decide +kernel
theorem s_273 : pS 11 273 := by unfold pS; decide +kernel
theorem n_273 : (lay 273).2 = 3 := by decide +kernel
theorem s_274 : pS 11 274 := by unfold pS; decide +kernel
theorem n_274 : (lay 274).2 = 100 := by decide +kernel
theorem s_275 : pS 11 275 := by unfold pS; decide +kernel
theorem n_275 : (lay 275).2 = 69 := by decide +kernel
theorem s_276 : pS 11 276 := by unfold pS; decide +kernel
theorem n_276 : (lay 276).2 = 6 := by decide +kernel
theorem s_277 : pS 8 277 := by unfold pS; decide +kernel
theorem s_278 : pS 11 278 := by unfold pS; decide +kernel
theorem n_278 : (lay 278).2 = 1600 := by decide +kernel
theorem s_279 : pS 11 279 := by unfold pS; decide +kernel
theorem n_279 : (lay 279).2 = 6 := by decide +kernel
theorem s_280 : pS 10 280 := by unfold pS; decide +kernel
theorem n_280 : (lay 280).2 = 4 := by decide +kernel
theorem s_281 : pS 10 281 := by unfold pS; decide +kernel
theorem n_281 : (lay 281).2 = 4 := by decide +kernel
theorem s_282 : pS 10 282 := by unfold pS; decide +kernel
theorem n_282 : (lay 282).2 = 4 := by decide +kernel
theorem s_283 : pS 10 283 := by unfold pS; decide +kernel
theorem n_283 : (lay 283).2 = 5 := by decide +kernel
theorem s_284 : pS 10 284 := by unfold pS; decide +kernel
theorem n_284 : (lay 284).2 = 5 := by decide +kernel
theorem s_285 : pS 10 285 := by unfold pS; decide +kernel
theorem n_285 : (lay 285).2 = 5 := by decide +kernel
theorem s_286 : pS 10 286 := by unfold pS; decide +kernel
theorem n_286 : (lay 286).2 = 4 := by decide +kernel
theorem s_287 : pS 10 287 := by unfold pS; decide +kernel
theorem n_287 : (lay 287).2 = 5 := by decide +kernel
theorem s_288 : pS 10 288 := by unfold pS; decide +kernel
theorem n_288 : (lay 288).2 = 3 := by decide +kernel
theorem s_289 : pS 10 289 := by unfold pS; decide +kernel
theorem n_289 : (lay 289).2 = 5 := by decide +kernel
theorem s_290 : pS 10 290 := by unfold pS; decide +kernel
theorem n_290 : (lay 290).2 = 5 := by decide +kernel
theorem s_291 : pS 10 291 := by unfold pS; decide +kernel
theorem n_291 : (lay 291).2 = 5 := by decide +kernel
theorem s_292 : pS 10 292 := by unfold pS; decide +kernel
theorem n_292 : (lay 292).2 = 5 := by decide +kernel
theorem s_293 : pS 10 293 := by unfold pS; decide +kernel
theorem n_293 : (lay 293).2 = 4 := by decide +kernel
theorem s_294 : pS 10 294 := by unfold pS; decide +kernel
theorem n_294 : (lay 294).2 = 4 := by decide +kernel
theorem s_295 : pS 10 295 := by unfold pS; decide +kernel
theorem n_295 : (lay 295).2 = 3 := by decide +kernel
theorem s_296 : pS 10 296 := by unfold pS; decide +kernel
theorem n_296 : (lay 296).2 = 5 := by decide +kernel
theorem s_297 : pS 10 297 := by unfold pS; decide +kernel
theorem n_297 : (lay 297).2 = 6 := by decide +kernel
theorem s_298 : pS 10 298 := by unfold pS; decide +kernel
theorem n_298 : (lay 298).2 = 3 := by decide +kernel
theorem s_299 : pS 10 299 := by unfold pS; decide +kernel
theorem n_299 : (lay 299).2 = 6 := by decide +kernel
theorem s_300 : pS 10 300 := by unfold pS; decide +kernel
theorem n_300 : (lay 300).2 = 5 := by decide +kernel
theorem s_301 : pS 10 301 := by unfold pS; decide +kernel
theorem n_301 : (lay 301).2 = 2 := by decide +kernel
theorem s_302 : pS 10 302 := by unfold pS; decide +kernel
theorem n_302 : (lay 302).2 = 2 := by decide +kernel
theorem s_303 : pS 10 303 := by unfold pS; decide +kernel
theorem n_303 : (lay 303).2 = 3 := by decide +kernel
theorem s_304 : pS 10 304 := by unfold pS; decide +kernel
theorem n_304 : (lay 304).2 = 3 := by decide +kernel
theorem s_305 : pS 10 305 := by unfold pS; decide +kernel
theorem n_305 : (lay 305).2 = 3 := by decide +kernel
theorem s_306 : pS 10 306 := by unfold pS; decide +kernel
theorem n_306 : (lay 306).2 = 3 := by decide +kernel
theorem s_307 : pS 10 307 := by unfold pS; decide +kernel
theorem n_307 : (lay 307).2 = 3 := by decide +kernel
theorem s_308 : pS 11 308 := by unfold pS; decide +kernel
theorem n_308 : (lay 308).2 = 6 := by decide +kernel
theorem s_309 : pS 11 309 := by unfold pS; decide +kernel
theorem n_309 : (lay 309).2 = 6 := by decide +kernel
theorem s_310 : pS 12 310 := by unfold pS; decide +kernel
theorem n_310 : (lay 310).2 = 48 := by decide +kernel
theorem s_311 : pS 11 311 := by unfold pS; decide +kernel
theorem n_311 : (lay 311).2 = 24 := by decide +kernel
theorem s_312 : pS 11 312 := by unfold pS; decide +kernel
theorem n_312 : (lay 312).2 = 24 := by decide +kernel
theorem s_313 : pS 11 313 := by unfold pS; decide +kernel
theorem n_313 : (lay 313).2 = 10 := by decide +kernel
theorem s_314 : pS 11 314 := by unfold pS; decide +kernel
theorem n_314 : (lay 314).2 = 6 := by decide +kernel
theorem s_315 : pS 11 315 := by unfold pS; decide +kernel
theorem n_315 : (lay 315).2 = 6 := by decide +kernel
theorem s_316 : pS 11 316 := by unfold pS; decide +kernel
theorem n_316 : (lay 316).2 = 3200 := by decide +kernel
theorem s_317 : pS 11 317 := by unfold pS; decide +kernel
theorem n_317 : (lay 317).2 = 163 := by decide +kernel
theorem s_318 : pS 11 318 := by unfold pS; decide +kernel
theorem n_318 : (lay 318).2 = 42 := by decide +kernel
theorem s_319 : pS 12 319 := by unfold pS; decide +kernel
theorem n_319 : (lay 319).2 = 8 := by decide +kernel
theorem s_320 : pS 11 320 := by unfold pS; decide +kernel
theorem n_320 : (lay 320).2 = 5 := by decide +kernel
theorem s_321 : pS 11 321 := by unfold pS; decide +kernel
theorem n_321 : (lay 321).2 = 5 := by decide +kernel
theorem s_322 : pS 11 322 := by unfold pS; decide +kernel
theorem n_322 : (lay 322).2 = 48 := by decide +kernel
theorem s_323 : pS 13 323 := by unfold pS; decide +kernel
theorem n_323 : (lay 323).2 = 3100 := by decide +kernel
theorem s_324 : pS 13 324 := by unfold pS; decide +kernel
theorem n_324 : (lay 324).2 = 100 := by decide +kernel
theorem s_325 : pS 11 325 := by unfold pS; decide +kernel
theorem n_325 : (lay 325).2 = 3260 := by decide +kernel
theorem s_326 : pS 10 326 := by unfold pS; decide +kernel
theorem n_326 : (lay 326).2 = 5 := by decide +kernel
theorem s_327 : pS 10 327 := by unfold pS; decide +kernel
theorem n_327 : (lay 327).2 = 4 := by decide +kernel
theorem s_328 : pS 10 328 := by unfold pS; decide +kernel
theorem n_328 : (lay 328).2 = 5 := by decide +kernel
theorem s_329 : pS 10 329 := by unfold pS; decide +kernel
theorem n_329 : (lay 329).2 = 5 := by decide +kernel
theorem s_330 : pS 10 330 := by unfold pS; decide +kernel
theorem n_330 : (lay 330).2 = 4 := by decide +kernel
theorem s_331 : pS 10 331 := by unfold pS; decide +kernel
theorem n_331 : (lay 331).2 = 5 := by decide +kernel
theorem s_332 : pS 10 332 := by unfold pS; decide +kernel
theorem n_332 : (lay 332).2 = 3 := by decide +kernel
theorem s_333 : pS 10 333 := by unfold pS; decide +kernel
theorem n_333 : (lay 333).2 = 3 := by decide +kernel
theorem s_334 : pS 10 334 := by unfold pS; decide +kernel
theorem n_334 : (lay 334).2 = 2 := by decide +kernel
theorem s_335 : pS 10 335 := by unfold pS; decide +kernel
theorem n_335 : (lay 335).2 = 3 := by decide +kernel
theorem s_336 : pS 10 336 := by unfold pS; decide +kernel
theorem n_336 : (lay 336).2 = 3 := by decide +kernel
theorem s_337 : pS 10 337 := by unfold pS; decide +kernel
theorem n_337 : (lay 337).2 = 3 := by decide +kernel
theorem s_338 : pS 10 338 := by unfold pS; decide +kernel
theorem n_338 : (lay 338).2 = 5 := by decide +kernel
theorem s_339 : pS 10 339 := by unfold pS; decide +kernel
theorem n_339 : (lay 339).2 = 3 := by decide +kernel
theorem s_340 : pS 10 340 := by unfold pS; decide +kernel
theorem n_340 : (lay 340).2 = 5 := by decide +kernel
theorem s_341 : pS 10 341 := by unfold pS; decide +kernel
theorem n_341 : (lay 341).2 = 6 := by decide +kernel
theorem s_342 : pS 10 342 := by unfold pS; decide +kernel
theorem n_342 : (lay 342).2 = 3 := by decide +kernel
theorem s_343 : pS 10 343 := by unfold pS; decide +kernel
theorem n_343 : (lay 343).2 = 4 := by decide +kernel
theorem s_344 : pS 10 344 := by unfold pS; decide +kernel
theorem n_344 : (lay 344).2 = 5 := by decide +kernel
theorem s_345 : pS 10 345 := by unfold pS; decide +kernel
theorem n_345 : (lay 345).2 = 6 := by decide +kernel
theorem s_346 : pS 10 346 := by unfold pS; decide +kernel
theorem n_346 : (lay 346).2 = 5 := by decide +kernel
theorem s_347 : pS 10 347 := by unfold pS; decide +kernel
theorem n_347 : (lay 347).2 = 2 := by decide +kernel
theorem s_348 : pS 10 348 := by unfold pS; decide +kernel
theorem n_348 : (lay 348).2 = 5 := by decide +kernel
theorem s_349 : pS 11 349 := by unfold pS; decide +kernel
theorem n_349 : (lay 349).2 = 1700 := by decide +kernel
theorem s_350 : pS 11 350 := by unfold pS; decide +kernel
theorem n_350 : (lay 350).2 = 1700 := by decide +kernel
theorem s_351 : pS 12 351 := by unfold pS; decide +kernel
theorem n_351 : (lay 351).2 = 1700 := by decide +kernel
theorem s_352 : pS 11 352 := by unfold pS; decide +kernel
theorem n_352 : (lay 352).2 = 69 := by decide +kernel
theorem oR_0_0 {M : pm} {a : Nat} (hM : pG M) (h : pS 0 a) : mR M a 0 = a + 1 := hM.2.1 0 a h 0 (by decide)
theorem oR_1_0 {M : pm} {a : Nat} (hM : pG M) (h : pS 1 a) : mR M a 0 = a + 1 := hM.2.1 1 a h 0 (by decide)
theorem oR_1_1 {M : pm} {a : Nat} (hM : pG M) (h : pS 1 a) : mR M a 1 = a + 2 := hM.2.1 1 a h 1 (by decide)
theorem oR_1_2 {M : pm} {a : Nat} (hM : pG M) (h : pS 1 a) : mR M a 2 = a + 3 := hM.2.1 1 a h 2 (by decide)
theorem oR_1_3 {M : pm} {a : Nat} (hM : pG M) (h : pS 1 a) : mR M a 3 = a + 4 := hM.2.1 1 a h 3 (by decide)
theorem oR_1_4 {M : pm} {a : Nat} (hM : pG M) (h : pS 1 a) : mR M a 4 = a + 5 := hM.2.1 1 a h 4 (by decide)
theorem oR_1_5 {M : pm} {a : Nat} (hM : pG M) (h : pS 1 a) : mR M a 5 = a + 6 := hM.2.1 1 a h 5 (by decide)
theorem oA_2_0 : ∀ a, a < 353 → (lay a).1 = 2 → a + 1 < 353 ∧ lay (a + 1) = (11, 1600) := by decide +kernel
theorem oS_2_0 {a : Nat} (h : pS 2 a) : pS 11 (a + 1) := ⟨by have := h.1; omega, (oA_2_0 a h.2.1 h.2.2).1, by rw [(oA_2_0 a h.2.1 h.2.2).2]⟩
theorem oN_2_0 {a : Nat} (h : pS 2 a) : (lay (a + 1)).2 = 1600 := by rw [(oA_2_0 a h.2.1 h.2.2).2]
theorem oR_2_0 {M : pm} {a : Nat} (hM : pG M) (h : pS 2 a) : mR M a 0 = a + 1 := hM.2.1 2 a h 0 (by decide)
theorem oA_2_2 : ∀ a, a < 353 → (lay a).1 = 2 → a + 2 < 353 ∧ lay (a + 2) = (11, 3) := by decide +kernel
theorem oS_2_2 {a : Nat} (h : pS 2 a) : pS 11 (a + 2) := ⟨by have := h.1; omega, (oA_2_2 a h.2.1 h.2.2).1, by rw [(oA_2_2 a h.2.1 h.2.2).2]⟩
theorem oN_2_2 {a : Nat} (h : pS 2 a) : (lay (a + 2)).2 = 3 := by rw [(oA_2_2 a h.2.1 h.2.2).2]
theorem oR_2_2 {M : pm} {a : Nat} (hM : pG M) (h : pS 2 a) : mR M a 2 = a + 2 := hM.2.1 2 a h 2 (by decide)
theorem oA_2_3 : ∀ a, a < 353 → (lay a).1 = 2 → a + 3 < 353 ∧ lay (a + 3) = (11, 3) := by decide +kernel
theorem oS_2_3 {a : Nat} (h : pS 2 a) : pS 11 (a + 3) := ⟨by have := h.1; omega, (oA_2_3 a h.2.1 h.2.2).1, by rw [(oA_2_3 a h.2.1 h.2.2).2]⟩
theorem oN_2_3 {a : Nat} (h : pS 2 a) : (lay (a + 3)).2 = 3 := by rw [(oA_2_3 a h.2.1 h.2.2).2]
theorem oR_2_3 {M : pm} {a : Nat} (hM : pG M) (h : pS 2 a) : mR M a 3 = a + 3 := hM.2.1 2 a h 3 (by decide)
theorem oA_2_4 : ∀ a, a < 353 → (lay a).1 = 2 → a + 4 < 353 ∧ lay (a + 4) = (13, 3) := by decide +kernel
theorem oS_2_4 {a : Nat} (h : pS 2 a) : pS 13 (a + 4) := ⟨by have := h.1; omega, (oA_2_4 a h.2.1 h.2.2).1, by rw [(oA_2_4 a h.2.1 h.2.2).2]⟩
theorem oN_2_4 {a : Nat} (h : pS 2 a) : (lay (a + 4)).2 = 3 := by rw [(oA_2_4 a h.2.1 h.2.2).2]
theorem oR_2_4 {M : pm} {a : Nat} (hM : pG M) (h : pS 2 a) : mR M a 4 = a + 4 := hM.2.1 2 a h 4 (by decide)
theorem oR_3_0 {M : pm} {a : Nat} (hM : pG M) (h : pS 3 a) : mR M a 0 = a + 1 := hM.2.1 3 a h 0 (by decide)
theorem oR_3_1 {M : pm} {a : Nat} (hM : pG M) (h : pS 3 a) : mR M a 1 = a + 4 := hM.2.1 3 a h 1 (by decide)
theorem oA_4_2 : ∀ a, a < 353 → (lay a).1 = 4 → a + 1 < 353 ∧ lay (a + 1) = (11, 8) := by decide +kernel
theorem oS_4_2 {a : Nat} (h : pS 4 a) : pS 11 (a + 1) := ⟨by have := h.1; omega, (oA_4_2 a h.2.1 h.2.2).1, by rw [(oA_4_2 a h.2.1 h.2.2).2]⟩
theorem oN_4_2 {a : Nat} (h : pS 4 a) : (lay (a + 1)).2 = 8 := by rw [(oA_4_2 a h.2.1 h.2.2).2]
theorem oR_4_2 {M : pm} {a : Nat} (hM : pG M) (h : pS 4 a) : mR M a 2 = a + 1 := hM.2.1 4 a h 2 (by decide)
theorem oA_4_3 : ∀ a, a < 353 → (lay a).1 = 4 → a + 2 < 353 ∧ lay (a + 2) = (11, 8) := by decide +kernel
theorem oS_4_3 {a : Nat} (h : pS 4 a) : pS 11 (a + 2) := ⟨by have := h.1; omega, (oA_4_3 a h.2.1 h.2.2).1, by rw [(oA_4_3 a h.2.1 h.2.2).2]⟩
theorem oN_4_3 {a : Nat} (h : pS 4 a) : (lay (a + 2)).2 = 8 := by rw [(oA_4_3 a h.2.1 h.2.2).2]
theorem oR_4_3 {M : pm} {a : Nat} (hM : pG M) (h : pS 4 a) : mR M a 3 = a + 2 := hM.2.1 4 a h 3 (by decide)
theorem oA_4_4 : ∀ a, a < 353 → (lay a).1 = 4 → a + 3 < 353 ∧ lay (a + 3) = (11, 8) := by decide +kernel
theorem oS_4_4 {a : Nat} (h : pS 4 a) : pS 11 (a + 3) := ⟨by have := h.1; omega, (oA_4_4 a h.2.1 h.2.2).1, by rw [(oA_4_4 a h.2.1 h.2.2).2]⟩
theorem oN_4_4 {a : Nat} (h : pS 4 a) : (lay (a + 3)).2 = 8 := by rw [(oA_4_4 a h.2.1 h.2.2).2]
theorem oR_4_4 {M : pm} {a : Nat} (hM : pG M) (h : pS 4 a) : mR M a 4 = a + 3 := hM.2.1 4 a h 4 (by decide)
theorem oA_4_5 : ∀ a, a < 353 → (lay a).1 = 4 → a + 4 < 353 ∧ lay (a + 4) = (11, 8) := by decide +kernel
theorem oS_4_5 {a : Nat} (h : pS 4 a) : pS 11 (a + 4) := ⟨by have := h.1; omega, (oA_4_5 a h.2.1 h.2.2).1, by rw [(oA_4_5 a h.2.1 h.2.2).2]⟩
theorem oN_4_5 {a : Nat} (h : pS 4 a) : (lay (a + 4)).2 = 8 := by rw [(oA_4_5 a h.2.1 h.2.2).2]
theorem oR_4_5 {M : pm} {a : Nat} (hM : pG M) (h : pS 4 a) : mR M a 5 = a + 4 := hM.2.1 4 a h 5 (by decide)
theorem oA_4_6 : ∀ a, a < 353 → (lay a).1 = 4 → a + 5 < 353 ∧ lay (a + 5) = (11, 8) := by decide +kernel
theorem oS_4_6 {a : Nat} (h : pS 4 a) : pS 11 (a + 5) := ⟨by have := h.1; omega, (oA_4_6 a h.2.1 h.2.2).1, by rw [(oA_4_6 a h.2.1 h.2.2).2]⟩
theorem oN_4_6 {a : Nat} (h : pS 4 a) : (lay (a + 5)).2 = 8 := by rw [(oA_4_6 a h.2.1 h.2.2).2]
theorem oR_4_6 {M : pm} {a : Nat} (hM : pG M) (h : pS 4 a) : mR M a 6 = a + 5 := hM.2.1 4 a h 6 (by decide)
theorem oA_4_8 : ∀ a, a < 353 → (lay a).1 = 4 → a + 6 < 353 ∧ lay (a + 6) = (11, 40) := by decide +kernel
theorem oS_4_8 {a : Nat} (h : pS 4 a) : pS 11 (a + 6) := ⟨by have := h.1; omega, (oA_4_8 a h.2.1 h.2.2).1, by rw [(oA_4_8 a h.2.1 h.2.2).2]⟩
theorem oN_4_8 {a : Nat} (h : pS 4 a) : (lay (a + 6)).2 = 40 := by rw [(oA_4_8 a h.2.1 h.2.2).2]
theorem oR_4_8 {M : pm} {a : Nat} (hM : pG M) (h : pS 4 a) : mR M a 8 = a + 6 := hM.2.1 4 a h 8 (by decide)
theorem oA_4_9 : ∀ a, a < 353 → (lay a).1 = 4 → a + 7 < 353 ∧ lay (a + 7) = (11, 40) := by decide +kernel
theorem oS_4_9 {a : Nat} (h : pS 4 a) : pS 11 (a + 7) := ⟨by have := h.1; omega, (oA_4_9 a h.2.1 h.2.2).1, by rw [(oA_4_9 a h.2.1 h.2.2).2]⟩
theorem oN_4_9 {a : Nat} (h : pS 4 a) : (lay (a + 7)).2 = 40 := by rw [(oA_4_9 a h.2.1 h.2.2).2]
theorem oR_4_9 {M : pm} {a : Nat} (hM : pG M) (h : pS 4 a) : mR M a 9 = a + 7 := hM.2.1 4 a h 9 (by decide)
theorem oA_4_10 : ∀ a, a < 353 → (lay a).1 = 4 → a + 8 < 353 ∧ lay (a + 8) = (11, 40) := by decide +kernel
theorem oS_4_10 {a : Nat} (h : pS 4 a) : pS 11 (a + 8) := ⟨by have := h.1; omega, (oA_4_10 a h.2.1 h.2.2).1, by rw [(oA_4_10 a h.2.1 h.2.2).2]⟩
theorem oN_4_10 {a : Nat} (h : pS 4 a) : (lay (a + 8)).2 = 40 := by rw [(oA_4_10 a h.2.1 h.2.2).2]
theorem oR_4_10 {M : pm} {a : Nat} (hM : pG M) (h : pS 4 a) : mR M a 10 = a + 8 := hM.2.1 4 a h 10 (by decide)
theorem oA_5_5 : ∀ a, a < 353 → (lay a).1 = 5 → a + 1 < 353 ∧ lay (a + 1) = (11, 6) := by decide +kernel
theorem oS_5_5 {a : Nat} (h : pS 5 a) : pS 11 (a + 1) := ⟨by have := h.1; omega, (oA_5_5 a h.2.1 h.2.2).1, by rw [(oA_5_5 a h.2.1 h.2.2).2]⟩
theorem oN_5_5 {a : Nat} (h : pS 5 a) : (lay (a + 1)).2 = 6 := by rw [(oA_5_5 a h.2.1 h.2.2).2]
theorem oR_5_5 {M : pm} {a : Nat} (hM : pG M) (h : pS 5 a) : mR M a 5 = a + 1 := hM.2.1 5 a h 5 (by decide)
theorem oA_5_6 : ∀ a, a < 353 → (lay a).1 = 5 → a + 2 < 353 ∧ lay (a + 2) = (11, 6) := by decide +kernel
theorem oS_5_6 {a : Nat} (h : pS 5 a) : pS 11 (a + 2) := ⟨by have := h.1; omega, (oA_5_6 a h.2.1 h.2.2).1, by rw [(oA_5_6 a h.2.1 h.2.2).2]⟩
theorem oN_5_6 {a : Nat} (h : pS 5 a) : (lay (a + 2)).2 = 6 := by rw [(oA_5_6 a h.2.1 h.2.2).2]
theorem oR_5_6 {M : pm} {a : Nat} (hM : pG M) (h : pS 5 a) : mR M a 6 = a + 2 := hM.2.1 5 a h 6 (by decide)
theorem oA_5_7 : ∀ a, a < 353 → (lay a).1 = 5 → a + 3 < 353 ∧ lay (a + 3) = (11, 6) := by decide +kernel
theorem oS_5_7 {a : Nat} (h : pS 5 a) : pS 11 (a + 3) := ⟨by have := h.1; omega, (oA_5_7 a h.2.1 h.2.2).1, by rw [(oA_5_7 a h.2.1 h.2.2).2]⟩
theorem oN_5_7 {a : Nat} (h : pS 5 a) : (lay (a + 3)).2 = 6 := by rw [(oA_5_7 a h.2.1 h.2.2).2]
theorem oR_5_7 {M : pm} {a : Nat} (hM : pG M) (h : pS 5 a) : mR M a 7 = a + 3 := hM.2.1 5 a h 7 (by decide)
theorem oA_5_9 : ∀ a, a < 353 → (lay a).1 = 5 → a + 4 < 353 ∧ lay (a + 4) = (11, 8) := by decide +kernel
theorem oS_5_9 {a : Nat} (h : pS 5 a) : pS 11 (a + 4) := ⟨by have := h.1; omega, (oA_5_9 a h.2.1 h.2.2).1, by rw [(oA_5_9 a h.2.1 h.2.2).2]⟩
theorem oN_5_9 {a : Nat} (h : pS 5 a) : (lay (a + 4)).2 = 8 := by rw [(oA_5_9 a h.2.1 h.2.2).2]
theorem oR_5_9 {M : pm} {a : Nat} (hM : pG M) (h : pS 5 a) : mR M a 9 = a + 4 := hM.2.1 5 a h 9 (by decide)
theorem oA_5_10 : ∀ a, a < 353 → (lay a).1 = 5 → a + 5 < 353 ∧ lay (a + 5) = (11, 8) := by decide +kernel
theorem oS_5_10 {a : Nat} (h : pS 5 a) : pS 11 (a + 5) := ⟨by have := h.1; omega, (oA_5_10 a h.2.1 h.2.2).1, by rw [(oA_5_10 a h.2.1 h.2.2).2]⟩
theorem oN_5_10 {a : Nat} (h : pS 5 a) : (lay (a + 5)).2 = 8 := by rw [(oA_5_10 a h.2.1 h.2.2).2]
theorem oR_5_10 {M : pm} {a : Nat} (hM : pG M) (h : pS 5 a) : mR M a 10 = a + 5 := hM.2.1 5 a h 10 (by decide)
theorem oA_5_11 : ∀ a, a < 353 → (lay a).1 = 5 → a + 6 < 353 ∧ lay (a + 6) = (11, 8) := by decide +kernel
theorem oS_5_11 {a : Nat} (h : pS 5 a) : pS 11 (a + 6) := ⟨by have := h.1; omega, (oA_5_11 a h.2.1 h.2.2).1, by rw [(oA_5_11 a h.2.1 h.2.2).2]⟩
theorem oN_5_11 {a : Nat} (h : pS 5 a) : (lay (a + 6)).2 = 8 := by rw [(oA_5_11 a h.2.1 h.2.2).2]
theorem oR_5_11 {M : pm} {a : Nat} (hM : pG M) (h : pS 5 a) : mR M a 11 = a + 6 := hM.2.1 5 a h 11 (by decide)
theorem oA_5_12 : ∀ a, a < 353 → (lay a).1 = 5 → a + 7 < 353 ∧ lay (a + 7) = (11, 8) := by decide +kernel
theorem oS_5_12 {a : Nat} (h : pS 5 a) : pS 11 (a + 7) := ⟨by have := h.1; omega, (oA_5_12 a h.2.1 h.2.2).1, by rw [(oA_5_12 a h.2.1 h.2.2).2]⟩
theorem oN_5_12 {a : Nat} (h : pS 5 a) : (lay (a + 7)).2 = 8 := by rw [(oA_5_12 a h.2.1 h.2.2).2]
theorem oR_5_12 {M : pm} {a : Nat} (hM : pG M) (h : pS 5 a) : mR M a 12 = a + 7 := hM.2.1 5 a h 12 (by decide)
theorem oA_5_14 : ∀ a, a < 353 → (lay a).1 = 5 → a + 8 < 353 ∧ lay (a + 8) = (11, 5) := by decide +kernel
theorem oS_5_14 {a : Nat} (h : pS 5 a) : pS 11 (a + 8) := ⟨by have := h.1; omega, (oA_5_14 a h.2.1 h.2.2).1, by rw [(oA_5_14 a h.2.1 h.2.2).2]⟩
theorem oN_5_14 {a : Nat} (h : pS 5 a) : (lay (a + 8)).2 = 5 := by rw [(oA_5_14 a h.2.1 h.2.2).2]
theorem oR_5_14 {M : pm} {a : Nat} (hM : pG M) (h : pS 5 a) : mR M a 14 = a + 8 := hM.2.1 5 a h 14 (by decide)
theorem oA_5_15 : ∀ a, a < 353 → (lay a).1 = 5 → a + 9 < 353 ∧ lay (a + 9) = (11, 5) := by decide +kernel
theorem oS_5_15 {a : Nat} (h : pS 5 a) : pS 11 (a + 9) := ⟨by have := h.1; omega, (oA_5_15 a h.2.1 h.2.2).1, by rw [(oA_5_15 a h.2.1 h.2.2).2]⟩
theorem oN_5_15 {a : Nat} (h : pS 5 a) : (lay (a + 9)).2 = 5 := by rw [(oA_5_15 a h.2.1 h.2.2).2]
theorem oR_5_15 {M : pm} {a : Nat} (hM : pG M) (h : pS 5 a) : mR M a 15 = a + 9 := hM.2.1 5 a h 15 (by decide)
theorem oA_5_16 : ∀ a, a < 353 → (lay a).1 = 5 → a + 10 < 353 ∧ lay (a + 10) = (2, 5) := by decide +kernel
theorem oS_5_16 {a : Nat} (h : pS 5 a) : pS 2 (a + 10) := ⟨by have := h.1; omega, (oA_5_16 a h.2.1 h.2.2).1, by rw [(oA_5_16 a h.2.1 h.2.2).2]⟩
theorem oN_5_16 {a : Nat} (h : pS 5 a) : (lay (a + 10)).2 = 5 := by rw [(oA_5_16 a h.2.1 h.2.2).2]
theorem oR_5_16 {M : pm} {a : Nat} (hM : pG M) (h : pS 5 a) : mR M a 16 = a + 10 := hM.2.1 5 a h 16 (by decide)
theorem oR_6_0 {M : pm} {a : Nat} (hM : pG M) (h : pS 6 a) : mR M a 0 = a + 1 := hM.2.1 6 a h 0 (by decide)
theorem oR_7_0 {M : pm} {a : Nat} (hM : pG M) (h : pS 7 a) : mR M a 0 = a + 1 := hM.2.1 7 a h 0 (by decide)
theorem oR_7_2 {M : pm} {a : Nat} (hM : pG M) (h : pS 7 a) : mR M a 2 = a + 2 := hM.2.1 7 a h 2 (by decide)
theorem oR_7_8 {M : pm} {a : Nat} (hM : pG M) (h : pS 7 a) : mR M a 8 = a + 41 := hM.2.1 7 a h 8 (by decide)
theorem oR_7_9 {M : pm} {a : Nat} (hM : pG M) (h : pS 7 a) : mR M a 9 = a + 54 := hM.2.1 7 a h 9 (by decide)
theorem oR_7_10 {M : pm} {a : Nat} (hM : pG M) (h : pS 7 a) : mR M a 10 = a + 63 := hM.2.1 7 a h 10 (by decide)
theorem oR_7_11 {M : pm} {a : Nat} (hM : pG M) (h : pS 7 a) : mR M a 11 = a + 72 := hM.2.1 7 a h 11 (by decide)
theorem oR_7_12 {M : pm} {a : Nat} (hM : pG M) (h : pS 7 a) : mR M a 12 = a + 254 := hM.2.1 7 a h 12 (by decide)
theorem oR_7_14 {M : pm} {a : Nat} (hM : pG M) (h : pS 7 a) : mR M a 14 = a + 271 := hM.2.1 7 a h 14 (by decide)
theorem oR_7_15 {M : pm} {a : Nat} (hM : pG M) (h : pS 7 a) : mR M a 15 = a + 272 := hM.2.1 7 a h 15 (by decide)
theorem oR_7_17 {M : pm} {a : Nat} (hM : pG M) (h : pS 7 a) : mR M a 17 = a + 273 := hM.2.1 7 a h 17 (by decide)
theorem oR_8_0 {M : pm} {a : Nat} (hM : pG M) (h : pS 8 a) : mR M a 0 = a + 1 := hM.2.1 8 a h 0 (by decide)
theorem oR_8_9 {M : pm} {a : Nat} (hM : pG M) (h : pS 8 a) : mR M a 9 = a + 2 := hM.2.1 8 a h 9 (by decide)
theorem oR_8_10 {M : pm} {a : Nat} (hM : pG M) (h : pS 8 a) : mR M a 10 = a + 3 := hM.2.1 8 a h 10 (by decide)
theorem oR_8_11 {M : pm} {a : Nat} (hM : pG M) (h : pS 8 a) : mR M a 11 = a + 4 := hM.2.1 8 a h 11 (by decide)
theorem oR_8_12 {M : pm} {a : Nat} (hM : pG M) (h : pS 8 a) : mR M a 12 = a + 5 := hM.2.1 8 a h 12 (by decide)
theorem oR_8_13 {M : pm} {a : Nat} (hM : pG M) (h : pS 8 a) : mR M a 13 = a + 6 := hM.2.1 8 a h 13 (by decide)
theorem oR_8_14 {M : pm} {a : Nat} (hM : pG M) (h : pS 8 a) : mR M a 14 = a + 7 := hM.2.1 8 a h 14 (by decide)
theorem oR_8_15 {M : pm} {a : Nat} (hM : pG M) (h : pS 8 a) : mR M a 15 = a + 8 := hM.2.1 8 a h 15 (by decide)
theorem oR_8_16 {M : pm} {a : Nat} (hM : pG M) (h : pS 8 a) : mR M a 16 = a + 9 := hM.2.1 8 a h 16 (by decide)
theorem oR_8_17 {M : pm} {a : Nat} (hM : pG M) (h : pS 8 a) : mR M a 17 = a + 10 := hM.2.1 8 a h 17 (by decide)
theorem oR_8_18 {M : pm} {a : Nat} (hM : pG M) (h : pS 8 a) : mR M a 18 = a + 11 := hM.2.1 8 a h 18 (by decide)
theorem oR_8_19 {M : pm} {a : Nat} (hM : pG M) (h : pS 8 a) : mR M a 19 = a + 12 := hM.2.1 8 a h 19 (by decide)
theorem oR_8_20 {M : pm} {a : Nat} (hM : pG M) (h : pS 8 a) : mR M a 20 = a + 13 := hM.2.1 8 a h 20 (by decide)
theorem oR_8_21 {M : pm} {a : Nat} (hM : pG M) (h : pS 8 a) : mR M a 21 = a + 14 := hM.2.1 8 a h 21 (by decide)
theorem oR_8_22 {M : pm} {a : Nat} (hM : pG M) (h : pS 8 a) : mR M a 22 = a + 15 := hM.2.1 8 a h 22 (by decide)
theorem oR_8_23 {M : pm} {a : Nat} (hM : pG M) (h : pS 8 a) : mR M a 23 = a + 16 := hM.2.1 8 a h 23 (by decide)
theorem oR_8_24 {M : pm} {a : Nat} (hM : pG M) (h : pS 8 a) : mR M a 24 = a + 17 := hM.2.1 8 a h 24 (by decide)
theorem oR_8_25 {M : pm} {a : Nat} (hM : pG M) (h : pS 8 a) : mR M a 25 = a + 18 := hM.2.1 8 a h 25 (by decide)
theorem oR_8_26 {M : pm} {a : Nat} (hM : pG M) (h : pS 8 a) : mR M a 26 = a + 19 := hM.2.1 8 a h 26 (by decide)
theorem oR_8_27 {M : pm} {a : Nat} (hM : pG M) (h : pS 8 a) : mR M a 27 = a + 20 := hM.2.1 8 a h 27 (by decide)
theorem oR_8_28 {M : pm} {a : Nat} (hM : pG M) (h : pS 8 a) : mR M a 28 = a + 21 := hM.2.1 8 a h 28 (by decide)
theorem oR_8_29 {M : pm} {a : Nat} (hM : pG M) (h : pS 8 a) : mR M a 29 = a + 22 := hM.2.1 8 a h 29 (by decide)
theorem oR_8_30 {M : pm} {a : Nat} (hM : pG M) (h : pS 8 a) : mR M a 30 = a + 23 := hM.2.1 8 a h 30 (by decide)
theorem oR_8_31 {M : pm} {a : Nat} (hM : pG M) (h : pS 8 a) : mR M a 31 = a + 24 := hM.2.1 8 a h 31 (by decide)
theorem oR_8_32 {M : pm} {a : Nat} (hM : pG M) (h : pS 8 a) : mR M a 32 = a + 25 := hM.2.1 8 a h 32 (by decide)
theorem oR_8_33 {M : pm} {a : Nat} (hM : pG M) (h : pS 8 a) : mR M a 33 = a + 26 := hM.2.1 8 a h 33 (by decide)
theorem oR_8_34 {M : pm} {a : Nat} (hM : pG M) (h : pS 8 a) : mR M a 34 = a + 27 := hM.2.1 8 a h 34 (by decide)
theorem oR_8_35 {M : pm} {a : Nat} (hM : pG M) (h : pS 8 a) : mR M a 35 = a + 28 := hM.2.1 8 a h 35 (by decide)
theorem oR_8_36 {M : pm} {a : Nat} (hM : pG M) (h : pS 8 a) : mR M a 36 = a + 29 := hM.2.1 8 a h 36 (by decide)
theorem oR_8_37 {M : pm} {a : Nat} (hM : pG M) (h : pS 8 a) : mR M a 37 = a + 30 := hM.2.1 8 a h 37 (by decide)
theorem oR_8_39 {M : pm} {a : Nat} (hM : pG M) (h : pS 8 a) : mR M a 39 = a + 31 := hM.2.1 8 a h 39 (by decide)
theorem oR_8_40 {M : pm} {a : Nat} (hM : pG M) (h : pS 8 a) : mR M a 40 = a + 32 := hM.2.1 8 a h 40 (by decide)
theorem oR_8_41 {M : pm} {a : Nat} (hM : pG M) (h : pS 8 a) : mR M a 41 = a + 33 := hM.2.1 8 a h 41 (by decide)
theorem oR_8_42 {M : pm} {a : Nat} (hM : pG M) (h : pS 8 a) : mR M a 42 = a + 34 := hM.2.1 8 a h 42 (by decide)
theorem oR_8_43 {M : pm} {a : Nat} (hM : pG M) (h : pS 8 a) : mR M a 43 = a + 35 := hM.2.1 8 a h 43 (by decide)
theorem oR_8_44 {M : pm} {a : Nat} (hM : pG M) (h : pS 8 a) : mR M a 44 = a + 36 := hM.2.1 8 a h 44 (by decide)
theorem oR_8_45 {M : pm} {a : Nat} (hM : pG M) (h : pS 8 a) : mR M a 45 = a + 37 := hM.2.1 8 a h 45 (by decide)
theorem oR_8_46 {M : pm} {a : Nat} (hM : pG M) (h : pS 8 a) : mR M a 46 = a + 38 := hM.2.1 8 a h 46 (by decide)
theorem oR_8_47 {M : pm} {a : Nat} (hM : pG M) (h : pS 8 a) : mR M a 47 = a + 39 := hM.2.1 8 a h 47 (by decide)
theorem oR_8_52 {M : pm} {a : Nat} (hM : pG M) (h : pS 8 a) : mR M a 52 = a + 40 := hM.2.1 8 a h 52 (by decide)
theorem oR_8_53 {M : pm} {a : Nat} (hM : pG M) (h : pS 8 a) : mR M a 53 = a + 41 := hM.2.1 8 a h 53 (by decide)
theorem oR_8_55 {M : pm} {a : Nat} (hM : pG M) (h : pS 8 a) : mR M a 55 = a + 42 := hM.2.1 8 a h 55 (by decide)
theorem oR_8_60 {M : pm} {a : Nat} (hM : pG M) (h : pS 8 a) : mR M a 60 = a + 43 := hM.2.1 8 a h 60 (by decide)
theorem oR_8_61 {M : pm} {a : Nat} (hM : pG M) (h : pS 8 a) : mR M a 61 = a + 44 := hM.2.1 8 a h 61 (by decide)
theorem oR_8_64 {M : pm} {a : Nat} (hM : pG M) (h : pS 8 a) : mR M a 64 = a + 45 := hM.2.1 8 a h 64 (by decide)
theorem oR_8_65 {M : pm} {a : Nat} (hM : pG M) (h : pS 8 a) : mR M a 65 = a + 46 := hM.2.1 8 a h 65 (by decide)
theorem oR_8_66 {M : pm} {a : Nat} (hM : pG M) (h : pS 8 a) : mR M a 66 = a + 47 := hM.2.1 8 a h 66 (by decide)
theorem oR_8_68 {M : pm} {a : Nat} (hM : pG M) (h : pS 8 a) : mR M a 68 = a + 48 := hM.2.1 8 a h 68 (by decide)
theorem oR_8_72 {M : pm} {a : Nat} (hM : pG M) (h : pS 8 a) : mR M a 72 = a + 49 := hM.2.1 8 a h 72 (by decide)
theorem oR_8_73 {M : pm} {a : Nat} (hM : pG M) (h : pS 8 a) : mR M a 73 = a + 50 := hM.2.1 8 a h 73 (by decide)
theorem oR_8_74 {M : pm} {a : Nat} (hM : pG M) (h : pS 8 a) : mR M a 74 = a + 51 := hM.2.1 8 a h 74 (by decide)
theorem oR_8_75 {M : pm} {a : Nat} (hM : pG M) (h : pS 8 a) : mR M a 75 = a + 52 := hM.2.1 8 a h 75 (by decide)
theorem oR_8_76 {M : pm} {a : Nat} (hM : pG M) (h : pS 8 a) : mR M a 76 = a + 53 := hM.2.1 8 a h 76 (by decide)
theorem oR_8_77 {M : pm} {a : Nat} (hM : pG M) (h : pS 8 a) : mR M a 77 = a + 54 := hM.2.1 8 a h 77 (by decide)
theorem oR_8_78 {M : pm} {a : Nat} (hM : pG M) (h : pS 8 a) : mR M a 78 = a + 55 := hM.2.1 8 a h 78 (by decide)
theorem oR_8_79 {M : pm} {a : Nat} (hM : pG M) (h : pS 8 a) : mR M a 79 = a + 56 := hM.2.1 8 a h 79 (by decide)
theorem oR_8_80 {M : pm} {a : Nat} (hM : pG M) (h : pS 8 a) : mR M a 80 = a + 57 := hM.2.1 8 a h 80 (by decide)
theorem oR_8_81 {M : pm} {a : Nat} (hM : pG M) (h : pS 8 a) : mR M a 81 = a + 58 := hM.2.1 8 a h 81 (by decide)
theorem oR_8_82 {M : pm} {a : Nat} (hM : pG M) (h : pS 8 a) : mR M a 82 = a + 59 := hM.2.1 8 a h 82 (by decide)
theorem oR_8_83 {M : pm} {a : Nat} (hM : pG M) (h : pS 8 a) : mR M a 83 = a + 60 := hM.2.1 8 a h 83 (by decide)
theorem oR_8_84 {M : pm} {a : Nat} (hM : pG M) (h : pS 8 a) : mR M a 84 = a + 61 := hM.2.1 8 a h 84 (by decide)
theorem oR_8_85 {M : pm} {a : Nat} (hM : pG M) (h : pS 8 a) : mR M a 85 = a + 62 := hM.2.1 8 a h 85 (by decide)
theorem oR_8_86 {M : pm} {a : Nat} (hM : pG M) (h : pS 8 a) : mR M a 86 = a + 63 := hM.2.1 8 a h 86 (by decide)
theorem oR_8_87 {M : pm} {a : Nat} (hM : pG M) (h : pS 8 a) : mR M a 87 = a + 64 := hM.2.1 8 a h 87 (by decide)
theorem oR_8_88 {M : pm} {a : Nat} (hM : pG M) (h : pS 8 a) : mR M a 88 = a + 65 := hM.2.1 8 a h 88 (by decide)
theorem oR_8_89 {M : pm} {a : Nat} (hM : pG M) (h : pS 8 a) : mR M a 89 = a + 66 := hM.2.1 8 a h 89 (by decide)
theorem oR_8_90 {M : pm} {a : Nat} (hM : pG M) (h : pS 8 a) : mR M a 90 = a + 67 := hM.2.1 8 a h 90 (by decide)
theorem oR_8_91 {M : pm} {a : Nat} (hM : pG M) (h : pS 8 a) : mR M a 91 = a + 68 := hM.2.1 8 a h 91 (by decide)
theorem oR_8_92 {M : pm} {a : Nat} (hM : pG M) (h : pS 8 a) : mR M a 92 = a + 69 := hM.2.1 8 a h 92 (by decide)
theorem oR_8_93 {M : pm} {a : Nat} (hM : pG M) (h : pS 8 a) : mR M a 93 = a + 70 := hM.2.1 8 a h 93 (by decide)
theorem oR_8_94 {M : pm} {a : Nat} (hM : pG M) (h : pS 8 a) : mR M a 94 = a + 71 := hM.2.1 8 a h 94 (by decide)
theorem oR_8_95 {M : pm} {a : Nat} (hM : pG M) (h : pS 8 a) : mR M a 95 = a + 72 := hM.2.1 8 a h 95 (by decide)
theorem oR_8_97 {M : pm} {a : Nat} (hM : pG M) (h : pS 8 a) : mR M a 97 = a + 73 := hM.2.1 8 a h 97 (by decide)
theorem oR_8_101 {M : pm} {a : Nat} (hM : pG M) (h : pS 8 a) : mR M a 101 = a + 74 := hM.2.1 8 a h 101 (by decide)
theorem oR_8_105 {M : pm} {a : Nat} (hM : pG M) (h : pS 8 a) : mR M a 105 = a + 75 := hM.2.1 8 a h 105 (by decide)
theorem rA_50 : ∀ i, i < 6 → lay (51 + i) = (11, 256) := by decide +kernel
theorem rS_50 {i : Nat} (h : i < 6) : pS 11 (51 + i) := ⟨by omega, by omega, by rw [rA_50 i h]⟩
theorem rN_50 {i : Nat} (h : i < 6) : (lay (51 + i)).2 = 256 := by rw [rA_50 i h]
theorem rR_50 {M : pm} {i : Nat} (hM : pG M) (h : i < 6) : mR M 50 i = 51 + i := hM.2.2.1 50 s_50 i (by rw [n_50]; exact h)
theorem rA_257 : ∀ i, i < 16 → lay (258 + i) = (11, 3) := by decide +kernel
theorem rS_257 {i : Nat} (h : i < 16) : pS 11 (258 + i) := ⟨by omega, by omega, by rw [rA_257 i h]⟩
theorem rN_257 {i : Nat} (h : i < 16) : (lay (258 + i)).2 = 3 := by rw [rA_257 i h]
theorem rR_257 {M : pm} {i : Nat} (hM : pG M) (h : i < 16) : mR M 257 i = 258 + i := hM.2.2.1 257 s_257 i (by rw [n_257]; exact h)
theorem fx_0_0 : 0 < (pT 0).2.2 ∧ fk (pty 0 0) = 2 := by decide +kernel
theorem fx_0_1 : 1 < (pT 0).2.2 ∧ fk (pty 0 1) = 0 := by decide +kernel
theorem fw_0_1 {m : pmt} : pWr m 0 1 := Or.inl rfl
theorem fx_1_0 : 0 < (pT 1).2.2 ∧ fk (pty 1 0) = 2 := by decide +kernel
theorem fx_1_1 : 1 < (pT 1).2.2 ∧ fk (pty 1 1) = 2 := by decide +kernel
theorem fx_1_2 : 2 < (pT 1).2.2 ∧ fk (pty 1 2) = 2 := by decide +kernel
theorem fx_1_3 : 3 < (pT 1).2.2 ∧ fk (pty 1 3) = 2 := by decide +kernel
theorem fx_1_4 : 4 < (pT 1).2.2 ∧ fk (pty 1 4) = 2 := by decide +kernel
theorem fx_1_5 : 5 < (pT 1).2.2 ∧ fk (pty 1 5) = 2 := by decide +kernel
theorem fx_2_0 : 0 < (pT 2).2.2 ∧ fk (pty 2 0) = 2 := by decide +kernel
theorem fx_2_1 : 1 < (pT 2).2.2 ∧ fk (pty 2 1) = 0 := by decide +kernel
theorem fw_2_1 {m : pmt} : pWr m 2 1 := Or.inl rfl
theorem fx_2_2 : 2 < (pT 2).2.2 ∧ fk (pty 2 2) = 2 := by decide +kernel
theorem fx_2_3 : 3 < (pT 2).2.2 ∧ fk (pty 2 3) = 2 := by decide +kernel
theorem fx_2_4 : 4 < (pT 2).2.2 ∧ fk (pty 2 4) = 2 := by decide +kernel
theorem fx_3_0 : 0 < (pT 3).2.2 ∧ fk (pty 3 0) = 2 := by decide +kernel
theorem fx_3_1 : 1 < (pT 3).2.2 ∧ fk (pty 3 1) = 2 := by decide +kernel
theorem fx_3_2 : 2 < (pT 3).2.2 ∧ fk (pty 3 2) = 2 := by decide +kernel
theorem fw_3_2 {m : pmt} : pWr m 3 2 := Or.inl rfl
theorem fx_3_3 : 3 < (pT 3).2.2 ∧ fk (pty 3 3) = 0 := by decide +kernel
theorem fw_3_3 {m : pmt} : pWr m 3 3 := Or.inl rfl
theorem fx_3_4 : 4 < (pT 3).2.2 ∧ fk (pty 3 4) = 0 := by decide +kernel
theorem fw_3_4 {m : pmt} : pWr m 3 4 := Or.inl rfl
theorem fx_3_5 : 5 < (pT 3).2.2 ∧ fk (pty 3 5) = 0 := by decide +kernel
theorem fw_3_5 {m : pmt} : pWr m 3 5 := Or.inl rfl
theorem fx_4_0 : 0 < (pT 4).2.2 ∧ fk (pty 4 0) = 0 := by decide +kernel
theorem fw_4_0 {m : pmt} : pWr m 4 0 := Or.inl rfl
theorem fx_4_1 : 1 < (pT 4).2.2 ∧ fk (pty 4 1) = 0 := by decide +kernel
theorem fw_4_1 {m : pmt} : pWr m 4 1 := Or.inl rfl
theorem fx_4_2 : 2 < (pT 4).2.2 ∧ fk (pty 4 2) = 2 := by decide +kernel
theorem fx_4_3 : 3 < (pT 4).2.2 ∧ fk (pty 4 3) = 2 := by decide +kernel
theorem fx_4_4 : 4 < (pT 4).2.2 ∧ fk (pty 4 4) = 2 := by decide +kernel
theorem fx_4_5 : 5 < (pT 4).2.2 ∧ fk (pty 4 5) = 2 := by decide +kernel
theorem fx_4_6 : 6 < (pT 4).2.2 ∧ fk (pty 4 6) = 2 := by decide +kernel
theorem fx_4_7 : 7 < (pT 4).2.2 ∧ fk (pty 4 7) = 0 := by decide +kernel
theorem fw_4_7 {m : pmt} : pWr m 4 7 := Or.inl rfl
theorem fx_4_8 : 8 < (pT 4).2.2 ∧ fk (pty 4 8) = 2 := by decide +kernel
theorem fx_4_9 : 9 < (pT 4).2.2 ∧ fk (pty 4 9) = 2 := by decide +kernel
theorem fx_4_10 : 10 < (pT 4).2.2 ∧ fk (pty 4 10) = 2 := by decide +kernel
theorem fx_5_0 : 0 < (pT 5).2.2 ∧ fk (pty 5 0) = 0 := by decide +kernel
theorem fw_5_0 {m : pmt} : pWr m 5 0 := Or.inl rfl
theorem fx_5_1 : 1 < (pT 5).2.2 ∧ fk (pty 5 1) = 0 := by decide +kernel
theorem fw_5_1 {m : pmt} : pWr m 5 1 := Or.inl rfl
theorem fx_5_2 : 2 < (pT 5).2.2 ∧ fk (pty 5 2) = 0 := by decide +kernel
theorem fw_5_2 {m : pmt} : pWr m 5 2 := Or.inl rfl
theorem fx_5_3 : 3 < (pT 5).2.2 ∧ fk (pty 5 3) = 0 := by decide +kernel
theorem fw_5_3 {m : pmt} : pWr m 5 3 := Or.inl rfl
theorem fx_5_4 : 4 < (pT 5).2.2 ∧ fk (pty 5 4) = 0 := by decide +kernel
theorem fw_5_4 {m : pmt} : pWr m 5 4 := Or.inl rfl
theorem fx_5_5 : 5 < (pT 5).2.2 ∧ fk (pty 5 5) = 2 := by decide +kernel
theorem fx_5_6 : 6 < (pT 5).2.2 ∧ fk (pty 5 6) = 2 := by decide +kernel
theorem fx_5_7 : 7 < (pT 5).2.2 ∧ fk (pty 5 7) = 2 := by decide +kernel
theorem fx_5_8 : 8 < (pT 5).2.2 ∧ fk (pty 5 8) = 0 := by decide +kernel
theorem fw_5_8 {m : pmt} : pWr m 5 8 := Or.inl rfl
theorem fx_5_9 : 9 < (pT 5).2.2 ∧ fk (pty 5 9) = 2 := by decide +kernel
theorem fx_5_10 : 10 < (pT 5).2.2 ∧ fk (pty 5 10) = 2 := by decide +kernel
theorem fx_5_11 : 11 < (pT 5).2.2 ∧ fk (pty 5 11) = 2 := by decide +kernel
theorem fx_5_12 : 12 < (pT 5).2.2 ∧ fk (pty 5 12) = 2 := by decide +kernel
theorem fx_5_13 : 13 < (pT 5).2.2 ∧ fk (pty 5 13) = 0 := by decide +kernel
theorem fw_5_13 {m : pmt} : pWr m 5 13 := Or.inl rfl
theorem fx_5_14 : 14 < (pT 5).2.2 ∧ fk (pty 5 14) = 2 := by decide +kernel
theorem fx_5_15 : 15 < (pT 5).2.2 ∧ fk (pty 5 15) = 2 := by decide +kernel
theorem fx_5_16 : 16 < (pT 5).2.2 ∧ fk (pty 5 16) = 2 := by decide +kernel
theorem fx_6_0 : 0 < (pT 6).2.2 ∧ fk (pty 6 0) = 2 := by decide +kernel
theorem fx_6_1 : 1 < (pT 6).2.2 ∧ fk (pty 6 1) = 2 := by decide +kernel
theorem fw_6_1 {m : pmt} : pWr m 6 1 := Or.inl rfl
theorem fx_6_2 : 2 < (pT 6).2.2 ∧ fk (pty 6 2) = 0 := by decide +kernel
theorem fw_6_2 {m : pmt} : pWr m 6 2 := Or.inl rfl
theorem fx_6_3 : 3 < (pT 6).2.2 ∧ fk (pty 6 3) = 0 := by decide +kernel
theorem fw_6_3 {m : pmt} : pWr m 6 3 := Or.inl rfl
theorem fx_6_4 : 4 < (pT 6).2.2 ∧ fk (pty 6 4) = 0 := by decide +kernel
theorem fw_6_4 {m : pmt} : pWr m 6 4 := Or.inl rfl
theorem fx_6_5 : 5 < (pT 6).2.2 ∧ fk (pty 6 5) = 0 := by decide +kernel
theorem fw_6_5 {m : pmt} : pWr m 6 5 := Or.inl rfl
theorem fx_6_6 : 6 < (pT 6).2.2 ∧ fk (pty 6 6) = 0 := by decide +kernel
theorem fw_6_6 {m : pmt} : pWr m 6 6 := Or.inl rfl
theorem fx_6_7 : 7 < (pT 6).2.2 ∧ fk (pty 6 7) = 0 := by decide +kernel
theorem fw_6_7 {m : pmt} : pWr m 6 7 := Or.inl rfl
theorem fx_6_8 : 8 < (pT 6).2.2 ∧ fk (pty 6 8) = 0 := by decide +kernel
theorem fw_6_8 {m : pmt} : pWr m 6 8 := Or.inl rfl
theorem fx_7_0 : 0 < (pT 7).2.2 ∧ fk (pty 7 0) = 2 := by decide +kernel
theorem fx_7_1 : 1 < (pT 7).2.2 ∧ fk (pty 7 1) = 0 := by decide +kernel
theorem fw_7_1 {m : pmt} : pWr m 7 1 := Or.inl rfl
theorem fx_7_2 : 2 < (pT 7).2.2 ∧ fk (pty 7 2) = 2 := by decide +kernel
theorem fx_7_3 : 3 < (pT 7).2.2 ∧ fk (pty 7 3) = 2 := by decide +kernel
theorem fw_7_3 {m : pmt} : pWr m 7 3 := Or.inl rfl
theorem fx_7_4 : 4 < (pT 7).2.2 ∧ fk (pty 7 4) = 2 := by decide +kernel
theorem fw_7_4 {m : pmt} : pWr m 7 4 := Or.inl rfl
theorem fx_7_5 : 5 < (pT 7).2.2 ∧ fk (pty 7 5) = 0 := by decide +kernel
theorem fw_7_5 {m : pmt} : pWr m 7 5 := Or.inl rfl
theorem fx_7_6 : 6 < (pT 7).2.2 ∧ fk (pty 7 6) = 0 := by decide +kernel
theorem fw_7_6 {m : pmt} : pWr m 7 6 := Or.inl rfl
theorem fx_7_7 : 7 < (pT 7).2.2 ∧ fk (pty 7 7) = 0 := by decide +kernel
theorem fw_7_7 {m : pmt} : pWr m 7 7 := Or.inl rfl
theorem fx_7_8 : 8 < (pT 7).2.2 ∧ fk (pty 7 8) = 2 := by decide +kernel
theorem fx_7_9 : 9 < (pT 7).2.2 ∧ fk (pty 7 9) = 2 := by decide +kernel
theorem fx_7_10 : 10 < (pT 7).2.2 ∧ fk (pty 7 10) = 2 := by decide +kernel
theorem fx_7_11 : 11 < (pT 7).2.2 ∧ fk (pty 7 11) = 2 := by decide +kernel
theorem fx_7_12 : 12 < (pT 7).2.2 ∧ fk (pty 7 12) = 2 := by decide +kernel
theorem fx_7_13 : 13 < (pT 7).2.2 ∧ fk (pty 7 13) = 0 := by decide +kernel
theorem fw_7_13 {m : pmt} : pWr m 7 13 := Or.inl rfl
theorem fx_7_14 : 14 < (pT 7).2.2 ∧ fk (pty 7 14) = 2 := by decide +kernel
theorem fx_7_15 : 15 < (pT 7).2.2 ∧ fk (pty 7 15) = 2 := by decide +kernel
theorem fx_7_16 : 16 < (pT 7).2.2 ∧ fk (pty 7 16) = 0 := by decide +kernel
theorem fw_7_16 {m : pmt} : pWr m 7 16 := Or.inl rfl
theorem fx_7_17 : 17 < (pT 7).2.2 ∧ fk (pty 7 17) = 2 := by decide +kernel
theorem fx_7_18 : 18 < (pT 7).2.2 ∧ fk (pty 7 18) = 0 := by decide +kernel
theorem fw_7_18 {m : pmt} : pWr m 7 18 := Or.inl rfl
theorem fx_8_0 : 0 < (pT 8).2.2 ∧ fk (pty 8 0) = 2 := by decide +kernel
theorem fx_8_1 : 1 < (pT 8).2.2 ∧ fk (pty 8 1) = 0 := by decide +kernel
theorem fw_8_1 {m : pmt} : pWr m 8 1 := Or.inl rfl
theorem fx_8_2 : 2 < (pT 8).2.2 ∧ fk (pty 8 2) = 0 := by decide +kernel
theorem fw_8_2 {m : pmt} : pWr m 8 2 := Or.inl rfl
theorem fx_8_3 : 3 < (pT 8).2.2 ∧ fk (pty 8 3) = 0 := by decide +kernel
theorem fw_8_3 {m : pmt} : pWr m 8 3 := Or.inl rfl
theorem fx_8_4 : 4 < (pT 8).2.2 ∧ fk (pty 8 4) = 0 := by decide +kernel
theorem fw_8_4 {m : pmt} : pWr m 8 4 := Or.inl rfl
theorem fx_8_5 : 5 < (pT 8).2.2 ∧ fk (pty 8 5) = 0 := by decide +kernel
theorem fw_8_5 {m : pmt} : pWr m 8 5 := Or.inl rfl
theorem fx_8_6 : 6 < (pT 8).2.2 ∧ fk (pty 8 6) = 0 := by decide +kernel
theorem fw_8_6 {m : pmt} : pWr m 8 6 := Or.inl rfl
theorem fx_8_7 : 7 < (pT 8).2.2 ∧ fk (pty 8 7) = 0 := by decide +kernel
theorem fw_8_7 {m : pmt} : pWr m 8 7 := Or.inl rfl
theorem fx_8_8 : 8 < (pT 8).2.2 ∧ fk (pty 8 8) = 0 := by decide +kernel
theorem fw_8_8 {m : pmt} : pWr m 8 8 := Or.inl rfl
theorem fx_8_9 : 9 < (pT 8).2.2 ∧ fk (pty 8 9) = 2 := by decide +kernel
theorem fx_8_10 : 10 < (pT 8).2.2 ∧ fk (pty 8 10) = 2 := by decide +kernel
theorem fx_8_11 : 11 < (pT 8).2.2 ∧ fk (pty 8 11) = 2 := by decide +kernel
theorem fx_8_12 : 12 < (pT 8).2.2 ∧ fk (pty 8 12) = 2 := by decide +kernel
theorem fx_8_13 : 13 < (pT 8).2.2 ∧ fk (pty 8 13) = 2 := by decide +kernel
theorem fx_8_14 : 14 < (pT 8).2.2 ∧ fk (pty 8 14) = 2 := by decide +kernel
theorem fx_8_15 : 15 < (pT 8).2.2 ∧ fk (pty 8 15) = 2 := by decide +kernel
theorem fx_8_16 : 16 < (pT 8).2.2 ∧ fk (pty 8 16) = 2 := by decide +kernel
theorem fx_8_17 : 17 < (pT 8).2.2 ∧ fk (pty 8 17) = 2 := by decide +kernel
theorem fx_8_18 : 18 < (pT 8).2.2 ∧ fk (pty 8 18) = 2 := by decide +kernel
theorem fx_8_19 : 19 < (pT 8).2.2 ∧ fk (pty 8 19) = 2 := by decide +kernel
theorem fx_8_20 : 20 < (pT 8).2.2 ∧ fk (pty 8 20) = 2 := by decide +kernel
theorem fx_8_21 : 21 < (pT 8).2.2 ∧ fk (pty 8 21) = 2 := by decide +kernel
theorem fx_8_22 : 22 < (pT 8).2.2 ∧ fk (pty 8 22) = 2 := by decide +kernel
theorem fx_8_23 : 23 < (pT 8).2.2 ∧ fk (pty 8 23) = 2 := by decide +kernel
theorem fx_8_24 : 24 < (pT 8).2.2 ∧ fk (pty 8 24) = 2 := by decide +kernel
theorem fx_8_25 : 25 < (pT 8).2.2 ∧ fk (pty 8 25) = 2 := by decide +kernel
theorem fx_8_26 : 26 < (pT 8).2.2 ∧ fk (pty 8 26) = 2 := by decide +kernel
theorem fx_8_27 : 27 < (pT 8).2.2 ∧ fk (pty 8 27) = 2 := by decide +kernel
theorem fx_8_28 : 28 < (pT 8).2.2 ∧ fk (pty 8 28) = 2 := by decide +kernel
theorem fx_8_29 : 29 < (pT 8).2.2 ∧ fk (pty 8 29) = 2 := by decide +kernel
theorem fx_8_30 : 30 < (pT 8).2.2 ∧ fk (pty 8 30) = 2 := by decide +kernel
theorem fx_8_31 : 31 < (pT 8).2.2 ∧ fk (pty 8 31) = 2 := by decide +kernel
theorem fx_8_32 : 32 < (pT 8).2.2 ∧ fk (pty 8 32) = 2 := by decide +kernel
theorem fx_8_33 : 33 < (pT 8).2.2 ∧ fk (pty 8 33) = 2 := by decide +kernel
theorem fx_8_34 : 34 < (pT 8).2.2 ∧ fk (pty 8 34) = 2 := by decide +kernel
theorem fx_8_35 : 35 < (pT 8).2.2 ∧ fk (pty 8 35) = 2 := by decide +kernel
theorem fx_8_36 : 36 < (pT 8).2.2 ∧ fk (pty 8 36) = 2 := by decide +kernel
theorem fx_8_37 : 37 < (pT 8).2.2 ∧ fk (pty 8 37) = 2 := by decide +kernel
theorem fx_8_38 : 38 < (pT 8).2.2 ∧ fk (pty 8 38) = 0 := by decide +kernel
theorem fw_8_38 {m : pmt} : pWr m 8 38 := Or.inl rfl
theorem fx_8_39 : 39 < (pT 8).2.2 ∧ fk (pty 8 39) = 2 := by decide +kernel
theorem fx_8_40 : 40 < (pT 8).2.2 ∧ fk (pty 8 40) = 2 := by decide +kernel
theorem fx_8_41 : 41 < (pT 8).2.2 ∧ fk (pty 8 41) = 2 := by decide +kernel
theorem fx_8_42 : 42 < (pT 8).2.2 ∧ fk (pty 8 42) = 2 := by decide +kernel
theorem fx_8_43 : 43 < (pT 8).2.2 ∧ fk (pty 8 43) = 2 := by decide +kernel
theorem fx_8_44 : 44 < (pT 8).2.2 ∧ fk (pty 8 44) = 2 := by decide +kernel
theorem fx_8_45 : 45 < (pT 8).2.2 ∧ fk (pty 8 45) = 2 := by decide +kernel
theorem fx_8_46 : 46 < (pT 8).2.2 ∧ fk (pty 8 46) = 2 := by decide +kernel
theorem fx_8_47 : 47 < (pT 8).2.2 ∧ fk (pty 8 47) = 2 := by decide +kernel
theorem fx_8_48 : 48 < (pT 8).2.2 ∧ fk (pty 8 48) = 0 := by decide +kernel
theorem fw_8_48 {m : pmt} : pWr m 8 48 := Or.inl rfl
theorem fx_8_49 : 49 < (pT 8).2.2 ∧ fk (pty 8 49) = 0 := by decide +kernel
theorem fw_8_49 {m : pmt} : pWr m 8 49 := Or.inl rfl
theorem fx_8_50 : 50 < (pT 8).2.2 ∧ fk (pty 8 50) = 0 := by decide +kernel
theorem fw_8_50 {m : pmt} : pWr m 8 50 := Or.inl rfl
theorem fx_8_51 : 51 < (pT 8).2.2 ∧ fk (pty 8 51) = 0 := by decide +kernel
theorem fw_8_51 {m : pmt} : pWr m 8 51 := Or.inl rfl
theorem fx_8_52 : 52 < (pT 8).2.2 ∧ fk (pty 8 52) = 2 := by decide +kernel
theorem fx_8_53 : 53 < (pT 8).2.2 ∧ fk (pty 8 53) = 2 := by decide +kernel
theorem fx_8_54 : 54 < (pT 8).2.2 ∧ fk (pty 8 54) = 0 := by decide +kernel
theorem fw_8_54 {m : pmt} : pWr m 8 54 := Or.inl rfl
theorem fx_8_55 : 55 < (pT 8).2.2 ∧ fk (pty 8 55) = 2 := by decide +kernel
theorem fx_8_56 : 56 < (pT 8).2.2 ∧ fk (pty 8 56) = 0 := by decide +kernel
theorem fw_8_56 {m : pmt} : pWr m 8 56 := Or.inl rfl
theorem fx_8_57 : 57 < (pT 8).2.2 ∧ fk (pty 8 57) = 0 := by decide +kernel
theorem fw_8_57 {m : pmt} : pWr m 8 57 := Or.inl rfl
theorem fx_8_58 : 58 < (pT 8).2.2 ∧ fk (pty 8 58) = 0 := by decide +kernel
theorem fw_8_58 {m : pmt} : pWr m 8 58 := Or.inl rfl
theorem fx_8_59 : 59 < (pT 8).2.2 ∧ fk (pty 8 59) = 0 := by decide +kernel
theorem fw_8_59 {m : pmt} : pWr m 8 59 := Or.inl rfl
theorem fx_8_60 : 60 < (pT 8).2.2 ∧ fk (pty 8 60) = 2 := by decide +kernel
theorem fx_8_61 : 61 < (pT 8).2.2 ∧ fk (pty 8 61) = 2 := by decide +kernel
theorem fx_8_62 : 62 < (pT 8).2.2 ∧ fk (pty 8 62) = 0 := by decide +kernel
theorem fw_8_62 {m : pmt} : pWr m 8 62 := Or.inl rfl
theorem fx_8_63 : 63 < (pT 8).2.2 ∧ fk (pty 8 63) = 0 := by decide +kernel
theorem fw_8_63 {m : pmt} : pWr m 8 63 := Or.inl rfl
theorem fx_8_64 : 64 < (pT 8).2.2 ∧ fk (pty 8 64) = 2 := by decide +kernel
theorem fx_8_65 : 65 < (pT 8).2.2 ∧ fk (pty 8 65) = 2 := by decide +kernel
theorem fx_8_66 : 66 < (pT 8).2.2 ∧ fk (pty 8 66) = 2 := by decide +kernel
theorem fx_8_67 : 67 < (pT 8).2.2 ∧ fk (pty 8 67) = 0 := by decide +kernel
theorem fw_8_67 {m : pmt} : pWr m 8 67 := Or.inl rfl
theorem fx_8_68 : 68 < (pT 8).2.2 ∧ fk (pty 8 68) = 2 := by decide +kernel
theorem fx_8_69 : 69 < (pT 8).2.2 ∧ fk (pty 8 69) = 0 := by decide +kernel
theorem fw_8_69 {m : pmt} : pWr m 8 69 := Or.inl rfl
theorem fx_8_70 : 70 < (pT 8).2.2 ∧ fk (pty 8 70) = 0 := by decide +kernel
theorem fw_8_70 {m : pmt} : pWr m 8 70 := Or.inl rfl
theorem fx_8_71 : 71 < (pT 8).2.2 ∧ fk (pty 8 71) = 1 := by decide +kernel
theorem fw_8_71 {m : pmt} : pWr m 8 71 := Or.inl rfl
theorem fx_8_72 : 72 < (pT 8).2.2 ∧ fk (pty 8 72) = 2 := by decide +kernel
theorem fx_8_73 : 73 < (pT 8).2.2 ∧ fk (pty 8 73) = 2 := by decide +kernel
theorem fx_8_74 : 74 < (pT 8).2.2 ∧ fk (pty 8 74) = 2 := by decide +kernel
theorem fx_8_75 : 75 < (pT 8).2.2 ∧ fk (pty 8 75) = 2 := by decide +kernel
theorem fx_8_76 : 76 < (pT 8).2.2 ∧ fk (pty 8 76) = 2 := by decide +kernel
theorem fx_8_77 : 77 < (pT 8).2.2 ∧ fk (pty 8 77) = 2 := by decide +kernel
theorem fx_8_78 : 78 < (pT 8).2.2 ∧ fk (pty 8 78) = 2 := by decide +kernel
theorem fx_8_79 : 79 < (pT 8).2.2 ∧ fk (pty 8 79) = 2 := by decide +kernel
theorem fx_8_80 : 80 < (pT 8).2.2 ∧ fk (pty 8 80) = 2 := by decide +kernel
theorem fx_8_81 : 81 < (pT 8).2.2 ∧ fk (pty 8 81) = 2 := by decide +kernel
theorem fx_8_82 : 82 < (pT 8).2.2 ∧ fk (pty 8 82) = 2 := by decide +kernel
theorem fx_8_83 : 83 < (pT 8).2.2 ∧ fk (pty 8 83) = 2 := by decide +kernel
theorem fx_8_84 : 84 < (pT 8).2.2 ∧ fk (pty 8 84) = 2 := by decide +kernel
theorem fx_8_85 : 85 < (pT 8).2.2 ∧ fk (pty 8 85) = 2 := by decide +kernel
theorem fx_8_86 : 86 < (pT 8).2.2 ∧ fk (pty 8 86) = 2 := by decide +kernel
theorem fx_8_87 : 87 < (pT 8).2.2 ∧ fk (pty 8 87) = 2 := by decide +kernel
theorem fx_8_88 : 88 < (pT 8).2.2 ∧ fk (pty 8 88) = 2 := by decide +kernel
theorem fx_8_89 : 89 < (pT 8).2.2 ∧ fk (pty 8 89) = 2 := by decide +kernel
theorem fx_8_90 : 90 < (pT 8).2.2 ∧ fk (pty 8 90) = 2 := by decide +kernel
theorem fx_8_91 : 91 < (pT 8).2.2 ∧ fk (pty 8 91) = 2 := by decide +kernel
theorem fx_8_92 : 92 < (pT 8).2.2 ∧ fk (pty 8 92) = 2 := by decide +kernel
theorem fx_8_93 : 93 < (pT 8).2.2 ∧ fk (pty 8 93) = 2 := by decide +kernel
theorem fx_8_94 : 94 < (pT 8).2.2 ∧ fk (pty 8 94) = 2 := by decide +kernel
theorem fx_8_95 : 95 < (pT 8).2.2 ∧ fk (pty 8 95) = 2 := by decide +kernel
theorem fx_8_96 : 96 < (pT 8).2.2 ∧ fk (pty 8 96) = 0 := by decide +kernel
theorem fw_8_96 {m : pmt} : pWr m 8 96 := Or.inl rfl
theorem fx_8_97 : 97 < (pT 8).2.2 ∧ fk (pty 8 97) = 2 := by decide +kernel
theorem fx_8_98 : 98 < (pT 8).2.2 ∧ fk (pty 8 98) = 0 := by decide +kernel
theorem fw_8_98 {m : pmt} : pWr m 8 98 := Or.inl rfl
theorem fx_8_99 : 99 < (pT 8).2.2 ∧ fk (pty 8 99) = 0 := by decide +kernel
theorem fw_8_99 {m : pmt} : pWr m 8 99 := Or.inl rfl
theorem fx_8_100 : 100 < (pT 8).2.2 ∧ fk (pty 8 100) = 0 := by decide +kernel
theorem fw_8_100 {m : pmt} : pWr m 8 100 := Or.inl rfl
theorem fx_8_101 : 101 < (pT 8).2.2 ∧ fk (pty 8 101) = 2 := by decide +kernel
theorem fx_8_102 : 102 < (pT 8).2.2 ∧ fk (pty 8 102) = 0 := by decide +kernel
theorem fw_8_102 {m : pmt} : pWr m 8 102 := Or.inl rfl
theorem fx_8_103 : 103 < (pT 8).2.2 ∧ fk (pty 8 103) = 1 := by decide +kernel
theorem fw_8_103 {m : pmt} : pWr m 8 103 := Or.inl rfl
theorem fx_8_104 : 104 < (pT 8).2.2 ∧ fk (pty 8 104) = 0 := by decide +kernel
theorem fw_8_104 {m : pmt} : pWr m 8 104 := Or.inl rfl
theorem fx_8_105 : 105 < (pT 8).2.2 ∧ fk (pty 8 105) = 2 := by decide +kernel
theorem fx_8_106 : 106 < (pT 8).2.2 ∧ fk (pty 8 106) = 0 := by decide +kernel
theorem fw_8_106 {m : pmt} : pWr m 8 106 := Or.inl rfl
theorem lf_X6_9 : pLF RX6 9 6 0 := Or.inl (pb 1 89 (by decide +kernel) rfl)
theorem lf_X6_15 : pLF RX6 15 6 1 := Or.inl (pb 1 90 (by decide +kernel) rfl)
theorem lf_X6_19 : pLF RX6 19 6 2 := Or.inl (pb 1 91 (by decide +kernel) rfl)
theorem lf_X6_23 : pLF RX6 23 6 3 := Or.inl (pb 1 92 (by decide +kernel) rfl)
theorem lf_X3_93 : pLF RX3 93 6 3 := Or.inr ⟨"GraveRequest", pn 0 93 (by decide +kernel) rfl⟩
theorem lf_X6_26 : pLF RX6 26 6 4 := Or.inl (pb 1 94 (by decide +kernel) rfl)
theorem lf_X3_55 : pLF RX3 55 6 4 := Or.inr ⟨"GraveRequest", pn 0 95 (by decide +kernel) rfl⟩
theorem lf_X6_29 : pLF RX6 29 6 5 := Or.inl (pb 1 96 (by decide +kernel) rfl)
theorem lf_X6_32 : pLF RX6 32 6 6 := Or.inl (pb 1 97 (by decide +kernel) rfl)
theorem lf_X3_162 : pLF RX3 162 6 6 := Or.inr ⟨"GraveRequest", pn 0 98 (by decide +kernel) rfl⟩
theorem lf_X6_35 : pLF RX6 35 6 7 := Or.inl (pb 1 99 (by decide +kernel) rfl)
theorem lf_X7_128 : pLF RX7 128 6 7 := Or.inr ⟨"GraveRequest", pn 0 100 (by decide +kernel) rfl⟩
theorem lf_X6_38 : pLF RX6 38 6 8 := Or.inl (pb 1 101 (by decide +kernel) rfl)
theorem lf_X7_131 : pLF RX7 131 6 8 := Or.inr ⟨"GraveRequest", pn 0 102 (by decide +kernel) rfl⟩
theorem lf_X2_9 : pLF RX2 9 2 0 := Or.inl (pb 1 130 (by decide +kernel) rfl)
theorem lf_X1_74 : pLF RX1 74 2 0 := Or.inr ⟨"GraveRequest", pn 0 131 (by decide +kernel) rfl⟩
theorem lf_X2_15 : pLF RX2 15 2 1 := Or.inl (pb 1 132 (by decide +kernel) rfl)
theorem lf_X2_19 : pLF RX2 19 2 2 := Or.inl (pb 1 133 (by decide +kernel) rfl)
theorem lf_X1_66 : pLF RX1 66 2 2 := Or.inr ⟨"GraveRequest", pn 0 134 (by decide +kernel) rfl⟩
theorem lf_X2_22 : pLF RX2 22 2 3 := Or.inl (pb 1 135 (by decide +kernel) rfl)
theorem lf_X1_71 : pLF RX1 71 2 3 := Or.inr ⟨"GraveRequest", pn 0 136 (by decide +kernel) rfl⟩
theorem lf_X2_25 : pLF RX2 25 2 4 := Or.inl (pb 1 137 (by decide +kernel) rfl)
theorem lf_X3_12 : pLF RX3 12 3 0 := Or.inl (pb 1 150 (by decide +kernel) rfl)
theorem lf_X7_124 : pLF RX7 124 3 0 := Or.inr ⟨"GraveRequest", pn 0 151 (by decide +kernel) rfl⟩
theorem lf_X3_21 : pLF RX3 21 3 1 := Or.inl (pb 1 152 (by decide +kernel) rfl)
theorem lf_X7_361 : pLF RX7 361 3 1 := Or.inr ⟨"GraveRequest", pn 0 153 (by decide +kernel) rfl⟩
theorem lf_X3_25 : pLF RX3 25 3 2 := Or.inl (pb 1 154 (by decide +kernel) rfl)
theorem lf_X3_28 : pLF RX3 28 3 3 := Or.inl (pb 1 155 (by decide +kernel) rfl)
theorem lf_X3_32 : pLF RX3 32 3 4 := Or.inl (pb 1 156 (by decide +kernel) rfl)
theorem lf_X3_35 : pLF RX3 35 3 5 := Or.inl (pb 1 157 (by decide +kernel) rfl)
theorem lf_X7_346 : pLF RX7 346 3 5 := Or.inr ⟨"GraveRequest", pn 0 158 (by decide +kernel) rfl⟩
theorem lf_X5_9 : pLF RX5 9 5 0 := Or.inl (pb 1 180 (by decide +kernel) rfl)
theorem lf_X3_66 : pLF RX3 66 5 0 := Or.inr ⟨"GraveRequest", pn 0 181 (by decide +kernel) rfl⟩
theorem lf_X7_121 : pLF RX7 121 5 0 := Or.inr ⟨"GraveRequest", pn 0 182 (by decide +kernel) rfl⟩
theorem lf_X5_15 : pLF RX5 15 5 1 := Or.inl (pb 1 183 (by decide +kernel) rfl)
theorem lf_X3_100 : pLF RX3 100 5 1 := Or.inr ⟨"GraveRequest", pn 0 184 (by decide +kernel) rfl⟩
theorem lf_X7_132 : pLF RX7 132 5 1 := Or.inr ⟨"GraveRequest", pn 0 185 (by decide +kernel) rfl⟩
theorem lf_X1_136 : pLF RX1 136 5 1 := Or.inr ⟨"GraveRequest", pn 0 186 (by decide +kernel) rfl⟩
theorem lf_X5_18 : pLF RX5 18 5 2 := Or.inl (pb 1 187 (by decide +kernel) rfl)
theorem lf_X4_46 : pLF RX4 46 5 2 := Or.inr ⟨"GraveRequest", pn 0 188 (by decide +kernel) rfl⟩
theorem lf_X3_115 : pLF RX3 115 5 2 := Or.inr ⟨"GraveRequest", pn 0 189 (by decide +kernel) rfl⟩
theorem lf_X5_21 : pLF RX5 21 5 3 := Or.inl (pb 1 190 (by decide +kernel) rfl)
theorem lf_X3_118 : pLF RX3 118 5 3 := Or.inr ⟨"GraveRequest", pn 0 191 (by decide +kernel) rfl⟩
theorem lf_X7_330 : pLF RX7 330 5 3 := Or.inr ⟨"GraveRequest", pn 0 192 (by decide +kernel) rfl⟩
theorem lf_X5_24 : pLF RX5 24 5 4 := Or.inl (pb 1 193 (by decide +kernel) rfl)
theorem lf_X3_125 : pLF RX3 125 5 4 := Or.inr ⟨"GraveRequest", pn 0 194 (by decide +kernel) rfl⟩
theorem lf_X7_135 : pLF RX7 135 5 4 := Or.inr ⟨"GraveRequest", pn 0 195 (by decide +kernel) rfl⟩
theorem lf_X5_27 : pLF RX5 27 5 5 := Or.inl (pb 1 196 (by decide +kernel) rfl)
theorem lf_X7_181 : pLF RX7 181 5 5 := Or.inr ⟨"GraveRequest", pn 0 197 (by decide +kernel) rfl⟩
theorem lf_X5_31 : pLF RX5 31 5 6 := Or.inl (pb 1 198 (by decide +kernel) rfl)
theorem lf_X7_200 : pLF RX7 200 5 6 := Or.inr ⟨"GraveRequest", pn 0 199 (by decide +kernel) rfl⟩
theorem lf_X5_34 : pLF RX5 34 5 7 := Or.inl (pb 1 200 (by decide +kernel) rfl)
theorem lf_X7_203 : pLF RX7 203 5 7 := Or.inr ⟨"GraveRequest", pn 0 201 (by decide +kernel) rfl⟩
theorem lf_X5_37 : pLF RX5 37 5 8 := Or.inl (pb 1 202 (by decide +kernel) rfl)
theorem lf_X3_139 : pLF RX3 139 5 8 := Or.inr ⟨"GraveRequest", pn 0 203 (by decide +kernel) rfl⟩
theorem lf_X1_117 : pLF RX1 117 5 8 := Or.inr ⟨"GraveRequest", pn 0 204 (by decide +kernel) rfl⟩
theorem lf_X7_138 : pLF RX7 138 5 8 := Or.inr ⟨"GraveRequest", pn 0 205 (by decide +kernel) rfl⟩
theorem lf_X5_40 : pLF RX5 40 5 9 := Or.inl (pb 1 206 (by decide +kernel) rfl)
theorem lf_X7_191 : pLF RX7 191 5 9 := Or.inr ⟨"GraveRequest", pn 0 207 (by decide +kernel) rfl⟩
theorem lf_X5_43 : pLF RX5 43 5 10 := Or.inl (pb 1 208 (by decide +kernel) rfl)
theorem lf_X4_51 : pLF RX4 51 5 10 := Or.inr ⟨"GraveRequest", pn 0 209 (by decide +kernel) rfl⟩
theorem lf_X5_46 : pLF RX5 46 5 11 := Or.inl (pb 1 210 (by decide +kernel) rfl)
theorem lf_X4_54 : pLF RX4 54 5 11 := Or.inr ⟨"GraveRequest", pn 0 211 (by decide +kernel) rfl⟩
theorem lf_X5_49 : pLF RX5 49 5 12 := Or.inl (pb 1 212 (by decide +kernel) rfl)
theorem lf_X4_57 : pLF RX4 57 5 12 := Or.inr ⟨"GraveRequest", pn 0 213 (by decide +kernel) rfl⟩
theorem lf_X5_52 : pLF RX5 52 5 13 := Or.inl (pb 1 214 (by decide +kernel) rfl)
theorem lf_X3_149 : pLF RX3 149 5 13 := Or.inr ⟨"GraveRequest", pn 0 215 (by decide +kernel) rfl⟩
theorem lf_X7_141 : pLF RX7 141 5 13 := Or.inr ⟨"GraveRequest", pn 0 216 (by decide +kernel) rfl⟩
theorem lf_X1_155 : pLF RX1 155 5 13 := Or.inr ⟨"GraveRequest", pn 0 217 (by decide +kernel) rfl⟩
theorem lf_X5_55 : pLF RX5 55 5 14 := Or.inl (pb 1 218 (by decide +kernel) rfl)
theorem lf_X7_197 : pLF RX7 197 5 14 := Or.inr ⟨"GraveRequest", pn 0 219 (by decide +kernel) rfl⟩
theorem lf_X5_58 : pLF RX5 58 5 15 := Or.inl (pb 1 220 (by decide +kernel) rfl)
theorem lf_X1_165 : pLF RX1 165 5 15 := Or.inr ⟨"GraveRequest", pn 0 221 (by decide +kernel) rfl⟩
theorem lf_X5_64 : pLF RX5 64 5 16 := Or.inl (pb 1 222 (by decide +kernel) rfl)
theorem lf_X3_44 : pLF RX3 44 5 16 := Or.inr ⟨"GraveRequest", pn 0 223 (by decide +kernel) rfl⟩
theorem lf_X1_109 : pLF RX1 109 5 16 := Or.inr ⟨"GraveRequest", pn 0 224 (by decide +kernel) rfl⟩
theorem lf_X1_11 : pLF RX1 11 1 0 := Or.inl (pb 2 28 (by decide +kernel) rfl)
theorem lf_X1_15 : pLF RX1 15 1 1 := Or.inl (pb 2 29 (by decide +kernel) rfl)
theorem lf_X1_18 : pLF RX1 18 1 2 := Or.inl (pb 2 30 (by decide +kernel) rfl)
theorem lf_X1_21 : pLF RX1 21 1 3 := Or.inl (pb 2 31 (by decide +kernel) rfl)
theorem lf_X1_24 : pLF RX1 24 1 4 := Or.inl (pb 2 32 (by decide +kernel) rfl)
theorem lf_X1_29 : pLF RX1 29 1 5 := Or.inl (pb 2 33 (by decide +kernel) rfl)
theorem lf_X4_9 : pLF RX4 9 4 0 := Or.inl (pb 2 53 (by decide +kernel) rfl)
theorem lf_X1_50 : pLF RX1 50 4 0 := Or.inr ⟨"GraveRequest", pn 1 54 (by decide +kernel) rfl⟩
theorem lf_X7_144 : pLF RX7 144 4 0 := Or.inr ⟨"GraveRequest", pn 1 55 (by decide +kernel) rfl⟩
theorem lf_X4_15 : pLF RX4 15 4 1 := Or.inl (pb 2 56 (by decide +kernel) rfl)
theorem lf_X7_147 : pLF RX7 147 4 1 := Or.inr ⟨"GraveRequest", pn 1 57 (by decide +kernel) rfl⟩
theorem lf_X1_152 : pLF RX1 152 4 1 := Or.inr ⟨"GraveRequest", pn 1 58 (by decide +kernel) rfl⟩
theorem lf_X4_18 : pLF RX4 18 4 2 := Or.inl (pb 2 59 (by decide +kernel) rfl)
theorem lf_X1_32 : pLF RX1 32 4 2 := Or.inr ⟨"GraveRequest", pn 1 60 (by decide +kernel) rfl⟩
theorem lf_X7_206 : pLF RX7 206 4 2 := Or.inr ⟨"GraveRequest", pn 1 61 (by decide +kernel) rfl⟩
theorem lf_X4_22 : pLF RX4 22 4 3 := Or.inl (pb 2 62 (by decide +kernel) rfl)
theorem lf_X7_209 : pLF RX7 209 4 3 := Or.inr ⟨"GraveRequest", pn 1 63 (by decide +kernel) rfl⟩
theorem lf_X4_25 : pLF RX4 25 4 4 := Or.inl (pb 2 64 (by decide +kernel) rfl)
theorem lf_X1_37 : pLF RX1 37 4 4 := Or.inr ⟨"GraveRequest", pn 1 65 (by decide +kernel) rfl⟩
theorem lf_X7_175 : pLF RX7 175 4 4 := Or.inr ⟨"GraveRequest", pn 1 66 (by decide +kernel) rfl⟩
theorem lf_X4_28 : pLF RX4 28 4 5 := Or.inl (pb 2 67 (by decide +kernel) rfl)
theorem lf_X1_149 : pLF RX1 149 4 5 := Or.inr ⟨"GraveRequest", pn 1 68 (by decide +kernel) rfl⟩
theorem lf_X7_380 : pLF RX7 380 4 5 := Or.inr ⟨"GraveRequest", pn 1 69 (by decide +kernel) rfl⟩
theorem lf_X4_31 : pLF RX4 31 4 6 := Or.inl (pb 2 70 (by decide +kernel) rfl)
theorem lf_X1_47 : pLF RX1 47 4 6 := Or.inr ⟨"GraveRequest", pn 1 71 (by decide +kernel) rfl⟩
theorem lf_X7_212 : pLF RX7 212 4 6 := Or.inr ⟨"GraveRequest", pn 1 72 (by decide +kernel) rfl⟩
theorem lf_X4_34 : pLF RX4 34 4 7 := Or.inl (pb 2 73 (by decide +kernel) rfl)
theorem lf_X7_165 : pLF RX7 165 4 7 := Or.inr ⟨"GraveRequest", pn 1 74 (by decide +kernel) rfl⟩
theorem lf_X4_37 : pLF RX4 37 4 8 := Or.inl (pb 2 75 (by decide +kernel) rfl)
theorem lf_X7_234 : pLF RX7 234 4 8 := Or.inr ⟨"GraveRequest", pn 1 76 (by decide +kernel) rfl⟩
theorem lf_X4_40 : pLF RX4 40 4 9 := Or.inl (pb 2 77 (by decide +kernel) rfl)
theorem lf_X7_237 : pLF RX7 237 4 9 := Or.inr ⟨"GraveRequest", pn 1 78 (by decide +kernel) rfl⟩
theorem lf_X4_43 : pLF RX4 43 4 10 := Or.inl (pb 2 79 (by decide +kernel) rfl)
theorem lf_X7_240 : pLF RX7 240 4 10 := Or.inr ⟨"GraveRequest", pn 1 80 (by decide +kernel) rfl⟩
theorem lf_X0_11 : pLF RX0 11 0 0 := Or.inl (pb 2 113 (by decide +kernel) rfl)
theorem lf_X0_17 : pLF RX0 17 0 1 := Or.inl (pb 2 114 (by decide +kernel) rfl)
theorem lf_X7_168 : pLF RX7 168 0 1 := Or.inr ⟨"GraveRequest", pn 1 115 (by decide +kernel) rfl⟩
theorem lf_X7_9 : pLF RX7 9 7 0 := Or.inl (pb 2 122 (by decide +kernel) rfl)
theorem lf_X7_13 : pLF RX7 13 7 1 := Or.inl (pb 2 123 (by decide +kernel) rfl)
theorem lf_X7_20 : pLF RX7 20 7 2 := Or.inl (pb 2 124 (by decide +kernel) rfl)
theorem lf_X7_27 : pLF RX7 27 7 3 := Or.inl (pb 2 125 (by decide +kernel) rfl)
theorem lf_X7_31 : pLF RX7 31 7 4 := Or.inl (pb 2 126 (by decide +kernel) rfl)
theorem lf_X7_34 : pLF RX7 34 7 5 := Or.inl (pb 2 127 (by decide +kernel) rfl)
theorem lf_X7_38 : pLF RX7 38 7 6 := Or.inl (pb 2 128 (by decide +kernel) rfl)
theorem lf_X7_41 : pLF RX7 41 7 7 := Or.inl (pb 2 129 (by decide +kernel) rfl)
theorem lf_X7_47 : pLF RX7 47 7 8 := Or.inl (pb 2 130 (by decide +kernel) rfl)
theorem lf_X7_54 : pLF RX7 54 7 9 := Or.inl (pb 2 131 (by decide +kernel) rfl)
theorem lf_X7_58 : pLF RX7 58 7 10 := Or.inl (pb 2 132 (by decide +kernel) rfl)
theorem lf_X7_64 : pLF RX7 64 7 11 := Or.inl (pb 2 133 (by decide +kernel) rfl)
theorem lf_X7_70 : pLF RX7 70 7 12 := Or.inl (pb 2 134 (by decide +kernel) rfl)
theorem lf_X7_73 : pLF RX7 73 7 13 := Or.inl (pb 2 135 (by decide +kernel) rfl)
theorem lf_X7_76 : pLF RX7 76 7 14 := Or.inl (pb 2 136 (by decide +kernel) rfl)
theorem lf_X7_80 : pLF RX7 80 7 15 := Or.inl (pb 2 137 (by decide +kernel) rfl)
theorem lf_X7_83 : pLF RX7 83 7 16 := Or.inl (pb 2 138 (by decide +kernel) rfl)
theorem lf_X7_86 : pLF RX7 86 7 17 := Or.inl (pb 2 139 (by decide +kernel) rfl)
theorem lf_X7_89 : pLF RX7 89 7 18 := Or.inl (pb 2 140 (by decide +kernel) rfl)
theorem lf_X8_7 : pLF RX8 7 8 0 := Or.inl (pb 5 82 (by decide +kernel) rfl)
theorem lf_X8_246 : pLF RX8 246 8 1 := Or.inl (pb 5 83 (by decide +kernel) rfl)
theorem lf_X8_255 : pLF RX8 255 8 2 := Or.inl (pb 5 84 (by decide +kernel) rfl)
theorem lf_X8_258 : pLF RX8 258 8 3 := Or.inl (pb 5 85 (by decide +kernel) rfl)
theorem lf_X8_269 : pLF RX8 269 8 4 := Or.inl (pb 5 86 (by decide +kernel) rfl)
theorem lf_X8_249 : pLF RX8 249 8 5 := Or.inl (pb 5 87 (by decide +kernel) rfl)
theorem lf_X8_252 : pLF RX8 252 8 6 := Or.inl (pb 5 88 (by decide +kernel) rfl)
theorem lf_X8_379 : pLF RX8 379 8 7 := Or.inl (pb 5 89 (by decide +kernel) rfl)
theorem lf_X8_13 : pLF RX8 13 8 8 := Or.inl (pb 5 90 (by decide +kernel) rfl)
theorem lf_X8_17 : pLF RX8 17 8 9 := Or.inl (pb 5 91 (by decide +kernel) rfl)
theorem lf_X8_20 : pLF RX8 20 8 10 := Or.inl (pb 5 92 (by decide +kernel) rfl)
theorem lf_X8_24 : pLF RX8 24 8 11 := Or.inl (pb 5 93 (by decide +kernel) rfl)
theorem lf_X8_27 : pLF RX8 27 8 12 := Or.inl (pb 5 94 (by decide +kernel) rfl)
theorem lf_X8_30 : pLF RX8 30 8 13 := Or.inl (pb 5 95 (by decide +kernel) rfl)
theorem lf_X8_33 : pLF RX8 33 8 14 := Or.inl (pb 5 96 (by decide +kernel) rfl)
theorem lf_X8_36 : pLF RX8 36 8 15 := Or.inl (pb 5 97 (by decide +kernel) rfl)
theorem lf_X8_39 : pLF RX8 39 8 16 := Or.inl (pb 5 98 (by decide +kernel) rfl)
theorem lf_X8_42 : pLF RX8 42 8 17 := Or.inl (pb 5 99 (by decide +kernel) rfl)
theorem lf_X8_45 : pLF RX8 45 8 18 := Or.inl (pb 5 100 (by decide +kernel) rfl)
theorem lf_X8_48 : pLF RX8 48 8 19 := Or.inl (pb 5 101 (by decide +kernel) rfl)
theorem lf_X8_51 : pLF RX8 51 8 20 := Or.inl (pb 5 102 (by decide +kernel) rfl)
theorem lf_X8_54 : pLF RX8 54 8 21 := Or.inl (pb 5 103 (by decide +kernel) rfl)
theorem lf_X8_57 : pLF RX8 57 8 22 := Or.inl (pb 5 104 (by decide +kernel) rfl)
theorem lf_X8_60 : pLF RX8 60 8 23 := Or.inl (pb 5 105 (by decide +kernel) rfl)
theorem lf_X8_63 : pLF RX8 63 8 24 := Or.inl (pb 5 106 (by decide +kernel) rfl)
theorem lf_X8_66 : pLF RX8 66 8 25 := Or.inl (pb 5 107 (by decide +kernel) rfl)
theorem lf_X8_69 : pLF RX8 69 8 26 := Or.inl (pb 5 108 (by decide +kernel) rfl)
theorem lf_X8_72 : pLF RX8 72 8 27 := Or.inl (pb 5 109 (by decide +kernel) rfl)
theorem lf_X8_75 : pLF RX8 75 8 28 := Or.inl (pb 5 110 (by decide +kernel) rfl)
theorem lf_X8_78 : pLF RX8 78 8 29 := Or.inl (pb 5 111 (by decide +kernel) rfl)
theorem lf_X8_81 : pLF RX8 81 8 30 := Or.inl (pb 5 112 (by decide +kernel) rfl)
theorem lf_X8_84 : pLF RX8 84 8 31 := Or.inl (pb 5 113 (by decide +kernel) rfl)
theorem lf_X8_87 : pLF RX8 87 8 32 := Or.inl (pb 5 114 (by decide +kernel) rfl)
theorem lf_X8_90 : pLF RX8 90 8 33 := Or.inl (pb 5 115 (by decide +kernel) rfl)
theorem lf_X8_93 : pLF RX8 93 8 34 := Or.inl (pb 5 116 (by decide +kernel) rfl)
theorem lf_X8_96 : pLF RX8 96 8 35 := Or.inl (pb 5 117 (by decide +kernel) rfl)
theorem lf_X8_99 : pLF RX8 99 8 36 := Or.inl (pb 5 118 (by decide +kernel) rfl)
theorem lf_X8_102 : pLF RX8 102 8 37 := Or.inl (pb 5 119 (by decide +kernel) rfl)
theorem lf_X8_297 : pLF RX8 297 8 38 := Or.inl (pb 5 120 (by decide +kernel) rfl)
theorem lf_X8_105 : pLF RX8 105 8 39 := Or.inl (pb 5 121 (by decide +kernel) rfl)
theorem lf_X8_108 : pLF RX8 108 8 40 := Or.inl (pb 5 122 (by decide +kernel) rfl)
theorem lf_X8_111 : pLF RX8 111 8 41 := Or.inl (pb 5 123 (by decide +kernel) rfl)
theorem lf_X8_115 : pLF RX8 115 8 42 := Or.inl (pb 5 124 (by decide +kernel) rfl)
theorem lf_X8_118 : pLF RX8 118 8 43 := Or.inl (pb 5 125 (by decide +kernel) rfl)
theorem lf_X8_121 : pLF RX8 121 8 44 := Or.inl (pb 5 126 (by decide +kernel) rfl)
theorem lf_X8_124 : pLF RX8 124 8 45 := Or.inl (pb 5 127 (by decide +kernel) rfl)
theorem lf_X8_127 : pLF RX8 127 8 46 := Or.inl (pb 5 128 (by decide +kernel) rfl)
theorem lf_X8_130 : pLF RX8 130 8 47 := Or.inl (pb 5 129 (by decide +kernel) rfl)
theorem lf_X8_355 : pLF RX8 355 8 48 := Or.inl (pb 5 130 (by decide +kernel) rfl)
theorem lf_X8_358 : pLF RX8 358 8 49 := Or.inl (pb 5 131 (by decide +kernel) rfl)
theorem lf_X8_385 : pLF RX8 385 8 50 := Or.inl (pb 5 132 (by decide +kernel) rfl)
theorem lf_X8_304 : pLF RX8 304 8 51 := Or.inl (pb 5 133 (by decide +kernel) rfl)
theorem lf_X8_133 : pLF RX8 133 8 52 := Or.inl (pb 5 134 (by decide +kernel) rfl)
theorem lf_X8_136 : pLF RX8 136 8 53 := Or.inl (pb 5 135 (by decide +kernel) rfl)
theorem lf_X8_433 : pLF RX8 433 8 54 := Or.inl (pb 5 136 (by decide +kernel) rfl)
theorem lf_X8_139 : pLF RX8 139 8 55 := Or.inl (pb 5 137 (by decide +kernel) rfl)
theorem lf_X8_449 : pLF RX8 449 8 56 := Or.inl (pb 5 138 (by decide +kernel) rfl)
theorem lf_X8_452 : pLF RX8 452 8 57 := Or.inl (pb 5 139 (by decide +kernel) rfl)
theorem lf_X8_461 : pLF RX8 461 8 58 := Or.inl (pb 5 140 (by decide +kernel) rfl)
theorem lf_X8_470 : pLF RX8 470 8 59 := Or.inl (pb 5 141 (by decide +kernel) rfl)
theorem lf_X8_142 : pLF RX8 142 8 60 := Or.inl (pb 5 142 (by decide +kernel) rfl)
theorem lf_X8_145 : pLF RX8 145 8 61 := Or.inl (pb 5 143 (by decide +kernel) rfl)
theorem lf_X8_539 : pLF RX8 539 8 62 := Or.inl (pb 5 144 (by decide +kernel) rfl)
theorem lf_X8_392 : pLF RX8 392 8 63 := Or.inl (pb 5 145 (by decide +kernel) rfl)
theorem lf_X8_148 : pLF RX8 148 8 64 := Or.inl (pb 5 146 (by decide +kernel) rfl)
theorem lf_X8_151 : pLF RX8 151 8 65 := Or.inl (pb 5 147 (by decide +kernel) rfl)
theorem lf_X8_155 : pLF RX8 155 8 66 := Or.inl (pb 5 148 (by decide +kernel) rfl)
theorem lf_X8_554 : pLF RX8 554 8 67 := Or.inl (pb 5 149 (by decide +kernel) rfl)
theorem lf_X8_158 : pLF RX8 158 8 68 := Or.inl (pb 5 150 (by decide +kernel) rfl)
theorem lf_X8_389 : pLF RX8 389 8 69 := Or.inl (pb 5 151 (by decide +kernel) rfl)
theorem lf_X8_563 : pLF RX8 563 8 70 := Or.inl (pb 5 152 (by decide +kernel) rfl)
theorem lf_X8_161 : pLF RX8 161 8 71 := Or.inl (pb 5 153 (by decide +kernel) rfl)
theorem lf_X8_165 : pLF RX8 165 8 72 := Or.inl (pb 5 154 (by decide +kernel) rfl)
theorem lf_X8_168 : pLF RX8 168 8 73 := Or.inl (pb 5 155 (by decide +kernel) rfl)
theorem lf_X8_171 : pLF RX8 171 8 74 := Or.inl (pb 5 156 (by decide +kernel) rfl)
theorem lf_X8_174 : pLF RX8 174 8 75 := Or.inl (pb 5 157 (by decide +kernel) rfl)
theorem lf_X8_177 : pLF RX8 177 8 76 := Or.inl (pb 5 158 (by decide +kernel) rfl)
theorem lf_X8_180 : pLF RX8 180 8 77 := Or.inl (pb 5 159 (by decide +kernel) rfl)
theorem lf_X8_183 : pLF RX8 183 8 78 := Or.inl (pb 5 160 (by decide +kernel) rfl)
theorem lf_X8_186 : pLF RX8 186 8 79 := Or.inl (pb 5 161 (by decide +kernel) rfl)
theorem lf_X8_189 : pLF RX8 189 8 80 := Or.inl (pb 5 162 (by decide +kernel) rfl)
theorem lf_X8_192 : pLF RX8 192 8 81 := Or.inl (pb 5 163 (by decide +kernel) rfl)
theorem lf_X8_195 : pLF RX8 195 8 82 := Or.inl (pb 5 164 (by decide +kernel) rfl)
theorem lf_X8_198 : pLF RX8 198 8 83 := Or.inl (pb 5 165 (by decide +kernel) rfl)
theorem lf_X8_201 : pLF RX8 201 8 84 := Or.inl (pb 5 166 (by decide +kernel) rfl)
theorem lf_X8_204 : pLF RX8 204 8 85 := Or.inl (pb 5 167 (by decide +kernel) rfl)
theorem lf_X8_207 : pLF RX8 207 8 86 := Or.inl (pb 5 168 (by decide +kernel) rfl)
theorem lf_X8_210 : pLF RX8 210 8 87 := Or.inl (pb 5 169 (by decide +kernel) rfl)
theorem lf_X8_213 : pLF RX8 213 8 88 := Or.inl (pb 5 170 (by decide +kernel) rfl)
theorem lf_X8_216 : pLF RX8 216 8 89 := Or.inl (pb 5 171 (by decide +kernel) rfl)
theorem lf_X8_219 : pLF RX8 219 8 90 := Or.inl (pb 5 172 (by decide +kernel) rfl)
theorem lf_X8_222 : pLF RX8 222 8 91 := Or.inl (pb 5 173 (by decide +kernel) rfl)
theorem lf_X8_225 : pLF RX8 225 8 92 := Or.inl (pb 5 174 (by decide +kernel) rfl)
theorem lf_X8_228 : pLF RX8 228 8 93 := Or.inl (pb 5 175 (by decide +kernel) rfl)
theorem lf_X8_231 : pLF RX8 231 8 94 := Or.inl (pb 5 176 (by decide +kernel) rfl)
theorem lf_X8_234 : pLF RX8 234 8 95 := Or.inl (pb 5 177 (by decide +kernel) rfl)
theorem lf_X8_337 : pLF RX8 337 8 96 := Or.inl (pb 5 178 (by decide +kernel) rfl)
theorem lf_X8_237 : pLF RX8 237 8 97 := Or.inl (pb 5 179 (by decide +kernel) rfl)
theorem lf_X8_340 : pLF RX8 340 8 98 := Or.inl (pb 5 180 (by decide +kernel) rfl)
theorem lf_X8_343 : pLF RX8 343 8 99 := Or.inl (pb 5 181 (by decide +kernel) rfl)
theorem lf_X8_346 : pLF RX8 346 8 100 := Or.inl (pb 5 182 (by decide +kernel) rfl)
theorem lf_X8_240 : pLF RX8 240 8 101 := Or.inl (pb 5 183 (by decide +kernel) rfl)
theorem lf_X8_411 : pLF RX8 411 8 102 := Or.inl (pb 5 184 (by decide +kernel) rfl)
theorem lf_X8_656 : pLF RX8 656 8 103 := Or.inl (pb 5 185 (by decide +kernel) rfl)
theorem lf_X8_661 : pLF RX8 661 8 104 := Or.inl (pb 5 186 (by decide +kernel) rfl)
theorem lf_X8_243 : pLF RX8 243 8 105 := Or.inl (pb 5 187 (by decide +kernel) rfl)
theorem lf_X8_674 : pLF RX8 674 8 106 := Or.inl (pb 5 188 (by decide +kernel) rfl)
