/-! the class's machine reckons a program -/
def fxN : List Nat := [7, 15, 16, 17, 18, 2, 3, 19, 20, 21]
def stk (M : pm) : List Int → Prop
  | [] => True
  | x :: t => mI M 45 t.length = zI x ∧ stk M t
theorem stk_up {M : pm} {k : Nat} {v : Int32} : ∀ {s : List Int}, s.length ≤ k → stk M s → stk (sI M 45 k v) s
  | [], _, _ => trivial
  | x :: t, h, hs => ⟨by rw [rI (by rw [List.length_cons] at h; omega)]; exact hs.1, stk_up (by rw [List.length_cons] at h; omega) hs.2⟩
/-- all but row 45 the same -/
def f45 (M M' : pm) : Prop := mL M' = mL M ∧ mR M' = mR M ∧ mJ M' = mJ M ∧ ∀ a, a ≠ 45 → mI M' a = mI M a
theorem f45.rf (M : pm) : f45 M M := ⟨rfl, rfl, rfl, fun _ _ => rfl⟩
theorem f45.up {M M1 : pm} (h : f45 M M1) (k : Nat) (v : Int32) : f45 M (sI M1 45 k v) := ⟨h.1, h.2.1, h.2.2.1, fun a ha => by rw [← h.2.2.2 a ha]; exact mI_off ha⟩
def prgC (M : pm) (pa p : Nat) (os : List Nat) : Prop := ∃ f : Nat, mI M (pa + 2) p = nI f ∧ mI M (pa + 3) p = nI (f + os.length) ∧ f + os.length ≤ 1600 ∧ ∀ i c, os[i]? = some c → mI M (pa + 1) (f + i) = clc c
theorem clc_num {c : Nat} (h : 1000 ≤ c) : clc c = nI (c - 1000) := by unfold clc; rw [if_pos h]
theorem clc_f {j : Nat} (h : j < 10) : ∃ v, v < 28 ∧ fxN.getD j 0 = v ∧ clc (40 + j) = nI (10100 + v) := by
  have : ∀ j, j < 10 → fxN.getD j 0 < 28 ∧ clc (40 + j) = nI (10100 + fxN.getD j 0) := by decide
  exact ⟨_, (this j h).1, rfl, (this j h).2⟩
theorem clc_b {c : Nat} (h1 : 1 ≤ c) (h2 : c ≤ 11) : ∃ m, 10000 ≤ m ∧ m < 10011 ∧ clc c = nI m := by
  have : ∀ c, c ≤ 11 → 1 ≤ c → 10000 ≤ clcT.getD c 0 ∧ clcT.getD c 0 < 10011 ∧ clc c = nI (clcT.getD c 0) := by decide
  exact ⟨_, this c h2 h1⟩
theorem kds_cons {m c : Nat} {l : List Nat} {ks r : List Bool} (h : kds m (c :: l) ks = some r) : ∃ ks', kd1 c ks = some ks' ∧ ks'.length ≤ m ∧ kds m l ks' = some r := by
  unfold kds at h
  cases e : kd1 c ks with
  | none => rw [e] at h; exact absurd h (by simp)
  | some s =>
    rw [e] at h
    by_cases hl : s.length ≤ m
    · simp only [if_pos hl] at h
      exact ⟨s, rfl, hl, h⟩
    · simp only [if_neg hl] at h
      exact absurd h (by simp)
theorem kd1_cases {c : Nat} {ks ks' : List Bool} (h : kd1 c ks = some ks') : (1000 ≤ c ∧ c < 11000) ∨ (c = 60 ∧ ∃ t, ks = false :: t) ∨ (40 ≤ c ∧ c < 50) ∨ c = 13 ∨ (c = 12 ∧ ∃ t, ks = true :: t) ∨ (1 ≤ c ∧ c ≤ 11 ∧ ∃ k1 k2 t, ks = k1 :: k2 :: t ∧ (c = 10 ∨ c = 11 → k1 = true ∧ k2 = true)) := by
  unfold kd1 at h
  repeat' split at h
  all_goals first | (simp at h; done) | skip
  all_goals first | (left; omega) | (right; left; exact ⟨by omega, _, rfl⟩) | (right; right; left; omega) | (right; right; right; left; omega) | (right; right; right; right; left; exact ⟨by omega, _, rfl⟩) | (right; right; right; right; right; exact ⟨by omega, by omega, _, _, _, rfl, fun _ => by first | omega | exact ⟨rfl, rfl⟩⟩)
theorem v_loop {M0 : pm} {pa p : Nat} (hp1 : pa + 1 ≠ 45) (hp3 : pa + 3 ≠ 45) (hp : p < 3) {F : Nat → Int} {w : Int} (hF : ∀ k, -1000000 ≤ F k ∧ F k ≤ 1000000) (hw : -1000000 ≤ w ∧ w ≤ 1000000) {b : Bool} {Q : Int32 → pm → Prop} : ∀ (l : List Nat) (n i : Nat) (ks : List Bool) (vs : List Int) (M : pm), l.length < n → f45 M0 M → (∀ j c, l[j]? = some c → mI M0 (pa + 1) (i + j) = clc c) → mI M0 (pa + 3) p = nI (i + l.length) → i + l.length ≤ 1600 → kds 100 l ks = some [b] → okV ks vs → vs.length ≤ 100 → stk M vs → (∀ c ∈ l, 40 ≤ c → c < 50 → mI M0 46 (fxN.getD (c - 40) 0) = zI (F (c - 40))) → (60 ∈ l → mI M0 46 5 = zI w) → (∀ M' v, f45 M0 M' → evs F w l vs = [v] → -1000000 ≤ v → v ≤ 1000000 → (b = true → v = 0 ∨ v = 1) → Q (zI v) M') → w_X1_valueOf_21 n pa (nI p) (nI vs.length) (nI i) M Q := by
  intro l
  induction l with
  | nil =>
    intro n i ks vs M hn hf hc he h16 hk hv hl hs hfa hfw k
    obtain ⟨n, rfl⟩ : ∃ n', n = n' + 1 := ⟨n - 1, by simp only [List.length_nil] at hn; omega⟩
    unfold w_X1_valueOf_21
    have ek : ks = [b] := by unfold kds at hk; exact Option.some.inj hk
    subst ek
    match vs, hv with
    | [v], hv =>
      refine ⟨vp_in_nI hp (by decide), ?_⟩
      rw [nI_clamp (by omega), hf.2.2.2 _ hp3, he]
      refine k_yes (nI_le (Nat.le_refl _) (by simp only [List.length_nil] at h16 ⊢; omega)) ?_
      refine k_no (nI_nle (n := 1) (by decide) (by decide)) ?_
      have : mI M 45 0 = zI v := hs.1
      rw [this]
      exact k M v hf rfl hv.1.1 hv.1.2.1 hv.1.2.2
  | cons c l ih =>
    intro n i ks vs M hn hf hc he h16 hk hv hl hs hfa hfw k
    rw [List.length_cons] at hn he h16
    obtain ⟨n, rfl⟩ : ∃ n', n = n' + 1 := ⟨n - 1, by omega⟩
    obtain ⟨ks', hk1, hkl, hk2⟩ := kds_cons hk
    have hv' := okV_1 (w := w) hF hk1 hv
    have hl' : (ev1 F w c vs).length ≤ 100 := by rw [okV_len hv']; exact hkl
    have hop : mI M (pa + 1) i = clc c := by rw [hf.2.2.2 _ hp1]; exact hc 0 c rfl
    have go : ∀ M' : pm, f45 M0 M' → stk M' (ev1 F w c vs) → w_X1_valueOf_21 n pa (nI p) (nI (ev1 F w c vs).length) (nI (i + 1)) M' Q := fun M' h1 h2 => ih n (i + 1) ks' _ M' (by omega) h1 (fun j d hj => by rw [show i + 1 + j = i + (j + 1) from by omega]; exact hc (j + 1) d hj) (by rw [he]; congr 1; omega) (by omega) hk2 hv' hl' h2 (fun d hd => hfa d (List.mem_cons_of_mem _ hd)) (fun hd => hfw (List.mem_cons_of_mem _ hd)) k
    unfold w_X1_valueOf_21
    refine ⟨vp_in_nI hp (by decide), ?_⟩
    rw [nI_clamp (by omega : p < 2 ^ 31), hf.2.2.2 _ hp3, he, nI_clamp (by omega : i < 2 ^ 31), hop]
    refine k_no (nI_ge (by omega) (by omega)) (k_no (nI_ge (b := 1600) (by omega) (by decide)) ⟨vp_in_nI (by omega) (by decide), ?_⟩)
    rw [nI_1]
    rcases kd1_cases hk1 with ⟨h1, h2⟩ | ⟨h1, t, ht⟩ | ⟨h1, h2⟩ | h1 | ⟨h1, t, ht⟩ | ⟨h1, h2, k1, k2, t, ht, hb⟩
    · rw [clc_num h1]
      have ee : ev1 F w c vs = ((c - 1000 : Nat) : Int) :: vs := by unfold ev1; rw [if_pos h1]
      refine k_yes (nI_lt (b := 10000) (by omega) (by decide)) (k_no (nI_ge (b := 128) (by omega) (by decide)) (k_no (nI_ge (b := 10000) (by omega) (by decide)) ⟨vp_in_nI (by omega) (by decide), ?_⟩))
      rw [nI_clamp (by omega), nI_1, nI_1]
      have g := go (sI M 45 vs.length (nI (c - 1000))) (hf.up _ _) (by rw [ee]; exact ⟨by rw [rIs, zI_n], stk_up (Nat.le_refl _) hs⟩)
      rw [ee] at g
      exact g
    · have ew := hfw (by rw [h1]; exact List.mem_cons_self ..)
      subst h1 ht
      match vs, hv with
      | x :: vs, hv =>
        have ee : ev1 F w 60 (x :: vs) = (if x = w then 1 else 0) :: vs := rfl
        rw [show clc 60 = nI 10012 from by decide]
        refine k_no (by decide) (k_yes (by decide) (k_no (by decide) (k_yes' (by decide) ?_)))
        rw [List.length_cons] at hl ⊢
        refine k_no (nI_nlt (b := 1) (by omega) (by omega)) (k_no' (by decide) ?_)
        rw [hf.2.2.2 46 (by decide), ew]
        unfold w_X1_valueOf_146
        rw [nI_pred, nI_clamp (by omega), show mI M 45 vs.length = zI x from hs.1, nI_1]
        refine ⟨vp_in_nI (by omega) (by decide), ki_ne x w (fun h => ⟨vp_in_nI (by omega) (by decide), ?_⟩) (fun h => ⟨vp_in_nI (by omega) (by decide), ?_⟩) rfl rfl (by have := hv.1; omega) (by have := hv.1; omega) (by omega) (by omega)⟩
        · have g := go (sI M 45 vs.length 0) (hf.up _ _) (by rw [ee, if_neg h]; exact ⟨rIs _ _ _ _, stk_up (Nat.le_refl _) hs.2⟩)
          rw [ee, List.length_cons] at g
          exact g
        · have g := go (sI M 45 vs.length 1) (hf.up _ _) (by rw [ee, if_pos h]; exact ⟨rIs _ _ _ _, stk_up (Nat.le_refl _) hs.2⟩)
          rw [ee, List.length_cons] at g
          exact g
    · have ef := hfa c (List.mem_cons_self ..) h1 h2
      obtain ⟨v, hv1, hv2, hv3⟩ := clc_f (j := c - 40) (by omega)
      rw [show 40 + (c - 40) = c from by omega] at hv3
      rw [hv2] at ef
      have ee : ev1 F w c vs = F (c - 40) :: vs := by unfold ev1; rw [if_neg (by omega), if_neg (by omega), if_pos h1]
      rw [hv3]
      refine k_no (nI_nlt (b := 10000) (by omega) (by omega)) (k_no (nI_nlt (b := 10100) (by omega) (by omega)) (k_no (nI_ge (b := 128) (by omega) (by decide)) (k_yes (nI_le (a := 10000) (by omega) (by omega)) ?_)))
      have e5 : nI (10100 + v) - 10100 = nI v := by
        have := pk_sub (a := 10100 + v) (b := 10100) (by omega)
        rw [show 10100 + v - 10100 = v from by omega] at this
        exact this
      rw [e5]
      refine k_no (nI_pos (by omega)) (k_no (nI_ge (b := 28) (by omega) (by decide)) ⟨vp_in_nI (by omega) (by decide), vp_in_nI (by omega) (by decide), ?_⟩)
      rw [nI_clamp (by omega), nI_clamp (by omega), nI_1, nI_1, hf.2.2.2 46 (by decide), ef]
      have g := go (sI M 45 vs.length (zI (F (c - 40)))) (hf.up _ _) (by rw [ee]; exact ⟨rIs _ _ _ _, stk_up (Nat.le_refl _) hs⟩)
      rw [ee] at g
      exact g
    · subst h1
      have ee : ev1 F w 13 vs = 1 :: vs := rfl
      rw [show clc 13 = nI 1 from by decide]
      refine k_yes (by decide) (k_no (nI_ge (b := 128) (by omega) (by decide)) (k_no (by decide) ⟨vp_in_nI (by omega) (by decide), ?_⟩))
      rw [nI_clamp (by omega), nI_1, nI_1]
      have g := go (sI M 45 vs.length (nI 1)) (hf.up _ _) (by rw [ee]; exact ⟨by rw [rIs]; rfl, stk_up (Nat.le_refl _) hs⟩)
      rw [ee] at g
      exact g
    · subst h1 ht
      match vs, hv with
      | x :: vs, hv =>
        have ee : ev1 F w 12 (x :: vs) = (1 - x) :: vs := rfl
        have hx := hv.1.2.2 rfl
        rw [show clc 12 = nI 10011 from by decide]
        refine k_no (by decide) (k_yes (by decide) (k_yes (by decide) ?_))
        rw [List.length_cons] at hl ⊢
        refine k_no (nI_nlt (b := 1) (by omega) (by omega)) (k_yes' (by decide) ?_)
        unfold w_X1_valueOf_146
        rw [nI_pred, nI_clamp (by omega), show mI M 45 vs.length = zI x from hs.1, nI_1]
        refine ⟨vp_in_nI (by omega) (by decide), ki_ne x 0 (fun h => ⟨vp_in_nI (by omega) (by decide), ?_⟩) (fun h => ⟨vp_in_nI (by omega) (by decide), ?_⟩)⟩
        · have g := go (sI M 45 vs.length 0) (hf.up _ _) (by rw [ee, show 1 - x = 0 from by omega]; exact ⟨rIs _ _ _ _, stk_up (Nat.le_refl _) hs.2⟩)
          rw [ee, List.length_cons] at g
          exact g
        · have g := go (sI M 45 vs.length 1) (hf.up _ _) (by rw [ee, show 1 - x = 1 from by omega]; exact ⟨rIs _ _ _ _, stk_up (Nat.le_refl _) hs.2⟩)
          rw [ee, List.length_cons] at g
          exact g
    · subst ht
      match vs, hv with
      | y :: x :: vs, hv =>
        have ee : ev1 F w c (y :: x :: vs) = jn c x y :: vs := by unfold ev1; rw [if_neg (by omega), if_neg (by omega), if_neg (by omega), if_neg (by omega), if_neg (by omega)]
        obtain ⟨m, m1, m2, m3⟩ := clc_b h1 h2
        rw [List.length_cons, List.length_cons] at hl ⊢
        refine k_no (by rw [m3]; exact nI_nlt (b := 10000) m1 (by omega)) (k_yes (by rw [m3]; exact nI_lt (b := 10100) (by omega) (by decide)) (k_no (by rw [m3]; exact fun q => absurd ((nI_eq (b := 10011) (by omega) (by decide)).mp q) (by omega)) (k_no' (by rw [m3]; exact fun q => absurd ((nI_eq (b := 10012) (by omega) (by decide)).mp q) (by omega)) (k_no (nI_nlt (b := 2) (by omega) (by omega)) ?_))))
        rw [show nI (vs.length + 1 + 1) + (-1) = nI (vs.length + 1) from pk_m1 _, nI_pred, nI_clamp (by omega), nI_clamp (by omega), show mI M 45 vs.length = zI x from hs.2.1, show mI M 45 (vs.length + 1) = zI y from hs.1]
        refine ⟨vp_in_nI (by omega) (by decide), vp_in_nI (by omega) (by decide), s_join h1 h2 hv.2.1.1 hv.2.1.2.1 hv.1.1 hv.1.2.1 (fun q => ⟨hv.2.1.2.2 (hb q).2, hv.1.2.2 (hb q).1⟩) ⟨vp_in_nI (by omega) (by decide), ?_⟩⟩
        have g := go (sI M 45 vs.length (zI (jn c x y))) (hf.up _ _) (by rw [ee]; exact ⟨rIs _ _ _ _, stk_up (Nat.le_refl _) hs.2.2⟩)
        rw [ee, List.length_cons] at g
        exact g
/-- valueOf -/
theorem s_valueOf {M : pm} {pa p : Nat} (hp1 : pa + 1 ≠ 45) (hp3 : pa + 3 ≠ 45) (hp : p < 3) {F : Nat → Int} {w : Int} (hF : ∀ k, -1000000 ≤ F k ∧ F k ≤ 1000000) (hw : -1000000 ≤ w ∧ w ≤ 1000000) {b : Bool} {os : List Nat} (hP : prgC M pa p os) (hk : kds 100 os [] = some [b]) (hfa : ∀ c ∈ os, 40 ≤ c → c < 50 → mI M 46 (fxN.getD (c - 40) 0) = zI (F (c - 40))) (hfw : 60 ∈ os → mI M 46 5 = zI w) {Q : Int32 → pm → Prop} (k : ∀ M' v, f45 M M' → evs F w os [] = [v] → -1000000 ≤ v → v ≤ 1000000 → (b = true → v = 0 ∨ v = 1) → Q (zI v) M') : w_X1_valueOf pa (nI p) M Q := by
  obtain ⟨f, e1, e2, e3, e4⟩ := hP
  refine k_no (nI_pos (by omega)) (k_yes (nI_lt (b := 3) hp (by decide)) ⟨vp_in_nI hp (by decide), os.length + 1, ?_⟩)
  rw [nI_clamp (by omega), e1]
  exact v_loop hp1 hp3 hp hF hw os _ f [] [] M (by omega) (f45.rf M) e4 e2 e3 hk trivial (by decide) trivial hfa hfw k
