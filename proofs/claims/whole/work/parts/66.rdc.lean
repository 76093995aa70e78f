/-! the class reads SUMS and TESTS -/
def fR (pa a k : Nat) : Prop := fT a k ∨ (a = pa ∧ k = 1) ∨ a = pa + 1
def eC (M : pm) (tk : Nat) : Prop := mI M 5 3 = (if tk = 2 then 1 else 0) ∧ mI M 5 4 = (if tk = 0 then 0 else 1)
def pOk (pa : Nat) : Prop := pa = 9 ∨ pa = 24 ∨ pa = 39
def oPC (M : pm) (pa L : Nat) : Prop := mR M 5 2 = pa ∧ pOk pa ∧ mI M pa 1 = nI L ∧ L ≤ 1600
theorem fR_T {pa : Nat} {M M' : pm} (f : fG fT M M') : fG (fR pa) M M' := ⟨f.1, f.2.1, f.2.2.1, fun a k h => f.2.2.2 a k (fun q => h (Or.inl q))⟩
theorem eC_f {pa tk : Nat} {M M' : pm} (hp : pOk pa) (f : fG (fR pa) M M') (h : eC M tk) : eC M' tk := by
  have e : mI M' 5 = mI M 5 := f.row (fun k => by unfold fR fT; unfold pOk at hp; omega)
  unfold eC at h ⊢
  rw [e]; exact h
theorem oPC_T {pa L : Nat} {M M' : pm} (f : fG fT M M') (h : oPC M pa L) : oPC M' pa L := by
  have hp := h.2.1
  unfold pOk at hp
  exact ⟨by rw [f.2.1]; exact h.1, h.2.1, by rw [f.2.2.2 pa 1 (by unfold fT; omega)]; exact h.2.2.1, h.2.2.2⟩
/-- what was written -/
def pD (M M' : pm) (pa L : Nat) (c : List Nat) : Prop := oPC M' pa (L + c.length) ∧ (∀ i, i < L → mI M' (pa + 1) i = mI M (pa + 1) i) ∧ ∀ i x, c[i]? = some x → mI M' (pa + 1) (L + i) = clc x
def rdP (M M' : pm) (T : Nat → Nat) (n pa L : Nat) (r : rs (List Nat)) : Prop := tkG M' T n r ∧ match r with
  | .inl _ => ∃ L', oPC M' pa L'
  | .inr (c, _) => pD M M' pa L c
theorem fT_row {pa : Nat} (hp : pOk pa) {M M' : pm} (f : fG fT M M') : mI M' (pa + 1) = mI M (pa + 1) := f.row (fun k => by unfold fT; unfold pOk at hp; omega)
theorem pD_T {M M1 M2 : pm} {pa L : Nat} {c : List Nat} (h : pD M M1 pa L c) (f : fG fT M1 M2) : pD M M2 pa L c := by
  have e := fT_row h.1.2.1 f
  exact ⟨oPC_T f h.1, fun i hi => by rw [e]; exact h.2.1 i hi, fun i x hx => by rw [e]; exact h.2.2 i x hx⟩
theorem pD_T0 {M M1 M2 : pm} {pa L : Nat} {c : List Nat} (f : fG fT M M1) (h : pD M1 M2 pa L c) : pD M M2 pa L c := by
  have e := fT_row h.1.2.1 f
  exact ⟨h.1, fun i hi => by rw [h.2.1 i hi, e], h.2.2⟩
theorem pD_app {M M1 M2 : pm} {pa L : Nat} {c c2 : List Nat} (h : pD M M1 pa L c) (g : pD M1 M2 pa (L + c.length) c2) : pD M M2 pa L (c ++ c2) := by
  refine ⟨?_, fun i hi => by rw [g.2.1 i (by omega), h.2.1 i hi], fun i x hx => ?_⟩
  · rw [List.length_append, ← Nat.add_assoc]; exact g.1
  · by_cases q : i < c.length
    · rw [List.getElem?_append_left q] at hx
      rw [g.2.1 (L + i) (by omega)]; exact h.2.2 i x hx
    · rw [List.getElem?_append_right (by omega)] at hx
      have := g.2.2 _ _ hx
      rw [show L + c.length + (i - c.length) = L + i from by omega] at this
      exact this
theorem pD_nil {M : pm} {pa L : Nat} (h : oPC M pa L) : pD M M pa L [] := ⟨h, fun _ _ => rfl, fun i x hx => by cases hx⟩
theorem c_add0 {M : pm} {pa L : Nat} (h : oPC M pa L) (hL : L < 1600) {x : Int32} {y : Nat} (hx : x = clc y) {Q : pm → Prop} (k : ∀ M', fG (fR pa) M M' → mI M' 6 = mI M 6 → pD M M' pa L [y] → Q M') : w_X2_add pa x M Q := by
  obtain ⟨h1, h2, h3, h4⟩ := h
  have hp := h2
  unfold pOk at hp
  unfold w_X2_add
  rw [h3, nI_clamp (by omega), rI (by omega), h3, nI_1]
  refine k_no (nI_ge (b := 1600) hL (by decide)) ⟨vp_in_nI hL (by decide), k _ (((fG.rf M).up (Or.inr (Or.inr rfl)) _).up (Or.inr (Or.inl ⟨rfl, rfl⟩)) _) ?_ ⟨⟨h1, h2, rIs _ _ _ _, by show L + 1 ≤ 1600; omega⟩, fun i hi => ?_, fun i z hz => ?_⟩⟩
  · rw [mI_off (by omega), mI_off (by omega)]
  · rw [rI (by omega), rI (by omega)]
  · match i, hz with
    | 0, hz =>
      cases hz
      exact (rI (by omega)).trans ((rIs _ _ _ _).trans hx)
theorem c_addS {M : pm} {pa L : Nat} (h : oPC M pa L) {x : Int32} {Q : pm → Prop} (k : ∀ M', fG (fR pa) M M' → mI M' 6 = mI M 6 → (∃ L', oPC M' pa L') → Q M') : w_X2_add pa x M Q := by
  obtain ⟨h1, h2, h3, h4⟩ := id h
  have hp := h2
  unfold pOk at hp
  unfold w_X2_add
  rw [h3]
  refine pk_le 1600 L (fun q => k M (fG.rf M) rfl ⟨L, h⟩) (fun q => ⟨vp_in_nI q (by decide), ?_⟩)
  rw [nI_clamp (by omega), rI (by omega), h3, nI_1]
  refine k _ (((fG.rf M).up (Or.inr (Or.inr rfl)) _).up (Or.inr (Or.inl ⟨rfl, rfl⟩)) _) ?_ ⟨L + 1, h1, h2, rIs _ _ _ _, q⟩
  rw [mI_off (by omega), mI_off (by omega)]
/-- out is there -/
theorem c_out {M : pm} {pa L : Nat} (h : oPC M pa L) {x : Int32} {Q : pm → Prop} (k : w_X2_add pa x M Q) : ¬ (mR M 5 2) = 0 ∧ (w_X2_add (mR M 5 2) x M Q) := by
  have hp := h.2.1
  unfold pOk at hp
  rw [h.1]
  exact ⟨by omega, k⟩
theorem tkG_R {A : Type} {pa : Nat} (hp : pOk pa) {M M' : pm} {T : Nat → Nat} {n : Nat} {r : rs A} (f : fG (fR pa) M M') (e6 : mI M' 6 = mI M 6) (h : tkG M T n r) : tkG M' T n r :=
  tkG_c (f.row (fun k => by unfold fR fT; unfold pOk at hp; omega)) e6 (f.row (fun k => by unfold fR fT; unfold pOk at hp; omega)) (by rw [f.2.1]) h
def hRC (T : Nat → Nat) (n tk pa : Nat) (rc : Nat → Int32 → pm → (pm → Prop) → Prop) (w o : Nat) (g : ts → rs (List Nat)) : Prop := ∀ (M : pm) (s : ts) (L : Nat) (Q : pm → Prop), tkC M T n s → eC M tk → oPC M pa L → L ≤ s.1 → (∀ M', fG (fR pa) M M' → rdP M M' T n pa L (g s) → Q M') → rc w (nI o) M Q
def hSC (pa : Nat) (rc : Nat → Int32 → pm → (pm → Prop) → Prop) (w : Nat) : Prop := ∀ (M : pm) (e : Nat × Nat) (x : Int32) (Q : pm → Prop), tkS M e → (∃ L, oPC M pa L) → (∀ M', fG (fR pa) M M' → tkS M' e → (∃ L, oPC M' pa L) → Q M') → rc w x M Q
def hGC (n : Nat) (g : ts → rs (List Nat)) : Prop := ∀ (s : ts) (c : List Nat) (s1 : ts), s.1 ≤ n → g s = .inr (c, s1) → s.1 + c.length ≤ s1.1 ∧ s1.1 ≤ n
theorem c_step {T : Nat → Nat} {n tk pa L w o : Nat} {rc : Nat → Int32 → pm → (pm → Prop) → Prop} {g : ts → rs (List Nat)} (hp : pOk pa) (hrc : hRC T n tk pa rc w o g) (hg : hGC n g) {M0 M : pm} {c : List Nat} {s : ts} {x : Nat} {t0 : Int32} (f0 : fG (fR pa) M0 M) (he : eC M0 tk) (ht : tkC M T n s) (hd : pD M0 M pa L c) (hl : L + c.length ≤ s.1) (hgt : s.1 < (tX T n s).1) (hx : t0 = clc x) {R : pm → Prop} (k : ∀ M', fG (fR pa) M0 M' → rdP M0 M' T n pa L (rB (g (tX T n s)) (fun c2 s2 => .inr (c ++ (c2 ++ [x]), s2))) → R M') : w_X6_take M (fun M12 => rc w (nI o) M12 (fun M15 => ¬ (mR M15 5 2) = 0 ∧ (w_X2_add (mR M15 5 2) t0 M15 (fun M19 => R M19)))) := by
  refine c_take ht (fun M1 f1 t1 => ?_)
  have d1 := pD_T hd f1
  refine hrc M1 _ (L + c.length) _ t1 (eC_f hp (f0.tr (fR_T f1)) he) d1.1 (by omega) (fun M2 f2 r2 => ?_)
  generalize hres : g (tX T n s) = res at r2 k
  match res, r2, k with
  | .inl e, r2, k =>
    obtain ⟨L', o'⟩ := r2.2
    exact c_out o' (c_addS o' (fun M3 f3 e6 o3 => k M3 ((f0.tr (fR_T f1)).tr (f2.tr f3)) ⟨tkS_c e6 r2.1, o3⟩))
  | .inr (c2, s2), r2, k =>
    have d2 : pD M1 M2 pa (L + c.length) c2 := r2.2
    have gg := hg _ c2 s2 (tX_le ht.2.1) hres
    have h16 := ht.1.2.1
    refine c_out d2.1 (c_add0 d2.1 (by omega) hx (fun M3 f3 e6 d3 => k M3 ((f0.tr (fR_T f1)).tr (f2.tr f3)) ⟨?_, ?_⟩))
    · exact tkG_R (A := List Nat) (r := .inr (c2, s2)) hp f3 e6 r2.1
    · exact pD_app d1 (pD_app d2 d3)
/-- an opened one: what stands in it, and its closing sign -/
theorem c_par {T : Nat → Nat} {n tk pa L w o : Nat} {rc : Nat → Int32 → pm → (pm → Prop) → Prop} {g : ts → rs (List Nat)} (hp : pOk pa) (hrc : hRC T n tk pa rc w o g) {M : pm} {s : ts} {ch : Nat} (h0 : 0 < ch) (hc : ch < 128) (he : eC M tk) (ht : tkC M T n s) (ho : oPC M pa L) (hl : L ≤ s.1) (hgt : s.1 < (tX T n s).1) {R : pm → Prop} (k : ∀ M', fG (fR pa) M M' → rdP M M' T n pa L (rTh (g (tX T n s)) (rSgn T n ch)) → R M') : w_X6_take M (fun M12 => rc w (nI o) M12 (fun M15 => w_X6_needSign (nI ch) M15 (fun M19 => R M19))) := by
  refine c_take ht (fun M1 f1 t1 => ?_)
  refine hrc M1 _ L _ t1 (eC_f hp (fR_T f1) he) (oPC_T f1 ho) (by omega) (fun M2 f2 r2 => ?_)
  generalize hres : g (tX T n s) = res at r2 k
  match res, r2, k with
  | .inl e, r2, k =>
    obtain ⟨L', o'⟩ := r2.2
    exact c_needSign (A := List Nat) (r := .inl e) r2.1 ch h0 hc (fun M3 f3 t3 => k M3 ((fR_T f1).tr (f2.tr (fR_T f3))) ⟨t3, ⟨L', oPC_T f3 o'⟩⟩)
  | .inr (c2, s2), r2, k =>
    have d2 : pD M1 M2 pa L c2 := r2.2
    by_cases q : tS T n s2 = ch
    · have e : rTh (.inr (c2, s2)) (rSgn T n ch) = (.inr (c2, tX T n s2) : rs (List Nat)) := by
        show rB (rSgn T n ch s2) _ = _
        unfold rSgn
        rw [if_pos q]; rfl
      rw [e] at k
      exact c_needSign (A := List Nat) (r := .inr (c2, s2)) r2.1 ch h0 hc (fun M3 f3 t3 => k M3 ((fR_T f1).tr (f2.tr (fR_T f3))) ⟨by rw [e] at t3; exact t3, pD_T0 f1 (pD_T d2 f3)⟩)
    · have e : rTh (.inr (c2, s2)) (rSgn T n ch) = (.inl (1, sk T n s2.1) : rs (List Nat)) := by
        show rB (rSgn T n ch s2) _ = _
        unfold rSgn
        rw [if_neg q]; rfl
      rw [e] at k
      exact c_needSign (A := List Nat) (r := .inr (c2, s2)) r2.1 ch h0 hc (fun M3 f3 t3 => k M3 ((fR_T f1).tr (f2.tr (fR_T f3))) ⟨by rw [e] at t3; exact t3, ⟨_, oPC_T f3 d2.1⟩⟩)
theorem lp_l {op : ts → Nat} {nx : ts → ts} {rd : ts → rs (List Nat)} {e : Nat × Nat} : ∀ d, lp op nx rd d (.inl e) = .inl e
  | 0 => rfl
  | d + 1 => rfl
theorem lp_no {op : ts → Nat} {nx : ts → ts} {rd : ts → rs (List Nat)} {c : List Nat} {s : ts} (d : Nat) (h : op s = 0) : lp op nx rd d (.inr (c, s)) = .inr (c, s) := by
  match d with
  | 0 => rfl
  | d + 1 =>
    show (if op s = 0 then _ else _) = _
    rw [if_pos h]
theorem lp_go {op : ts → Nat} {nx : ts → ts} {rd : ts → rs (List Nat)} {c : List Nat} {s : ts} (d : Nat) (h : op s ≠ 0) : lp op nx rd (d + 1) (.inr (c, s)) = lp op nx rd d (rB (rd (nx s)) (fun c2 s2 => .inr (c ++ (c2 ++ [op s]), s2))) := by
  show (if op s = 0 then _ else _) = _
  rw [if_neg h]
theorem rB_len {n L : Nat} {c : List Nat} {x : Nat} {s : ts} {r : rs (List Nat)} (hl : L + c.length < s.1) (hg : ∀ c2 s2, r = .inr (c2, s2) → s.1 + c2.length ≤ s2.1 ∧ s2.1 ≤ n) : ∀ c9 s9, rB r (fun c2 s2 => (.inr (c ++ (c2 ++ [x]), s2) : rs (List Nat))) = .inr (c9, s9) → L + c9.length ≤ s9.1 ∧ s9.1 ≤ n := by
  intro c9 s9 h
  obtain ⟨c2, s2, h1, h2⟩ := rB_inv h
  cases h2
  have := hg c2 _ h1
  rw [List.length_append, List.length_append]
  exact ⟨by show L + (c.length + (c2.length + 1)) ≤ _; omega, this.2⟩

theorem c_lpO {T : Nat → Nat} {n tk pa L o : Nat} {rc : Nat → Int32 → pm → (pm → Prop) → Prop} {g : ts → rs (List Nat)} (hp : pOk pa) (hrc : hRC T n tk pa rc 1 o g) (hg : hGC n g) {M0 : pm} (he : eC M0 tk) {Q : pm → Prop} : ∀ (d m i : Nat) (M : pm) (r : rs (List Nat)), i + d = 1600 → d < m → fG (fR pa) M0 M → rdP M0 M T n pa L r → (∀ c s, r = .inr (c, s) → L + c.length ≤ s.1 ∧ s.1 ≤ n) → (∀ M', fG (fR pa) M0 M' → rdP M0 M' T n pa L (lp (opO T n) (tX T n) g d r) → Q M') → w_X3_readTest_7 rc m (nI o) (nI i) M Q := by
  intro d
  induction d with
  | zero =>
    intro m i M r hi hm f0 hr hl k
    obtain ⟨m, rfl⟩ : ∃ m', m = m' + 1 := ⟨m - 1, by omega⟩
    unfold w_X3_readTest_7
    exact k_yes (nI_le (a := 1600) (by omega) (by omega)) (k M f0 hr)
  | succ d ih =>
    intro m i M r hi hm f0 hr hl k
    obtain ⟨m, rfl⟩ : ∃ m', m = m' + 1 := ⟨m - 1, by omega⟩
    unfold w_X3_readTest_7
    refine k_no (nI_ge (b := 1600) (by omega) (by decide)) ?_
    match r, hr, hl, k with
    | .inl e, hr, hl, k => exact c_isWordS hr.1 (k_yes rfl (k M f0 hr))
    | .inr (c, s), hr, hl, k =>
      have ht : tkC M T n s := hr.1
      have hd : pD M0 M pa L c := hr.2
      obtain ⟨l1, l2⟩ := hl c s rfl
      have go : ∀ (x : Nat) (t0 : Int32), opO T n s = x → x ≠ 0 → t0 = clc x → s.1 < (tX T n s).1 → w_X6_take M (fun M12 => rc 1 (nI o) M12 (fun M15 => ¬ (mR M15 5 2) = 0 ∧ (w_X2_add (mR M15 5 2) t0 M15 (fun M19 => w_X3_readTest_7 rc m (nI o) (nI i + 1) M19 Q)))) := by
        intro x t0 ex x0 et hgt
        rw [nI_1]
        refine c_step hp hrc hg f0 he ht hd l1 hgt et (fun M' f' r' => ih m (i + 1) M' _ (by omega) (by omega) f' r' (rB_len (by omega) (fun c2 s2 h2 => hg _ c2 s2 (tX_le l2) h2)) (fun M'' f'' r'' => k M'' f'' ?_))
        rw [lp_go d (by rw [ex]; exact x0), ex]; exact r''
      have st : opO T n s = 0 → Q M := fun q => k M f0 (by rw [lp_no (d + 1) q]; exact hr)
      exact c_isWord ht 22 (by decide) (fun q => k_no (by decide) (go 11 10008 (by unfold opO; rw [if_pos q]) (by decide) (by decide) (op_k1 (by omega)))) (fun q => k_yes rfl (st (by unfold opO; rw [if_neg q])))
theorem c_lpA {T : Nat → Nat} {n tk pa L o : Nat} {rc : Nat → Int32 → pm → (pm → Prop) → Prop} {g : ts → rs (List Nat)} (hp : pOk pa) (hrc : hRC T n tk pa rc 2 o g) (hg : hGC n g) {M0 : pm} (he : eC M0 tk) {Q : pm → Prop} : ∀ (d m i : Nat) (M : pm) (r : rs (List Nat)), i + d = 1600 → d < m → fG (fR pa) M0 M → rdP M0 M T n pa L r → (∀ c s, r = .inr (c, s) → L + c.length ≤ s.1 ∧ s.1 ≤ n) → (∀ M', fG (fR pa) M0 M' → rdP M0 M' T n pa L (lp (opA T n) (tX T n) g d r) → Q M') → w_X3_readBoth_7 rc m (nI o) (nI i) M Q := by
  intro d
  induction d with
  | zero =>
    intro m i M r hi hm f0 hr hl k
    obtain ⟨m, rfl⟩ : ∃ m', m = m' + 1 := ⟨m - 1, by omega⟩
    unfold w_X3_readBoth_7
    exact k_yes (nI_le (a := 1600) (by omega) (by omega)) (k M f0 hr)
  | succ d ih =>
    intro m i M r hi hm f0 hr hl k
    obtain ⟨m, rfl⟩ : ∃ m', m = m' + 1 := ⟨m - 1, by omega⟩
    unfold w_X3_readBoth_7
    refine k_no (nI_ge (b := 1600) (by omega) (by decide)) ?_
    match r, hr, hl, k with
    | .inl e, hr, hl, k => exact c_isWordS hr.1 (k_yes rfl (k M f0 hr))
    | .inr (c, s), hr, hl, k =>
      have ht : tkC M T n s := hr.1
      have hd : pD M0 M pa L c := hr.2
      obtain ⟨l1, l2⟩ := hl c s rfl
      have go : ∀ (x : Nat) (t0 : Int32), opA T n s = x → x ≠ 0 → t0 = clc x → s.1 < (tX T n s).1 → w_X6_take M (fun M12 => rc 2 (nI o) M12 (fun M15 => ¬ (mR M15 5 2) = 0 ∧ (w_X2_add (mR M15 5 2) t0 M15 (fun M19 => w_X3_readBoth_7 rc m (nI o) (nI i + 1) M19 Q)))) := by
        intro x t0 ex x0 et hgt
        rw [nI_1]
        refine c_step hp hrc hg f0 he ht hd l1 hgt et (fun M' f' r' => ih m (i + 1) M' _ (by omega) (by omega) f' r' (rB_len (by omega) (fun c2 s2 h2 => hg _ c2 s2 (tX_le l2) h2)) (fun M'' f'' r'' => k M'' f'' ?_))
        rw [lp_go d (by rw [ex]; exact x0), ex]; exact r''
      have st : opA T n s = 0 → Q M := fun q => k M f0 (by rw [lp_no (d + 1) q]; exact hr)
      exact c_isWord ht 23 (by decide) (fun q => k_no (by decide) (go 10 10007 (by unfold opA; rw [if_pos q]) (by decide) (by decide) (op_k1 (by omega)))) (fun q => k_yes rfl (st (by unfold opA; rw [if_neg q])))
theorem c_lpS {T : Nat → Nat} {n tk pa L o : Nat} {rc : Nat → Int32 → pm → (pm → Prop) → Prop} {g : ts → rs (List Nat)} (hp : pOk pa) (hrc : hRC T n tk pa rc 4 o g) (hg : hGC n g) {M0 : pm} (he : eC M0 tk) {Q : pm → Prop} : ∀ (d m i : Nat) (M : pm) (r : rs (List Nat)), i + d = 1600 → d < m → fG (fR pa) M0 M → rdP M0 M T n pa L r → (∀ c s, r = .inr (c, s) → L + c.length ≤ s.1 ∧ s.1 ≤ n) → (∀ M', fG (fR pa) M0 M' → rdP M0 M' T n pa L (lp (opS T n) (tX T n) g d r) → Q M') → w_X3_readSum_7 rc m (nI o) (nI i) M Q := by
  intro d
  induction d with
  | zero =>
    intro m i M r hi hm f0 hr hl k
    obtain ⟨m, rfl⟩ : ∃ m', m = m' + 1 := ⟨m - 1, by omega⟩
    unfold w_X3_readSum_7
    exact k_yes (nI_le (a := 1600) (by omega) (by omega)) (k M f0 hr)
  | succ d ih =>
    intro m i M r hi hm f0 hr hl k
    obtain ⟨m, rfl⟩ : ∃ m', m = m' + 1 := ⟨m - 1, by omega⟩
    unfold w_X3_readSum_7
    refine k_no (nI_ge (b := 1600) (by omega) (by decide)) ?_
    match r, hr, hl, k with
    | .inl e, hr, hl, k => exact c_isSignS hr.1 (k_yes' rfl (c_isSignS hr.1 (k_yes rfl (k M f0 hr))))
    | .inr (c, s), hr, hl, k =>
      have ht : tkC M T n s := hr.1
      have hd : pD M0 M pa L c := hr.2
      obtain ⟨l1, l2⟩ := hl c s rfl
      have go : ∀ (x : Nat) (t0 : Int32), opS T n s = x → x ≠ 0 → t0 = clc x → s.1 < (tX T n s).1 → w_X6_take M (fun M12 => rc 4 (nI o) M12 (fun M15 => ¬ (mR M15 5 2) = 0 ∧ (w_X2_add (mR M15 5 2) t0 M15 (fun M19 => w_X3_readSum_7 rc m (nI o) (nI i + 1) M19 Q)))) := by
        intro x t0 ex x0 et hgt
        rw [nI_1]
        refine c_step hp hrc hg f0 he ht hd l1 hgt et (fun M' f' r' => ih m (i + 1) M' _ (by omega) (by omega) f' r' (rB_len (by omega) (fun c2 s2 h2 => hg _ c2 s2 (tX_le l2) h2)) (fun M'' f'' r'' => k M'' f'' ?_))
        rw [lp_go d (by rw [ex]; exact x0), ex]; exact r''
      have st : opS T n s = 0 → Q M := fun q => k M f0 (by rw [lp_no (d + 1) q]; exact hr)
      have n4345 : tS T n s = 45 → ¬ tS T n s = 43 := fun q => by omega
      exact c_isSign ht 43 (by decide) (by decide) (fun q => k_no' (by decide) (c_isSign ht 43 (by decide) (by decide) (fun q => k_no (by decide) (go 1 10000 (by unfold opS; rw [if_pos q]) (by decide) (by decide) (op_k3 (by decide) q))) (fun q2 => absurd q q2))) (fun q1 => k_yes' rfl (c_isSign ht 45 (by decide) (by decide) (fun q => k_no (by decide) (c_isSign ht 43 (by decide) (by decide) (fun q2 => absurd q2 q1) (fun q2 => k_yes rfl (go 2 10001 (by unfold opS; rw [if_neg q1, if_pos q]) (by decide) (by decide) (op_k3 (by decide) q))))) (fun q => k_yes rfl (st (by unfold opS; rw [if_neg q1, if_neg q])))))
theorem c_lpP {T : Nat → Nat} {n tk pa L o : Nat} {rc : Nat → Int32 → pm → (pm → Prop) → Prop} {g : ts → rs (List Nat)} (hp : pOk pa) (hrc : hRC T n tk pa rc 5 o g) (hg : hGC n g) {M0 : pm} (he : eC M0 tk) {Q : pm → Prop} : ∀ (d m i : Nat) (M : pm) (r : rs (List Nat)), i + d = 1600 → d < m → fG (fR pa) M0 M → rdP M0 M T n pa L r → (∀ c s, r = .inr (c, s) → L + c.length ≤ s.1 ∧ s.1 ≤ n) → (∀ M', fG (fR pa) M0 M' → rdP M0 M' T n pa L (lp (opP T n) (tX T n) g d r) → Q M') → w_X3_readProduct_7 rc m (nI o) (nI i) M Q := by
  intro d
  induction d with
  | zero =>
    intro m i M r hi hm f0 hr hl k
    obtain ⟨m, rfl⟩ : ∃ m', m = m' + 1 := ⟨m - 1, by omega⟩
    unfold w_X3_readProduct_7
    exact k_yes (nI_le (a := 1600) (by omega) (by omega)) (k M f0 hr)
  | succ d ih =>
    intro m i M r hi hm f0 hr hl k
    obtain ⟨m, rfl⟩ : ∃ m', m = m' + 1 := ⟨m - 1, by omega⟩
    unfold w_X3_readProduct_7
    refine k_no (nI_ge (b := 1600) (by omega) (by decide)) ?_
    match r, hr, hl, k with
    | .inl e, hr, hl, k => exact c_isSignS hr.1 (k_yes' rfl (c_isSignS hr.1 (k_yes rfl (k M f0 hr))))
    | .inr (c, s), hr, hl, k =>
      have ht : tkC M T n s := hr.1
      have hd : pD M0 M pa L c := hr.2
      obtain ⟨l1, l2⟩ := hl c s rfl
      have go : ∀ (x : Nat) (t0 : Int32), opP T n s = x → x ≠ 0 → t0 = clc x → s.1 < (tX T n s).1 → w_X6_take M (fun M12 => rc 5 (nI o) M12 (fun M15 => ¬ (mR M15 5 2) = 0 ∧ (w_X2_add (mR M15 5 2) t0 M15 (fun M19 => w_X3_readProduct_7 rc m (nI o) (nI i + 1) M19 Q)))) := by
        intro x t0 ex x0 et hgt
        rw [nI_1]
        refine c_step hp hrc hg f0 he ht hd l1 hgt et (fun M' f' r' => ih m (i + 1) M' _ (by omega) (by omega) f' r' (rB_len (by omega) (fun c2 s2 h2 => hg _ c2 s2 (tX_le l2) h2)) (fun M'' f'' r'' => k M'' f'' ?_))
        rw [lp_go d (by rw [ex]; exact x0), ex]; exact r''
      have st : opP T n s = 0 → Q M := fun q => k M f0 (by rw [lp_no (d + 1) q]; exact hr)
      have n4247 : tS T n s = 47 → ¬ tS T n s = 42 := fun q => by omega
      exact c_isSign ht 42 (by decide) (by decide) (fun q => k_no' (by decide) (c_isSign ht 42 (by decide) (by decide) (fun q => k_no (by decide) (go 3 10002 (by unfold opP; rw [if_pos q]) (by decide) (by decide) (op_k3 (by decide) q))) (fun q2 => absurd q q2))) (fun q1 => k_yes' rfl (c_isSign ht 47 (by decide) (by decide) (fun q => k_no (by decide) (c_isSign ht 42 (by decide) (by decide) (fun q2 => absurd q2 q1) (fun q2 => k_yes rfl (go 4 10003 (by unfold opP; rw [if_neg q1, if_pos q]) (by decide) (by decide) (op_k3 (by decide) q))))) (fun q => k_yes rfl (st (by unfold opP; rw [if_neg q1, if_neg q])))))
