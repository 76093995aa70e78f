/-! the heap's rows: fields, arrays, what is made -/
theorem ent_row {g : pgh} {M M' : pm} {b : Nat} (h1 : mI M' b = mI M b) (h2 : mJ M' b = mJ M b) (h3 : mR M' b = mR M b) : ent g M' b = ent g M b := by
  have hf : ∀ ci, fv g M' b ci = fv g M b ci := fun ci => by
    funext k
    unfold fv
    rw [congrFun h1 k, congrFun h2 k, congrFun h3 k]
  unfold ent
  rw [hf, h1, h2, h3]
theorem mI_off {M : pm} {a k : Nat} {v : Int32} {b : Nat} (h : b ≠ a) : mI (sI M a k v) b = mI M b := by
  funext j
  rw [mI_sI, if_neg (fun q => h q.1)]
theorem mJ_off {M : pm} {a k : Nat} {v : Int64} {b : Nat} (h : b ≠ a) : mJ (sJ M a k v) b = mJ M b := by
  funext j
  rw [mJ_sJ, if_neg (fun q => h q.1)]
theorem mR_off {M : pm} {a k v : Nat} {b : Nat} (h : b ≠ a) : mR (sR M a k v) b = mR M b := by
  funext j
  rw [mR_sR, if_neg (fun q => h q.1)]
theorem ent_sI {g : pgh} {M : pm} {a k : Nat} {v : Int32} {b : Nat} (h : b ≠ a) : ent g (sI M a k v) b = ent g M b := ent_row (mI_off h) rfl rfl
theorem ent_sJ {g : pgh} {M : pm} {a k : Nat} {v : Int64} {b : Nat} (h : b ≠ a) : ent g (sJ M a k v) b = ent g M b := ent_row rfl (mJ_off h) rfl
theorem ent_sR {g : pgh} {M : pm} {a k v : Nat} {b : Nat} (h : b ≠ a) : ent g (sR M a k v) b = ent g M b := ent_row rfl rfl (mR_off h)
/-- an object of class ci; an array of kind kd -/
def pOb (M : pm) (a ci : Nat) : Prop := 3 ≤ a ∧ a < mN M + 3 ∧ (lay a).1 = ci ∧ ci < 9
def pAr (M : pm) (a kd : Nat) : Prop := 3 ≤ a ∧ a < mN M + 3 ∧ (lay a).1 = kd
def pLF (own : String) (idx ci k : Nat) : Prop := Cond.fieldLink own idx ((pT ci).2.1 k).1 ((pT ci).2.1 k).2.1 ((pT ci).2.1 k).2.2.1 ∈ pBig ∨ ∃ h, Cond.fieldLinkNest own idx ((pT ci).2.1 k).1 ((pT ci).2.1 k).2.1 ((pT ci).2.1 k).2.2.1 h ∈ pnest
theorem ad_ge (g : pgh) {a : Nat} (h : 3 ≤ a) : ad g a = gO g + (a - 3) := by unfold ad; rw [if_neg (by omega)]
theorem pOb_ent {g : pgh} {M : pm} {a ci : Nat} (h : pOb M a ci) : ent g M a = .inr (ci, (List.range (pT ci).2.2).map (fv g M a ci)) := by
  obtain ⟨-, -, h1, h2⟩ := h
  unfold ent
  rw [h1, if_pos h2]
theorem pOb_get {g : pgh} {M : pm} {a ci : Nat} (h : pOb M a ci) : (mw g M)[a - 3]? = some (ad g a, .inr (ci, (List.range (pT ci).2.2).map (fv g M a ci))) := by
  rw [mw_get (by have := h.1; have := h.2.1; omega), show a - 3 + 3 = a by have := h.1; omega, pOb_ent h, ad_ge g h.1]
theorem pAr_get {g : pgh} {M : pm} {a kd : Nat} (h : pAr M a kd) : (mw g M)[a - 3]? = some (ad g a, ent g M a) := by
  rw [mw_get (by have := h.1; have := h.2.1; omega), show a - 3 + 3 = a by have := h.1; omega, ad_ge g h.1]
theorem pAr_entI {g : pgh} {M : pm} {a kd : Nat} (h : pAr M a kd) (h1 : ¬ kd < 9) (h2 : ¬ kd = 12) (h3 : kd < 14) : ent g M a = .inl (gY g kd, (lay a).2, .inl (mI M a)) := by
  unfold ent
  rw [h.2.2, if_neg h1, if_neg h2, if_pos h3]
theorem pAr_entJ {g : pgh} {M : pm} {a : Nat} (h : pAr M a 12) : ent g M a = .inl (gY g 12, (lay a).2, .inr (.inl (mJ M a))) := by
  unfold ent
  rw [h.2.2, if_neg (by decide), if_pos rfl]
theorem pAr_entR {g : pgh} {M : pm} {a kd : Nat} (h : pAr M a kd) (h1 : ¬ kd < 14) : ent g M a = .inl (gY g kd, (lay a).2, .inr (.inr (.inr (.inr (fun i => ro g (mR M a i)))))) := by
  unfold ent
  rw [h.2.2, if_neg (by omega), if_neg (by omega), if_neg h1]
theorem vpV_map {g : pgh} {M : pm} {a ci N j : Nat} (h : j < N) : vp_V ((List.range N).map (fv g M a ci)) j = fv g M a ci j := by
  unfold vp_V
  rw [List.getD_eq_getElem?_getD, List.getElem?_map, List.getElem?_range h]
  rfl
theorem pE.upd {nL lim CE SE : Nat} {g : pgh} {s : State} {M M' : pm} {ls : List Value} {H H1 : Heap} {locs : List Loc} {cells slots : Nat} {lsA : Array Slot} (E : pE nL lim CE SE g s M ls H locs cells slots lsA) {a j : Nat} (h3 : 3 ≤ a) (ha : a < mN M + 3) (hn : mN M' = mN M) (hL : mL M' = mL M) (h1 : mI M' 1 = mI M 1) (ho : ∀ b, b ≠ a → ent g M' b = ent g M b)
    (hat : va_at (gD g) pcl (ad g a, ent g M' a) H1) (z : H1.size = H.size) (oq : ∀ q, q ≠ ad g a → H1[q]? = H[q]?) : pE nL lim CE SE g s M' ls H1 (locs ++ [⟨ad g a, j⟩]) cells slots lsA := by
  obtain ⟨E1, E2, E3, E4, E5, E6⟩ := E
  have had := ad_ge g h3
  refine ⟨by rw [hn]; exact E1, by rw [z, hn]; exact E2, fun k q hq => ?_, by rw [hL, h1]; exact E4, E5.put z oq (by rw [had]; exact Nat.le_add_right _ _), E6⟩
  obtain ⟨hk, rfl⟩ := mw_of hq
  rw [hn] at hk
  by_cases e : k = a - 3
  · subst e
    rw [show a - 3 + 3 = a by omega, ← had]
    exact hat
  · rw [ho (k + 3) (by omega)]
    refine (E3 k _ (mw_get hk)).kept (oq _ ?_)
    show gO g + k ≠ ad g a
    omega
section HR
variable {m : pmt} {d lim pc : Nat} {ls st : List Value} {M : pm} {Q : Option Value → pm → Prop}
theorem pw_get {p : Program} {l : Launch} {e : Env} {R : Room} {s : State} {mi : MethodId} {args : Array Value} {below : List Frame} {meth : Method} {c : Code} {CE SE : Nat} {Qf : State → Prop} {g : pgh} {H : Heap} {locs : List Loc} {cells slots : Nat} {lsA : Array Slot} (C : pC m d lim Q p l e R s mi args below meth c CE SE Qf g) (E : pE m.2.2.1 lim CE SE g s M ls H locs cells slots lsA)
    {a ci k idx : Nat} {rest : List Value} {v : Value} (hd : decode m.2.1 pc = .ok (.getfield idx, 3)) (hl : pLF m.1.cls idx ci k) (ha : pOb M a ci) (hk : k < (pT ci).2.2) (hv : fv g M a ci k = v) (kk : W p l e R s mi args below meth c H locs cells slots Qf (F0 mi (pc + 3) lsA (v :: rest))) : W p l e R s mi args below meth c H locs cells slots Qf (F0 mi pc lsA (.ref (ad g a) :: rest)) := by
  have hx : ((List.range (pT ci).2.2).map (fv g M a ci))[k]? = some v := by
    rw [List.getElem?_map, List.getElem?_range hk, ← hv]
    rfl
  rcases hl with hl | ⟨h, hl⟩
  · exact va_get C.1 C.2.1 C.2.2.2.2.2.2.1 (pT_in ci ha.2.2.2) C.2.2.2.2.1 C.2.2.2.2.2.2.2.2.1.1 E.2.2.1 (a - 3) (pOb_get ha) (pT_cl ci ha.2.2.2) k hk (C.2.2.2.2.2.2.1 _ hl) (fun _ h => h) hx hd kk
  · exact va_getN (host := h) C.1 C.2.1 C.2.2.2.2.2.2.1 (pT_in ci ha.2.2.2) C.2.2.2.2.1 C.2.2.2.2.2.2.2.2.1.1 E.2.2.1 (a - 3) (pOb_get ha) (pT_cl ci ha.2.2.2) k hk (va_Nw.use rfl (C.2.2.2.2.2.2.2.2.1.2.1 _ hl)) (fun _ h => h) hx hd kk
theorem PW.getI {a ci k idx : Nat} (hd : decode m.2.1 pc = .ok (.getfield idx, 3)) (hl : pLF m.1.cls idx ci k) (ha : pOb M a ci) (hk : k < (pT ci).2.2 ∧ fk (pty ci k) = 0) (kk : PW m d lim (pc + 3) ls (.int (mI M a k) :: st) M Q) : PW m d lim pc ls (.ref a :: st) M Q :=
  fun p l e R s mi args below meth c CE SE Qf g H locs cells slots lsA C E => pw_get C E hd hl ha hk.1 (by unfold fv; rw [hk.2]; rfl) (kk p l e R s mi args below meth c CE SE Qf g H locs cells slots lsA C E)
theorem PW.getJ {a ci k idx : Nat} (hd : decode m.2.1 pc = .ok (.getfield idx, 3)) (hl : pLF m.1.cls idx ci k) (ha : pOb M a ci) (hk : k < (pT ci).2.2 ∧ fk (pty ci k) = 1) (kk : PW m d lim (pc + 3) ls (.long (mJ M a k) :: st) M Q) : PW m d lim pc ls (.ref a :: st) M Q :=
  fun p l e R s mi args below meth c CE SE Qf g H locs cells slots lsA C E => pw_get C E hd hl ha hk.1 (by unfold fv; rw [hk.2]; rfl) (kk p l e R s mi args below meth c CE SE Qf g H locs cells slots lsA C E)
theorem ro_ref (g : pgh) {r : Nat} (h : r ≠ 0) : va_rf (ro g r) = .ref (ad g r) := by unfold ro; rw [if_neg h]; rfl
theorem PW.getR {a ci k idx r : Nat} (hd : decode m.2.1 pc = .ok (.getfield idx, 3)) (hl : pLF m.1.cls idx ci k) (ha : pOb M a ci) (hk : k < (pT ci).2.2 ∧ fk (pty ci k) = 2) (hr : mR M a k = r) (h0 : r ≠ 0) (kk : PW m d lim (pc + 3) ls (.ref r :: st) M Q) : PW m d lim pc ls (.ref a :: st) M Q :=
  fun p l e R s mi args below meth c CE SE Qf g H locs cells slots lsA C E => pw_get C E hd hl ha hk.1 (by unfold fv; rw [hk.2, hr]; exact ro_ref g h0) (kk p l e R s mi args below meth c CE SE Qf g H locs cells slots lsA C E)
/-- which fields may be written here -/
def pWr (m : pmt) (ci k : Nat) : Prop := ((pT ci).2.1 k).2.2.2 = false ∨ (((pT ci).2.1 k).2.2.2 = true ∧ m.1.name = "<init>" ∧ ((pT ci).2.1 k).1 = m.1.cls)
theorem pw_put {p : Program} {l : Launch} {e : Env} {R : Room} {s : State} {mi : MethodId} {args : Array Value} {below : List Frame} {meth : Method} {c : Code} {CE SE : Nat} {Qf : State → Prop} {g : pgh} {H : Heap} {locs : List Loc} {cells slots : Nat} {lsA : Array Slot} (C : pC m d lim Q p l e R s mi args below meth c CE SE Qf g) (E : pE m.2.2.1 lim CE SE g s M ls H locs cells slots lsA)
    {a ci k idx : Nat} {rest : List Value} {v : Value} {M' : pm} (hd : decode m.2.1 pc = .ok (.putfield idx, 3)) (hl : pLF m.1.cls idx ci k) (ha : pOb M a ci) (hk : k < (pT ci).2.2) (hw : pWr m ci k) (hn : narrow (pty ci k) v = v) (hfit : fits (pty ci k) v = true) (eN : mN M' = mN M) (eL : mL M' = mL M) (e1 : mI M' 1 = mI M 1) (ho : ∀ b, b ≠ a → ent g M' b = ent g M b) (hs : ∀ j, j < (pT ci).2.2 → fv g M' a ci j = if j = k then v else fv g M a ci j)
    (kk : ∀ (H1 : Heap) (locs1 : List Loc), pE m.2.2.1 lim CE SE g s M' ls H1 locs1 cells slots lsA → W p l e R s mi args below meth c H1 locs1 cells slots Qf (F0 mi (pc + 3) lsA rest)) : W p l e R s mi args below meth c H locs cells slots Qf (F0 mi pc lsA (v :: .ref (ad g a) :: rest)) := by
  have hts := C.2.2.2.2.2.2.1
  have hin := pT_in ci ha.2.2.2
  have hK := C.2.2.2.2.2.2.2.2.1.1
  have hc := pT_cl ci ha.2.2.2
  have hty := pT_ty ci ha.2.2.2
  have hap := va_apart (own := m.1.cls) hts hin (pty ci) hty (pT_nm ci ha.2.2.2) hK hc
  obtain ⟨r, h1, cell, q1, q2, q3, q4⟩ := E.2.2.1 (a - 3) _ (pOb_get ha)
  have hr : r = pT ci := Option.some.inj (h1.symm.trans hc)
  subst hr
  obtain ⟨hS, hfc, kC, hkC, hkind⟩ := hK.1 ci _ hc
  obtain ⟨cf, kf, fi, f, hi, hsl⟩ := hS k hk
  have hst := (u_facts hfc hkC (u_lays hts hin hk) hi).1
  have fin : ∀ (H' : Heap), H'[ad g a]? = some (cell.setSlot f.slot v) → H'.size = H.size → (∀ q, q ≠ ad g a → H'[q]? = H[q]?) → W p l e R s mi args below meth c H' (locs ++ [⟨ad g a, f.slot⟩]) cells slots Qf (F0 mi (pc + 3) lsA rest) := by
    intro H' x1 x2 x3
    refine kk H' _ (E.upd ha.1 ha.2.1 eN eL e1 ho ?_ x2 x3)
    rw [pOb_ent (M := M') (a := a) (ci := ci) ⟨ha.1, by rw [eN]; exact ha.2.1, ha.2.2⟩]
    refine ⟨_, hc, ?_⟩
    rw [hsl] at x1
    refine t_OB.to (V := updV (vp_V ((List.range (pT ci).2.2).map (fv g M a ci))) k v) ⟨_, x1, q2, q3, t_set q4 hap hk v⟩ (fun j hj => ?_)
    rw [vpV_map hj, hs j hj]
    unfold updV
    by_cases e : j = k
    · rw [if_pos e, if_pos e]
    · rw [if_neg e, if_neg e, vpV_map hj]
  have hlt : f.slot < cell.slots.size := by rw [hsl]; exact k2_hasslot (q4 k hk)
  have hlay := hts _ (hin _ (u_in_lay hk))
  rcases hw with hw | ⟨hw, hw2, hw3⟩
  · unfold u_lay at hlay
    rw [if_neg (by rw [hw]; decide)] at hlay
    have h6 := u_store hfc hkC hkind hlay hi (hty k hk) hn hfit
    rcases hl with hl | ⟨hh, hl⟩
    · exact W.putK C.1 C.2.1 (f := f) ⟨C.2.2.2.2.1, hts _ hl, ⟨_, _, _, hi⟩, hst⟩ (by rw [q2]; exact h6) q1 q3 hlt rfl rfl hd fin
    · exact va_WputK (host := hh) C.1 C.2.1 (f := f) C.2.2.2.2.1 (va_Nw.use rfl (C.2.2.2.2.2.2.2.2.1.2.1 _ hl)) hi hst (by rw [q2]; exact h6) q1 q3 hlt rfl rfl hd fin
  · unfold u_lay at hlay
    rw [if_pos hw] at hlay
    have hcf : mi.cls = cf := by
      obtain ⟨_, _, c', _, _, _, -, -, hf', -, -, -, hown2, -⟩ := Cond.laysFinal_spec hlay
      have e1 : c' = cf := by have := hi.symm.trans hf'; simp at this; exact this.1.symm
      rw [hw3] at hown2
      rw [← e1]; exact Option.some.inj (C.2.2.2.2.1.symm.trans hown2)
    have h6 := u_fits hfc hkC hkind (Or.inr hlay) hi (hty k hk) hn hfit
    have hnm : meth.name = "<init>" := C.2.2.2.2.2.1.trans hw2
    rcases hl with hl | ⟨hh, hl⟩
    · exact W.putFinK C.1 C.2.1 C.2.2.2.2.1 (hts _ hl) hi hst hcf hnm (by rw [q2]; exact h6) q1 q3 hlt rfl rfl hd fin
    · refine va_Wputf (host := hh) C.1 C.2.1 C.2.2.2.2.1 (va_Nw.use rfl (C.2.2.2.2.2.2.2.2.1.2.1 _ hl)) hi hst (Or.inr ⟨hcf, hnm⟩) q1 (by rw [q3]; exact fun h => by cases h) hlt h6.1 (by rw [q3, q2]; exact h6.2) rfl rfl hd (fin _ ?_ ?_ ?_)
      · have := (Array.getElem?_eq_some_iff.mp q1).1
        simp [Array.getElem?_setIfInBounds, this]
      · simp
      · intro q hq
        simp [Array.getElem?_setIfInBounds, Ne.symm hq]
theorem PW.putI {a ci k idx : Nat} {x : Int32} (hd : decode m.2.1 pc = .ok (.putfield idx, 3)) (hl : pLF m.1.cls idx ci k) (ha : pOb M a ci) (hk : k < (pT ci).2.2 ∧ fk (pty ci k) = 0) (hw : pWr m ci k) (hn : narrow (pty ci k) (.int x) = .int x) (hf : fits (pty ci k) (.int x) = true) (kk : PW m d lim (pc + 3) ls st (sI M a k x) Q) : PW m d lim pc ls (.int x :: .ref a :: st) M Q :=
  fun p l e R s mi args below meth c CE SE Qf g H locs cells slots lsA C E => pw_put (M' := sI M a k x) C E hd hl ha hk.1 hw hn hf rfl rfl (mI_off (by have := ha.1; omega)) (fun b hb => ent_sI hb) (fun j hj => by
    by_cases e : j = k
    · subst e
      rw [if_pos rfl]
      unfold fv
      rw [hk.2]
      show Value.int (mI (sI M a j x) a j) = _
      rw [mI_sI, if_pos ⟨rfl, rfl⟩]
      rfl
    · rw [if_neg e]
      unfold fv
      rw [mI_sI, if_neg (fun q => e q.2)]
      rfl) (fun H1 locs1 E1 => kk p l e R s mi args below meth c CE SE Qf g H1 locs1 cells slots lsA C E1)
theorem PW.putJ {a ci k idx : Nat} {x : Int64} (hd : decode m.2.1 pc = .ok (.putfield idx, 3)) (hl : pLF m.1.cls idx ci k) (ha : pOb M a ci) (hk : k < (pT ci).2.2 ∧ fk (pty ci k) = 1) (hw : pWr m ci k) (hn : narrow (pty ci k) (.long x) = .long x) (hf : fits (pty ci k) (.long x) = true) (kk : PW m d lim (pc + 3) ls st (sJ M a k x) Q) : PW m d lim pc ls (.long x :: .ref a :: st) M Q :=
  fun p l e R s mi args below meth c CE SE Qf g H locs cells slots lsA C E => pw_put (M' := sJ M a k x) C E hd hl ha hk.1 hw hn hf rfl rfl rfl (fun b hb => ent_sJ hb) (fun j hj => by
    by_cases e : j = k
    · subst e
      rw [if_pos rfl]
      unfold fv
      rw [hk.2]
      show Value.long (mJ (sJ M a j x) a j) = _
      rw [mJ_sJ, if_pos ⟨rfl, rfl⟩]
      rfl
    · rw [if_neg e]
      unfold fv
      rw [mJ_sJ, if_neg (fun q => e q.2)]
      rfl) (fun H1 locs1 E1 => kk p l e R s mi args below meth c CE SE Qf g H1 locs1 cells slots lsA C E1)
theorem PW.putR {a ci k idx r : Nat} (hd : decode m.2.1 pc = .ok (.putfield idx, 3)) (hl : pLF m.1.cls idx ci k) (ha : pOb M a ci) (hk : k < (pT ci).2.2 ∧ fk (pty ci k) = 2) (hw : pWr m ci k) (hn : ∀ q, narrow (pty ci k) (.ref q) = .ref q) (hf : ∀ q, fits (pty ci k) (.ref q) = true) (h0 : r ≠ 0) (kk : PW m d lim (pc + 3) ls st (sR M a k r) Q) : PW m d lim pc ls (.ref r :: .ref a :: st) M Q :=
  fun p l e R s mi args below meth c CE SE Qf g H locs cells slots lsA C E => pw_put (M' := sR M a k r) C E hd hl ha hk.1 hw (hn _) (hf _) rfl rfl rfl (fun b hb => ent_sR hb) (fun j hj => by
    by_cases e : j = k
    · subst e
      rw [if_pos rfl]
      unfold fv
      rw [hk.2]
      show va_rf (ro g (mR (sR M a j r) a j)) = _
      rw [mR_sR, if_pos ⟨rfl, rfl⟩]
      exact ro_ref g h0
    · rw [if_neg e]
      unfold fv
      rw [mR_sR, if_neg (fun q => e q.2)]
      rfl) (fun H1 locs1 E1 => kk p l e R s mi args below meth c CE SE Qf g H1 locs1 cells slots lsA C E1)
end HR
