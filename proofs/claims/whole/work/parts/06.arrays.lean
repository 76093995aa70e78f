/-! arrays, and what is made -/
section AR
variable {m : pmt} {d lim pc : Nat} {ls st : List Value} {M : pm} {Q : Option Value → pm → Prop}
theorem PW.iald {a : Nat} {i : Int32} (hd : decode m.2.1 pc = .ok (.iaload, 1)) (ha : pAr M a 11) (hi : vp_in i (lay a).2) (kk : PW m d lim (pc + 1) ls (.int (mI M a i.toNatClampNeg) :: st) M Q) : PW m d lim pc ls (.int i :: .ref a :: st) M Q :=
  fun p l e R s mi args below meth c CE SE Qf g H locs cells slots lsA C E => va_iald C.1 C.2.1 C.2.2.2.2.2.2.2.2.1.1 E.2.2.1 (a - 3) 2 (by rw [pAr_get ha, pAr_entI ha (by decide) (by decide) (by decide)]) rfl hi hd (kk p l e R s mi args below meth c CE SE Qf g H locs cells slots lsA C E)
theorem PW.bald {a : Nat} {i : Int32} (hd : decode m.2.1 pc = .ok (.baload, 1)) (ha : pAr M a 9) (hi : vp_in i (lay a).2) (kk : PW m d lim (pc + 1) ls (.int (mI M a i.toNatClampNeg) :: st) M Q) : PW m d lim pc ls (.int i :: .ref a :: st) M Q :=
  fun p l e R s mi args below meth c CE SE Qf g H locs cells slots lsA C E => va_bald C.1 C.2.1 C.2.2.2.2.2.2.2.2.1.1 E.2.2.1 (a - 3) 0 (by rw [pAr_get ha, pAr_entI ha (by decide) (by decide) (by decide)]) rfl hi hd (kk p l e R s mi args below meth c CE SE Qf g H locs cells slots lsA C E)
theorem PW.zald {a : Nat} {i : Int32} (hd : decode m.2.1 pc = .ok (.baload, 1)) (ha : pAr M a 13) (hi : vp_in i (lay a).2) (kk : PW m d lim (pc + 1) ls (.int (mI M a i.toNatClampNeg) :: st) M Q) : PW m d lim pc ls (.int i :: .ref a :: st) M Q :=
  fun p l e R s mi args below meth c CE SE Qf g H locs cells slots lsA C E => va_zald C.1 C.2.1 C.2.2.2.2.2.2.2.2.1.1 E.2.2.1 (a - 3) 4 (by rw [pAr_get ha, pAr_entI ha (by decide) (by decide) (by decide)]) rfl hi hd (kk p l e R s mi args below meth c CE SE Qf g H locs cells slots lsA C E)
theorem PW.cald {a : Nat} {i : Int32} (hd : decode m.2.1 pc = .ok (.caload, 1)) (ha : pAr M a 10) (hi : vp_in i (lay a).2) (kk : PW m d lim (pc + 1) ls (.int (mI M a i.toNatClampNeg) :: st) M Q) : PW m d lim pc ls (.int i :: .ref a :: st) M Q :=
  fun p l e R s mi args below meth c CE SE Qf g H locs cells slots lsA C E => va_cald C.1 C.2.1 C.2.2.2.2.2.2.2.2.1.1 E.2.2.1 (a - 3) 1 (by rw [pAr_get ha, pAr_entI ha (by decide) (by decide) (by decide)]) rfl hi hd (kk p l e R s mi args below meth c CE SE Qf g H locs cells slots lsA C E)
theorem PW.lald {a : Nat} {i : Int32} (hd : decode m.2.1 pc = .ok (.laload, 1)) (ha : pAr M a 12) (hi : vp_in i (lay a).2) (kk : PW m d lim (pc + 1) ls (.long (mJ M a i.toNatClampNeg) :: st) M Q) : PW m d lim pc ls (.int i :: .ref a :: st) M Q :=
  fun p l e R s mi args below meth c CE SE Qf g H locs cells slots lsA C E => va_lald C.1 C.2.1 C.2.2.2.2.2.2.2.2.1.1 E.2.2.1 (a - 3) 3 (by rw [pAr_get ha, pAr_entJ ha]) rfl hi hd (kk p l e R s mi args below meth c CE SE Qf g H locs cells slots lsA C E)
theorem PW.aaldS {a r : Nat} {i : Int32} (hd : decode m.2.1 pc = .ok (.aaload, 1)) (ha : pAr M a 14) (hi : vp_in i (lay a).2) (hr : mR M a i.toNatClampNeg = r) (h0 : r ≠ 0) (kk : PW m d lim (pc + 1) ls (.ref r :: st) M Q) : PW m d lim pc ls (.int i :: .ref a :: st) M Q := by
  intro p l e R s mi args below meth c CE SE Qf g H locs cells slots lsA C E
  have hg := pAr_get (g := g) ha
  rw [pAr_entR ha (by decide)] at hg
  have hlt : i.toNatClampNeg < (lay a).2 := Nat.not_le.mp fun q => hi (Or.inr q)
  refine W.aald (v := .ref (ad g r)) (ty := .object RX4) C.1 C.2.1 (E.2.2.1 _ _ hg) ((C.2.2.2.2.2.2.2.2.1.1.2 5 _ rfl).1 (lay a).2 (fun j => va_rf (ro g (mR M a j)))) rfl (fun q => by cases q) (by show ¬ (i < 0 ∨ (arrV _ _ _).slots.size ≤ _); rw [arrV_size]; exact hi) ?_ rfl rfl hd (kk p l e R s mi args below meth c CE SE Qf g H locs cells slots lsA C E)
  show (arrV _ _ _).slots[_]? = _
  rw [arrV_read _ _ hlt]
  show some (va_rf (ro g (mR M a i.toNatClampNeg))) = _
  rw [hr, ro_ref g h0]
theorem PW.aaldA {a r : Nat} {i : Int32} (hd : decode m.2.1 pc = .ok (.aaload, 1)) (ha : pAr M a 15) (hi : vp_in i (lay a).2) (hr : mR M a i.toNatClampNeg = r) (h0 : r ≠ 0) (kk : PW m d lim (pc + 1) ls (.ref r :: st) M Q) : PW m d lim pc ls (.int i :: .ref a :: st) M Q := by
  intro p l e R s mi args below meth c CE SE Qf g H locs cells slots lsA C E
  have hg := pAr_get (g := g) ha
  rw [pAr_entR ha (by decide)] at hg
  have hlt : i.toNatClampNeg < (lay a).2 := Nat.not_le.mp fun q => hi (Or.inr q)
  refine W.aald (v := .ref (ad g r)) (ty := .array .int) C.1 C.2.1 (E.2.2.1 _ _ hg) ((C.2.2.2.2.2.2.2.2.1.1.2 6 _ rfl).1 (lay a).2 (fun j => va_rf (ro g (mR M a j)))) rfl (fun q => by cases q) (by show ¬ (i < 0 ∨ (arrV _ _ _).slots.size ≤ _); rw [arrV_size]; exact hi) ?_ rfl rfl hd (kk p l e R s mi args below meth c CE SE Qf g H locs cells slots lsA C E)
  show (arrV _ _ _).slots[_]? = _
  rw [arrV_read _ _ hlt]
  show some (va_rf (ro g (mR M a i.toNatClampNeg))) = _
  rw [hr, ro_ref g h0]
theorem PW.iast {a : Nat} {i : Int32} {x : Int32} (hd : decode m.2.1 pc = .ok (.iastore, 1)) (ha : pAr M a 11) (hi : vp_in i (lay a).2) (kk : PW m d lim (pc + 1) ls st (sI M a i.toNatClampNeg x) Q) : PW m d lim pc ls (.int x :: .int i :: .ref a :: st) M Q := by
  intro p l e R s mi args below meth c CE SE Qf g H locs cells slots lsA C E
  have hg := pAr_get (g := g) ha
  rw [pAr_entI ha (by decide) (by decide) (by decide)] at hg
  refine W.iast C.1 C.2.1 (E.2.2.1 _ _ hg) ((C.2.2.2.2.2.2.2.2.1.1.2 2 _ rfl).1 (lay a).2 (fun j => .int (mI M a j))) (fun q => by cases q) (by show ¬ (i < 0 ∨ (arrV _ _ _).slots.size ≤ _); rw [arrV_size]; exact hi) rfl rfl hd fun H1 e1 z oq => ?_
  refine kk p l e R s mi args below meth c CE SE Qf g H1 _ cells slots lsA C (E.upd ha.1 ha.2.1 rfl rfl (mI_off (by have := ha.1; omega)) (fun b hb => ent_sI hb) ?_ z oq)
  rw [pAr_entI (M := sI M a i.toNatClampNeg x) ⟨ha.1, ha.2.1, ha.2.2⟩ (by decide) (by decide) (by decide)]
  show H1[ad g a]? = some (vp_cell _ _)
  rw [e1, vp_cell_i, vp_cell_i, arrV_store]
  congr 2
  funext q
  by_cases hq : q = i.toNatClampNeg
  · subst hq
    simp [updV, mI_sI]
  · simp [updV, mI_sI, hq]
theorem PW.bast {a : Nat} {i : Int32} {x : Int32} (hd : decode m.2.1 pc = .ok (.bastore, 1)) (ha : pAr M a 9) (hi : vp_in i (lay a).2) (kk : PW m d lim (pc + 1) ls st (sI M a i.toNatClampNeg (vp_nar .byte x)) Q) : PW m d lim pc ls (.int x :: .int i :: .ref a :: st) M Q := by
  intro p l e R s mi args below meth c CE SE Qf g H locs cells slots lsA C E
  have hg := pAr_get (g := g) ha
  rw [pAr_entI ha (by decide) (by decide) (by decide)] at hg
  refine W.bast C.1 C.2.1 (E.2.2.1 _ _ hg) ((C.2.2.2.2.2.2.2.2.1.1.2 0 _ rfl).1 (lay a).2 (fun j => .int (mI M a j))) (fun q => by cases q) (by show ¬ (i < 0 ∨ (arrV _ _ _).slots.size ≤ _); rw [arrV_size]; exact hi) rfl rfl hd fun H1 e1 z oq => ?_
  refine kk p l e R s mi args below meth c CE SE Qf g H1 _ cells slots lsA C (E.upd ha.1 ha.2.1 rfl rfl (mI_off (by have := ha.1; omega)) (fun b hb => ent_sI hb) ?_ z oq)
  rw [pAr_entI (M := sI M a i.toNatClampNeg (vp_nar .byte x)) ⟨ha.1, ha.2.1, ha.2.2⟩ (by decide) (by decide) (by decide)]
  show H1[ad g a]? = some (vp_cell _ _)
  rw [e1, vp_cell_i, vp_cell_i, arrV_store]
  congr 2
  funext q
  by_cases hq : q = i.toNatClampNeg
  · subst hq
    simp [updV, mI_sI, vp_nar, narrow]
  · simp [updV, mI_sI, hq]
theorem PW.zast {a : Nat} {i : Int32} {x : Int32} (hd : decode m.2.1 pc = .ok (.bastore, 1)) (ha : pAr M a 13) (hi : vp_in i (lay a).2) (kk : PW m d lim (pc + 1) ls st (sI M a i.toNatClampNeg (vp_nar .boolean x)) Q) : PW m d lim pc ls (.int x :: .int i :: .ref a :: st) M Q := by
  intro p l e R s mi args below meth c CE SE Qf g H locs cells slots lsA C E
  have hg := pAr_get (g := g) ha
  rw [pAr_entI ha (by decide) (by decide) (by decide)] at hg
  refine W.zast C.1 C.2.1 (E.2.2.1 _ _ hg) ((C.2.2.2.2.2.2.2.2.1.1.2 4 _ rfl).1 (lay a).2 (fun j => .int (mI M a j))) (fun q => by cases q) (by show ¬ (i < 0 ∨ (arrV _ _ _).slots.size ≤ _); rw [arrV_size]; exact hi) rfl rfl hd fun H1 e1 z oq => ?_
  refine kk p l e R s mi args below meth c CE SE Qf g H1 _ cells slots lsA C (E.upd ha.1 ha.2.1 rfl rfl (mI_off (by have := ha.1; omega)) (fun b hb => ent_sI hb) ?_ z oq)
  rw [pAr_entI (M := sI M a i.toNatClampNeg (vp_nar .boolean x)) ⟨ha.1, ha.2.1, ha.2.2⟩ (by decide) (by decide) (by decide)]
  show H1[ad g a]? = some (vp_cell _ _)
  rw [e1, vp_cell_i, vp_cell_i, arrV_store]
  congr 2
  funext q
  by_cases hq : q = i.toNatClampNeg
  · subst hq
    simp [updV, mI_sI, vp_nar, narrow]
  · simp [updV, mI_sI, hq]
theorem PW.cast {a : Nat} {i : Int32} {x : Int32} (hd : decode m.2.1 pc = .ok (.castore, 1)) (ha : pAr M a 10) (hi : vp_in i (lay a).2) (kk : PW m d lim (pc + 1) ls st (sI M a i.toNatClampNeg (vp_nar .char x)) Q) : PW m d lim pc ls (.int x :: .int i :: .ref a :: st) M Q := by
  intro p l e R s mi args below meth c CE SE Qf g H locs cells slots lsA C E
  have hg := pAr_get (g := g) ha
  rw [pAr_entI ha (by decide) (by decide) (by decide)] at hg
  refine W.cast C.1 C.2.1 (E.2.2.1 _ _ hg) ((C.2.2.2.2.2.2.2.2.1.1.2 1 _ rfl).1 (lay a).2 (fun j => .int (mI M a j))) (fun q => by cases q) (by show ¬ (i < 0 ∨ (arrV _ _ _).slots.size ≤ _); rw [arrV_size]; exact hi) rfl rfl hd fun H1 e1 z oq => ?_
  refine kk p l e R s mi args below meth c CE SE Qf g H1 _ cells slots lsA C (E.upd ha.1 ha.2.1 rfl rfl (mI_off (by have := ha.1; omega)) (fun b hb => ent_sI hb) ?_ z oq)
  rw [pAr_entI (M := sI M a i.toNatClampNeg (vp_nar .char x)) ⟨ha.1, ha.2.1, ha.2.2⟩ (by decide) (by decide) (by decide)]
  show H1[ad g a]? = some (vp_cell _ _)
  rw [e1, vp_cell_i, vp_cell_i, arrV_store]
  congr 2
  funext q
  by_cases hq : q = i.toNatClampNeg
  · subst hq
    simp [updV, mI_sI, vp_nar, narrow]
  · simp [updV, mI_sI, hq]
theorem PW.last {a : Nat} {i : Int32} {x : Int64} (hd : decode m.2.1 pc = .ok (.lastore, 1)) (ha : pAr M a 12) (hi : vp_in i (lay a).2) (kk : PW m d lim (pc + 1) ls st (sJ M a i.toNatClampNeg x) Q) : PW m d lim pc ls (.long x :: .int i :: .ref a :: st) M Q := by
  intro p l e R s mi args below meth c CE SE Qf g H locs cells slots lsA C E
  have hg := pAr_get (g := g) ha
  rw [pAr_entJ ha] at hg
  refine W.last C.1 C.2.1 (E.2.2.1 _ _ hg) ((C.2.2.2.2.2.2.2.2.1.1.2 3 _ rfl).1 (lay a).2 (fun j => .long (mJ M a j))) (fun q => by cases q) (by show ¬ (i < 0 ∨ (arrV _ _ _).slots.size ≤ _); rw [arrV_size]; exact hi) rfl rfl hd fun H1 e1 z oq => ?_
  refine kk p l e R s mi args below meth c CE SE Qf g H1 _ cells slots lsA C (E.upd ha.1 ha.2.1 rfl rfl rfl (fun b hb => ent_sJ hb) ?_ z oq)
  rw [pAr_entJ (M := sJ M a i.toNatClampNeg x) ⟨ha.1, ha.2.1, ha.2.2⟩]
  show H1[ad g a]? = some (vp_cell _ _)
  rw [e1, vp_cell_l, vp_cell_l, arrV_store]
  congr 2
  funext q
  by_cases hq : q = i.toNatClampNeg
  · subst hq
    simp [updV, mJ_sJ]
  · simp [updV, mJ_sJ, hq]
theorem PW.aastS {a r : Nat} {i : Int32} (hd : decode m.2.1 pc = .ok (.aastore, 1)) (ha : pAr M a 14) (hi : vp_in i (lay a).2) (hr : pOb M r 4) (kk : PW m d lim (pc + 1) ls st (sR M a i.toNatClampNeg r) Q) : PW m d lim pc ls (.ref r :: .int i :: .ref a :: st) M Q := by
  intro p l e R s mi args below meth c CE SE Qf g H locs cells slots lsA C E
  have hg := pAr_get (g := g) ha
  rw [pAr_entR ha (by decide)] at hg
  have hlt : i.toNatClampNeg < (lay a).2 := Nat.not_le.mp fun q => hi (Or.inr q)
  have h0 : ¬ i < 0 := fun q => hi (Or.inl q)
  have hK := C.2.2.2.2.2.2.2.2.1.1
  obtain ⟨r', hr', cellV, g1, g2, g3, -⟩ := E.2.2.1 _ _ (pOb_get hr)
  have hcls := (hK.1 4 _ (pT_cl 4 (by decide))).2
  obtain ⟨kA, comp, k1, k2, k3, -⟩ := (hK.2 5 _ rfl).2
  have hcomp : comp = (gD g).1 4 := Option.some.inj (k3.symm.trans hcls.1)
  subst hcomp
  obtain ⟨kC, hkC, -⟩ := hcls.2
  refine W.aast C.1 C.2.1 (E.2.2.1 _ _ hg) (fun q h => by cases h) (fun h => by cases h) k1 k2 rfl hkC ⟨h0, by show _ < (arrV _ _ _).slots.size; rw [arrV_size]; exact hlt⟩ g1 (fun q h => by rw [g3] at h; cases h) (by rw [g2]; exact hkC) (by rw [g2]; exact va_assign hcls) rfl rfl hd fun H1 e1 z oq => ?_
  refine kk p l e R s mi args below meth c CE SE Qf g H1 _ cells slots lsA C (E.upd ha.1 ha.2.1 rfl rfl rfl (fun b hb => ent_sR hb) ?_ z oq)
  rw [pAr_entR (M := sR M a i.toNatClampNeg r) ⟨ha.1, ha.2.1, ha.2.2⟩ (by decide)]
  show H1[ad g a]? = some (vp_cell _ _)
  rw [e1, vp_cell_q, vp_cell_q, arrV_store]
  congr 2
  funext q
  by_cases hq : q = i.toNatClampNeg
  · subst hq
    have h3 : r ≠ 0 := by have := hr.1; omega
    simp [updV, mR_sR, ro_ref g h3]
  · simp [updV, mR_sR, hq]
theorem PW.alen {a kd : Nat} {v : Int32} (hd : decode m.2.1 pc = .ok (.arraylength, 1)) (ha : pAr M a kd) (hk : 9 ≤ kd ∧ kd < 16) (hv : Int32.ofNat (lay a).2 = v) (kk : PW m d lim (pc + 1) ls (.int v :: st) M Q) : PW m d lim pc ls (.ref a :: st) M Q := by
  intro p l e R s mi args below meth c CE SE Qf g H locs cells slots lsA C E
  have hK := C.2.2.2.2.2.2.2.2.1.1
  have hg := pAr_get (g := g) ha
  have key : ∃ (t0 : Nat) (ty : FieldType) (x : vp_A), x.1 = (lay a).2 ∧ ent g M a = .inl (gY g kd, x) ∧ (ptys (gY g))[t0]? = some (gY g kd, ty) := by
    obtain ⟨h1, h2⟩ := hk
    rcases (by omega : kd = 9 ∨ kd = 10 ∨ kd = 11 ∨ kd = 12 ∨ kd = 13 ∨ kd = 14 ∨ kd = 15) with rfl | rfl | rfl | rfl | rfl | rfl | rfl
    · exact ⟨0, _, _, rfl, pAr_entI ha (by decide) (by decide) (by decide), rfl⟩
    · exact ⟨1, _, _, rfl, pAr_entI ha (by decide) (by decide) (by decide), rfl⟩
    · exact ⟨2, _, _, rfl, pAr_entI ha (by decide) (by decide) (by decide), rfl⟩
    · exact ⟨3, _, _, rfl, pAr_entJ ha, rfl⟩
    · exact ⟨4, _, _, rfl, pAr_entI ha (by decide) (by decide) (by decide), rfl⟩
    · exact ⟨5, _, _, rfl, pAr_entR ha (by decide), rfl⟩
    · exact ⟨6, _, _, rfl, pAr_entR ha (by decide), rfl⟩
  obtain ⟨t0, ty, x, hx, he, ht⟩ := key
  rw [he] at hg
  exact va_alen C.1 C.2.1 hK E.2.2.1 (a - 3) t0 hg ht (by rw [hx]; exact hv) hd (kk p l e R s mi args below meth c CE SE Qf g H locs cells slots lsA C E)
theorem pK.sb {g : pgh} {s : State} (h : pK g s) : gL g 1 < s.heap.size ∧ ¬ pA g (gL g 1) := ⟨Nat.lt_of_lt_of_le h.2.2.2.2.2.1 h.2.2.2.2.1, fun q => Nat.not_le.mpr h.2.2.2.2.2.1 q⟩
theorem PW.sld {i : Int32} (hd : decode m.2.1 pc = .ok (.iaload, 1)) (hi : vp_in i (mL M)) (kk : PW m d lim (pc + 1) ls (.int (mI M 1 i.toNatClampNeg) :: st) M Q) : PW m d lim pc ls (.int i :: .ref 1 :: st) M Q :=
  fun p l e R s mi args below meth c CE SE Qf g H locs cells slots lsA C E => va_sld C.1 C.2.1 E.2.2.2.1 (C.2.2.2.2.2.2.2.2.1.sb).1 (C.2.2.2.2.2.2.2.2.1.sb).2 E.2.2.2.2.1 hi hd (kk p l e R s mi args below meth c CE SE Qf g H locs cells slots lsA C E)
theorem PW.slen {v : Int32} (hd : decode m.2.1 pc = .ok (.arraylength, 1)) (hv : Int32.ofNat (mL M) = v) (kk : PW m d lim (pc + 1) ls (.int v :: st) M Q) : PW m d lim pc ls (.ref 1 :: st) M Q := by
  subst hv
  exact fun p l e R s mi args below meth c CE SE Qf g H locs cells slots lsA C E => va_slen C.1 C.2.1 E.2.2.2.1 (C.2.2.2.2.2.2.2.2.1.sb).1 (C.2.2.2.2.2.2.2.2.1.sb).2 E.2.2.2.2.1 hd (kk p l e R s mi args below meth c CE SE Qf g H locs cells slots lsA C E)
end AR
