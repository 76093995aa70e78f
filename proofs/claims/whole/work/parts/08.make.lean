/-! what is made; Object.<init>; arraycopy -/
theorem nw_row {M : pm} {b : Nat} (h : b ≠ mN M + 3) : mI (nw M) b = mI M b ∧ mJ (nw M) b = mJ M b ∧ mR (nw M) b = mR M b :=
  ⟨by funext j; show (if b = mN M + 3 then _ else _) = _; rw [if_neg h]; rfl, by funext j; show (if b = mN M + 3 then _ else _) = _; rw [if_neg h]; rfl, by funext j; show (if b = mN M + 3 then _ else _) = _; rw [if_neg h]; rfl⟩
theorem nw_new (M : pm) : mI (nw M) (mN M + 3) = (fun _ => 0) ∧ mJ (nw M) (mN M + 3) = (fun _ => 0) ∧ mR (nw M) (mN M + 3) = (fun _ => 0) :=
  ⟨by funext j; show (if mN M + 3 = mN M + 3 then _ else _) = _; rw [if_pos rfl], by funext j; show (if mN M + 3 = mN M + 3 then _ else _) = _; rw [if_pos rfl], by funext j; show (if mN M + 3 = mN M + 3 then _ else _) = _; rw [if_pos rfl]⟩
theorem mN_nw (M : pm) : mN (nw M) = mN M + 1 := rfl
theorem mL_nw (M : pm) : mL (nw M) = mL M := rfl
/-- one more cell -/
theorem pE.more {nL lim CE SE : Nat} {g : pgh} {s : State} {M : pm} {ls : List Value} {H H1 : Heap} {locs : List Loc} {cells slots : Nat} {lsA : Array Slot} (E : pE nL lim CE SE g s M ls H locs cells slots lsA) (hl : mN M < lim) (hat : va_at (gD g) pcl (H.size, ent g (nw M) (mN M + 3)) H1) (z : H1.size = H.size + 1) (oq : ∀ q, q < H.size → H1[q]? = H[q]?) : pE nL lim CE SE g s (nw M) ls H1 locs (cells + 1) (slots + (lay (mN M + 3)).2) lsA := by
  obtain ⟨⟨a1, a2, a3⟩, E2, E3, E4, E5, E6⟩ := E
  have hz := lz_succ (mN M)
  have hle := lz_le (show mN M + 1 ≤ lim from hl)
  refine ⟨⟨by rw [mN_nw]; omega, by rw [mN_nw]; omega, by rw [mN_nw]; omega⟩, by rw [z, E2, mN_nw]; omega, fun k q hq => ?_, ?_, ⟨by rw [z]; exact Nat.le_trans E5.1 (by omega), fun q w1 w2 => by rw [oq q (Nat.lt_of_lt_of_le w1 E5.1)]; exact E5.2.1 q w1 w2, E5.2.2⟩, E6⟩
  · obtain ⟨hk, rfl⟩ := mw_of hq
    rw [mN_nw] at hk
    by_cases e : k = mN M
    · subst e
      rw [← E2]
      exact hat
    · obtain ⟨r1, r2, r3⟩ := nw_row (M := M) (b := k + 3) (by omega)
      rw [ent_row r1 r2 r3]
      exact (E3 k _ (mw_get (by omega))).kept (oq _ (by show gO g + k < _; omega))
  · rw [mL_nw, (nw_row (M := M) (b := 1) (by omega)).1]
    exact E4
def fv0 (t : FieldType) : Value := match fk t with
  | 0 => .int 0
  | 1 => .long 0
  | _ => .null
theorem fv_nw (g : pgh) (M : pm) (ci k : Nat) : fv g (nw M) (mN M + 3) ci k = fv0 (pty ci k) := by
  unfold fv fv0
  rw [congrFun (nw_new M).1 k, congrFun (nw_new M).2.1 k, congrFun (nw_new M).2.2 k]
  match fk (pty ci k) with
  | 0 => rfl
  | 1 => rfl
  | n + 2 => rfl
theorem pT_df : ∀ ci, ci < 9 → ∀ k, k < (pT ci).2.2 → defaultValue (pty ci k) = fv0 (pty ci k) := p9 (by decide +kernel) (by decide +kernel) (by decide +kernel) (by decide +kernel) (by decide +kernel) (by decide +kernel) (by decide +kernel) (by decide +kernel) (by decide +kernel)
section MK
variable {m : pmt} {d lim pc : Nat} {ls st : List Value} {M : pm} {Q : Option Value → pm → Prop}
theorem pw_fits {p : Program} {l : Launch} {e : Env} {R : Room} {s : State} {mi : MethodId} {args : Array Value} {below : List Frame} {meth : Method} {c : Code} {CE SE : Nat} {Qf : State → Prop} {g : pgh} {H : Heap} {locs : List Loc} {cells slots : Nat} {lsA : Array Slot} (C : pC m d lim Q p l e R s mi args below meth c CE SE Qf g) (E : pE m.2.2.1 lim CE SE g s M ls H locs cells slots lsA) {n : Nat} (hl : mN M + n ≤ lim) : cells + n ≤ R.cells ∧ slots + (lz (mN M + n) - lz (mN M)) ≤ R.slots := by
  obtain ⟨⟨a1, a2, a3⟩, -⟩ := E
  obtain ⟨c1, c2, c3, c4⟩ := C.2.2.2.2.2.2.2.1
  have hle := lz_le hl
  have hle2 := lz_le (show mN M ≤ mN M + n by omega)
  exact ⟨by omega, by omega⟩
theorem PW.new {idx ci a : Nat} (hd : decode m.2.1 pc = .ok (.new idx, 3)) (hc : Cond.classLink m.1.cls idx (pT ci).1 ∈ pBig) (hi : Cond.instantiable (pT ci).1 (pT ci).2.2 ∈ pBig) (hini : Cond.initialized (pT ci).1 ∈ pBig) (hci : ci < 9) (hlay : lay (mN M + 3) = (ci, (pT ci).2.2)) (hl : mN M < lim) (ha : mN M + 3 = a) (kk : PW m d lim (pc + 3) ls (.ref a :: st) (nw M) Q) : PW m d lim pc ls st M Q := by
  subst ha
  intro p l e R s mi args below meth c CE SE Qf g H locs cells slots lsA C E
  have hts := C.2.2.2.2.2.2.1
  have hKn := C.2.2.2.2.2.2.2.2.1.1.1 ci _ (pT_cl ci hci)
  have hf := pw_fits C E (n := 1) hl
  rw [lz_succ, hlay] at hf
  refine W.newcK C.1 C.2.1 C.2.2.2.2.1 (hts _ hc) (hts _ hi) (hts _ hini) rfl hd hf.1 (by have := hf.2; have h9 : ((ci, (pT ci).2.2) : Nat × Nat).2 = (pT ci).2.2 := rfl; omega) hKn.2.1 rfl fun H1 kC hkC e1 z1 o1 => ?_
  have hE := E.more (H1 := H1) hl (by
    unfold ent
    rw [hlay, if_pos hci]
    refine ⟨_, pT_cl ci hci, (u_born (pty ci) hts (pT_in ci hci) hKn hkC e1 (pT_ty ci hci)).to (fun j hj => ?_)⟩
    rw [vpV_map hj, fv_nw, pT_df ci hci j hj]) z1 o1
  rw [hlay] at hE
  have := kk p l e R s mi args below meth c CE SE Qf g H1 locs (cells + 1) (slots + (pT ci).2.2) lsA C hE
  rw [show (Value.ref (mN M + 3) :: st).map (cv g) = Value.ref H.size :: st.map (cv g) by rw [E.2.1, ← ad_c]; rfl] at this
  exact this
theorem pw_newa {at_ : ArrayType} {kd t0 : Nat} {ty : FieldType} {n : Int32} {a : Nat} (hty : newarray.typeOf at_ = ty) (ht : ∀ y : Nat → ClassId, (ptys y)[t0]? = some (y kd, ty)) (hra : ∀ (s : State) (cA : ClassId), va_RA s cA ty → s.vm.findClass ("[" ++ ty.toString) = some cA) (hcell : ∀ (g : pgh) (M' : pm), (lay a).1 = kd → mI M' a = (fun _ => 0) → mJ M' a = (fun _ => 0) → ∃ x : vp_A, ent g M' a = .inl (gY g kd, x) ∧ ∀ cA : ClassId, vp_cell cA x = arrV cA (lay a).2 (fun _ => defaultValue ty))
    (hd : decode m.2.1 pc = .ok (.newarray at_, 2)) (hw : Cond.arrayClass ty ∈ pBig) (hn : ¬ n < 0) (hlay : lay a = (kd, n.toNatClampNeg)) (hby : n.toNatClampNeg * componentBytes ty ≤ 536870912) (hl : mN M < lim) (ha : mN M + 3 = a) (kk : PW m d lim (pc + 2) ls (.ref a :: st) (nw M) Q) : PW m d lim pc ls (.int n :: st) M Q := by
  subst ha
  subst hty
  intro p l e R s mi args below meth c CE SE Qf g H locs cells slots lsA C E
  have hts := C.2.2.2.2.2.2.1
  have hf := pw_fits C E (n := 1) hl
  rw [lz_succ, hlay] at hf
  refine va_newaK C.1 C.2.1 (hts _ hw) rfl hd rfl hn rfl hby hf.1 (by have := hf.2; have h9 : ((kd, n.toNatClampNeg) : Nat × Nat).2 = n.toNatClampNeg := rfl; omega) rfl fun H1 cA e1 z1 o1 hAr hNm => ?_
  have hcy : cA = gY g kd := Option.some.inj (hNm.symm.trans (hra s _ (C.2.2.2.2.2.2.2.2.1.1.2 t0 _ (ht (gY g))).2))
  have hE := E.more (H1 := H1) hl (by
    obtain ⟨x, h1, h2⟩ := hcell g (nw M) (by rw [hlay]) (nw_new M).1 (nw_new M).2.1
    rw [h1]
    show H1[H.size]? = some (vp_cell (gY g kd) x)
    rw [h2, ← hcy, e1, hlay]) z1 o1
  rw [hlay] at hE
  have := kk p l e R s mi args below meth c CE SE Qf g H1 locs (cells + 1) (slots + n.toNatClampNeg) lsA C hE
  rw [show (Value.ref (mN M + 3) :: st).map (cv g) = Value.ref H.size :: st.map (cv g) by rw [E.2.1, ← ad_c]; rfl] at this
  exact this
theorem entI_of {g : pgh} {M' : pm} {a kd : Nat} {ty : FieldType} (h1 : ¬ kd < 9) (h2 : ¬ kd = 12) (h3 : kd < 14) (hdf : defaultValue ty = .int 0) (hk : (lay a).1 = kd) (hz : mI M' a = (fun _ => 0)) : ∃ x : vp_A, ent g M' a = .inl (gY g kd, x) ∧ ∀ cA : ClassId, vp_cell cA x = arrV cA (lay a).2 (fun _ => defaultValue ty) := by
  refine ⟨((lay a).2, .inl (mI M' a)), ?_, fun cA => ?_⟩
  · unfold ent
    rw [hk, if_neg h1, if_neg h2, if_pos h3]
  · rw [vp_cell_i, hz, hdf]
theorem PW.newaI {n : Int32} {a : Nat} (hd : decode m.2.1 pc = .ok (.newarray .int, 2)) (hw : Cond.arrayClass .int ∈ pBig) (hn : ¬ n < 0) (hlay : lay a = (11, n.toNatClampNeg)) (hby : n.toNatClampNeg * 4 ≤ 536870912) (hl : mN M < lim) (ha : mN M + 3 = a) (kk : PW m d lim (pc + 2) ls (.ref a :: st) (nw M) Q) : PW m d lim pc ls (.int n :: st) M Q :=
  pw_newa (at_ := .int) (ty := .int) (t0 := 2) rfl (fun _ => rfl) (fun _ _ h => h) (fun g M' h1 h2 _ => entI_of (by decide) (by decide) (by decide) rfl h1 h2) hd hw hn hlay hby hl ha kk
theorem PW.newaB {n : Int32} {a : Nat} (hd : decode m.2.1 pc = .ok (.newarray .byte, 2)) (hw : Cond.arrayClass .byte ∈ pBig) (hn : ¬ n < 0) (hlay : lay a = (9, n.toNatClampNeg)) (hby : n.toNatClampNeg * 1 ≤ 536870912) (hl : mN M < lim) (ha : mN M + 3 = a) (kk : PW m d lim (pc + 2) ls (.ref a :: st) (nw M) Q) : PW m d lim pc ls (.int n :: st) M Q :=
  pw_newa (at_ := .byte) (ty := .byte) (t0 := 0) rfl (fun _ => rfl) (fun _ _ h => h) (fun g M' h1 h2 _ => entI_of (by decide) (by decide) (by decide) rfl h1 h2) hd hw hn hlay hby hl ha kk
theorem PW.newaC {n : Int32} {a : Nat} (hd : decode m.2.1 pc = .ok (.newarray .char, 2)) (hw : Cond.arrayClass .char ∈ pBig) (hn : ¬ n < 0) (hlay : lay a = (10, n.toNatClampNeg)) (hby : n.toNatClampNeg * 2 ≤ 536870912) (hl : mN M < lim) (ha : mN M + 3 = a) (kk : PW m d lim (pc + 2) ls (.ref a :: st) (nw M) Q) : PW m d lim pc ls (.int n :: st) M Q :=
  pw_newa (at_ := .char) (ty := .char) (t0 := 1) rfl (fun _ => rfl) (fun _ _ h => h) (fun g M' h1 h2 _ => entI_of (by decide) (by decide) (by decide) rfl h1 h2) hd hw hn hlay hby hl ha kk
theorem PW.newaZ {n : Int32} {a : Nat} (hd : decode m.2.1 pc = .ok (.newarray .boolean, 2)) (hw : Cond.arrayClass .boolean ∈ pBig) (hn : ¬ n < 0) (hlay : lay a = (13, n.toNatClampNeg)) (hby : n.toNatClampNeg * 1 ≤ 536870912) (hl : mN M < lim) (ha : mN M + 3 = a) (kk : PW m d lim (pc + 2) ls (.ref a :: st) (nw M) Q) : PW m d lim pc ls (.int n :: st) M Q :=
  pw_newa (at_ := .boolean) (ty := .boolean) (t0 := 4) rfl (fun _ => rfl) (fun _ _ h => h) (fun g M' h1 h2 _ => entI_of (by decide) (by decide) (by decide) rfl h1 h2) hd hw hn hlay hby hl ha kk
theorem PW.newaJ {n : Int32} {a : Nat} (hd : decode m.2.1 pc = .ok (.newarray .long, 2)) (hw : Cond.arrayClass .long ∈ pBig) (hn : ¬ n < 0) (hlay : lay a = (12, n.toNatClampNeg)) (hby : n.toNatClampNeg * 8 ≤ 536870912) (hl : mN M < lim) (ha : mN M + 3 = a) (kk : PW m d lim (pc + 2) ls (.ref a :: st) (nw M) Q) : PW m d lim pc ls (.int n :: st) M Q :=
  pw_newa (at_ := .long) (ty := .long) (t0 := 3) rfl (fun _ => rfl) (fun _ _ h => h) (fun g M' h1 _ h3 => ⟨((lay a).2, .inr (.inl (mJ M' a))), by unfold ent; rw [h1, if_neg (by decide), if_pos rfl], fun cA => by rw [vp_cell_l, h3]; rfl⟩) hd hw hn hlay hby hl ha kk
theorem PW.anewS {idx a : Nat} {n : Int32} (hd : decode m.2.1 pc = .ok (.anewarray idx, 3)) (hc : Cond.classLink m.1.cls idx RX4 ∈ pBig) (hn : ¬ n < 0) (hlay : lay a = (14, n.toNatClampNeg)) (hby : n.toNatClampNeg * 4 ≤ 536870912) (hl : mN M < lim) (ha : mN M + 3 = a) (kk : PW m d lim (pc + 3) ls (.ref a :: st) (nw M) Q) : PW m d lim pc ls (.int n :: st) M Q := by
  subst ha
  intro p l e R s mi args below meth c CE SE Qf g H locs cells slots lsA C E
  have hts := C.2.2.2.2.2.2.1
  have hf := pw_fits C E (n := 1) hl
  rw [lz_succ, hlay] at hf
  refine W.anew C.1 C.2.1 C.2.2.2.2.1 (hts _ hc) (va_AO.use C.2.2.2.2.2.2.2.2.1.2.2.1) rfl hd rfl hn hby hf.1 (by have := hf.2; have h9 : ((14, n.toNatClampNeg) : Nat × Nat).2 = n.toNatClampNeg := rfl; omega) fun cA kA comp h1 h2 h3 h4 => ?_
  obtain ⟨kA', comp', -, -, -, w4⟩ := (C.2.2.2.2.2.2.2.2.1.1.2 5 _ rfl).2
  have hcy : cA = gY g 14 := Option.some.inj (h1.symm.trans w4)
  have hE := E.more (H1 := H.push { cls := cA, slots := Array.replicate n.toNatClampNeg .null, vm := .none }) hl (by
    unfold ent
    rw [hlay, if_neg (show ¬ (14 : Nat) < 9 by decide), if_neg (show ¬ (14 : Nat) = 12 by decide), if_neg (show ¬ (14 : Nat) < 14 by decide)]
    show (H.push _)[H.size]? = some (vp_cell _ _)
    rw [vp_cell_q, ← hcy, arrV_new, (nw_new M).2.2]
    simp [ro, va_rf]) (by simp) (fun q hq => by rw [Array.getElem?_push, if_neg (Nat.ne_of_lt hq)])
  rw [hlay] at hE
  have := kk p l e R s mi args below meth c CE SE Qf g _ locs (cells + 1) (slots + n.toNatClampNeg) lsA C hE
  rw [show (Value.ref (mN M + 3) :: st).map (cv g) = Value.ref H.size :: st.map (cv g) by rw [E.2.1, ← ad_c]; rfl] at this
  exact this
theorem PW.objInit {idx a : Nat} (hd : decode m.2.1 pc = .ok (.invokespecial idx, 3)) (hl : Cond.methodLink m.1.cls idx objectInit ∈ pBig) (hi : Cond.instanceMethod objectInit ∈ pBig) (hc : Cond.code objectInit ⟨#[0xb1]⟩ 1 none ∈ pBig) (hw : (st.map fun v => v.category).sum ≤ 8) (hd1 : 1 ≤ d) (kk : PW m d lim (pc + 3) ls st M Q) : PW m d lim pc ls (.ref a :: st) M Q := by
  intro p l e R s mi args below meth c CE SE Qf g H locs cells slots lsA C E
  have hts := C.2.2.2.2.2.2.1
  obtain ⟨c1, c2, c3, c4⟩ := C.2.2.2.2.2.2.2.1
  have hr : 2 * (F0 mi pc lsA ((.ref a :: st).map (cv g))).monitorRoom + ((st.map (cv g)).map fun v => v.category).sum ≤ 8 := lv_room (by rw [cv_cats]; exact hw)
  exact W.objInit C.1 C.2.1 C.2.2.2.2.1 (hts _ hl) (hts _ hi) (hts _ hc) rfl (E.2.2.2.2.2.1.trans C.2.2.1.symm) rfl hd (by omega) (by omega) (kk p l e R s mi args below meth c CE SE Qf g H locs cells slots lsA C E)
/-- a stretch of ints written -/
def cpI (M : pm) (a b sp dp n : Nat) : pm := (fun c j => if c = b then va_cpy (M.1 a) (M.1 b) sp dp n j else M.1 c j, M.2)
theorem mI_cpI (M : pm) (a b sp dp n c j : Nat) : mI (cpI M a b sp dp n) c j = if c = b ∧ dp ≤ j ∧ j < dp + n then mI M a (sp + (j - dp)) else mI M c j := by
  show (if c = b then va_cpy (M.1 a) (M.1 b) sp dp n j else M.1 c j) = _
  unfold va_cpy
  by_cases h : c = b
  · subst h
    by_cases h2 : dp ≤ j ∧ j < dp + n
    · rw [if_pos rfl, if_pos h2, if_pos ⟨rfl, h2⟩]; rfl
    · rw [if_pos rfl, if_neg h2, if_neg (fun q => h2 q.2)]; rfl
  · rw [if_neg h, if_neg (fun q => h q.1)]; rfl
theorem PW.copyI {idx a b : Nat} {sp dp n : Int32} (hd : decode m.2.1 pc = .ok (.invokestatic idx, 3)) (hlk : Cond.methodLink m.1.cls idx arraycopyName ∈ pBig) (hnat : Cond.native arraycopyName ∈ pBig) (hstat : Cond.static arraycopyName ∈ pBig) (hini : Cond.initialized "java/lang/System" ∈ pBig) (ha : pAr M a 11) (hb : pAr M b 11)
    (h1 : ¬ sp < 0) (h2 : ¬ dp < 0) (h3 : ¬ n < 0) (h4 : sp.toNatClampNeg + n.toNatClampNeg ≤ (lay a).2) (h5 : dp.toNatClampNeg + n.toNatClampNeg ≤ (lay b).2) (hw : (st.map fun v => v.category).sum ≤ 8) (hd1 : 1 ≤ d) (hfw : nativeFrameWords "java/lang/System" "arraycopy" 5 + 11 ≤ 56) (kk : PW m d lim (pc + 3) ls st (cpI M a b sp.toNatClampNeg dp.toNatClampNeg n.toNatClampNeg) Q) : PW m d lim pc ls (.int n :: .int dp :: .ref b :: .int sp :: .ref a :: st) M Q := by
  intro p l e R s mi args below meth c CE SE Qf g H locs cells slots lsA C E
  have hts := C.2.2.2.2.2.2.1
  obtain ⟨c1, c2, c3, c4⟩ := C.2.2.2.2.2.2.2.1
  have nn : ∀ z : Int32, ¬ z < 0 → z.toInt = (z.toNatClampNeg : Int) := by
    intro z hz
    have hz0 : (0 : Int) ≤ z.toInt := by
      have := Int32.not_lt.mp hz
      simpa using Int32.le_iff_toInt_le.mp this
    show z.toInt = ((z.toInt.toNat : Nat) : Int)
    omega
  have hga := pAr_get (g := g) ha
  rw [pAr_entI ha (by decide) (by decide) (by decide)] at hga
  have hgb := pAr_get (g := g) hb
  rw [pAr_entI hb (by decide) (by decide) (by decide)] at hgb
  have hc0 : H[ad g a]? = some (vp_cell (gY g 11) ((lay a).2, .inl (mI M a))) := E.2.2.1 _ _ hga
  have hc1 : H[ad g b]? = some (vp_cell (gY g 11) ((lay b).2, .inl (mI M b))) := E.2.2.1 _ _ hgb
  have hK := C.2.2.2.2.2.2.2.2.1.1
  intro T hT X
  obtain ⟨-, k0, hk0, cm0, hkk0⟩ := (hK.2 2 _ rfl).1 (lay a).2 (fun j => .int (mI M a j))
  obtain ⟨-, k1, hk1, cm1, hkk1⟩ := (hK.2 2 _ rfl).1 (lay b).2 (fun j => .int (mI M b j))
  have hr : ((st.map (cv g)).map fun v => v.category).sum ≤ 8 := by rw [cv_cats]; exact hw
  obtain ⟨vm', X', step⟩ := X.arraycopy C.1 C.2.2.2.2.1 (hts _ hlk) (hts _ hnat) (hts _ hstat) (hts _ hini) (src := ad g a) (dst := ad g b) (cs := vp_cell (gY g 11) ((lay a).2, .inl (mI M a))) (cd := vp_cell (gY g 11) ((lay b).2, .inl (mI M b))) (srcPos := sp) (destPos := dp) (n := n) (by rw [hT]; exact hc0) (by rw [hT]; exact hc1)
    (fun _ h => by cases h) (fun _ h => by cases h) (fun h => by cases h) (fun h => by cases h) hk0 hk1 hkk0 hkk1 (by simp [refKind]) h1 h2 h3
    (by rw [nn sp h1, nn n h3]; show ¬ _ > ((arrV _ (lay a).2 (fun j => .int (mI M a j))).slots.size : Int); rw [arrV_size]; omega)
    (by rw [nn dp h2, nn n h3]; show ¬ _ > ((arrV _ (lay b).2 (fun j => .int (mI M b j))).slots.size : Int); rw [arrV_size]; omega)
    (fun vm₁ _ i hi => by
      have e : (vp_cell (gY g 11) ((lay a).2, .inl (mI M a))).slots.getD (sp.toNatClampNeg + i) .null = .int (mI M a (sp.toNatClampNeg + i)) := by
        show (arrV _ (lay a).2 (fun j => .int (mI M a j))).slots.getD _ _ = _
        rw [Array.getD_eq_getD_getElem?, arrV_read _ _ (by omega)]
        rfl
      refine ⟨?_, ?_⟩
      · rw [e]; rfl
      · rw [e]; exact trivial)
    (g := F0 mi pc lsA ((.int n :: .int dp :: .ref b :: .int sp :: .ref a :: st).map (cv g))) rfl (E.2.2.2.2.2.1.trans C.2.2.1.symm) (rest := st.map (cv g)) rfl (by rw [C.2.1]; exact hd) (by omega) (by show 2 * 0 + _ + _ ≤ _; omega)
  have e1 : copied (vp_cell (gY g 11) ((lay a).2, .inl (mI M a))) (vp_cell (gY g 11) ((lay b).2, .inl (mI M b))) sp dp n = vp_cell (gY g 11) ((lay b).2, .inl (va_cpy (mI M a) (mI M b) sp.toNatClampNeg dp.toNatClampNeg n.toNatClampNeg)) := va_copied (fun z => .int z) _ _ (mI M a) (mI M b) h4
  rw [e1] at X' step
  have hl : ad g b < H.size := (Array.getElem?_eq_some_iff.mp hc1).1
  generalize hcl : vp_cell (gY g 11) ((lay b).2, .inl (va_cpy (mI M a) (mI M b) sp.toNatClampNeg dp.toNatClampNeg n.toNatClampNeg)) = ncell at X' step
  have hheap : ((T.setVm vm').setCell (ad g b) ncell).heap = H.setIfInBounds (ad g b) ncell := by rw [← hT]; rfl
  have oq : ∀ q : Nat, q ≠ ad g b → (H.setIfInBounds (ad g b) ncell)[q]? = H[q]? := fun q hq => by simp [Array.getElem?_setIfInBounds, Ne.symm hq]
  have hrow : ∀ x, x ≠ b → mI (cpI M a b sp.toNatClampNeg dp.toNatClampNeg n.toNatClampNeg) x = mI M x := fun x hx => by
    funext j
    rw [mI_cpI, if_neg (fun q => hx q.1)]
  have hE := E.upd (M' := cpI M a b sp.toNatClampNeg dp.toNatClampNeg n.toNatClampNeg) (H1 := H.setIfInBounds (ad g b) ncell) (j := 0) hb.1 hb.2.1 rfl rfl (hrow 1 (by have := hb.1; omega)) (fun x hx => ent_row (hrow x hx) rfl rfl) (by
    rw [pAr_entI (M := cpI M a b sp.toNatClampNeg dp.toNatClampNeg n.toNatClampNeg) ⟨hb.1, hb.2.1, hb.2.2⟩ (by decide) (by decide) (by decide)]
    show (H.setIfInBounds (ad g b) ncell)[ad g b]? = some (vp_cell _ _)
    rw [show (H.setIfInBounds (ad g b) ncell)[ad g b]? = some ncell by simp [Array.getElem?_setIfInBounds, hl], ← hcl]
    congr 4
    funext j
    show _ = (if b = b then va_cpy (M.1 a) (M.1 b) _ _ _ j else M.1 b j)
    rw [if_pos rfl]
    rfl) (by simp) oq
  obtain ⟨⟨a1, a2, a3⟩, E2, E3, E4, E5, E6⟩ := hE
  have hS2 : ∀ L : List Loc, (∀ q ∈ L, q.base = ad g b) → va_S (pA g) s.heap (H.setIfInBounds (ad g b) ncell) (locs ++ L) := fun L hL => ⟨E5.1, E5.2.1, fun q hq => by
    rcases List.mem_append.mp hq with h | h
    · exact E.2.2.2.2.1.2.2 q h
    · rw [hL q h, ad_ge g hb.1]
      exact Nat.le_add_right _ _⟩
  obtain ⟨t, b1, b2⟩ := kk p l e R s mi args below meth c CE SE Qf g (H.setIfInBounds (ad g b) ncell) _ cells slots lsA C ⟨⟨a1, a2, a3⟩, E2, E3, E4, hS2 _ (fun q hq => by
    obtain ⟨z, -, hz⟩ := List.mem_map.mp hq
    rw [← hz]), E6⟩ _ hheap X'
  exact ⟨t, step t b1, b2⟩
end MK
