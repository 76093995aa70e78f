/-! the judgement PW: from pc on, with these locals, this stack, this memory, the method returns, and its answer and memory are as Q says -/
/-- the class of int[][] is there, as the tables say -/
def va_AOA (t : FieldType) (U : State) : Prop := (Cond.arrayOver (.array t)).before #[] U = true
theorem va_AOA.use {t : FieldType} {A : Array Value} {U : State} (h : va_AOA t U) : (Cond.arrayOver (.array t)).before A U = true := h
theorem va_AOA.moved {t : FieldType} {u U : State} (hvm : u.vm.Alike U.vm) (h : va_AOA t u) : va_AOA t U := by
  obtain ⟨comp, c, k, h1, h2, h3, h4, h5⟩ := arrayOverA_spec h
  obtain ⟨k', hk', he⟩ := hvm.2.2 _ _ h3
  have hi : (U.vm.classes.findIdx? fun (x : Class) => match x.kind with | .array component _ => component == comp | _ => false) = some c := by
    have e : U.vm.bare = u.vm.bare := by first | exact hvm.bare_eq | exact hvm.bare_eq.symm
    have a := va_idx_bare U.vm comp
    rw [e] at a
    exact (a.symm.trans (va_idx_bare u.vm comp)).trans h2
  have hkind : k'.kind = .array comp (.array t) := by rw [he]; exact h4
  have f1 : U.vm.findClass (FieldType.array t).toString = some comp := by rw [hvm.findClass]; exact h1
  have f2 : U.vm.findClass ("[" ++ (FieldType.array t).toString) = some c := by rw [hvm.findClass]; exact h5
  unfold va_AOA Cond.before Cond.holds
  simp only [Cond.value]
  rw [f1, Option.bind_some]
  refine (congrArg (fun o : Option Nat => (o.bind (fun c => (U.vm.classes[c]?).map fun (k : Class) => match k.kind with | .array _ ty => decide (ty = FieldType.array t) && decide (U.vm.findClass ("[" ++ (FieldType.array t).toString) = some c) | _ => false) == some true)) hi).trans ?_
  simp [hk', hkind, f2]
def pNe : Cond → Bool
  | .fieldLinkNest .. => true
  | .methodLinkNest .. => true
  | _ => false
def pnest : List Cond := tables_1.filter pNe
def pWords : String := "hour  song  long  style asker wants dies  minds ear   taste fades plays worth hush  toll  age   since playedday   numberalive on    or    and   not   all   min   max   first last  often total most  least "
def pBytes : List Int32 := pWords.toList.map (fun c => Int32.ofNat c.toNat)
def pK (g : pgh) (s : State) : Prop :=
  va_K (gD g) pcl (ptys (gY g)) s ∧ (∀ w ∈ pnest, va_Nw w s) ∧ va_AO RX4 s ∧ va_AOA .int s ∧ gO g ≤ s.heap.size ∧ gL g 1 < gO g ∧
  vk_R RX6 45 pWords (gL g 2) s ∧ vk_S 1 [204] [pBytes] (fun _ => gL g 2) (fun _ => gL g 0) (pA g) s s.heap ∧ va_Z "java/lang/String" "COMPACT_STRINGS" "Z" (.int 1) (pA g) s s.heap ∧
  va_Z "jdk/internal/util/Preconditions" "SIOOBE_FORMATTER" "Ljava/util/function/BiFunction;" (va_rf (gQ g)) (pA g) s s.heap
def pE (nL lim CE SE : Nat) (g : pgh) (s : State) (M : pm) (ls : List Value) (H : Heap) (locs : List Loc) (cells slots : Nat) (lsA : Array Slot) : Prop :=
  (cells + (lim - mN M) = CE ∧ slots + (lz lim - lz (mN M)) = SE ∧ mN M ≤ lim) ∧ H.size = gO g + mN M ∧ va_P (gD g) pcl (mw g M) H ∧ va_X (gL g 1) (mL M) (mI M 1) s s.heap ∧ va_S (pA g) s.heap H locs ∧ plo g nL ls lsA
def pRi (r : Option Value) : Instr := match r with
  | none => .return_
  | some (.long _) => .lreturn
  | _ => .ireturn
def pRo (rt : Option FieldType) (r : Option Value) : Prop := match r with
  | none => rt = none
  | some (.long _) => rt = some .long
  | some (.int v) => ∃ ty, rt = some ty ∧ narrow ty (.int v) = .int v
  | _ => False
def pH (m : pmt) (lim : Nat) (Q : Option Value → pm → Prop) (p : Program) (l : Launch) (e : Env) (R : Room) (s : State) (mi : MethodId) (args : Array Value) (below : List Frame) (meth : Method) (c : Code) (CE SE : Nat) (Qf : State → Prop) (g : pgh) : Prop :=
  ∀ (r : Option Value) (M' : pm) (H' : Heap) (locs' : List Loc) (pc' : Nat) (ls' : Array Slot), Q r M' → mN M' = lim → H'.size = gO g + mN M' → va_P (gD g) pcl (mw g M') H' → va_X (gL g 1) (mL M') (mI M' 1) s s.heap → va_S (pA g) s.heap H' locs' → pRo m.2.2.2 r → decode m.2.1 pc' = .ok (pRi r, 1) →
    W p l e R s mi args below meth c H' locs' CE SE Qf (F0 mi pc' ls' (r.toList.map (cv g)))
def pC (m : pmt) (d lim : Nat) (Q : Option Value → pm → Prop) (p : Program) (l : Launch) (e : Env) (R : Room) (s : State) (mi : MethodId) (args : Array Value) (below : List Frame) (meth : Method) (c : Code) (CE SE : Nat) (Qf : State → Prop) (g : pgh) : Prop :=
  p.tables.exec = Jvm.exec ∧ c.code = m.2.1 ∧ c.maxLocals = m.2.2.1 ∧ meth.sig.returnType = m.2.2.2 ∧ s.vm.findClass m.1.cls = some mi.cls ∧ meth.name = m.1.name ∧ (∀ w ∈ pBig, w.before args s = true) ∧ (d ≤ R.frames ∧ 64 * d ≤ R.locals ∧ CE ≤ R.cells ∧ SE ≤ R.slots) ∧ pK g s ∧ pH m lim Q p l e R s mi args below meth c CE SE Qf g
def PW (m : pmt) (d lim pc : Nat) (ls st : List Value) (M : pm) (Q : Option Value → pm → Prop) : Prop :=
  ∀ (p : Program) (l : Launch) (e : Env) (R : Room) (s : State) (mi : MethodId) (args : Array Value) (below : List Frame) (meth : Method) (c : Code) (CE SE : Nat) (Qf : State → Prop) (g : pgh) (H : Heap) (locs : List Loc) (cells slots : Nat) (lsA : Array Slot),
    pC m d lim Q p l e R s mi args below meth c CE SE Qf g → pE m.2.2.1 lim CE SE g s M ls H locs cells slots lsA → W p l e R s mi args below meth c H locs cells slots Qf (F0 mi pc lsA (st.map (cv g)))
section PWR
variable {m : pmt} {d lim pc : Nat} {ls st : List Value} {M : pm} {Q : Option Value → pm → Prop}
theorem PW.weak {Q' : Option Value → pm → Prop} (h : PW m d lim pc ls st M Q') (hq : ∀ r M', Q' r M' → Q r M') : PW m d lim pc ls st M Q :=
  fun p l e R s mi args below meth c CE SE Qf g H locs cells slots lsA C E => h p l e R s mi args below meth c CE SE Qf g H locs cells slots lsA ⟨C.1, C.2.1, C.2.2.1, C.2.2.2.1, C.2.2.2.2.1, C.2.2.2.2.2.1, C.2.2.2.2.2.2.1, C.2.2.2.2.2.2.2.1, C.2.2.2.2.2.2.2.2.1, fun r M' H' locs' pc' ls' q => C.2.2.2.2.2.2.2.2.2 r M' H' locs' pc' ls' (hq r M' q)⟩ E
theorem PW.deep {d' : Nat} (hd : d' ≤ d) (h : PW m d' lim pc ls st M Q) : PW m d lim pc ls st M Q :=
  fun p l e R s mi args below meth c CE SE Qf g H locs cells slots lsA C E => h p l e R s mi args below meth c CE SE Qf g H locs cells slots lsA ⟨C.1, C.2.1, C.2.2.1, C.2.2.2.1, C.2.2.2.2.1, C.2.2.2.2.2.1, C.2.2.2.2.2.2.1, ⟨Nat.le_trans hd C.2.2.2.2.2.2.2.1.1, Nat.le_trans (Nat.mul_le_mul_left 64 hd) C.2.2.2.2.2.2.2.1.2.1, C.2.2.2.2.2.2.2.1.2.2⟩, C.2.2.2.2.2.2.2.2⟩ E
theorem pE.ls' {nL CE SE : Nat} {g : pgh} {s : State} {H : Heap} {locs : List Loc} {cells slots : Nat} {lsA lsB : Array Slot} {ls' : List Value} (E : pE nL lim CE SE g s M ls H locs cells slots lsA) (h : plo g nL ls' lsB) : pE nL lim CE SE g s M ls' H locs cells slots lsB := ⟨E.1, E.2.1, E.2.2.1, E.2.2.2.1, E.2.2.2.2.1, h⟩
theorem pE.at {nL CE SE : Nat} {g : pgh} {s : State} {H : Heap} {locs : List Loc} {cells slots : Nat} {lsA : Array Slot} (E : pE nL lim CE SE g s M ls H locs cells slots lsA) {i : Nat} {v : Value} (h : ls[i]? = some v) (hn : v ≠ .null) : lsA[i]? = some (.val (cv g v)) := E.2.2.2.2.2.2.2 i v h hn
-- constants
theorem PW.iconst {n : Int} {v : Int32} (hd : decode m.2.1 pc = .ok (.iconst n, 1)) (hv : Int32.ofInt n = v) (k : PW m d lim (pc + 1) ls (.int v :: st) M Q) : PW m d lim pc ls (st) M Q :=
  fun p l e R s mi args below meth c CE SE Qf g H locs cells slots lsA C E => lv_iconst C.1 C.2.1 hd hv (k p l e R s mi args below meth c CE SE Qf g H locs cells slots lsA C E)
theorem PW.bipush {n : Int} {v : Int32} (hd : decode m.2.1 pc = .ok (.bipush n, 2)) (hv : (Int8.ofInt n).toInt32 = v) (k : PW m d lim (pc + 2) ls (.int v :: st) M Q) : PW m d lim pc ls (st) M Q :=
  fun p l e R s mi args below meth c CE SE Qf g H locs cells slots lsA C E => lv_bipush C.1 C.2.1 hd hv (k p l e R s mi args below meth c CE SE Qf g H locs cells slots lsA C E)
theorem PW.sipush {n : Int} {v : Int32} (hd : decode m.2.1 pc = .ok (.sipush n, 3)) (hv : (Int16.ofInt n).toInt32 = v) (k : PW m d lim (pc + 3) ls (.int v :: st) M Q) : PW m d lim pc ls (st) M Q :=
  fun p l e R s mi args below meth c CE SE Qf g H locs cells slots lsA C E => lv_sipush C.1 C.2.1 hd hv (k p l e R s mi args below meth c CE SE Qf g H locs cells slots lsA C E)
theorem PW.lconst {n : Fin 2} {v : Int64} (hd : decode m.2.1 pc = .ok (.lconst n, 1)) (hv : Int64.ofNat (n : Nat) = v) (k : PW m d lim (pc + 1) ls (.long v :: st) M Q) : PW m d lim pc ls (st) M Q :=
  fun p l e R s mi args below meth c CE SE Qf g H locs cells slots lsA C E => lv_lconst C.1 C.2.1 hd hv (k p l e R s mi args below meth c CE SE Qf g H locs cells slots lsA C E)
theorem PW.ldc {idx : Nat} {v : Int32} (hd : decode m.2.1 pc = .ok (.ldc idx, 2)) (hw : Cond.constant m.1.cls idx v ∈ pBig) (k : PW m d lim (pc + 2) ls (.int v :: st) M Q) : PW m d lim pc ls st M Q :=
  fun p l e R s mi args below meth c CE SE Qf g H locs cells slots lsA C E => lv_ldc C.1 C.2.1 C.2.2.2.2.1 (C.2.2.2.2.2.2.1 _ hw) hd (k p l e R s mi args below meth c CE SE Qf g H locs cells slots lsA C E)
theorem PW.ldcw {idx : Nat} {v : Int32} (hd : decode m.2.1 pc = .ok (.ldc_w idx, 3)) (hw : Cond.constant m.1.cls idx v ∈ pBig) (k : PW m d lim (pc + 3) ls (.int v :: st) M Q) : PW m d lim pc ls st M Q :=
  fun p l e R s mi args below meth c CE SE Qf g H locs cells slots lsA C E => lv_ldcw C.1 C.2.1 C.2.2.2.2.1 (C.2.2.2.2.2.2.1 _ hw) hd (k p l e R s mi args below meth c CE SE Qf g H locs cells slots lsA C E)
theorem PW.ldc2 {idx : Nat} {v : Int64} (hd : decode m.2.1 pc = .ok (.ldc2_w idx, 3)) (hw : Cond.constantLong m.1.cls idx v ∈ pBig) (k : PW m d lim (pc + 3) ls (.long v :: st) M Q) : PW m d lim pc ls st M Q :=
  fun p l e R s mi args below meth c CE SE Qf g H locs cells slots lsA C E => lv_ldc2 C.1 C.2.1 C.2.2.2.2.1 (C.2.2.2.2.2.2.1 _ hw) hd (k p l e R s mi args below meth c CE SE Qf g H locs cells slots lsA C E)
-- locals
theorem PW.iload_n {j : Fin 4} {x : Int32} (hd : decode m.2.1 pc = .ok (.iload_n j, 1)) (hl : ls[(j : Nat)]? = some (.int x)) (k : PW m d lim (pc + 1) ls (.int x :: st) M Q) : PW m d lim pc ls st M Q :=
  fun p l e R s mi args below meth c CE SE Qf g H locs cells slots lsA C E => lv_iload_n C.1 C.2.1 hd rfl (E.at hl (fun q => by cases q)) (k p l e R s mi args below meth c CE SE Qf g H locs cells slots lsA C E)
theorem PW.iload {j : Nat} {x : Int32} (hd : decode m.2.1 pc = .ok (.iload j, 2)) (hl : ls[j]? = some (.int x)) (k : PW m d lim (pc + 2) ls (.int x :: st) M Q) : PW m d lim pc ls st M Q :=
  fun p l e R s mi args below meth c CE SE Qf g H locs cells slots lsA C E => lv_iload C.1 C.2.1 hd (E.at hl (fun q => by cases q)) (k p l e R s mi args below meth c CE SE Qf g H locs cells slots lsA C E)
theorem PW.lload_n {j : Fin 4} {x : Int64} (hd : decode m.2.1 pc = .ok (.lload_n j, 1)) (hl : ls[(j : Nat)]? = some (.long x)) (k : PW m d lim (pc + 1) ls (.long x :: st) M Q) : PW m d lim pc ls st M Q :=
  fun p l e R s mi args below meth c CE SE Qf g H locs cells slots lsA C E => lv_lload_n C.1 C.2.1 hd rfl (E.at hl (fun q => by cases q)) (k p l e R s mi args below meth c CE SE Qf g H locs cells slots lsA C E)
theorem PW.lload {j : Nat} {x : Int64} (hd : decode m.2.1 pc = .ok (.lload j, 2)) (hl : ls[j]? = some (.long x)) (k : PW m d lim (pc + 2) ls (.long x :: st) M Q) : PW m d lim pc ls st M Q :=
  fun p l e R s mi args below meth c CE SE Qf g H locs cells slots lsA C E => lv_lload C.1 C.2.1 hd (E.at hl (fun q => by cases q)) (k p l e R s mi args below meth c CE SE Qf g H locs cells slots lsA C E)
theorem PW.aload_n {j : Fin 4} {x : Nat} (hd : decode m.2.1 pc = .ok (.aload_n j, 1)) (hl : ls[(j : Nat)]? = some (.ref x)) (k : PW m d lim (pc + 1) ls (.ref x :: st) M Q) : PW m d lim pc ls st M Q :=
  fun p l e R s mi args below meth c CE SE Qf g H locs cells slots lsA C E => lv_aload_n C.1 C.2.1 hd rfl (E.at hl (fun q => by cases q)) (k p l e R s mi args below meth c CE SE Qf g H locs cells slots lsA C E)
theorem PW.aload {j : Nat} {x : Nat} (hd : decode m.2.1 pc = .ok (.aload j, 2)) (hl : ls[j]? = some (.ref x)) (k : PW m d lim (pc + 2) ls (.ref x :: st) M Q) : PW m d lim pc ls st M Q :=
  fun p l e R s mi args below meth c CE SE Qf g H locs cells slots lsA C E => lv_aload C.1 C.2.1 hd (E.at hl (fun q => by cases q)) (k p l e R s mi args below meth c CE SE Qf g H locs cells slots lsA C E)
theorem PW.istore_n {j : Fin 4} {x : Int32} {ls' : List Value} (hd : decode m.2.1 pc = .ok (.istore_n j, 1)) (hn : (j : Nat) < m.2.2.1) (hp : pk1 ls j = true) (hl : ls.set j (.int x) = ls') (k : PW m d lim (pc + 1) ls' st M Q) : PW m d lim pc ls (.int x :: st) M Q :=
  fun p l e R s mi args below meth c CE SE Qf g H locs cells slots lsA C E => lv_istore_n C.1 C.2.1 hd rfl (plo_has E.2.2.2.2.2) hn rfl (fun lsB hB => k p l e R s mi args below meth c CE SE Qf g H locs cells slots lsB C (E.ls' (by rw [← hl]; exact plo_set1 hp hB)))
theorem PW.istore {j : Nat} {x : Int32} {ls' : List Value} (hd : decode m.2.1 pc = .ok (.istore j, 2)) (hn : j < m.2.2.1) (hp : pk1 ls j = true) (hl : ls.set j (.int x) = ls') (k : PW m d lim (pc + 2) ls' st M Q) : PW m d lim pc ls (.int x :: st) M Q :=
  fun p l e R s mi args below meth c CE SE Qf g H locs cells slots lsA C E => lv_istore C.1 C.2.1 hd (plo_has E.2.2.2.2.2) hn rfl (fun lsB hB => k p l e R s mi args below meth c CE SE Qf g H locs cells slots lsB C (E.ls' (by rw [← hl]; exact plo_set1 hp hB)))
theorem PW.astore_n {j : Fin 4} {x : Nat} {ls' : List Value} (hd : decode m.2.1 pc = .ok (.astore_n j, 1)) (hn : (j : Nat) < m.2.2.1) (hp : pk1 ls j = true) (hl : ls.set j (.ref x) = ls') (k : PW m d lim (pc + 1) ls' st M Q) : PW m d lim pc ls (.ref x :: st) M Q :=
  fun p l e R s mi args below meth c CE SE Qf g H locs cells slots lsA C E => lv_astore_n C.1 C.2.1 hd rfl (plo_has E.2.2.2.2.2) hn rfl (fun lsB hB => k p l e R s mi args below meth c CE SE Qf g H locs cells slots lsB C (E.ls' (by rw [← hl]; exact plo_set1 hp hB)))
theorem PW.astore {j : Nat} {x : Nat} {ls' : List Value} (hd : decode m.2.1 pc = .ok (.astore j, 2)) (hn : j < m.2.2.1) (hp : pk1 ls j = true) (hl : ls.set j (.ref x) = ls') (k : PW m d lim (pc + 2) ls' st M Q) : PW m d lim pc ls (.ref x :: st) M Q :=
  fun p l e R s mi args below meth c CE SE Qf g H locs cells slots lsA C E => lv_astore C.1 C.2.1 hd (plo_has E.2.2.2.2.2) hn rfl (fun lsB hB => k p l e R s mi args below meth c CE SE Qf g H locs cells slots lsB C (E.ls' (by rw [← hl]; exact plo_set1 hp hB)))
theorem PW.lstore_n {j : Fin 4} {x : Int64} {ls' : List Value} (hd : decode m.2.1 pc = .ok (.lstore_n j, 1)) (hn : (j : Nat) + 1 < m.2.2.1) (hp : pk1 ls j = true) (hl : (ls.set j (.long x)).set (j + 1) .null = ls') (k : PW m d lim (pc + 1) ls' st M Q) : PW m d lim pc ls (.long x :: st) M Q :=
  fun p l e R s mi args below meth c CE SE Qf g H locs cells slots lsA C E => lv_lstore_n C.1 C.2.1 hd rfl (plo_has E.2.2.2.2.2) hn rfl (fun lsB hB => k p l e R s mi args below meth c CE SE Qf g H locs cells slots lsB C (E.ls' (by rw [← hl]; exact plo_set2 hp hB)))
theorem PW.lstore {j : Nat} {x : Int64} {ls' : List Value} (hd : decode m.2.1 pc = .ok (.lstore j, 2)) (hn : j + 1 < m.2.2.1) (hp : pk1 ls j = true) (hl : (ls.set j (.long x)).set (j + 1) .null = ls') (k : PW m d lim (pc + 2) ls' st M Q) : PW m d lim pc ls (.long x :: st) M Q :=
  fun p l e R s mi args below meth c CE SE Qf g H locs cells slots lsA C E => lv_lstore C.1 C.2.1 hd (plo_has E.2.2.2.2.2) hn rfl (fun lsB hB => k p l e R s mi args below meth c CE SE Qf g H locs cells slots lsB C (E.ls' (by rw [← hl]; exact plo_set2 hp hB)))
theorem PW.iinc {j : Nat} {n : Int} {x v : Int32} {ls' : List Value} (hd : decode m.2.1 pc = .ok (.iinc j n, 3)) (hx : ls[j]? = some (.int x)) (hv : x + Int32.ofInt n = v) (hn : j < m.2.2.1) (hp : pk1 ls j = true) (hl : ls.set j (.int v) = ls') (k : PW m d lim (pc + 3) ls' st M Q) : PW m d lim pc ls st M Q := by
  intro p l e R s mi args below meth c CE SE Qf g H locs cells slots lsA C E
  obtain ⟨i, hi⟩ := List.getElem?_of_mem ((pas_in (g := g)).mpr ⟨_, hx, (fun q => by cases q), rfl⟩)
  exact lv_iinc C.1 C.2.1 hd (plo_has E.2.2.2.2.2) hi hv hn rfl (fun lsB hB => k p l e R s mi args below meth c CE SE Qf g H locs cells slots lsB C (E.ls' (by rw [← hl]; exact plo_set1 hp hB)))
-- arithmetic
theorem PW.iadd {x y : Int32} (hd : decode m.2.1 pc = .ok (.iadd, 1)) (k : PW m d lim (pc + 1) ls (.int (x + y) :: st) M Q) : PW m d lim pc ls (.int y :: .int x :: st) M Q :=
  fun p l e R s mi args below meth c CE SE Qf g H locs cells slots lsA C E => lv_iadd C.1 C.2.1 hd  (k p l e R s mi args below meth c CE SE Qf g H locs cells slots lsA C E)
theorem PW.isub {x y : Int32} (hd : decode m.2.1 pc = .ok (.isub, 1)) (k : PW m d lim (pc + 1) ls (.int (x - y) :: st) M Q) : PW m d lim pc ls (.int y :: .int x :: st) M Q :=
  fun p l e R s mi args below meth c CE SE Qf g H locs cells slots lsA C E => lv_isub C.1 C.2.1 hd  (k p l e R s mi args below meth c CE SE Qf g H locs cells slots lsA C E)
theorem PW.imul {x y : Int32} (hd : decode m.2.1 pc = .ok (.imul, 1)) (k : PW m d lim (pc + 1) ls (.int (x * y) :: st) M Q) : PW m d lim pc ls (.int y :: .int x :: st) M Q :=
  fun p l e R s mi args below meth c CE SE Qf g H locs cells slots lsA C E => lv_imul C.1 C.2.1 hd  (k p l e R s mi args below meth c CE SE Qf g H locs cells slots lsA C E)
theorem PW.iand {x y : Int32} (hd : decode m.2.1 pc = .ok (.iand, 1)) (k : PW m d lim (pc + 1) ls (.int (x &&& y) :: st) M Q) : PW m d lim pc ls (.int y :: .int x :: st) M Q :=
  fun p l e R s mi args below meth c CE SE Qf g H locs cells slots lsA C E => lv_iand C.1 C.2.1 hd  (k p l e R s mi args below meth c CE SE Qf g H locs cells slots lsA C E)
theorem PW.ior {x y : Int32} (hd : decode m.2.1 pc = .ok (.ior, 1)) (k : PW m d lim (pc + 1) ls (.int (x ||| y) :: st) M Q) : PW m d lim pc ls (.int y :: .int x :: st) M Q :=
  fun p l e R s mi args below meth c CE SE Qf g H locs cells slots lsA C E => lv_ior C.1 C.2.1 hd  (k p l e R s mi args below meth c CE SE Qf g H locs cells slots lsA C E)
theorem PW.ixor {x y : Int32} (hd : decode m.2.1 pc = .ok (.ixor, 1)) (k : PW m d lim (pc + 1) ls (.int (x ^^^ y) :: st) M Q) : PW m d lim pc ls (.int y :: .int x :: st) M Q :=
  fun p l e R s mi args below meth c CE SE Qf g H locs cells slots lsA C E => lv_ixor C.1 C.2.1 hd  (k p l e R s mi args below meth c CE SE Qf g H locs cells slots lsA C E)
theorem PW.ishl {x y : Int32} (hd : decode m.2.1 pc = .ok (.ishl, 1)) (k : PW m d lim (pc + 1) ls (.int (x <<< (y &&& 31)) :: st) M Q) : PW m d lim pc ls (.int y :: .int x :: st) M Q :=
  fun p l e R s mi args below meth c CE SE Qf g H locs cells slots lsA C E => lv_ishl C.1 C.2.1 hd  (k p l e R s mi args below meth c CE SE Qf g H locs cells slots lsA C E)
theorem PW.ishr {x y : Int32} (hd : decode m.2.1 pc = .ok (.ishr, 1)) (k : PW m d lim (pc + 1) ls (.int (x >>> (y &&& 31)) :: st) M Q) : PW m d lim pc ls (.int y :: .int x :: st) M Q :=
  fun p l e R s mi args below meth c CE SE Qf g H locs cells slots lsA C E => lv_ishr C.1 C.2.1 hd  (k p l e R s mi args below meth c CE SE Qf g H locs cells slots lsA C E)
theorem PW.idiv {x y : Int32} (hd : decode m.2.1 pc = .ok (.idiv, 1)) (hy : ¬ y = 0) (k : PW m d lim (pc + 1) ls (.int (x / y) :: st) M Q) : PW m d lim pc ls (.int y :: .int x :: st) M Q :=
  fun p l e R s mi args below meth c CE SE Qf g H locs cells slots lsA C E => lv_idiv C.1 C.2.1 hd hy (k p l e R s mi args below meth c CE SE Qf g H locs cells slots lsA C E)
theorem PW.irem {x y : Int32} (hd : decode m.2.1 pc = .ok (.irem, 1)) (hy : ¬ y = 0) (k : PW m d lim (pc + 1) ls (.int (x - x / y * y) :: st) M Q) : PW m d lim pc ls (.int y :: .int x :: st) M Q :=
  fun p l e R s mi args below meth c CE SE Qf g H locs cells slots lsA C E => lv_irem C.1 C.2.1 hd hy (k p l e R s mi args below meth c CE SE Qf g H locs cells slots lsA C E)
theorem PW.ineg {x : Int32} (hd : decode m.2.1 pc = .ok (.ineg, 1)) (k : PW m d lim (pc + 1) ls (.int (-x) :: st) M Q) : PW m d lim pc ls (.int x :: st) M Q :=
  fun p l e R s mi args below meth c CE SE Qf g H locs cells slots lsA C E => lv_ineg C.1 C.2.1 hd  (k p l e R s mi args below meth c CE SE Qf g H locs cells slots lsA C E)
theorem PW.iushr {x y : Int32} (hd : decode m.2.1 pc = .ok (.iushr, 1)) (k : PW m d lim (pc + 1) ls (.int ((x.toUInt32 >>> (y.toUInt32 &&& Int32.toUInt32 31)).toInt32) :: st) M Q) : PW m d lim pc ls (.int y :: .int x :: st) M Q :=
  fun p l e R s mi args below meth c CE SE Qf g H locs cells slots lsA C E => lv_iushr C.1 C.2.1 hd rfl (k p l e R s mi args below meth c CE SE Qf g H locs cells slots lsA C E)
theorem PW.ladd {x y : Int64} (hd : decode m.2.1 pc = .ok (.ladd, 1)) (k : PW m d lim (pc + 1) ls (.long (x + y) :: st) M Q) : PW m d lim pc ls (.long y :: .long x :: st) M Q :=
  fun p l e R s mi args below meth c CE SE Qf g H locs cells slots lsA C E => lv_ladd C.1 C.2.1 hd  (k p l e R s mi args below meth c CE SE Qf g H locs cells slots lsA C E)
theorem PW.lsub {x y : Int64} (hd : decode m.2.1 pc = .ok (.lsub, 1)) (k : PW m d lim (pc + 1) ls (.long (x - y) :: st) M Q) : PW m d lim pc ls (.long y :: .long x :: st) M Q :=
  fun p l e R s mi args below meth c CE SE Qf g H locs cells slots lsA C E => lv_lsub C.1 C.2.1 hd  (k p l e R s mi args below meth c CE SE Qf g H locs cells slots lsA C E)
theorem PW.lmul {x y : Int64} (hd : decode m.2.1 pc = .ok (.lmul, 1)) (k : PW m d lim (pc + 1) ls (.long (x * y) :: st) M Q) : PW m d lim pc ls (.long y :: .long x :: st) M Q :=
  fun p l e R s mi args below meth c CE SE Qf g H locs cells slots lsA C E => lv_lmul C.1 C.2.1 hd  (k p l e R s mi args below meth c CE SE Qf g H locs cells slots lsA C E)
theorem PW.land {x y : Int64} (hd : decode m.2.1 pc = .ok (.land, 1)) (k : PW m d lim (pc + 1) ls (.long (x &&& y) :: st) M Q) : PW m d lim pc ls (.long y :: .long x :: st) M Q :=
  fun p l e R s mi args below meth c CE SE Qf g H locs cells slots lsA C E => lv_land C.1 C.2.1 hd  (k p l e R s mi args below meth c CE SE Qf g H locs cells slots lsA C E)
theorem PW.lor {x y : Int64} (hd : decode m.2.1 pc = .ok (.lor, 1)) (k : PW m d lim (pc + 1) ls (.long (x ||| y) :: st) M Q) : PW m d lim pc ls (.long y :: .long x :: st) M Q :=
  fun p l e R s mi args below meth c CE SE Qf g H locs cells slots lsA C E => lv_lor C.1 C.2.1 hd  (k p l e R s mi args below meth c CE SE Qf g H locs cells slots lsA C E)
theorem PW.ldiv {x y : Int64} (hd : decode m.2.1 pc = .ok (.ldiv, 1)) (hy : ¬ y = 0) (k : PW m d lim (pc + 1) ls (.long (x / y) :: st) M Q) : PW m d lim pc ls (.long y :: .long x :: st) M Q :=
  fun p l e R s mi args below meth c CE SE Qf g H locs cells slots lsA C E => lv_ldiv C.1 C.2.1 hd hy (k p l e R s mi args below meth c CE SE Qf g H locs cells slots lsA C E)
theorem PW.lrem {x y : Int64} (hd : decode m.2.1 pc = .ok (.lrem, 1)) (hy : ¬ y = 0) (k : PW m d lim (pc + 1) ls (.long (x - x / y * y) :: st) M Q) : PW m d lim pc ls (.long y :: .long x :: st) M Q :=
  fun p l e R s mi args below meth c CE SE Qf g H locs cells slots lsA C E => lv_lrem C.1 C.2.1 hd hy (k p l e R s mi args below meth c CE SE Qf g H locs cells slots lsA C E)
theorem PW.lshl {x : Int64} {y : Int32} (hd : decode m.2.1 pc = .ok (.lshl, 1)) (k : PW m d lim (pc + 1) ls (.long (x <<< (y.toInt64 &&& 63)) :: st) M Q) : PW m d lim pc ls (.int y :: .long x :: st) M Q :=
  fun p l e R s mi args below meth c CE SE Qf g H locs cells slots lsA C E => lv_lshl C.1 C.2.1 hd rfl (k p l e R s mi args below meth c CE SE Qf g H locs cells slots lsA C E)
theorem PW.lshr {x : Int64} {y : Int32} (hd : decode m.2.1 pc = .ok (.lshr, 1)) (k : PW m d lim (pc + 1) ls (.long (x >>> (y.toInt64 &&& 63)) :: st) M Q) : PW m d lim pc ls (.int y :: .long x :: st) M Q :=
  fun p l e R s mi args below meth c CE SE Qf g H locs cells slots lsA C E => lv_lshr C.1 C.2.1 hd rfl (k p l e R s mi args below meth c CE SE Qf g H locs cells slots lsA C E)
theorem PW.lcmp {x y : Int64} (hd : decode m.2.1 pc = .ok (.lcmp, 1)) (k : PW m d lim (pc + 1) ls (.int (lg_cmp x y) :: st) M Q) : PW m d lim pc ls (.long y :: .long x :: st) M Q :=
  fun p l e R s mi args below meth c CE SE Qf g H locs cells slots lsA C E => W.lcmp C.1 C.2.1 hd  (k p l e R s mi args below meth c CE SE Qf g H locs cells slots lsA C E)
theorem PW.i2l {x : Int32} (hd : decode m.2.1 pc = .ok (.i2l, 1)) (k : PW m d lim (pc + 1) ls (.long x.toInt64 :: st) M Q) : PW m d lim pc ls (.int x :: st) M Q :=
  fun p l e R s mi args below meth c CE SE Qf g H locs cells slots lsA C E => lv_i2l C.1 C.2.1 hd rfl (k p l e R s mi args below meth c CE SE Qf g H locs cells slots lsA C E)
theorem PW.l2i {x : Int64} (hd : decode m.2.1 pc = .ok (.l2i, 1)) (k : PW m d lim (pc + 1) ls (.int x.toInt32 :: st) M Q) : PW m d lim pc ls (.long x :: st) M Q :=
  fun p l e R s mi args below meth c CE SE Qf g H locs cells slots lsA C E => lv_l2i C.1 C.2.1 hd rfl (k p l e R s mi args below meth c CE SE Qf g H locs cells slots lsA C E)
theorem PW.i2b {x : Int32} (hd : decode m.2.1 pc = .ok (.i2b, 1)) (k : PW m d lim (pc + 1) ls (.int x.toInt8.toInt32 :: st) M Q) : PW m d lim pc ls (.int x :: st) M Q :=
  fun p l e R s mi args below meth c CE SE Qf g H locs cells slots lsA C E => lv_i2b C.1 C.2.1 hd rfl (k p l e R s mi args below meth c CE SE Qf g H locs cells slots lsA C E)
theorem PW.i2c {x : Int32} (hd : decode m.2.1 pc = .ok (.i2c, 1)) (k : PW m d lim (pc + 1) ls (.int (x.toUInt32 % 65536).toInt32 :: st) M Q) : PW m d lim pc ls (.int x :: st) M Q :=
  fun p l e R s mi args below meth c CE SE Qf g H locs cells slots lsA C E => lv_i2c C.1 C.2.1 hd rfl (k p l e R s mi args below meth c CE SE Qf g H locs cells slots lsA C E)
-- the stack
theorem PW.dupI {x : Int32} (hd : decode m.2.1 pc = .ok (.dup, 1)) (k : PW m d lim (pc + 1) ls (.int x :: .int x :: st) M Q) : PW m d lim pc ls (.int x :: st) M Q :=
  fun p l e R s mi args below meth c CE SE Qf g H locs cells slots lsA C E => lv_dup C.1 C.2.1 hd rfl (k p l e R s mi args below meth c CE SE Qf g H locs cells slots lsA C E)
theorem PW.popI {x : Int32} (hd : decode m.2.1 pc = .ok (.pop, 1)) (k : PW m d lim (pc + 1) ls (st) M Q) : PW m d lim pc ls (.int x :: st) M Q :=
  fun p l e R s mi args below meth c CE SE Qf g H locs cells slots lsA C E => lv_pop C.1 C.2.1 hd rfl (k p l e R s mi args below meth c CE SE Qf g H locs cells slots lsA C E)
theorem PW.dupR {x : Nat} (hd : decode m.2.1 pc = .ok (.dup, 1)) (k : PW m d lim (pc + 1) ls (.ref x :: .ref x :: st) M Q) : PW m d lim pc ls (.ref x :: st) M Q :=
  fun p l e R s mi args below meth c CE SE Qf g H locs cells slots lsA C E => lv_dup C.1 C.2.1 hd rfl (k p l e R s mi args below meth c CE SE Qf g H locs cells slots lsA C E)
theorem PW.popR {x : Nat} (hd : decode m.2.1 pc = .ok (.pop, 1)) (k : PW m d lim (pc + 1) ls (st) M Q) : PW m d lim pc ls (.ref x :: st) M Q :=
  fun p l e R s mi args below meth c CE SE Qf g H locs cells slots lsA C E => lv_pop C.1 C.2.1 hd rfl (k p l e R s mi args below meth c CE SE Qf g H locs cells slots lsA C E)
theorem PW.dup2IR {x : Int32} {a : Nat} (hd : decode m.2.1 pc = .ok (.dup2, 1)) (k : PW m d lim (pc + 1) ls (.int x :: .ref a :: .int x :: .ref a :: st) M Q) : PW m d lim pc ls (.int x :: .ref a :: st) M Q :=
  fun p l e R s mi args below meth c CE SE Qf g H locs cells slots lsA C E => lv_dup2_11 C.1 C.2.1 hd rfl rfl (k p l e R s mi args below meth c CE SE Qf g H locs cells slots lsA C E)
theorem PW.dup2J {x : Int64} (hd : decode m.2.1 pc = .ok (.dup2, 1)) (k : PW m d lim (pc + 1) ls (.long x :: .long x :: st) M Q) : PW m d lim pc ls (.long x :: st) M Q :=
  fun p l e R s mi args below meth c CE SE Qf g H locs cells slots lsA C E => lv_dup2_2 C.1 C.2.1 hd rfl (k p l e R s mi args below meth c CE SE Qf g H locs cells slots lsA C E)
-- branches
theorem PW.if_eq {x : Int32} {off : Int} {t : Nat} (hd : decode m.2.1 pc = .ok (.ifCond .eq off, 3)) (ht : (pc : Int) + off = (t : Int)) (kt : x = 0 → PW m d lim t ls st M Q) (kf : ¬ x = 0 → PW m d lim (pc + 3) ls st M Q) : PW m d lim pc ls (.int x :: st) M Q :=
  fun p l e R s mi args below meth c CE SE Qf g H locs cells slots lsA C E => lv_if_eq C.1 C.2.1 hd ht (fun h => kt h p l e R s mi args below meth c CE SE Qf g H locs cells slots lsA C E) (fun h => kf h p l e R s mi args below meth c CE SE Qf g H locs cells slots lsA C E)
theorem PW.icmp_eq {x y : Int32} {off : Int} {t : Nat} (hd : decode m.2.1 pc = .ok (.if_icmp .eq off, 3)) (ht : (pc : Int) + off = (t : Int)) (kt : x = y → PW m d lim t ls st M Q) (kf : ¬ x = y → PW m d lim (pc + 3) ls st M Q) : PW m d lim pc ls (.int y :: .int x :: st) M Q :=
  fun p l e R s mi args below meth c CE SE Qf g H locs cells slots lsA C E => lv_icmp_eq C.1 C.2.1 hd ht (fun h => kt h p l e R s mi args below meth c CE SE Qf g H locs cells slots lsA C E) (fun h => kf h p l e R s mi args below meth c CE SE Qf g H locs cells slots lsA C E)
theorem PW.if_ne {x : Int32} {off : Int} {t : Nat} (hd : decode m.2.1 pc = .ok (.ifCond .ne off, 3)) (ht : (pc : Int) + off = (t : Int)) (kt : ¬ x = 0 → PW m d lim t ls st M Q) (kf : x = 0 → PW m d lim (pc + 3) ls st M Q) : PW m d lim pc ls (.int x :: st) M Q :=
  fun p l e R s mi args below meth c CE SE Qf g H locs cells slots lsA C E => lv_if_ne C.1 C.2.1 hd ht (fun h => kt h p l e R s mi args below meth c CE SE Qf g H locs cells slots lsA C E) (fun h => kf h p l e R s mi args below meth c CE SE Qf g H locs cells slots lsA C E)
theorem PW.icmp_ne {x y : Int32} {off : Int} {t : Nat} (hd : decode m.2.1 pc = .ok (.if_icmp .ne off, 3)) (ht : (pc : Int) + off = (t : Int)) (kt : ¬ x = y → PW m d lim t ls st M Q) (kf : x = y → PW m d lim (pc + 3) ls st M Q) : PW m d lim pc ls (.int y :: .int x :: st) M Q :=
  fun p l e R s mi args below meth c CE SE Qf g H locs cells slots lsA C E => lv_icmp_ne C.1 C.2.1 hd ht (fun h => kt h p l e R s mi args below meth c CE SE Qf g H locs cells slots lsA C E) (fun h => kf h p l e R s mi args below meth c CE SE Qf g H locs cells slots lsA C E)
theorem PW.if_lt {x : Int32} {off : Int} {t : Nat} (hd : decode m.2.1 pc = .ok (.ifCond .lt off, 3)) (ht : (pc : Int) + off = (t : Int)) (kt : x < 0 → PW m d lim t ls st M Q) (kf : ¬ x < 0 → PW m d lim (pc + 3) ls st M Q) : PW m d lim pc ls (.int x :: st) M Q :=
  fun p l e R s mi args below meth c CE SE Qf g H locs cells slots lsA C E => lv_if_lt C.1 C.2.1 hd ht (fun h => kt h p l e R s mi args below meth c CE SE Qf g H locs cells slots lsA C E) (fun h => kf h p l e R s mi args below meth c CE SE Qf g H locs cells slots lsA C E)
theorem PW.icmp_lt {x y : Int32} {off : Int} {t : Nat} (hd : decode m.2.1 pc = .ok (.if_icmp .lt off, 3)) (ht : (pc : Int) + off = (t : Int)) (kt : x < y → PW m d lim t ls st M Q) (kf : ¬ x < y → PW m d lim (pc + 3) ls st M Q) : PW m d lim pc ls (.int y :: .int x :: st) M Q :=
  fun p l e R s mi args below meth c CE SE Qf g H locs cells slots lsA C E => lv_icmp_lt C.1 C.2.1 hd ht (fun h => kt h p l e R s mi args below meth c CE SE Qf g H locs cells slots lsA C E) (fun h => kf h p l e R s mi args below meth c CE SE Qf g H locs cells slots lsA C E)
theorem PW.if_ge {x : Int32} {off : Int} {t : Nat} (hd : decode m.2.1 pc = .ok (.ifCond .ge off, 3)) (ht : (pc : Int) + off = (t : Int)) (kt : 0 ≤ x → PW m d lim t ls st M Q) (kf : ¬ 0 ≤ x → PW m d lim (pc + 3) ls st M Q) : PW m d lim pc ls (.int x :: st) M Q :=
  fun p l e R s mi args below meth c CE SE Qf g H locs cells slots lsA C E => lv_if_ge C.1 C.2.1 hd ht (fun h => kt h p l e R s mi args below meth c CE SE Qf g H locs cells slots lsA C E) (fun h => kf h p l e R s mi args below meth c CE SE Qf g H locs cells slots lsA C E)
theorem PW.icmp_ge {x y : Int32} {off : Int} {t : Nat} (hd : decode m.2.1 pc = .ok (.if_icmp .ge off, 3)) (ht : (pc : Int) + off = (t : Int)) (kt : y ≤ x → PW m d lim t ls st M Q) (kf : ¬ y ≤ x → PW m d lim (pc + 3) ls st M Q) : PW m d lim pc ls (.int y :: .int x :: st) M Q :=
  fun p l e R s mi args below meth c CE SE Qf g H locs cells slots lsA C E => lv_icmp_ge C.1 C.2.1 hd ht (fun h => kt h p l e R s mi args below meth c CE SE Qf g H locs cells slots lsA C E) (fun h => kf h p l e R s mi args below meth c CE SE Qf g H locs cells slots lsA C E)
theorem PW.if_gt {x : Int32} {off : Int} {t : Nat} (hd : decode m.2.1 pc = .ok (.ifCond .gt off, 3)) (ht : (pc : Int) + off = (t : Int)) (kt : 0 < x → PW m d lim t ls st M Q) (kf : ¬ 0 < x → PW m d lim (pc + 3) ls st M Q) : PW m d lim pc ls (.int x :: st) M Q :=
  fun p l e R s mi args below meth c CE SE Qf g H locs cells slots lsA C E => lv_if_gt C.1 C.2.1 hd ht (fun h => kt h p l e R s mi args below meth c CE SE Qf g H locs cells slots lsA C E) (fun h => kf h p l e R s mi args below meth c CE SE Qf g H locs cells slots lsA C E)
theorem PW.icmp_gt {x y : Int32} {off : Int} {t : Nat} (hd : decode m.2.1 pc = .ok (.if_icmp .gt off, 3)) (ht : (pc : Int) + off = (t : Int)) (kt : y < x → PW m d lim t ls st M Q) (kf : ¬ y < x → PW m d lim (pc + 3) ls st M Q) : PW m d lim pc ls (.int y :: .int x :: st) M Q :=
  fun p l e R s mi args below meth c CE SE Qf g H locs cells slots lsA C E => lv_icmp_gt C.1 C.2.1 hd ht (fun h => kt h p l e R s mi args below meth c CE SE Qf g H locs cells slots lsA C E) (fun h => kf h p l e R s mi args below meth c CE SE Qf g H locs cells slots lsA C E)
theorem PW.if_le {x : Int32} {off : Int} {t : Nat} (hd : decode m.2.1 pc = .ok (.ifCond .le off, 3)) (ht : (pc : Int) + off = (t : Int)) (kt : x ≤ 0 → PW m d lim t ls st M Q) (kf : ¬ x ≤ 0 → PW m d lim (pc + 3) ls st M Q) : PW m d lim pc ls (.int x :: st) M Q :=
  fun p l e R s mi args below meth c CE SE Qf g H locs cells slots lsA C E => lv_if_le C.1 C.2.1 hd ht (fun h => kt h p l e R s mi args below meth c CE SE Qf g H locs cells slots lsA C E) (fun h => kf h p l e R s mi args below meth c CE SE Qf g H locs cells slots lsA C E)
theorem PW.icmp_le {x y : Int32} {off : Int} {t : Nat} (hd : decode m.2.1 pc = .ok (.if_icmp .le off, 3)) (ht : (pc : Int) + off = (t : Int)) (kt : x ≤ y → PW m d lim t ls st M Q) (kf : ¬ x ≤ y → PW m d lim (pc + 3) ls st M Q) : PW m d lim pc ls (.int y :: .int x :: st) M Q :=
  fun p l e R s mi args below meth c CE SE Qf g H locs cells slots lsA C E => lv_icmp_le C.1 C.2.1 hd ht (fun h => kt h p l e R s mi args below meth c CE SE Qf g H locs cells slots lsA C E) (fun h => kf h p l e R s mi args below meth c CE SE Qf g H locs cells slots lsA C E)
theorem PW.goto {off : Int} {t : Nat} (hd : decode m.2.1 pc = .ok (.goto off, 3)) (ht : (pc : Int) + off = (t : Int)) (k : PW m d lim t ls st M Q) : PW m d lim pc ls st M Q :=
  fun p l e R s mi args below meth c CE SE Qf g H locs cells slots lsA C E => lv_goto C.1 C.2.1 hd ht (k p l e R s mi args below meth c CE SE Qf g H locs cells slots lsA C E)
theorem PW.tabOut {df lo hi : Int} {offs : Array Int} {len : Nat} {x : Int32} {t : Nat} (hd : decode m.2.1 pc = .ok (.tableswitch df lo hi offs, len)) (h : x.toInt < lo ∨ hi < x.toInt) (ht : (pc : Int) + df = (t : Int)) (k : PW m d lim t ls st M Q) : PW m d lim pc ls (.int x :: st) M Q :=
  fun p l e R s mi args below meth c CE SE Qf g H locs cells slots lsA C E => lv_tableOut C.1 C.2.1 hd h ht (k p l e R s mi args below meth c CE SE Qf g H locs cells slots lsA C E)
theorem PW.tabIn {df lo hi : Int} {offs : Array Int} {len : Nat} {x : Int32} {off : Int} {t : Nat} (hd : decode m.2.1 pc = .ok (.tableswitch df lo hi offs, len)) (h1 : ¬ x.toInt < lo) (h2 : ¬ hi < x.toInt) (ho : offs[(x.toInt - lo).toNat]? = some off) (ht : (pc : Int) + off = (t : Int)) (k : PW m d lim t ls st M Q) : PW m d lim pc ls (.int x :: st) M Q :=
  fun p l e R s mi args below meth c CE SE Qf g H locs cells slots lsA C E => lv_tableIn C.1 C.2.1 hd h1 h2 ho ht (k p l e R s mi args below meth c CE SE Qf g H locs cells slots lsA C E)
theorem PW.lookup {df : Int} {ps : Array (Int × Int)} {len : Nat} {x : Int32} {off : Int} {t : Nat} (hd : decode m.2.1 pc = .ok (.lookupswitch df ps, len)) (hp : (ps.toList.zip (ps.toList.drop 1)).all (fun (a, next) => a.1 < next.1) = true) (ho : Op.lookupswitch.offset ps.toList df x.toInt = off) (ht : (pc : Int) + off = (t : Int)) (k : PW m d lim t ls st M Q) : PW m d lim pc ls (.int x :: st) M Q :=
  fun p l e R s mi args below meth c CE SE Qf g H locs cells slots lsA C E => lv_lookup C.1 C.2.1 hd hp ho ht (k p l e R s mi args below meth c CE SE Qf g H locs cells slots lsA C E)
-- returns
theorem pE.done {nL CE SE : Nat} {g : pgh} {s : State} {H : Heap} {locs : List Loc} {cells slots : Nat} {lsA : Array Slot} (E : pE nL lim CE SE g s M ls H locs cells slots lsA) (h : mN M = lim) : cells = CE ∧ slots = SE := by
  obtain ⟨⟨h1, h2, -⟩, -⟩ := E
  rw [h, Nat.sub_self] at h1
  rw [h, Nat.sub_self] at h2
  exact ⟨h1, h2⟩
theorem PW.ret0 (hd : decode m.2.1 pc = .ok (.return_, 1)) (hn : mN M = lim) (hr : m.2.2.2 = none) (hq : Q none M) : PW m d lim pc ls [] M Q := by
  intro p l e R s mi args below meth c CE SE Qf g H locs cells slots lsA C E
  obtain ⟨rfl, rfl⟩ := E.done hn
  exact C.2.2.2.2.2.2.2.2.2 none M H locs pc lsA hq hn E.2.1 E.2.2.1 E.2.2.2.1 E.2.2.2.2.1 hr hd
theorem PW.retI {v : Int32} {ty : FieldType} (hd : decode m.2.1 pc = .ok (.ireturn, 1)) (hn : mN M = lim) (hr : m.2.2.2 = some ty) (hv : narrow ty (.int v) = .int v) (hq : Q (some (.int v)) M) : PW m d lim pc ls [.int v] M Q := by
  intro p l e R s mi args below meth c CE SE Qf g H locs cells slots lsA C E
  obtain ⟨rfl, rfl⟩ := E.done hn
  exact C.2.2.2.2.2.2.2.2.2 (some (.int v)) M H locs pc lsA hq hn E.2.1 E.2.2.1 E.2.2.2.1 E.2.2.2.2.1 ⟨ty, hr, hv⟩ hd
theorem PW.retJ {v : Int64} (hd : decode m.2.1 pc = .ok (.lreturn, 1)) (hn : mN M = lim) (hr : m.2.2.2 = some .long) (hq : Q (some (.long v)) M) : PW m d lim pc ls [.long v] M Q := by
  intro p l e R s mi args below meth c CE SE Qf g H locs cells slots lsA C E
  obtain ⟨rfl, rfl⟩ := E.done hn
  exact C.2.2.2.2.2.2.2.2.2 (some (.long v)) M H locs pc lsA hq hn E.2.1 E.2.2.1 E.2.2.2.1 E.2.2.2.2.1 hr hd
end PWR
