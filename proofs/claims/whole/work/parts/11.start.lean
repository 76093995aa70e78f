/-! THE CLAIM OUT OF ONE WALK OF THE LAW'S BODY. Your part is whole_start (and what it stands on); all else here is the same for every law, but numbers. -/
def R_law : String := "GraveRequestLaw"
def lw_P (b : Addr) (xs : List Int32) (args : Array Value) (s : State) : Prop := args = #[.ref b] ∧ s.IntsAt b xs ∧ xs.length ≤ 3072 ∧ (Jvm.Cond.and given_1 narrow_1).before args s = true
def lw_Q (_ : Array Value) (s : State) (o : Outcome) (t : State) : Prop := o = .returned (some (.int 1)) ∧ Framed s o t [] 600000 7302250
def lw_Z (below : List Frame) (a : Array Value) (s : State) : State → Prop := fun t => ∃ o, t.status = .running ∧ Ended t below o ∧ lw_Q a s o t
/-- the law's own end, with 1 on the stack, nothing written that was there before, its room as the claim has it -/
theorem lw_ret {p : Program} {l : Launch} {e : Env} {s : State} {m : MethodId} {below : List Frame} {meth : Method} {c : Code} {b : Nat} (hx : p.tables.exec = Jvm.exec) (hb : c.code = code) (hr : meth.sig.returnType = ret) (hlocks : meth.locks = false) {pc : Nat} {H : Heap} {ls : Array Slot} (hdg : decode code pc = .ok (.ireturn, 1)) : W p l e room_1 s m #[Value.ref b] below meth c H [] 600000 7302250 (lw_Z below #[Value.ref b] s) (F0 m pc ls [.int 1]) := by
  intro T hT X
  obtain ⟨fs, hret, hrun, hended, hW, hframe⟩ := X.leave (v := some (.int 1)) (hlocks := hlocks) (fun h => by rw [hr] at h; cases h)
  have hmeth' : T.vm.method? m = some meth := X.method'
  refine ⟨T.setFrames fs, ?_, .returned (some (.int 1)), hrun, hended, rfl, ⟨_, rfl⟩, hW, hframe⟩
  jvm_step X.here [X.here.top, hx, hb, hdg, hmeth', hr, ret, narrow_b1]
  (try refine ⟨rfl, ?_⟩); (try refine ⟨rfl, ?_⟩)
  first | (intro acts; rw [hret _ acts rfl rfl rfl]) | rw [hret _ _ rfl rfl rfl]
  exact Steps.refl _
/-- what holds at the law's entry: the machine, the code, the tables' words (any of lw_tbl by 'hts w (by decide +kernel)'), the script of L ints xs at the cell b, what the Statement gives of the start (any of its parts by flat_of_before) -/
def lw_At (p : Program) (s : State) (m : MethodId) (meth : Method) (c : Code) (b L : Nat) (xs : Nat → Int32) : Prop :=
  p.tables.exec = Jvm.exec ∧ c.code = code ∧ meth.sig.returnType = ret ∧ c.maxLocals = 4 ∧ s.vm.findClass R_law = some m.cls ∧ (∀ w ∈ lw_tbl, w.before #[Value.ref b] s = true) ∧ va_X b L xs s s.heap ∧ b < s.heap.size ∧ meth.locks = false ∧ (Jvm.Cond.and given_1 narrow_1).before #[Value.ref b] s = true
/-! the start: what the tables and the premises say becomes pK -/
theorem pnest_of {s : State} {args : Array Value} (hts : ∀ w ∈ lw_tbl, w.before args s = true) : ∀ w ∈ pnest, va_Nw w s := by
  intro w hw
  obtain ⟨h1, h2⟩ := List.mem_filter.mp hw
  have h3 := hts w (List.mem_append.mpr (Or.inr h1))
  cases w <;> first | (cases h2; done) | exact va_Nw.of rfl h3
theorem arr_of {s : State} {args : Array Value} {ty : FieldType} (h : (Cond.arrayClass ty).before args s = true) (hr : ∀ cA, s.vm.findClass ("[" ++ ty.toString) = some cA → va_RA s cA ty) : ∃ cA : ClassId, ArrOfT s cA ty ∧ va_RA s cA ty := by
  obtain ⟨cA, kA, comp, h1, h2, h3⟩ := Cond.arrayClass_spec h
  exact ⟨cA, fun n z => ⟨fun k h => (by cases h), kA, h2, comp, h3⟩, hr cA h1⟩
def p_fl : List Cond := flatC (Jvm.Cond.and given_1 narrow_1)
def p_tm : Term := .string RX6 45
def p_elB (B : List Int32) (j : Nat) : Cond := .eq (.elem (.field p_tm "java/lang/String" "value" "[B") (.int (Int32.ofNat j))) (.int (B.getD j 0))
theorem p_key (B : List Int32) (j : Nat) : Cond.eq (.elem (.field ((fun _ : Nat => p_tm) 0) "java/lang/String" "value" "[B") (.int (Int32.ofNat j))) (.int (([B].getD 0 []).getD j 0)) = p_elB B j := rfl
def p_el (j : Nat) : Cond := p_elB pBytes j
set_option maxRecDepth 20000 in
theorem p_els : ∀ j, j < 204 → p_fl[j + 13]? = some (p_el j) := by decide +kernel
theorem pK_start {s : State} {args : Array Value} {b L : Nat} {xs : Nat → Int32} (hts : ∀ w ∈ lw_tbl, w.before args s = true) (hgv : (Jvm.Cond.and given_1 narrow_1).before args s = true) (hb : b < s.heap.size) : ∃ g : pgh, gO g = s.heap.size ∧ gL g 1 = b ∧ pK g s := by
  have hfl := flat_of_before _ hgv
  have hbig : ∀ w ∈ pBig, w.before args s = true := fun w h => hts w (List.mem_filter.mp h).1
  obtain ⟨c0, i0, k0⟩ := u_known (C := RX0) (T := TX0) (N := 2) (n := 2) hbig inlX0 (hts _ (tb_in 2 _ (List.mem_of_getElem? (i := 105) (by decide +kernel))))
  obtain ⟨c1, i1, k1⟩ := u_known (C := RX1) (T := TX1) (N := 6) (n := 6) hbig inlX1 (hts _ (tb_in 2 _ (List.mem_of_getElem? (i := 21) (by decide +kernel))))
  obtain ⟨c2, i2, k2⟩ := u_known (C := RX2) (T := TX2) (N := 5) (n := 5) hbig inlX2 (hts _ (tb_in 1 _ (List.mem_of_getElem? (i := 125) (by decide +kernel))))
  obtain ⟨c3, i3, k3⟩ := u_known (C := RX3) (T := TX3) (N := 6) (n := 6) hbig inlX3 (hts _ (tb_in 1 _ (List.mem_of_getElem? (i := 26) (by decide +kernel))))
  obtain ⟨c4, i4, k4⟩ := u_known (C := RX4) (T := TX4) (N := 11) (n := 11) hbig inlX4 (hts _ (tb_in 2 _ (List.mem_of_getElem? (i := 48) (by decide +kernel))))
  obtain ⟨c5, i5, k5⟩ := u_known (C := RX5) (T := TX5) (N := 17) (n := 17) hbig inlX5 (hts _ (tb_in 1 _ (List.mem_of_getElem? (i := 173) (by decide +kernel))))
  obtain ⟨c6, i6, k6⟩ := u_known (C := RX6) (T := TX6) (N := 9) (n := 9) hbig inlX6 (hts _ (tb_in 1 _ (List.mem_of_getElem? (i := 32) (by decide +kernel))))
  obtain ⟨c7, i7, k7⟩ := u_known (C := RX7) (T := TX7) (N := 19) (n := 19) hbig inlX7 (hts _ (tb_in 1 _ (List.mem_of_getElem? (i := 18) (by decide +kernel))))
  obtain ⟨c8, i8, k8⟩ := u_known (C := RX8) (T := TX8) (N := 107) (n := 107) hbig inlX8 (hts _ (tb_in 5 _ (List.mem_of_getElem? (i := 77) (by decide +kernel))))
  obtain ⟨a0, x0, y0⟩ := arr_of (ty := .byte) (hts _ (tb_in 1 _ (List.mem_of_getElem? (i := 122) (by decide +kernel)))) (fun _ h => h)
  obtain ⟨a1, x1, y1⟩ := arr_of (ty := .char) (hts _ (tb_in 6 _ (List.mem_of_getElem? (i := 164) (by decide +kernel)))) (fun _ h => h)
  obtain ⟨a2, x2, y2⟩ := arr_of (ty := .int) (hts _ (tb_in 1 _ (List.mem_of_getElem? (i := 123) (by decide +kernel)))) (fun _ h => h)
  obtain ⟨a3, x3, y3⟩ := arr_of (ty := .long) (hts _ (tb_in 6 _ (List.mem_of_getElem? (i := 165) (by decide +kernel)))) (fun _ h => h)
  obtain ⟨a4, x4, y4⟩ := arr_of (ty := .boolean) (hts _ (tb_in 1 _ (List.mem_of_getElem? (i := 149) (by decide +kernel)))) (fun _ h => h)
  have ho : va_AO RX4 s := va_AO.of (A := args) (hts (.arrayOver (.object RX4)) (tb_in 2 _ (List.mem_of_getElem? (i := 111) (by decide +kernel))))
  have hoa0 : (Cond.arrayOver (.array .int)).before args s = true := hts _ (tb_in 2 _ (List.mem_of_getElem? (i := 27) (by decide +kernel)))
  have hoa : va_AOA .int s := hoa0
  obtain ⟨comp, cs, ks, q1, q2, q3, q4, q5⟩ := Cond.arrayOver_spec ho
  obtain ⟨comp2, ca, ka, r1, r2, r3, r4, r5⟩ := arrayOverA_spec hoa
  let A0 : Nat → Prop := fun q => s.heap.size ≤ q
  have hA : ∀ a : Nat, a < s.heap.size → ¬ A0 a := fun a h q => Nat.not_le.mpr h q
  obtain ⟨adK, adV, hS, hev⟩ := vk_Sof (args := args) (s := s) (N := 1) (tm := fun _ => p_tm) (len := [204]) (byt := [pBytes]) (A := A0) (by decide)
    (fun i _ => hfl _ (List.mem_of_getElem? (i := 9) (by decide +kernel)))
    (fun i _ => hfl _ (List.mem_of_getElem? (i := 10) (by decide +kernel)))
    (fun i _ => hfl _ (List.mem_of_getElem? (i := 11) (by decide +kernel)))
    (fun i hi => by
      have : i = 0 := by omega
      subst this
      exact hfl _ (List.mem_of_getElem? (i := 12) (by decide +kernel)))
    (fun i hi j hj => by
      have : i = 0 := by omega
      subst this
      have h9 := hfl _ (List.mem_of_getElem? (p_els j hj))
      exact (congrArg (fun w => Cond.before w args s = true) (p_key pBytes j)).mpr h9)
    (fun i j hi hj h => absurd (by omega : i = j) h) hA
  have hZ1 : va_Z "java/lang/String" "COMPACT_STRINGS" "Z" (.int 1) A0 s s.heap := va_Zof (hts _ (tb_in 1 _ (List.mem_of_getElem? (i := 50) (by decide +kernel)))) (hts _ (tb_in 1 _ (List.mem_of_getElem? (i := 4) (by decide +kernel)))) (va_eqt (hfl _ (List.mem_of_getElem? (i := 4) (by decide +kernel)))) hA
  have hZ2 : va_Zq "jdk/internal/util/Preconditions" "SIOOBE_FORMATTER" "Ljava/util/function/BiFunction;" A0 s s.heap := va_Zqof (hts _ (tb_in 1 _ (List.mem_of_getElem? (i := 66) (by decide +kernel)))) (hts _ (tb_in 1 _ (List.mem_of_getElem? (i := 6) (by decide +kernel)))) (hfl _ (List.mem_of_getElem? (i := 5) (by decide +kernel))) hA
  obtain ⟨oq, hZ3⟩ : ∃ oq : Option Nat, va_Z "jdk/internal/util/Preconditions" "SIOOBE_FORMATTER" "Ljava/util/function/BiFunction;" (va_rf oq) A0 s s.heap := by
    rcases hZ2 with h | ⟨t, h⟩
    · exact ⟨none, h⟩
    · exact ⟨some t, h⟩
  have hR : vk_R RX6 45 pWords (adK 0) s := vk_R.of (hts _ (tb_in 1 _ (List.mem_of_getElem? (i := 40) (by decide +kernel)))) (hev 0 (by decide))
  refine ⟨((fun i => match i with | 0 => c0 | 1 => c1 | 2 => c2 | 3 => c3 | 4 => c4 | 5 => c5 | 6 => c6 | 7 => c7 | _ => c8, fun i => match i with | 0 => i0 | 1 => i1 | 2 => i2 | 3 => i3 | 4 => i4 | 5 => i5 | 6 => i6 | 7 => i7 | _ => i8), (fun i => match i with | 9 => a0 | 10 => a1 | 11 => a2 | 12 => a3 | 13 => a4 | 14 => cs | _ => ca), (fun i => match i with | 0 => adV 0 | 1 => b | _ => adK 0), s.heap.size, oq), rfl, rfl, ⟨?_, ?_⟩, pnest_of hts, ho, hoa, Nat.le_refl _, hb, hR, ?_, hZ1, hZ3⟩
  · intro c q hq
    have hc : c < 9 := (List.getElem?_eq_some_iff.mp hq).1
    rcases (by omega : c = 0 ∨ c = 1 ∨ c = 2 ∨ c = 3 ∨ c = 4 ∨ c = 5 ∨ c = 6 ∨ c = 7 ∨ c = 8) with rfl | rfl | rfl | rfl | rfl | rfl | rfl | rfl | rfl <;> cases hq <;> assumption
  · intro c q hq
    have hc : c < 7 := (List.getElem?_eq_some_iff.mp hq).1
    rcases (by omega : c = 0 ∨ c = 1 ∨ c = 2 ∨ c = 3 ∨ c = 4 ∨ c = 5 ∨ c = 6) with rfl | rfl | rfl | rfl | rfl | rfl | rfl <;> cases hq
    · exact ⟨x0, y0⟩
    · exact ⟨x1, y1⟩
    · exact ⟨x2, y2⟩
    · exact ⟨x3, y3⟩
    · exact ⟨x4, y4⟩
    · exact ⟨fun n z => ⟨fun k h => (by cases h), ks, q3, comp, q4⟩, ks, comp, q3, q4, q1, q5⟩
    · exact ⟨fun n z => ⟨fun k h => (by cases h), ka, r3, comp2, r4⟩, r5⟩
  · refine ⟨fun i hi => ?_, fun i j hi hj _ => by omega⟩
    have : i = 0 := by omega
    subst this
    exact hS.1 0 (by decide)
abbrev mL_law (nm : String) : pmt := (⟨RL, nm, "([I)Z"⟩, cL_law, 4, ret)
/-- the memory at the start: the script alone -/
def pM0 (L : Nat) (xs : Nat → Int32) : pm := (fun a k => if a = 1 then xs k else 0, fun _ _ => 0, fun _ _ => 0, 0, L)
theorem start_of (hlaw : ∀ (nm : String) (L : Nat) (xs : Nat → Int32), L ≤ 3072 → PW (mL_law nm) 400 350 0 (pfr 4 [.ref 1]) [] (pM0 L xs) (fun r _ => r = some (.int 1))) {p : Program} {e : Env} {s : State} {m : MethodId} {below : List Frame} {meth : Method} {c : Code} (l : Launch) {b L : Nat} {xs : Nat → Int32} (hL : L ≤ 3072) (C0 : lw_At p s m meth c b L xs) : W p l e room_1 s m #[Value.ref b] below meth c s.heap [] 0 0 (lw_Z below #[Value.ref b] s) (entryFrame m ([Value.ref b] : List Value).toArray 4) := by
  obtain ⟨hx, hbt, hr, hml, hown, hts, hX, hbl, hlocks, hgv⟩ := C0
  obtain ⟨g, hg1, hg2, hK⟩ := pK_start (L := L) (xs := xs) hts hgv hbl
  have had : ad g 1 = b := by unfold ad; rw [if_pos (by decide)]; exact hg2
  rw [lg_entry_eq]
  have hplo := plo_entry g 4 [.ref 1] (by decide)
  rw [show ([Value.ref 1] : List Value).map (cv g) = [Value.ref b] by rw [← had]; rfl] at hplo
  refine hlaw meth.name L xs hL p l e room_1 s m _ below meth c 350 (lz 350) _ g s.heap [] 0 0 _ ⟨hx, hbt, hml, hr, hown, rfl, fun w h => hts w (List.mem_filter.mp h).1, ⟨by decide +kernel, by decide +kernel, by decide +kernel, by decide +kernel⟩, hK, ?_⟩ ⟨⟨rfl, by show 0 + (lz 350 - lz 0) = lz 350; rw [show lz 0 = 0 from rfl]; omega, Nat.zero_le _⟩, by rw [hg1]; rfl, fun k q hq => ?_, ?_, va_S.rf, hplo⟩
  · intro r M' H' locs' pc' ls' q1 q2 q3 q4 q5 q6 q7 q8
    subst q1
    refine va_forget (fun q hq => ?_) (W.widen (by decide +kernel) (by decide +kernel) (lw_ret hx hbt hr hlocks q8))
    have := q6.2.2 q hq
    rw [← hg1]
    exact this
  · obtain ⟨h, -⟩ := mw_of hq
    exact absurd h (Nat.not_lt_zero _)
  · rw [hg2]
    exact hX
