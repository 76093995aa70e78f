/-! calls: from PW at a method's entry its contract; from the contract the call -/
def pPc (g : pgh) (M : pm) (av : List Value) : Array Value → State → Prop := fun as U => as = (av.map (cv g)).toArray ∧ pK g U ∧ U.heap.size = gO g + mN M ∧ va_P (gD g) pcl (mw g M) U.heap ∧ va_X (gL g 1) (mL M) (mI M 1) U U.heap
def pQc (g : pgh) (lim : Nat) (Q : Option Value → pm → Prop) : Array Value → State → Outcome → State → Prop := fun _ st o t => (∃ (r : Option Value) (M' : pm), o = .returned (r.map (cv g)) ∧ Q r M' ∧ mN M' = lim ∧ t.heap.size = gO g + mN M' ∧ va_P (gD g) pcl (mw g M') t.heap ∧ va_X (gL g 1) (mL M') (mI M' 1) t t.heap) ∧ va_F (pA g) st t
abbrev pRm (d lim n : Nat) : Room := { frames := d, cells := lim - n, slots := lz lim - lz n, locals := 64 * d }
theorem pX_kept {g : pgh} {s : State} {H : Heap} {locs : List Loc} {L : Nat} {xs : Nat → Int32} (hK : pK g s) (hS : va_S (pA g) s.heap H locs) (h : va_X (gL g 1) L xs s s.heap) : va_X (gL g 1) L xs s H := h.kept (hS.2.1 _ hK.sb.1 hK.sb.2)
/-- a method's contract out of its walk, also where its class has methods that the machine runs itself -/
theorem pMet_ofW {l : Launch} {y : MethodName} {ws ws' : List Cond} {rm : Room} {Pc : Array Value → State → Prop} {Qc : Array Value → State → Outcome → State → Prop} {mc ms : Nat} {free : Addr → Prop} {cc : ByteArray} {maxL : Nat} {ret : Option FieldType}
    (hy : plainFor y = true) (hw : ws = Cond.code y cc maxL ret :: ws')
    (body : ∀ p e s m args below meth c s₁, BodyLoose p l y (headSpec ws rm) cc maxL ret e s m args below meth c s₁ → c.maxLocals = maxL → Pc args s →
      W p l e (headSpec ws rm).room s m args below meth c s.heap [] 0 0 (MQ below Qc args s mc ms free) (entryFrame m args maxL)) : Met l y ws rm Pc Qc mc ms free := by
  refine MetFree.of_bodySF (code := cc) (maxLocals := maxL) (ret := ret) hy ?_ ?_
  · intro args s m h hn
    obtain ⟨meth, c, h1, h2, h3, h4, h5, h6, -, -⟩ := Cond.code_spec hn (atoms_spec (ws := ws) h _ (by rw [hw]; exact List.mem_cons_self))
    exact ⟨meth, c, h1, h2, h3, h4, h5, h6⟩
  · intro p e s m args below meth c s₁ B hml hP _
    have hh0 : s₁.heap = s.heap := by rw [B.state]; rfl
    obtain ⟨t, a1, o, b1, b2, b3⟩ := body p e s m args below meth c s₁ B hml hP s₁ hh0 (Stand.of_body B)
    exact ⟨t, o, a1, b1, b2, ⟨b3.1, b3.2⟩⟩
theorem PW.met (l : Launch) {m : pmt} {d lim : Nat} {av : List Value} {M : pm} {Q : Option Value → pm → Prop} (hy : plainFor m.1 = true) (hav : (pen av).length ≤ m.2.2.1) (hn : mN M ≤ lim) (h : PW m d lim 0 (pfr m.2.2.1 av) [] M Q) (g : pgh) :
    Met l m.1 (Cond.code m.1 m.2.1 m.2.2.1 m.2.2.2 :: pBig) (pRm d lim (mN M)) (pPc g M av) (pQc g lim Q) (lim - mN M) (lz lim - lz (mN M)) (pA g) := by
  refine pMet_ofW (cc := m.2.1) (maxL := m.2.2.1) (ret := m.2.2.2) hy rfl ?_
  intro p e s mi args below meth c s₁ B hml hv
  obtain ⟨rfl, hK, hsz, hP, hX⟩ := hv
  have hts := atoms_spec (ws := Cond.code m.1 m.2.1 m.2.2.1 m.2.2.2 :: pBig) B.pre
  have hlocks := B.notSynchronized
  have hr := B.returns
  rw [lg_entry_eq]
  refine h p l e _ s mi _ below meth c (lim - mN M) (lz lim - lz (mN M)) _ g s.heap [] 0 0 _ ⟨B.exec, B.bytes, hml, B.returns, findClass_of_methodNamed B.named, (name_of_methodNamed B.named B.method).1, fun w hw => hts w (List.mem_cons_of_mem _ hw), ⟨Nat.le_refl _, Nat.le_refl _, Nat.le_refl _, Nat.le_refl _⟩, hK, ?_⟩ ⟨⟨Nat.zero_add _, Nat.zero_add _, hn⟩, hsz, hP, hX, va_S.rf, plo_entry g _ av hav⟩
  intro r M' H' locs' pc' ls' q1 q2 q3 q4 q5 q6 q7 q8
  have post : ∀ (t : State), t.heap = H' → s.WarmedH t.vm → pQc g lim Q (av.map (cv g)).toArray s (.returned (r.map (cv g))) t := fun t ht hW =>
    ⟨⟨r, M', rfl, q1, q2, by rw [ht]; exact q3, by rw [ht]; exact q4, by rw [ht]; exact va_X.moved hW.alike (pX_kept hK q6 q5)⟩, q6.F ht⟩
  match r, q7, q8, post with
  | none, q7, q8, post => exact W.vret B.exec B.bytes (hr.trans q7) post q6.2.2 q8
  | some (.long v), q7, q8, post => exact W.lret B.exec B.bytes (hr.trans q7) post q6.2.2 q8
  | some (.int v), q7, q8, post =>
    obtain ⟨ty, h1, h2⟩ := q7
    exact W.zret B.exec B.bytes (hr.trans h1) h2 post q6.2.2 q8
theorem pK.call {g : pgh} {s U : State} {H : Heap} {locs : List Loc} (h : pK g s) (hS : va_S (pA g) s.heap H locs) (hU : U.heap = H) (hW : s.WarmedH U.vm) : pK g U := by
  obtain ⟨h1, h2, h3, h4, h5, h6, h7, h8, h9, hz9⟩ := h
  refine ⟨va_K.moved hW.alike h1, fun w hw => ?_, h3.moved hW.alike, h4.moved hW.alike, by rw [hU]; exact Nat.le_trans h5 hS.1, h6, h7.warm hW, by rw [hU]; exact (h8.kept hS.2.1).moved hW.alike, by rw [hU]; exact (h9.kept hS.2.1).moved hW.alike, by rw [hU]; exact (hz9.kept hS.2.1).moved hW.alike⟩
  have hn := (List.mem_filter.mp hw).2
  have hz := h2 w hw
  cases w <;> first | (cases hn; done) | exact va_Nw.warmF hW hz | exact va_Nw.warmM hW hz
theorem pPc_blind (g : pgh) (M : pm) (av : List Value) : FrameBlind (pPc g M av) := by
  intro a U g' mk h
  obtain ⟨h0, ⟨h1, h2, h3, h4, h5, h6, h7, h8, h9, hz9⟩, h10, h11, h12⟩ := h
  have hv : U.vm.Alike (U.calling g' mk a).vm := Vm.Alike.refl U.vm
  refine ⟨h0, ⟨va_K.moved hv h1, fun w hw => ?_, h3.moved hv, h4.moved hv, h5, h6, h7.same rfl, h8.moved hv, h9.moved hv, hz9.moved hv⟩, h10, h11, h12.moved hv⟩
  have hn := (List.mem_filter.mp hw).2
  refine va_Nw.same (u := U) (U := U.calling g' mk a) ?_ rfl (h2 w hw)
  cases w <;> first | (cases hn; done) | rfl
def pLM (own : String) (idx : Nat) (y : MethodName) : Prop := Cond.methodLink own idx y ∈ pBig ∨ ∃ h, Cond.methodLinkNest own idx y h ∈ pnest
/-- what the tables say of a method: its code, its class is there, n parameters -/
def pMe (m : pmt) (n : Nat) : Prop := Cond.code m.1 m.2.1 m.2.2.1 m.2.2.2 ∈ pBig ∧ Cond.initialized m.1.cls ∈ pBig ∧ (m.1.cls ≠ "java/lang/invoke/MethodHandle" ∧ m.1.cls ≠ "java/lang/invoke/VarHandle" ∧ (parseMethodDescriptor m.1.desc).map (fun d => d.parameters.length) = some n) ∧ plainFor m.1 = true ∧ m.2.2.1 ≤ 45
def pMi (m : pmt) : Prop := Cond.instanceMethod m.1 ∈ pBig ∧ Cond.selects m.1.cls m.1 m.1 ∈ pBig
section CL
variable {m m' : pmt} {d lim lim' pc : Nat} {ls st : List Value} {M : pm} {Q Q' : Option Value → pm → Prop}
theorem pw_after {p : Program} {l : Launch} {e : Env} {R : Room} {s : State} {mi : MethodId} {args : Array Value} {below : List Frame} {meth : Method} {c : Code} {CE SE : Nat} {Qf : State → Prop} {g : pgh} {H : Heap} {locs : List Loc} {cells slots : Nat} {lsA : Array Slot} {a : Array Value} {st0 : List Value} (C : pC m d lim Q p l e R s mi args below meth c CE SE Qf g) (E : pE m.2.2.1 lim CE SE g s M ls H locs cells slots lsA) (h1 : mN M ≤ lim') (h2 : lim' ≤ lim)
    (hr : va_Run p l e R s mi args below meth c H locs cells slots (lim' - mN M) (lz lim' - lz (mN M)) (F0 mi pc lsA st0) (st.map (cv g)) (pQc g lim' Q' a) (pA g))
    (kk : ∀ r M', Q' r M' → PW m d lim (pc + 3) ls (r.toList ++ st) M' Q) : W p l e R s mi args below meth c H locs cells slots Qf (F0 mi pc lsA st0) := by
  intro T hT X
  obtain ⟨v, st₀, t, T', L, h0, X', hL, e1, e2, ⟨⟨r, M', hv, hq, hn, hz, hP, hX⟩, hF1, hF2⟩, go⟩ := hr T hT X
  have hv : v = r.map (cv g) := by cases hv; rfl
  subst hv
  rw [h0] at hF1 hF2
  obtain ⟨⟨a1, a2, a3⟩, E2, E3, E4, E5, E6⟩ := E
  have hK := C.2.2.2.2.2.2.2.2.1
  have hal : s.vm.Alike t.vm := by rw [← e2]; exact X'.warmed.alike
  have hS : va_S (pA g) s.heap T'.heap (locs ++ L) := ⟨by rw [e1]; exact Nat.le_trans E5.1 hF1, fun q w1 w2 => by rw [e1, hF2 q (Nat.lt_of_lt_of_le w1 E5.1) w2]; exact E5.2.1 q w1 w2, fun q hq => by
    rcases List.mem_append.mp hq with h | h
    · exact E5.2.2 q h
    · exact hL q h⟩
  have hX' : va_X (gL g 1) (mL M') (mI M' 1) s s.heap := by
    refine va_X.moved hal.symm (hX.kept ?_)
    rw [hF2 _ (Nat.lt_of_lt_of_le hK.sb.1 E5.1) hK.sb.2, E5.2.1 _ hK.sb.1 hK.sb.2]
  have hle := lz_le h1
  have hle2 := lz_le h2
  have hres := kk r M' hq p l e R s mi args below meth c CE SE Qf g T'.heap (locs ++ L) (cells + (lim' - mN M)) (slots + (lz lim' - lz (mN M))) lsA C ⟨⟨by rw [hn]; omega, by rw [hn]; omega, by rw [hn]; exact h2⟩, by rw [e1]; exact hz, by rw [e1]; exact hP, hX', hS, E6⟩ T' rfl X'
  obtain ⟨t2, b1, b2⟩ := hres
  refine ⟨t2, go t2 ?_, b2⟩
  have e3 : (r.map (cv g)).toList ++ st.map (cv g) = (r.toList ++ st).map (cv g) := by cases r <;> simp
  show Steps p.tables e below (T'.setTop { F0 mi pc lsA st0 with pc := pc + 3, stack := (r.map (cv g)).toList ++ st.map (cv g) }) t2
  rw [e3]
  exact b1
theorem pw_pre {p : Program} {l : Launch} {e : Env} {R : Room} {s : State} {mi : MethodId} {args : Array Value} {below : List Frame} {meth : Method} {c : Code} {CE SE : Nat} {Qf : State → Prop} {g : pgh} {H : Heap} {locs : List Loc} {cells slots : Nat} {lsA : Array Slot} (C : pC m d lim Q p l e R s mi args below meth c CE SE Qf g) (E : pE m.2.2.1 lim CE SE g s M ls H locs cells slots lsA) (av : List Value) : ∀ U : State, U.heap = H → s.WarmedH U.vm → pPc g M av (av.map (cv g)).toArray U := by
  intro U hU hW
  refine ⟨rfl, C.2.2.2.2.2.2.2.2.1.call E.2.2.2.2.1 hU hW, by rw [hU]; exact E.2.1, by rw [hU]; exact E.2.2.1, ?_⟩
  rw [hU]
  exact va_X.moved hW.alike (pX_kept C.2.2.2.2.2.2.2.2.1 E.2.2.2.2.1 E.2.2.2.1)
theorem pw_room {p : Program} {l : Launch} {e : Env} {R : Room} {s : State} {mi : MethodId} {args : Array Value} {below : List Frame} {meth : Method} {c : Code} {CE SE : Nat} {Qf : State → Prop} {g : pgh} {H : Heap} {locs : List Loc} {cells slots : Nat} {lsA : Array Slot} (C : pC m (d + 1) lim Q p l e R s mi args below meth c CE SE Qf g) (E : pE m.2.2.1 lim CE SE g s M ls H locs cells slots lsA) (h1 : mN M ≤ lim') (h2 : lim' ≤ lim) (hm : m'.2.2.1 ≤ 45) :
    ((pRm d lim' (mN M)).frames + 1 ≤ R.frames ∧ 8 + (m'.2.2.1 + 11) + (pRm d lim' (mN M)).locals ≤ R.locals) ∧ (cells + (lim' - mN M) ≤ R.cells ∧ slots + (lz lim' - lz (mN M)) ≤ R.slots) := by
  obtain ⟨c1, c2, c3, c4⟩ := C.2.2.2.2.2.2.2.1
  obtain ⟨⟨a1, a2, a3⟩, -⟩ := E
  have hle := lz_le h1
  have hle2 := lz_le h2
  refine ⟨⟨c1, ?_⟩, ?_, ?_⟩
  · show 8 + (m'.2.2.1 + 11) + 64 * d ≤ R.locals
    omega
  · omega
  · omega
theorem cv_cats (g : pgh) (st : List Value) : ((st.map (cv g)).map fun v => v.category) = st.map fun v => v.category := by
  rw [List.map_map]
  exact List.map_congr_left fun v _ => cv_cat g v
/-- a method of an object -/
theorem PW.invG {idx a : Nat} {As st0 : List Value} (hd : decode m.2.1 pc = .ok (.invokevirtual idx, 3)) (hl : pLM m.1.cls idx m'.1) (hm : pMe m' As.length) (hi : pMi m') (hrec : ∀ (s : State) (g : pgh) (H : Heap) (locs : List Loc), pK g s → va_P (gD g) pcl (mw g M) H → va_S (pA g) s.heap H locs → ∃ cell : Cell, H[ad g a]? = some cell ∧ cell.vm.isStatics = false ∧ s.vm.findClass m'.1.cls = some cell.cls) (hst : st0 = As.reverse ++ .ref a :: st) (hw : (st.map fun v => v.category).sum ≤ 8) (hav : (pen (.ref a :: As)).length ≤ m'.2.2.1) (h1 : mN M ≤ lim') (h2 : lim' ≤ lim)
    (hb : PW m' d lim' 0 (pfr m'.2.2.1 (.ref a :: As)) [] M Q') (kk : ∀ r M', Q' r M' → PW m (d + 1) lim (pc + 3) ls (r.toList ++ st) M' Q) : PW m (d + 1) lim pc ls st0 M Q := by
  subst hst
  intro p l e R s mi args below meth c CE SE Qf g H locs cells slots lsA C E
  obtain ⟨hR, hf⟩ := pw_room (m' := m') C E h1 h2 hm.2.2.2.2
  have hts := C.2.2.2.2.2.2.1
  have hM := hb.met l hm.2.2.2.1 hav h1 g
  have hG : GoodIn pBig (Cond.code m'.1 m'.2.1 m'.2.2.1 m'.2.2.2 :: pBig) := fun w h => (List.mem_cons.mp h).elim (fun e => by rw [e]; exact pBig_good _ hm.1) (pBig_good w)
  have hrec := hrec s g H locs C.2.2.2.2.2.2.2.2.1 E.2.2.1 E.2.2.2.2.1
  have hpre : PreV s H m'.1.cls (ad g a) (pPc g M (.ref a :: As)) (As.map (cv g)) := ⟨pPc_blind g M _, hrec, pw_pre C E _⟩
  have hstk : (F0 mi pc lsA ((As.reverse ++ .ref a :: st).map (cv g))).stack = (As.map (cv g)).reverse ++ .ref (ad g a) :: st.map (cv g) := by
    show (As.reverse ++ .ref a :: st).map (cv g) = _
    rw [List.map_append, List.map_reverse]
    rfl
  have hW : 2 * (F0 mi pc lsA ((As.reverse ++ .ref a :: st).map (cv g))).monitorRoom + ((st.map (cv g)).map fun v => v.category).sum ≤ 8 := lv_room (by rw [cv_cats]; exact hw)
  rcases hl with hl | ⟨h, hl⟩
  · exact pw_after C E h1 h2 (va_runV (As := As.map (cv g)) (rest := st.map (cv g)) ⟨C.1, C.2.1, C.2.2.1, C.2.2.2.2.1, hts⟩ hM (cwV (Ts := pBig) As.length hts (fun w hw => by
      rcases List.mem_append.mp hw with hw | hw
      · refine pBig_good w ?_
        simp only [List.mem_cons, List.not_mem_nil, or_false] at hw
        rcases hw with rfl | rfl | rfl | rfl
        · exact hl
        · exact hi.1
        · exact hi.2
        · exact hm.2.1
      · exact hG w hw) rfl rfl rfl ⟨rfl, hm.2.2.1⟩ hR) hpre rfl (by simp) E.2.2.2.2.2.1 hstk hW hd hf) kk
  · exact pw_after C E h1 h2 (va_runVN (As := As.map (cv g)) (rest := st.map (cv g)) ⟨C.1, C.2.1, C.2.2.1, C.2.2.2.2.1, hts⟩ hM ⟨va_cnB (host := h) As.length hts hG rfl rfl rfl (C.2.2.2.2.2.2.2.2.1.2.1 _ hl) (hts _ hm.2.1) hm.2.2.1 hR, hts _ hi.1, hts _ hi.2⟩ hpre rfl (by simp) E.2.2.2.2.2.1 hstk hW hd hf) kk
theorem PW.inv {idx a ci : Nat} {As st0 : List Value} (hd : decode m.2.1 pc = .ok (.invokevirtual idx, 3)) (hl : pLM m.1.cls idx m'.1) (hm : pMe m' As.length) (hi : pMi m') (ha : pOb M a ci) (hc : m'.1.cls = (pT ci).1) (hst : st0 = As.reverse ++ .ref a :: st) (hw : (st.map fun v => v.category).sum ≤ 8) (hav : (pen (.ref a :: As)).length ≤ m'.2.2.1) (h1 : mN M ≤ lim') (h2 : lim' ≤ lim)
    (hb : PW m' d lim' 0 (pfr m'.2.2.1 (.ref a :: As)) [] M Q') (kk : ∀ r M', Q' r M' → PW m (d + 1) lim (pc + 3) ls (r.toList ++ st) M' Q) : PW m (d + 1) lim pc ls st0 M Q :=
  PW.invG hd hl hm hi (fun s g H locs hK hP _ => by
    have := va_recv hK.1 hP (pT_cl ci ha.2.2.2) (pOb_get ha)
    rw [hc]
    exact this) hst hw hav h1 h2 hb kk
theorem PW.invS {idx : Nat} {As st0 : List Value} (hd : decode m.2.1 pc = .ok (.invokevirtual idx, 3)) (hl : pLM m.1.cls idx m'.1) (hm : pMe m' As.length) (hi : pMi m') (hc : m'.1.cls = "java/lang/String") (hst : st0 = As.reverse ++ .ref 2 :: st) (hw : (st.map fun v => v.category).sum ≤ 8) (hav : (pen (.ref 2 :: As)).length ≤ m'.2.2.1) (h1 : mN M ≤ lim') (h2 : lim' ≤ lim)
    (hb : PW m' d lim' 0 (pfr m'.2.2.1 (.ref 2 :: As)) [] M Q') (kk : ∀ r M', Q' r M' → PW m (d + 1) lim (pc + 3) ls (r.toList ++ st) M' Q) : PW m (d + 1) lim pc ls st0 M Q :=
  PW.invG hd hl hm hi (fun s g H locs hK hP hS => by
    rw [hc]
    exact vk_recv (adK := fun _ => gL g 2) (i := 0) hK.2.2.2.2.2.2.2.1 (by decide) hS) hst hw hav h1 h2 hb kk
/-- a static method -/
theorem PW.ins {idx : Nat} {As st0 : List Value} (hd : decode m.2.1 pc = .ok (.invokestatic idx, 3)) (hl : pLM m.1.cls idx m'.1) (hm : pMe m' As.length) (hi : Cond.static m'.1 ∈ pBig) (hst : st0 = As.reverse ++ st) (hw : (st.map fun v => v.category).sum ≤ 8) (hav : (pen As).length ≤ m'.2.2.1) (h1 : mN M ≤ lim') (h2 : lim' ≤ lim)
    (hb : PW m' d lim' 0 (pfr m'.2.2.1 As) [] M Q') (kk : ∀ r M', Q' r M' → PW m (d + 1) lim (pc + 3) ls (r.toList ++ st) M' Q) : PW m (d + 1) lim pc ls st0 M Q := by
  subst hst
  intro p l e R s mi args below meth c CE SE Qf g H locs cells slots lsA C E
  obtain ⟨hR, hf⟩ := pw_room (m' := m') C E h1 h2 hm.2.2.2.2
  have hts := C.2.2.2.2.2.2.1
  have hM := hb.met l hm.2.2.2.1 hav h1 g
  have hG : GoodIn pBig (Cond.code m'.1 m'.2.1 m'.2.2.1 m'.2.2.2 :: pBig) := fun w h => (List.mem_cons.mp h).elim (fun e => by rw [e]; exact pBig_good _ hm.1) (pBig_good w)
  have hpre : PreS s H (pPc g M As) (As.map (cv g)) := ⟨pPc_blind g M _, pw_pre C E _⟩
  have hstk : (F0 mi pc lsA ((As.reverse ++ st).map (cv g))).stack = (As.map (cv g)).reverse ++ st.map (cv g) := by
    show (As.reverse ++ st).map (cv g) = _
    rw [List.map_append, List.map_reverse]
  have hW : 2 * (F0 mi pc lsA ((As.reverse ++ st).map (cv g))).monitorRoom + ((st.map (cv g)).map fun v => v.category).sum ≤ 8 := lv_room (by rw [cv_cats]; exact hw)
  rcases hl with hl | ⟨h, hl⟩
  · exact pw_after C E h1 h2 (va_runS (As := As.map (cv g)) (rest := st.map (cv g)) ⟨C.1, C.2.1, C.2.2.1, C.2.2.2.2.1, hts⟩ hM ⟨callB_of As.length hts hG rfl rfl rfl (hts _ hm.2.1) (hts _ hl) hm.2.2.1 hR, hts _ hi⟩ hpre rfl (by simp) E.2.2.2.2.2.1 hstk hW hd hf) kk
  · exact pw_after C E h1 h2 (va_runSN (As := As.map (cv g)) (rest := st.map (cv g)) ⟨C.1, C.2.1, C.2.2.1, C.2.2.2.2.1, hts⟩ hM ⟨va_cnB (host := h) As.length hts hG rfl rfl rfl (C.2.2.2.2.2.2.2.2.1.2.1 _ hl) (hts _ hm.2.1) hm.2.2.1 hR, hts _ hi, trivial⟩ hpre rfl (by simp) E.2.2.2.2.2.1 hstk hW hd hf) kk
/-- a constructor -/
theorem PW.ini {idx a : Nat} {As st0 : List Value} (hd : decode m.2.1 pc = .ok (.invokespecial idx, 3)) (hl : pLM m.1.cls idx m'.1) (hm : pMe m' As.length) (hi : Cond.instanceMethod m'.1 ∈ pBig) (hr : m'.2.2.2 = none) (hnm : m'.1.name = "<init>") (hst : st0 = As.reverse ++ .ref a :: st) (hw : (st.map fun v => v.category).sum ≤ 8) (hav : (pen (.ref a :: As)).length ≤ m'.2.2.1) (h1 : mN M ≤ lim') (h2 : lim' ≤ lim)
    (hb : PW m' d lim' 0 (pfr m'.2.2.1 (.ref a :: As)) [] M Q') (kk : ∀ r M', Q' r M' → PW m (d + 1) lim (pc + 3) ls (r.toList ++ st) M' Q) : PW m (d + 1) lim pc ls st0 M Q := by
  subst hst
  intro p l e R s mi args below meth c CE SE Qf g H locs cells slots lsA C E
  obtain ⟨hR, hf⟩ := pw_room (m' := m') C E h1 h2 hm.2.2.2.2
  have hts := C.2.2.2.2.2.2.1
  have hM := hb.met l hm.2.2.2.1 hav h1 g
  have hG : GoodIn pBig (Cond.code m'.1 m'.2.1 m'.2.2.1 m'.2.2.2 :: pBig) := fun w h => (List.mem_cons.mp h).elim (fun e => by rw [e]; exact pBig_good _ hm.1) (pBig_good w)
  rw [hr] at hM hG
  have hpre : PreS s H (pPc g M (.ref a :: As)) (.ref (ad g a) :: As.map (cv g)) := ⟨pPc_blind g M _, pw_pre C E (.ref a :: As)⟩
  have hstk : (F0 mi pc lsA ((As.reverse ++ .ref a :: st).map (cv g))).stack = (As.map (cv g)).reverse ++ .ref (ad g a) :: st.map (cv g) := by
    show (As.reverse ++ .ref a :: st).map (cv g) = _
    rw [List.map_append, List.map_reverse]
    rfl
  have hW : 2 * (F0 mi pc lsA ((As.reverse ++ .ref a :: st).map (cv g))).monitorRoom + ((st.map (cv g)).map fun v => v.category).sum ≤ 8 := lv_room (by rw [cv_cats]; exact hw)
  rcases hl with hl | ⟨h, hl⟩
  · exact pw_after C E h1 h2 (va_runI (As := As.map (cv g)) (rest := st.map (cv g)) ⟨C.1, C.2.1, C.2.2.1, C.2.2.2.2.1, hts⟩ hM (cwI As.length hts hG rfl rfl rfl (hts _ hm.2.1) (hts _ hl) (hts _ hi) hnm hm.2.2.1 hR) hpre rfl (by simp) E.2.2.2.2.2.1 hstk hW hd hf) kk
  · exact pw_after C E h1 h2 (va_runIN (As := As.map (cv g)) (rest := st.map (cv g)) ⟨C.1, C.2.1, C.2.2.1, C.2.2.2.2.1, hts⟩ hM ⟨va_cnB (host := h) As.length hts hG rfl rfl rfl (C.2.2.2.2.2.2.2.2.1.2.1 _ hl) (hts _ hm.2.1) hm.2.2.1 hR, hnm, hts _ hi⟩ hpre rfl (by simp) E.2.2.2.2.2.1 hstk hW hd hf) kk
end CL
