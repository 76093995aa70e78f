
/-! ===== BEGIN new T[n][m]: the outer array a place, the inner ones among the pooled ===== -/
/-- f, but v at every address of l -/
def vr_up {α : Type} (f : Nat → α) (l : List Nat) (v : α) : Nat → α := fun a => if a ∈ l then v else f a
theorem vr_up_in {α : Type} {f : Nat → α} {l : List Nat} {v : α} {a : Nat} (h : a ∈ l) : vr_up f l v a = v := if_pos h
theorem vr_up_ne {α : Type} {f : Nat → α} {l : List Nat} {v : α} {a : Nat} (h : a ∉ l) : vr_up f l v a = f a := if_neg h
theorem vr_rows {L l : List Nat} {f : Nat → va_E} {e : va_E} (h : ∀ a, a ∈ l → a ∉ L) : va_pl L f ++ l.map (fun a => (a, e)) = va_pl (L ++ l) (vr_up f l e) := by
  unfold va_pl
  rw [List.map_append]
  congr 1
  · apply List.map_congr_left
    intro a ha
    rw [vr_up_ne (fun q => h a q ha)]
  · apply List.map_congr_left
    intro a ha
    rw [vr_up_in ha]
theorem vr_lay {X rows : va_W} {x : Nat × va_E} {pl : va_W} {D : va_G} {cl : List vw_C} {H : Heap} (hP : va_P D cl (((X ++ pl) ++ [x]) ++ rows) H) : va_P D cl ((X ++ [x]) ++ (pl ++ rows)) H := by
  rw [List.append_assoc (X ++ pl)] at hP
  have h := va_P.swap hP
  rw [← List.append_assoc X] at h
  have h2 := va_P.swap h
  rw [List.append_assoc (X ++ [x])] at h2
  exact h2
theorem vr_layD {X rows : va_W} {x : Nat × va_E} {pl : va_W} {A : Nat → Prop} (hD : va_D A (((X ++ pl) ++ [x]) ++ rows)) : va_D A ((X ++ [x]) ++ (pl ++ rows)) := by
  rw [List.append_assoc (X ++ pl)] at hD
  have h := va_D.swap hD
  rw [← List.append_assoc X] at h
  have h2 := va_D.swap h
  rw [List.append_assoc (X ++ [x])] at h2
  exact h2
theorem vr_outer (c : ClassId) (N h0 : Nat) : ∀ i : Nat, Jvm.Free.Multi.outerC c N h0 i = arrV c N (fun j => va_rf (if j < i then some (h0 + 1 + j) else none))
  | 0 => by
    show ({ cls := c, slots := Array.replicate N .null, vm := .none } : Cell) = _
    rw [arrV_new]
    refine congrArg (arrV c N) (funext fun j => ?_)
    simp [va_rf]
  | i + 1 => by
    show (Jvm.Free.Multi.outerC c N h0 i).setSlot i (.ref (h0 + 1 + i)) = _
    rw [vr_outer c N h0 i, arrV_store]
    refine congrArg (arrV c N) (funext fun j => ?_)
    by_cases e : j = i
    · subst e
      simp [updV, va_rf]
    · by_cases h : j < i
      · simp [updV, e, h, Nat.lt_succ_of_lt h]
      · simp [updV, e, h, show ¬ j < i + 1 by omega]
section VGM
variable {p : Program} {l : Launch} {e : Env} {R : Room} {s : State} {m : MethodId} {args : Array Value} {below : List Frame} {meth : Method} {c : Code} {H : Heap} {locs : List Loc} {cells slots : Nat} {Q : State → Prop}
variable {cc : ByteArray} {pc : Nat} {ls : Array Slot} {rest : List Value} {D : va_G} {cl : List vw_C} {A : Nat → Prop} {a : Nat} {tys : List (ClassId × FieldType)} {ws : va_W} {H0 : Heap}
theorem va_mna {X : va_W} {L : List Nat} {f : Nat → va_E} {cc : ByteArray} (hexec : p.tables.exec = Jvm.exec) (hb : c.code = cc) {own : String} {index : Nat} {ty : FieldType} {cy : ClassId} (hown : s.vm.findClass own = some m.cls) (hclink : (Cond.classLink own index ("[" ++ (FieldType.array ty).toString)).before args s = true) (hover : va_AOA ty s) (harr : (Cond.arrayClass ty).before args s = true) (hcy : s.vm.findClass (FieldType.array ty).toString = some cy)
    (hK : va_K D cl tys s) (hP : va_P D cl (X ++ va_pl L f) H) (hD : va_D A (X ++ va_pl L f)) (hS : va_S A H0 H locs) (hA : ∀ q, H0.size ≤ q → A q) {n k : Int32} {N' K' : Nat} {z : vp_A} (hn : ¬ n < 0) (hk : ¬ k < 0) (hN : n.toNatClampNeg = N') (hM : k.toNatClampNeg = K')
    (hb1 : N' * 4 ≤ 536870912) (hb2 : K' * componentBytes ty ≤ 536870912) (hb3 : K' ≤ 536870912) (hdf : fits ty (defaultValue ty) = true) (hdd : (defaultValue ty).isDefault = true) (hcells : cells + (1 + N') ≤ R.cells) (hslots : slots + (N' + N' * K') ≤ R.slots) (hz : ∀ c : ClassId, Jvm.Free.Multi.innerC c K' (defaultValue ty) = vp_cell c z) (hdg : decode cc pc = .ok (.multianewarray index 2, 4))
    (kk : ∀ (q : Nat) (r : Nat → Nat) (cA : ClassId) (H1 : Heap), (∀ i j : Nat, i < N' → j < N' → r i = r j → i = j) → (∀ i : Nat, i < N' → r i ∉ L) → va_K D cl (tys ++ [(cA, .array ty)]) s →
      va_P D cl ((X ++ [(q, .inl (cA, N', .inr (.inr (.inr (.inr (fun i => if i < N' then some (r i) else none))))))]) ++ va_pl (L ++ (List.range N').map r) (vr_up f ((List.range N').map r) (.inl (cy, z)))) H1 → va_D A ((X ++ [(q, .inl (cA, N', .inr (.inr (.inr (.inr (fun i => if i < N' then some (r i) else none))))))]) ++ va_pl (L ++ (List.range N').map r) (vr_up f ((List.range N').map r) (.inl (cy, z)))) → va_S A H0 H1 locs →
      W p l e R s m args below meth c H1 locs (cells + 1 + N') (slots + N' + N' * K') Q (F0 m (pc + 4) ls (.ref q :: rest))) : W p l e R s m args below meth c H locs cells slots Q (F0 m pc ls (.int k :: .int n :: rest)) := by
  subst hN
  subst hM
  intro T hT Xs
  obtain ⟨vm₁, cA, comp, -, fA, fC, hO, -, X', step⟩ := Xs.multianewarray2F hexec hown hclink (va_AOA.use hover) harr (g := F0 m pc ls (.int k :: .int n :: rest)) rfl (by rw [hb]; exact hdg) rfl hn hk hb1 hb2 hb3 hdf hdd hcells hslots
  have ec : some cy = some comp := hcy.symm.trans fC
  cases ec
  generalize hF : Jvm.Free.Multi.fill (T.setVm vm₁) cA cy n.toNatClampNeg k.toNatClampNeg (defaultValue ty) n.toNatClampNeg = F at X' step
  have hTh : (T.setVm vm₁).heap = H := hT
  obtain ⟨f1, f2, -, -⟩ := Jvm.Free.Multi.fill_facts (T.setVm vm₁) cA cy n.toNatClampNeg k.toNatClampNeg (defaultValue ty) n.toNatClampNeg
  rw [hF, hTh] at f1 f2
  have hold : ∀ x : Nat, x < H.size → F.heap[x]? = H[x]? := fun x hx => by
    have := Jvm.Free.Multi.fill_old (T.setVm vm₁) cA cy n.toNatClampNeg k.toNatClampNeg (defaultValue ty) (a := x) (by rw [hTh]; exact hx) n.toNatClampNeg
    rw [hF, hTh] at this
    exact this
  have hrow : ∀ j : Nat, j < n.toNatClampNeg → F.heap[H.size + 1 + j]? = some (vp_cell cy z) := fun j hj => by
    have := Jvm.Free.Multi.fill_inner (T.setVm vm₁) cA cy n.toNatClampNeg k.toNatClampNeg (defaultValue ty) n.toNatClampNeg j hj
    rw [hF, hTh, hz] at this
    exact this
  have hout : Jvm.Free.Multi.outerC cA n.toNatClampNeg H.size n.toNatClampNeg = vp_cell cA (n.toNatClampNeg, .inr (.inr (.inr (.inr (fun i => if i < n.toNatClampNeg then some (H.size + 1 + i) else none))))) := by
    rw [vp_cell_q]
    exact vr_outer cA n.toNatClampNeg H.size n.toNatClampNeg
  rw [hout] at f2
  have hlt : ∀ a, a ∈ L → a < H.size := fun a ha => by
    obtain ⟨k9, hk9⟩ := va_pl_get (X := X) (f := f) ha
    exact (hP k9 _ hk9).lt
  have hnl : ∀ i : Nat, i < n.toNatClampNeg → H.size + 1 + i ∉ L := fun i _ h => by
    have := hlt _ h
    omega
  have hnm : ∀ a, a ∈ (List.range n.toNatClampNeg).map (fun i => H.size + 1 + i) → a ∉ L := fun a ha h => by
    obtain ⟨i, -, rfl⟩ := List.mem_map.mp ha
    have := hlt _ h
    omega
  have hP0 : va_P D cl (X ++ va_pl L f) F.heap := hP.kept (fun k9 x hx => hold x.1 ((hP k9 x hx).lt))
  have hP1 : va_P D cl ((X ++ va_pl L f) ++ [(H.size, .inl (cA, n.toNatClampNeg, .inr (.inr (.inr (.inr (fun i => if i < n.toNatClampNeg then some (H.size + 1 + i) else none))))))]) F.heap := hP0.app (fun k9 x hx => by
    have h0 : k9 < 1 := (List.getElem?_eq_some_iff.mp hx).1
    rw [show k9 = 0 by omega] at hx
    cases hx
    exact f2)
  have hP2 : va_P D cl (((X ++ va_pl L f) ++ [(H.size, .inl (cA, n.toNatClampNeg, .inr (.inr (.inr (.inr (fun i => if i < n.toNatClampNeg then some (H.size + 1 + i) else none))))))]) ++ ((List.range n.toNatClampNeg).map (fun i => H.size + 1 + i)).map (fun a => (a, .inl (cy, z)))) F.heap := hP1.app (fun k9 x hx => by
    obtain ⟨a, ha, rfl⟩ := List.mem_map.mp (List.mem_of_getElem? hx)
    obtain ⟨i, hi, rfl⟩ := List.mem_map.mp ha
    exact hrow i (List.mem_range.mp hi))
  have hD2 : va_D A (((X ++ va_pl L f) ++ [(H.size, .inl (cA, n.toNatClampNeg, .inr (.inr (.inr (.inr (fun i => if i < n.toNatClampNeg then some (H.size + 1 + i) else none))))))]) ++ ((List.range n.toNatClampNeg).map (fun i => H.size + 1 + i)).map (fun a => (a, .inl (cy, z)))) := by
    have hD1 := hD.push (e := .inl (cA, n.toNatClampNeg, .inr (.inr (.inr (.inr (fun i => if i < n.toNatClampNeg then some (H.size + 1 + i) else none)))))) hP rfl (hA _ hS.1)
    generalize hW1 : (X ++ va_pl L f) ++ [(H.size, .inl (cA, n.toNatClampNeg, .inr (.inr (.inr (.inr (fun i => if i < n.toNatClampNeg then some (H.size + 1 + i) else none))))))] = W1 at hD1 hP1 ⊢
    have hle : ∀ (k9 : Nat) (x : Nat × va_E), W1[k9]? = some x → x.1 ≤ H.size := fun k9 x hx => by
      rw [← hW1] at hx
      by_cases hl : k9 < (X ++ va_pl L f).length
      · rw [List.getElem?_append_left hl] at hx
        exact Nat.le_of_lt ((hP k9 x hx).lt)
      · rw [List.getElem?_append_right (by omega)] at hx
        have h0 : k9 - (X ++ va_pl L f).length < 1 := (List.getElem?_eq_some_iff.mp hx).1
        rw [show k9 - (X ++ va_pl L f).length = 0 by omega] at hx
        cases hx
        exact Nat.le_refl _
    have hr : ∀ (k9 : Nat) (x : Nat × va_E), (((List.range n.toNatClampNeg).map (fun i => H.size + 1 + i)).map (fun a => ((a, .inl (cy, z)) : Nat × va_E)))[k9]? = some x → x.1 = H.size + 1 + k9 := fun k9 x hx => by
      rw [List.getElem?_map, List.getElem?_map] at hx
      by_cases h9 : k9 < n.toNatClampNeg
      · rw [List.getElem?_range h9] at hx
        cases hx
        rfl
      · have hn0 : (List.range n.toNatClampNeg)[k9]? = none := List.getElem?_eq_none (by rw [List.length_range]; omega)
        rw [hn0] at hx
        cases hx
    refine ⟨fun i j x y hi hj hxy => ?_, fun k9 x hx => ?_⟩
    · by_cases h1 : i < W1.length <;> by_cases h2 : j < W1.length
      · rw [List.getElem?_append_left h1] at hi
        rw [List.getElem?_append_left h2] at hj
        exact hD1.1 i j x y hi hj hxy
      · rw [List.getElem?_append_left h1] at hi
        rw [List.getElem?_append_right (by omega)] at hj
        have := hle _ _ hi
        have := hr _ _ hj
        omega
      · rw [List.getElem?_append_right (by omega)] at hi
        rw [List.getElem?_append_left h2] at hj
        have := hle _ _ hj
        have := hr _ _ hi
        omega
      · rw [List.getElem?_append_right (by omega)] at hi hj
        have := hr _ _ hi
        have := hr _ _ hj
        omega
    · by_cases h1 : k9 < W1.length
      · rw [List.getElem?_append_left h1] at hx
        exact hD1.2 k9 x hx
      · rw [List.getElem?_append_right (by omega)] at hx
        have := hr _ _ hx
        exact hA _ (by have := hS.1; omega)
  have hAr : ArrOfT s cA (.array ty) := fun N9 z9 => by
    obtain ⟨-, k9, hk9, cm9, hkk9⟩ := (hO 0 0 0).1
    exact ⟨(fun q hq => by cases hq), k9, hk9, cm9, hkk9⟩
  have hK2 : va_K D cl (tys ++ [(cA, .array ty)]) s := ⟨hK.1, fun k9 x hx => by
    by_cases hl : k9 < tys.length
    · rw [List.getElem?_append_left hl] at hx
      exact hK.2 k9 x hx
    · rw [List.getElem?_append_right (by omega)] at hx
      have h0 : k9 - tys.length < 1 := (List.getElem?_eq_some_iff.mp hx).1
      rw [show k9 - tys.length = 0 by omega] at hx
      cases hx
      exact ⟨hAr, fA⟩⟩
  obtain ⟨t, a1, b1⟩ := kk H.size (fun i => H.size + 1 + i) cA F.heap (fun i j _ _ h => by have h9 : H.size + 1 + i = H.size + 1 + j := h; omega) hnl hK2 (by rw [← vr_rows hnm]; exact vr_lay hP2) (by rw [← vr_rows hnm]; exact vr_layD hD2) ⟨by rw [f1]; have := hS.1; omega, fun x h1 h2 => (hold x (Nat.lt_of_lt_of_le h1 hS.1)).trans (hS.2.1 x h1 h2), hS.2.2⟩ F rfl X'
  refine ⟨t, step t ?_, b1⟩
  have e : T.heap.size = H.size := by rw [hT]
  rw [e]
  exact a1
end VGM
/-! ===== END ===== -/

/-! ===== BEGIN printed: names, fields, word lists, decode rows ===== -/
def RX0 : String := "GraveRequest$History"
def TX0 : u_T := fun k => match k with
  | 0 => ("GraveRequest$History", "states", "[LGraveRequest$State;", true)
  | _ => ("GraveRequest$History", "count", "I", false)
def tyX0 : Nat → FieldType := fun k => match k with
  | 0 => .array (.object "GraveRequest$State")
  | _ => .int
abbrev wsX00 : List Cond := u_ws RX0 TX0 2
theorem nmX0 : ∀ a, a < 2 → ∀ b, b < 2 → a ≠ b → (TX0 a).2.1 ≠ (TX0 b).2.1 := by decide +kernel
theorem tyX0_ok : ∀ k, k < 2 → parseFieldDescriptor (TX0 k).2.2.1 = some (tyX0 k) := by decide +kernel
abbrev cX0_init : ByteArray := prog_2_method_1_code
def yX0_init : MethodName := ⟨RX0, "<init>", "()V"⟩
abbrev cX0_forget : ByteArray := prog_2_method_2_code
def yX0_forget : MethodName := ⟨RX0, "forget", "()V"⟩
abbrev cX0_remember : ByteArray := prog_2_method_3_code
def yX0_remember : MethodName := ⟨RX0, "remember", "(LGraveRequest$State;)V"⟩
abbrev cX0_takeBack : ByteArray := prog_2_method_4_code
def yX0_takeBack : MethodName := ⟨RX0, "takeBack", "(LGraveRequest$State;)V"⟩
def RX1 : String := "GraveRequest$Machine"
def TX1 : u_T := fun k => match k with
  | 0 => ("GraveRequest$Machine", "stack", "[I", true)
  | 1 => ("GraveRequest$Machine", "facts", "[I", true)
  | 2 => ("GraveRequest$Machine", "choice", "[I", true)
  | 3 => ("GraveRequest$Machine", "setLong", "[I", true)
  | 4 => ("GraveRequest$Machine", "setWorth", "[I", true)
  | _ => ("GraveRequest$Machine", "pleasing", "[[I", true)
def tyX1 : Nat → FieldType := fun k => match k with
  | 0 => .array .int
  | 1 => .array .int
  | 2 => .array .int
  | 3 => .array .int
  | 4 => .array .int
  | _ => .array (.array .int)
abbrev wsX10 : List Cond := u_ws RX1 TX1 6
theorem nmX1 : ∀ a, a < 6 → ∀ b, b < 6 → a ≠ b → (TX1 a).2.1 ≠ (TX1 b).2.1 := by decide +kernel
theorem tyX1_ok : ∀ k, k < 6 → parseFieldDescriptor (TX1 k).2.2.1 = some (tyX1 k) := by decide +kernel
abbrev cX1_init : ByteArray := prog_3_method_1_code
def yX1_init : MethodName := ⟨RX1, "<init>", "()V"⟩
abbrev cX1_lookAt : ByteArray := prog_3_method_2_code
def yX1_lookAt : MethodName := ⟨RX1, "lookAt", "(LGraveRequest$Station;LGraveRequest$State;I)V"⟩
abbrev cX1_lookOn : ByteArray := prog_3_method_3_code
def yX1_lookOn : MethodName := ⟨RX1, "lookOn", "(I)V"⟩
abbrev cX1_valueOf : ByteArray := prog_3_method_4_code
def yX1_valueOf : MethodName := ⟨RX1, "valueOf", "(LGraveRequest$Program;I)I"⟩
abbrev cX1_factOf : ByteArray := prog_3_method_5_code
def yX1_factOf : MethodName := ⟨RX1, "factOf", "(I)I"⟩
abbrev cX1_join : ByteArray := prog_3_method_6_code
def yX1_join : MethodName := ⟨RX1, "join", "(III)I"⟩
abbrev cX1_canPlay : ByteArray := prog_3_method_7_code
def yX1_canPlay : MethodName := ⟨RX1, "canPlay", "(LGraveRequest$Station;LGraveRequest$State;I)Z"⟩
abbrev cX1_canBits : ByteArray := prog_3_method_8_code
def yX1_canBits : MethodName := ⟨RX1, "canBits", "(LGraveRequest$Station;LGraveRequest$State;)I"⟩
abbrev cX1_worthOf : ByteArray := prog_3_method_9_code
def yX1_worthOf : MethodName := ⟨RX1, "worthOf", "(LGraveRequest$Station;LGraveRequest$State;I)I"⟩
abbrev cX1_minutesOf : ByteArray := prog_3_method_10_code
def yX1_minutesOf : MethodName := ⟨RX1, "minutesOf", "(LGraveRequest$Station;LGraveRequest$State;I)I"⟩
abbrev cX1_gather : ByteArray := prog_3_method_11_code
def yX1_gather : MethodName := ⟨RX1, "gather", "(LGraveRequest$Station;LGraveRequest$State;)I"⟩
abbrev cX1_addToSets : ByteArray := prog_3_method_12_code
def yX1_addToSets : MethodName := ⟨RX1, "addToSets", "(III)V"⟩
abbrev cX1_spread : ByteArray := prog_3_method_13_code
def yX1_spread : MethodName := ⟨RX1, "spread", "(II)I"⟩
abbrev cX1_bestBits : ByteArray := prog_3_method_14_code
def yX1_bestBits : MethodName := ⟨RX1, "bestBits", "(LGraveRequest$Station;LGraveRequest$State;)I"⟩
abbrev cX1_isBetter : ByteArray := prog_3_method_15_code
def yX1_isBetter : MethodName := ⟨RX1, "isBetter", "(II)Z"⟩
abbrev cX1_shareBits : ByteArray := prog_3_method_16_code
def yX1_shareBits : MethodName := ⟨RX1, "shareBits", "(LGraveRequest$Station;LGraveRequest$State;)I"⟩
abbrev cX1_playDay : ByteArray := prog_3_method_17_code
def yX1_playDay : MethodName := ⟨RX1, "playDay", "(LGraveRequest$Station;LGraveRequest$State;I)I"⟩
abbrev cX1_canFill : ByteArray := prog_3_method_18_code
def yX1_canFill : MethodName := ⟨RX1, "canFill", "(LGraveRequest$Station;LGraveRequest$State;)Z"⟩
abbrev cX1_pleaseEars : ByteArray := prog_3_method_19_code
def yX1_pleaseEars : MethodName := ⟨RX1, "pleaseEars", "(LGraveRequest$Station;LGraveRequest$State;I)V"⟩
abbrev cX1_pleased : ByteArray := prog_3_method_20_code
def yX1_pleased : MethodName := ⟨RX1, "pleased", "(II)I"⟩
abbrev cX1_pleasedBy : ByteArray := prog_3_method_21_code
def yX1_pleasedBy : MethodName := ⟨RX1, "pleasedBy", "(LGraveRequest$Station;LGraveRequest$State;II)I"⟩
abbrev cX1_heardBy : ByteArray := prog_3_method_22_code
def yX1_heardBy : MethodName := ⟨RX1, "heardBy", "(LGraveRequest$Station;LGraveRequest$State;II)I"⟩
def RX2 : String := "GraveRequest$Program"
def TX2 : u_T := fun k => match k with
  | 0 => ("GraveRequest$Program", "ops", "[I", true)
  | 1 => ("GraveRequest$Program", "length", "I", false)
  | 2 => ("GraveRequest$Program", "from", "[I", true)
  | 3 => ("GraveRequest$Program", "to", "[I", true)
  | _ => ("GraveRequest$Program", "given", "[Z", true)
def tyX2 : Nat → FieldType := fun k => match k with
  | 0 => .array .int
  | 1 => .int
  | 2 => .array .int
  | 3 => .array .int
  | _ => .array .boolean
abbrev wsX20 : List Cond := u_ws RX2 TX2 5
theorem nmX2 : ∀ a, a < 5 → ∀ b, b < 5 → a ≠ b → (TX2 a).2.1 ≠ (TX2 b).2.1 := by decide +kernel
theorem tyX2_ok : ∀ k, k < 5 → parseFieldDescriptor (TX2 k).2.2.1 = some (tyX2 k) := by decide +kernel
abbrev cX2_init : ByteArray := prog_4_method_1_code
def yX2_init : MethodName := ⟨RX2, "<init>", "()V"⟩
abbrev cX2_empty : ByteArray := prog_4_method_2_code
def yX2_empty : MethodName := ⟨RX2, "empty", "()V"⟩
abbrev cX2_add : ByteArray := prog_4_method_3_code
def yX2_add : MethodName := ⟨RX2, "add", "(I)V"⟩
abbrev cX2_hasPart : ByteArray := prog_4_method_4_code
def yX2_hasPart : MethodName := ⟨RX2, "hasPart", "(I)Z"⟩
abbrev cX2_beginPart : ByteArray := prog_4_method_5_code
def yX2_beginPart : MethodName := ⟨RX2, "beginPart", "(I)V"⟩
abbrev cX2_endPart : ByteArray := prog_4_method_6_code
def yX2_endPart : MethodName := ⟨RX2, "endPart", "(I)V"⟩
def RX3 : String := "GraveRequest$Reader"
def TX3 : u_T := fun k => match k with
  | 0 => ("GraveRequest$Reader", "tokens", "LGraveRequest$Tokens;", true)
  | 1 => ("GraveRequest$Reader", "question", "LGraveRequest$Program;", true)
  | 2 => ("GraveRequest$Reader", "out", "LGraveRequest$Program;", false)
  | 3 => ("GraveRequest$Reader", "asking", "Z", false)
  | 4 => ("GraveRequest$Reader", "ofSongs", "Z", false)
  | _ => ("GraveRequest$Reader", "form", "I", false)
def tyX3 : Nat → FieldType := fun k => match k with
  | 0 => .object "GraveRequest$Tokens"
  | 1 => .object "GraveRequest$Program"
  | 2 => .object "GraveRequest$Program"
  | 3 => .boolean
  | 4 => .boolean
  | _ => .int
abbrev wsX30 : List Cond := u_ws RX3 TX3 6
theorem nmX3 : ∀ a, a < 6 → ∀ b, b < 6 → a ≠ b → (TX3 a).2.1 ≠ (TX3 b).2.1 := by decide +kernel
theorem tyX3_ok : ∀ k, k < 6 → parseFieldDescriptor (TX3 k).2.2.1 = some (tyX3 k) := by decide +kernel
abbrev cX3_init : ByteArray := prog_5_method_1_code
def yX3_init : MethodName := ⟨RX3, "<init>", "()V"⟩
abbrev cX3_readStation : ByteArray := prog_5_method_2_code
def yX3_readStation : MethodName := ⟨RX3, "readStation", "([BILGraveRequest$Station;)V"⟩
abbrev cX3_readQuestion : ByteArray := prog_5_method_3_code
def yX3_readQuestion : MethodName := ⟨RX3, "readQuestion", "([BI)V"⟩
abbrev cX3_readStatement : ByteArray := prog_5_method_4_code
def yX3_readStatement : MethodName := ⟨RX3, "readStatement", "(LGraveRequest$Station;)V"⟩
abbrev cX3_readSong : ByteArray := prog_5_method_5_code
def yX3_readSong : MethodName := ⟨RX3, "readSong", "(LGraveRequest$Station;)V"⟩
abbrev cX3_readAsker : ByteArray := prog_5_method_6_code
def yX3_readAsker : MethodName := ⟨RX3, "readAsker", "(LGraveRequest$Station;)V"⟩
abbrev cX3_readEar : ByteArray := prog_5_method_7_code
def yX3_readEar : MethodName := ⟨RX3, "readEar", "(LGraveRequest$Station;)V"⟩
abbrev cX3_readPart : ByteArray := prog_5_method_8_code
def yX3_readPart : MethodName := ⟨RX3, "readPart", "(I)V"⟩
abbrev cX3_readNewName : ByteArray := prog_5_method_9_code
def yX3_readNewName : MethodName := ⟨RX3, "readNewName", "(LGraveRequest$Station;)I"⟩
abbrev cX3_readSongName : ByteArray := prog_5_method_10_code
def yX3_readSongName : MethodName := ⟨RX3, "readSongName", "(LGraveRequest$Station;)I"⟩
abbrev cX3_mayOpen : ByteArray := prog_5_method_11_code
def yX3_mayOpen : MethodName := ⟨RX3, "mayOpen", "(I)Z"⟩
abbrev cX3_readTest : ByteArray := prog_5_method_12_code
def yX3_readTest : MethodName := ⟨RX3, "readTest", "(I)V"⟩
abbrev cX3_readBoth : ByteArray := prog_5_method_13_code
def yX3_readBoth : MethodName := ⟨RX3, "readBoth", "(I)V"⟩
abbrev cX3_readFact : ByteArray := prog_5_method_14_code
def yX3_readFact : MethodName := ⟨RX3, "readFact", "(I)V"⟩
abbrev cX3_comparison : ByteArray := prog_5_method_15_code
def yX3_comparison : MethodName := ⟨RX3, "comparison", "()I"⟩
abbrev cX3_readSum : ByteArray := prog_5_method_16_code
def yX3_readSum : MethodName := ⟨RX3, "readSum", "(I)V"⟩
abbrev cX3_readProduct : ByteArray := prog_5_method_17_code
def yX3_readProduct : MethodName := ⟨RX3, "readProduct", "(I)V"⟩
abbrev cX3_readPiece : ByteArray := prog_5_method_18_code
def yX3_readPiece : MethodName := ⟨RX3, "readPiece", "(I)V"⟩
abbrev cX3_readPair : ByteArray := prog_5_method_19_code
def yX3_readPair : MethodName := ⟨RX3, "readPair", "(I)V"⟩
abbrev cX3_isFact : ByteArray := prog_5_method_20_code
def yX3_isFact : MethodName := ⟨RX3, "isFact", "(I)Z"⟩
def RX4 : String := "GraveRequest$State"
def TX4 : u_T := fun k => match k with
  | 0 => ("GraveRequest$State", "day", "I", false)
  | 1 => ("GraveRequest$State", "silence", "I", false)
  | 2 => ("GraveRequest$State", "song", "[I", true)
  | 3 => ("GraveRequest$State", "dies", "[I", true)
  | 4 => ("GraveRequest$State", "minds", "[I", true)
  | 5 => ("GraveRequest$State", "last", "[I", true)
  | 6 => ("GraveRequest$State", "played", "[I", true)
  | 7 => ("GraveRequest$State", "keptCount", "I", false)
  | 8 => ("GraveRequest$State", "keptDay", "[I", true)
  | 9 => ("GraveRequest$State", "keptBits", "[I", true)
  | _ => ("GraveRequest$State", "keptSilence", "[I", true)
def tyX4 : Nat → FieldType := fun k => match k with
  | 0 => .int
  | 1 => .int
  | 2 => .array .int
  | 3 => .array .int
  | 4 => .array .int
  | 5 => .array .int
  | 6 => .array .int
  | 7 => .int
  | 8 => .array .int
  | 9 => .array .int
  | _ => .array .int
abbrev wsX40 : List Cond := u_ws RX4 TX4 11
theorem nmX4 : ∀ a, a < 11 → ∀ b, b < 11 → a ≠ b → (TX4 a).2.1 ≠ (TX4 b).2.1 := by decide +kernel
theorem tyX4_ok : ∀ k, k < 11 → parseFieldDescriptor (TX4 k).2.2.1 = some (tyX4 k) := by decide +kernel
abbrev cX4_init : ByteArray := prog_6_method_1_code
def yX4_init : MethodName := ⟨RX4, "<init>", "()V"⟩
abbrev cX4_begin : ByteArray := prog_6_method_2_code
def yX4_begin : MethodName := ⟨RX4, "begin", "(LGraveRequest$Station;)V"⟩
abbrev cX4_copyNow : ByteArray := prog_6_method_3_code
def yX4_copyNow : MethodName := ⟨RX4, "copyNow", "(LGraveRequest$State;)V"⟩
abbrev cX4_copyAll : ByteArray := prog_6_method_4_code
def yX4_copyAll : MethodName := ⟨RX4, "copyAll", "(LGraveRequest$State;)V"⟩
abbrev cX4_keep : ByteArray := prog_6_method_5_code
def yX4_keep : MethodName := ⟨RX4, "keep", "(III)V"⟩
abbrev cX4_isDead : ByteArray := prog_6_method_6_code
def yX4_isDead : MethodName := ⟨RX4, "isDead", "(I)Z"⟩
abbrev cX4_ageOf : ByteArray := prog_6_method_7_code
def yX4_ageOf : MethodName := ⟨RX4, "ageOf", "(I)I"⟩
abbrev cX4_sinceOf : ByteArray := prog_6_method_8_code
def yX4_sinceOf : MethodName := ⟨RX4, "sinceOf", "(I)I"⟩
def RX5 : String := "GraveRequest$Station"
def TX5 : u_T := fun k => match k with
  | 0 => ("GraveRequest$Station", "statements", "I", false)
  | 1 => ("GraveRequest$Station", "hour", "I", false)
  | 2 => ("GraveRequest$Station", "hush", "I", false)
  | 3 => ("GraveRequest$Station", "toll", "I", false)
  | 4 => ("GraveRequest$Station", "songs", "I", false)
  | 5 => ("GraveRequest$Station", "songName", "[I", true)
  | 6 => ("GraveRequest$Station", "songLong", "[I", true)
  | 7 => ("GraveRequest$Station", "songStyle", "[I", true)
  | 8 => ("GraveRequest$Station", "askers", "I", false)
  | 9 => ("GraveRequest$Station", "askerName", "[I", true)
  | 10 => ("GraveRequest$Station", "askerSong", "[I", true)
  | 11 => ("GraveRequest$Station", "askerDies", "[I", true)
  | 12 => ("GraveRequest$Station", "askerMinds", "[I", true)
  | 13 => ("GraveRequest$Station", "ears", "I", false)
  | 14 => ("GraveRequest$Station", "earName", "[I", true)
  | 15 => ("GraveRequest$Station", "earTaste", "[I", true)
  | _ => ("GraveRequest$Station", "program", "LGraveRequest$Program;", true)
def tyX5 : Nat → FieldType := fun k => match k with
  | 0 => .int
  | 1 => .int
  | 2 => .int
  | 3 => .int
  | 4 => .int
  | 5 => .array .int
  | 6 => .array .int
  | 7 => .array .int
  | 8 => .int
  | 9 => .array .int
  | 10 => .array .int
  | 11 => .array .int
  | 12 => .array .int
  | 13 => .int
  | 14 => .array .int
  | 15 => .array .int
  | _ => .object "GraveRequest$Program"
abbrev wsX50 : List Cond := u_ws RX5 TX5 17
theorem nmX5 : ∀ a, a < 17 → ∀ b, b < 17 → a ≠ b → (TX5 a).2.1 ≠ (TX5 b).2.1 := by decide +kernel
theorem tyX5_ok : ∀ k, k < 17 → parseFieldDescriptor (TX5 k).2.2.1 = some (tyX5 k) := by decide +kernel
abbrev cX5_init : ByteArray := prog_7_method_1_code
def yX5_init : MethodName := ⟨RX5, "<init>", "()V"⟩
abbrev cX5_empty : ByteArray := prog_7_method_2_code
def yX5_empty : MethodName := ⟨RX5, "empty", "()V"⟩
abbrev cX5_addSong : ByteArray := prog_7_method_3_code
def yX5_addSong : MethodName := ⟨RX5, "addSong", "(III)V"⟩
abbrev cX5_addAsker : ByteArray := prog_7_method_4_code
def yX5_addAsker : MethodName := ⟨RX5, "addAsker", "(IIII)V"⟩
abbrev cX5_addEar : ByteArray := prog_7_method_5_code
def yX5_addEar : MethodName := ⟨RX5, "addEar", "(II)V"⟩
abbrev cX5_findSong : ByteArray := prog_7_method_6_code
def yX5_findSong : MethodName := ⟨RX5, "findSong", "(I)I"⟩
abbrev cX5_hasName : ByteArray := prog_7_method_7_code
def yX5_hasName : MethodName := ⟨RX5, "hasName", "(I)Z"⟩
abbrev cX5_longOf : ByteArray := prog_7_method_8_code
def yX5_longOf : MethodName := ⟨RX5, "longOf", "(I)I"⟩
abbrev cX5_styleOf : ByteArray := prog_7_method_9_code
def yX5_styleOf : MethodName := ⟨RX5, "styleOf", "(I)I"⟩
abbrev cX5_addDefaults : ByteArray := prog_7_method_10_code
def yX5_addDefaults : MethodName := ⟨RX5, "addDefaults", "()V"⟩
def RX6 : String := "GraveRequest$Tokens"
def TX6 : u_T := fun k => match k with
  | 0 => ("GraveRequest$Tokens", "wordNames", "[I", true)
  | 1 => ("GraveRequest$Tokens", "text", "[B", false)
  | 2 => ("GraveRequest$Tokens", "length", "I", false)
  | 3 => ("GraveRequest$Tokens", "kind", "I", false)
  | 4 => ("GraveRequest$Tokens", "start", "I", false)
  | 5 => ("GraveRequest$Tokens", "end", "I", false)
  | 6 => ("GraveRequest$Tokens", "name", "I", false)
  | 7 => ("GraveRequest$Tokens", "faultKind", "I", false)
  | _ => ("GraveRequest$Tokens", "faultPlace", "I", false)
def tyX6 : Nat → FieldType := fun k => match k with
  | 0 => .array .int
  | 1 => .array .byte
  | 2 => .int
  | 3 => .int
  | 4 => .int
  | 5 => .int
  | 6 => .int
  | 7 => .int
  | _ => .int
abbrev wsX60 : List Cond := u_ws RX6 TX6 9
theorem nmX6 : ∀ a, a < 9 → ∀ b, b < 9 → a ≠ b → (TX6 a).2.1 ≠ (TX6 b).2.1 := by decide +kernel
theorem tyX6_ok : ∀ k, k < 9 → parseFieldDescriptor (TX6 k).2.2.1 = some (tyX6 k) := by decide +kernel
abbrev cX6_init : ByteArray := prog_8_method_1_code
def yX6_init : MethodName := ⟨RX6, "<init>", "()V"⟩
abbrev cX6_packWord : ByteArray := prog_8_method_2_code
def yX6_packWord : MethodName := ⟨RX6, "packWord", "(I)I"⟩
abbrev cX6_read : ByteArray := prog_8_method_3_code
def yX6_read : MethodName := ⟨RX6, "read", "([BI)V"⟩
abbrev cX6_fail : ByteArray := prog_8_method_4_code
def yX6_fail : MethodName := ⟨RX6, "fail", "(II)V"⟩
abbrev cX6_goesOn : ByteArray := prog_8_method_5_code
def yX6_goesOn : MethodName := ⟨RX6, "goesOn", "()Z"⟩
abbrev cX6_take : ByteArray := prog_8_method_6_code
def yX6_take : MethodName := ⟨RX6, "take", "()V"⟩
abbrev cX6_isSign : ByteArray := prog_8_method_7_code
def yX6_isSign : MethodName := ⟨RX6, "isSign", "(C)Z"⟩
abbrev cX6_isWord : ByteArray := prog_8_method_8_code
def yX6_isWord : MethodName := ⟨RX6, "isWord", "(I)Z"⟩
abbrev cX6_knownWord : ByteArray := prog_8_method_9_code
def yX6_knownWord : MethodName := ⟨RX6, "knownWord", "()I"⟩
abbrev cX6_needSign : ByteArray := prog_8_method_10_code
def yX6_needSign : MethodName := ⟨RX6, "needSign", "(C)V"⟩
abbrev cX6_needWord : ByteArray := prog_8_method_11_code
def yX6_needWord : MethodName := ⟨RX6, "needWord", "(I)V"⟩
abbrev cX6_needNumber : ByteArray := prog_8_method_12_code
def yX6_needNumber : MethodName := ⟨RX6, "needNumber", "(II)I"⟩
abbrev cX6_standsName : ByteArray := prog_8_method_13_code
def yX6_standsName : MethodName := ⟨RX6, "standsName", "()Z"⟩
def RX7 : String := "GraveRequest"
def TX7 : u_T := fun k => match k with
  | 0 => ("GraveRequest", "tape", "[B", true)
  | 1 => ("GraveRequest", "tapeLength", "I", false)
  | 2 => ("GraveRequest", "reader", "LGraveRequest$Reader;", true)
  | 3 => ("GraveRequest", "told", "LGraveRequest$Station;", false)
  | 4 => ("GraveRequest", "spare", "LGraveRequest$Station;", false)
  | 5 => ("GraveRequest", "onAir", "Z", false)
  | 6 => ("GraveRequest", "faultKind", "I", false)
  | 7 => ("GraveRequest", "faultPlace", "I", false)
  | 8 => ("GraveRequest", "machine", "LGraveRequest$Machine;", true)
  | 9 => ("GraveRequest", "now", "LGraveRequest$State;", true)
  | 10 => ("GraveRequest", "trial", "LGraveRequest$State;", true)
  | 11 => ("GraveRequest", "history", "LGraveRequest$History;", true)
  | 12 => ("GraveRequest", "seen", "[[I", true)
  | 13 => ("GraveRequest", "seenRows", "I", false)
  | 14 => ("GraveRequest", "fitting", "[I", true)
  | 15 => ("GraveRequest", "picture", "[I", true)
  | 16 => ("GraveRequest", "pictureLength", "I", false)
  | 17 => ("GraveRequest", "refused", "[I", true)
  | _ => ("GraveRequest", "seedNow", "I", false)
def tyX7 : Nat → FieldType := fun k => match k with
  | 0 => .array .byte
  | 1 => .int
  | 2 => .object "GraveRequest$Reader"
  | 3 => .object "GraveRequest$Station"
  | 4 => .object "GraveRequest$Station"
  | 5 => .boolean
  | 6 => .int
  | 7 => .int
  | 8 => .object "GraveRequest$Machine"
  | 9 => .object "GraveRequest$State"
  | 10 => .object "GraveRequest$State"
  | 11 => .object "GraveRequest$History"
  | 12 => .array (.array .int)
  | 13 => .int
  | 14 => .array .int
  | 15 => .array .int
  | 16 => .int
  | 17 => .array .int
  | _ => .int
abbrev wsX70 : List Cond := u_ws RX7 TX7 19
theorem nmX7 : ∀ a, a < 19 → ∀ b, b < 19 → a ≠ b → (TX7 a).2.1 ≠ (TX7 b).2.1 := by decide +kernel
theorem tyX7_ok : ∀ k, k < 19 → parseFieldDescriptor (TX7 k).2.2.1 = some (tyX7 k) := by decide +kernel
abbrev cX7_init : ByteArray := prog_1_method_1_code
def yX7_init : MethodName := ⟨RX7, "<init>", "()V"⟩
abbrev cX7_feed : ByteArray := prog_1_method_2_code
def yX7_feed : MethodName := ⟨RX7, "feed", "(IIIII)I"⟩
abbrev cX7_end : ByteArray := prog_1_method_3_code
def yX7_end : MethodName := ⟨RX7, "end", "(I)Z"⟩
abbrev cX7_putOnTape : ByteArray := prog_1_method_4_code
def yX7_putOnTape : MethodName := ⟨RX7, "putOnTape", "(I)V"⟩
abbrev cX7_takeTape : ByteArray := prog_1_method_5_code
def yX7_takeTape : MethodName := ⟨RX7, "takeTape", "()I"⟩
abbrev cX7_tapeByte : ByteArray := prog_1_method_6_code
def yX7_tapeByte : MethodName := ⟨RX7, "tapeByte", "(I)I"⟩
abbrev cX7_tapePair : ByteArray := prog_1_method_7_code
def yX7_tapePair : MethodName := ⟨RX7, "tapePair", "(I)I"⟩
abbrev cX7_refuse : ByteArray := prog_1_method_8_code
def yX7_refuse : MethodName := ⟨RX7, "refuse", "(I)V"⟩
abbrev cX7_station : ByteArray := prog_1_method_9_code
def yX7_station : MethodName := ⟨RX7, "station", "()I"⟩
abbrev cX7_fault : ByteArray := prog_1_method_10_code
def yX7_fault : MethodName := ⟨RX7, "fault", "(I)I"⟩
abbrev cX7_keepFault : ByteArray := prog_1_method_11_code
def yX7_keepFault : MethodName := ⟨RX7, "keepFault", "()V"⟩
abbrev cX7_has : ByteArray := prog_1_method_12_code
def yX7_has : MethodName := ⟨RX7, "has", "(I)I"⟩
abbrev cX7_isAsker : ByteArray := prog_1_method_13_code
def yX7_isAsker : MethodName := ⟨RX7, "isAsker", "(I)Z"⟩
abbrev cX7_isSong : ByteArray := prog_1_method_14_code
def yX7_isSong : MethodName := ⟨RX7, "isSong", "(I)Z"⟩
abbrev cX7_isEar : ByteArray := prog_1_method_15_code
def yX7_isEar : MethodName := ⟨RX7, "isEar", "(I)Z"⟩
abbrev cX7_countLiving : ByteArray := prog_1_method_16_code
def yX7_countLiving : MethodName := ⟨RX7, "countLiving", "()I"⟩
abbrev cX7_countForgotten : ByteArray := prog_1_method_17_code
def yX7_countForgotten : MethodName := ⟨RX7, "countForgotten", "()I"⟩
abbrev cX7_letter : ByteArray := prog_1_method_18_code
def yX7_letter : MethodName := ⟨RX7, "letter", "(III)I"⟩
abbrev cX7_letterOf : ByteArray := prog_1_method_19_code
def yX7_letterOf : MethodName := ⟨RX7, "letterOf", "(II)I"⟩
abbrev cX7_song : ByteArray := prog_1_method_20_code
def yX7_song : MethodName := ⟨RX7, "song", "(II)I"⟩
abbrev cX7_asker : ByteArray := prog_1_method_21_code
def yX7_asker : MethodName := ⟨RX7, "asker", "(II)I"⟩
abbrev cX7_worth : ByteArray := prog_1_method_22_code
def yX7_worth : MethodName := ⟨RX7, "worth", "(I)J"⟩
abbrev cX7_best : ByteArray := prog_1_method_23_code
def yX7_best : MethodName := ⟨RX7, "best", "(I)I"⟩
abbrev cX7_kept : ByteArray := prog_1_method_24_code
def yX7_kept : MethodName := ⟨RX7, "kept", "(II)I"⟩
abbrev cX7_hasDayAhead : ByteArray := prog_1_method_25_code
def yX7_hasDayAhead : MethodName := ⟨RX7, "hasDayAhead", "(I)Z"⟩
abbrev cX7_tryFromNow : ByteArray := prog_1_method_26_code
def yX7_tryFromNow : MethodName := ⟨RX7, "tryFromNow", "()V"⟩
abbrev cX7_tryDays : ByteArray := prog_1_method_27_code
def yX7_tryDays : MethodName := ⟨RX7, "tryDays", "(I)V"⟩
abbrev cX7_later : ByteArray := prog_1_method_28_code
def yX7_later : MethodName := ⟨RX7, "later", "(I)I"⟩
abbrev cX7_minded : ByteArray := prog_1_method_29_code
def yX7_minded : MethodName := ⟨RX7, "minded", "(II)I"⟩
abbrev cX7_nothing : ByteArray := prog_1_method_30_code
def yX7_nothing : MethodName := ⟨RX7, "nothing", "()I"⟩
abbrev cX7_hushed : ByteArray := prog_1_method_31_code
def yX7_hushed : MethodName := ⟨RX7, "hushed", "()I"⟩
abbrev cX7_full : ByteArray := prog_1_method_32_code
def yX7_full : MethodName := ⟨RX7, "full", "()I"⟩
abbrev cX7_fame : ByteArray := prog_1_method_33_code
def yX7_fame : MethodName := ⟨RX7, "fame", "(III)I"⟩
abbrev cX7_countPlays : ByteArray := prog_1_method_34_code
def yX7_countPlays : MethodName := ⟨RX7, "countPlays", "(III)I"⟩
abbrev cX7_shared : ByteArray := prog_1_method_35_code
def yX7_shared : MethodName := ⟨RX7, "shared", "()I"⟩
abbrev cX7_heard : ByteArray := prog_1_method_36_code
def yX7_heard : MethodName := ⟨RX7, "heard", "(I)I"⟩
abbrev cX7_see : ByteArray := prog_1_method_37_code
def yX7_see : MethodName := ⟨RX7, "see", "()I"⟩
abbrev cX7_isSeenTape : ByteArray := prog_1_method_38_code
def yX7_isSeenTape : MethodName := ⟨RX7, "isSeenTape", "(I)Z"⟩
abbrev cX7_fits : ByteArray := prog_1_method_39_code
def yX7_fits : MethodName := ⟨RX7, "fits", "(II)I"⟩
abbrev cX7_leastFitting : ByteArray := prog_1_method_40_code
def yX7_leastFitting : MethodName := ⟨RX7, "leastFitting", "()I"⟩
abbrev cX7_greatestFitting : ByteArray := prog_1_method_41_code
def yX7_greatestFitting : MethodName := ⟨RX7, "greatestFitting", "()I"⟩
abbrev cX7_findFitting : ByteArray := prog_1_method_42_code
def yX7_findFitting : MethodName := ⟨RX7, "findFitting", "(II)I"⟩
abbrev cX7_lastSeenDay : ByteArray := prog_1_method_43_code
def yX7_lastSeenDay : MethodName := ⟨RX7, "lastSeenDay", "()I"⟩
abbrev cX7_rowsAgree : ByteArray := prog_1_method_44_code
def yX7_rowsAgree : MethodName := ⟨RX7, "rowsAgree", "(II)Z"⟩
abbrev cX7_tells : ByteArray := prog_1_method_45_code
def yX7_tells : MethodName := ⟨RX7, "tells", "(II)I"⟩
abbrev cX7_countFittingPlayed : ByteArray := prog_1_method_46_code
def yX7_countFittingPlayed : MethodName := ⟨RX7, "countFittingPlayed", "(I)I"⟩
abbrev cX7_want : ByteArray := prog_1_method_47_code
def yX7_want : MethodName := ⟨RX7, "want", "(II)Z"⟩
abbrev cX7_mourn : ByteArray := prog_1_method_48_code
def yX7_mourn : MethodName := ⟨RX7, "mourn", "(II)I"⟩
abbrev cX7_canPass : ByteArray := prog_1_method_49_code
def yX7_canPass : MethodName := ⟨RX7, "canPass", "(I)Z"⟩
abbrev cX7_days : ByteArray := prog_1_method_50_code
def yX7_days : MethodName := ⟨RX7, "days", "(I)I"⟩
abbrev cX7_passDay : ByteArray := prog_1_method_51_code
def yX7_passDay : MethodName := ⟨RX7, "passDay", "()I"⟩
abbrev cX7_chance : ByteArray := prog_1_method_52_code
def yX7_chance : MethodName := ⟨RX7, "chance", "(I)I"⟩
abbrev cX7_drawDeath : ByteArray := prog_1_method_53_code
def yX7_drawDeath : MethodName := ⟨RX7, "drawDeath", "()I"⟩
abbrev cX7_draw : ByteArray := prog_1_method_54_code
def yX7_draw : MethodName := ⟨RX7, "draw", "(I)I"⟩
abbrev cX7_undo : ByteArray := prog_1_method_55_code
def yX7_undo : MethodName := ⟨RX7, "undo", "()Z"⟩
abbrev cX7_seed : ByteArray := prog_1_method_56_code
def yX7_seed : MethodName := ⟨RX7, "seed", "(I)Z"⟩
abbrev cX7_ask : ByteArray := prog_1_method_57_code
def yX7_ask : MethodName := ⟨RX7, "ask", "()J"⟩
abbrev cX7_answer : ByteArray := prog_1_method_58_code
def yX7_answer : MethodName := ⟨RX7, "answer", "(I)J"⟩
abbrev cX7_image : ByteArray := prog_1_method_59_code
def yX7_image : MethodName := ⟨RX7, "image", "()I"⟩
abbrev cX7_drawByte : ByteArray := prog_1_method_60_code
def yX7_drawByte : MethodName := ⟨RX7, "drawByte", "(I)V"⟩
abbrev cX7_drawPair : ByteArray := prog_1_method_61_code
def yX7_drawPair : MethodName := ⟨RX7, "drawPair", "(I)V"⟩
abbrev cX7_octet : ByteArray := prog_1_method_62_code
def yX7_octet : MethodName := ⟨RX7, "octet", "(I)I"⟩
abbrev cX7_on : ByteArray := prog_1_method_63_code
def yX7_on : MethodName := ⟨RX7, "on", "()Z"⟩
abbrev cX7_isImageTape : ByteArray := prog_1_method_64_code
def yX7_isImageTape : MethodName := ⟨RX7, "isImageTape", "(I)Z"⟩
abbrev cX7_status : ByteArray := prog_1_method_65_code
def yX7_status : MethodName := ⟨RX7, "status", "(I)I"⟩
def RX8 : String := "GraveRequestModel"
def TX8 : u_T := fun k => match k with
  | 0 => ("GraveRequestModel", "tape", "[I", true)
  | 1 => ("GraveRequestModel", "taped", "I", false)
  | 2 => ("GraveRequestModel", "at", "I", false)
  | 3 => ("GraveRequestModel", "end", "I", false)
  | 4 => ("GraveRequestModel", "ended", "I", false)
  | 5 => ("GraveRequestModel", "bad", "I", false)
  | 6 => ("GraveRequestModel", "badPlace", "I", false)
  | 7 => ("GraveRequestModel", "fault", "I", false)
  | 8 => ("GraveRequestModel", "faultPlace", "I", false)
  | 9 => ("GraveRequestModel", "refused", "[I", true)
  | 10 => ("GraveRequestModel", "hourWord", "[C", true)
  | 11 => ("GraveRequestModel", "songWord", "[C", true)
  | 12 => ("GraveRequestModel", "longWord", "[C", true)
  | 13 => ("GraveRequestModel", "styleWord", "[C", true)
  | 14 => ("GraveRequestModel", "askerWord", "[C", true)
  | 15 => ("GraveRequestModel", "wantsWord", "[C", true)
  | 16 => ("GraveRequestModel", "diesWord", "[C", true)
  | 17 => ("GraveRequestModel", "mindsWord", "[C", true)
  | 18 => ("GraveRequestModel", "earWord", "[C", true)
  | 19 => ("GraveRequestModel", "tasteWord", "[C", true)
  | 20 => ("GraveRequestModel", "fadesWord", "[C", true)
  | 21 => ("GraveRequestModel", "playsWord", "[C", true)
  | 22 => ("GraveRequestModel", "worthWord", "[C", true)
  | 23 => ("GraveRequestModel", "hushWord", "[C", true)
  | 24 => ("GraveRequestModel", "tollWord", "[C", true)
  | 25 => ("GraveRequestModel", "ageWord", "[C", true)
  | 26 => ("GraveRequestModel", "sinceWord", "[C", true)
  | 27 => ("GraveRequestModel", "playedWord", "[C", true)
  | 28 => ("GraveRequestModel", "dayWord", "[C", true)
  | 29 => ("GraveRequestModel", "numberWord", "[C", true)
  | 30 => ("GraveRequestModel", "aliveWord", "[C", true)
  | 31 => ("GraveRequestModel", "onWord", "[C", true)
  | 32 => ("GraveRequestModel", "orWord", "[C", true)
  | 33 => ("GraveRequestModel", "andWord", "[C", true)
  | 34 => ("GraveRequestModel", "notWord", "[C", true)
  | 35 => ("GraveRequestModel", "allWord", "[C", true)
  | 36 => ("GraveRequestModel", "minWord", "[C", true)
  | 37 => ("GraveRequestModel", "maxWord", "[C", true)
  | 38 => ("GraveRequestModel", "namePlace", "I", false)
  | 39 => ("GraveRequestModel", "hour0", "[I", true)
  | 40 => ("GraveRequestModel", "many", "[I", true)
  | 41 => ("GraveRequestModel", "names", "[J", true)
  | 42 => ("GraveRequestModel", "songs", "[I", true)
  | 43 => ("GraveRequestModel", "askers", "[I", true)
  | 44 => ("GraveRequestModel", "tastes", "[I", true)
  | 45 => ("GraveRequestModel", "codeFrom", "[I", true)
  | 46 => ("GraveRequestModel", "codeEnd", "[I", true)
  | 47 => ("GraveRequestModel", "codes", "[I", true)
  | 48 => ("GraveRequestModel", "coded", "I", false)
  | 49 => ("GraveRequestModel", "statements", "I", false)
  | 50 => ("GraveRequestModel", "isStation", "Z", false)
  | 51 => ("GraveRequestModel", "textKind", "I", false)
  | 52 => ("GraveRequestModel", "now", "[I", true)
  | 53 => ("GraveRequestModel", "aside", "[I", true)
  | 54 => ("GraveRequestModel", "canSet", "I", false)
  | 55 => ("GraveRequestModel", "worths", "[J", true)
  | 56 => ("GraveRequestModel", "bestSet", "I", false)
  | 57 => ("GraveRequestModel", "bestLong", "I", false)
  | 58 => ("GraveRequestModel", "isThought", "Z", false)
  | 59 => ("GraveRequestModel", "playedMany", "I", false)
  | 60 => ("GraveRequestModel", "row", "[I", true)
  | 61 => ("GraveRequestModel", "bestRow", "[I", true)
  | 62 => ("GraveRequestModel", "pleasedMost", "I", false)
  | 63 => ("GraveRequestModel", "rowMany", "I", false)
  | 64 => ("GraveRequestModel", "rows", "[I", true)
  | 65 => ("GraveRequestModel", "isOn", "[Z", true)
  | 66 => ("GraveRequestModel", "isFit", "[Z", true)
  | 67 => ("GraveRequestModel", "fitMany", "I", false)
  | 68 => ("GraveRequestModel", "kept0", "[I", true)
  | 69 => ("GraveRequestModel", "undoable", "I", false)
  | 70 => ("GraveRequestModel", "newest", "I", false)
  | 71 => ("GraveRequestModel", "seeded", "J", false)
  | 72 => ("GraveRequestModel", "firstAsked", "[C", true)
  | 73 => ("GraveRequestModel", "lastAsked", "[C", true)
  | 74 => ("GraveRequestModel", "oftenAsked", "[C", true)
  | 75 => ("GraveRequestModel", "totalAsked", "[C", true)
  | 76 => ("GraveRequestModel", "mostAsked", "[C", true)
  | 77 => ("GraveRequestModel", "leastAsked", "[C", true)
  | 78 => ("GraveRequestModel", "notAsked", "[C", true)
  | 79 => ("GraveRequestModel", "andAsked", "[C", true)
  | 80 => ("GraveRequestModel", "orAsked", "[C", true)
  | 81 => ("GraveRequestModel", "allAsked", "[C", true)
  | 82 => ("GraveRequestModel", "minAsked", "[C", true)
  | 83 => ("GraveRequestModel", "maxAsked", "[C", true)
  | 84 => ("GraveRequestModel", "mindsAsked", "[C", true)
  | 85 => ("GraveRequestModel", "ageAsked", "[C", true)
  | 86 => ("GraveRequestModel", "sinceAsked", "[C", true)
  | 87 => ("GraveRequestModel", "playedAsked", "[C", true)
  | 88 => ("GraveRequestModel", "dayAsked", "[C", true)
  | 89 => ("GraveRequestModel", "longAsked", "[C", true)
  | 90 => ("GraveRequestModel", "styleAsked", "[C", true)
  | 91 => ("GraveRequestModel", "numberAsked", "[C", true)
  | 92 => ("GraveRequestModel", "aliveAsked", "[C", true)
  | 93 => ("GraveRequestModel", "onAsked", "[C", true)
  | 94 => ("GraveRequestModel", "wantsAsked", "[C", true)
  | 95 => ("GraveRequestModel", "qCodes", "[I", true)
  | 96 => ("GraveRequestModel", "qCoded", "I", false)
  | 97 => ("GraveRequestModel", "qWait", "[I", true)
  | 98 => ("GraveRequestModel", "qWaits", "I", false)
  | 99 => ("GraveRequestModel", "qOpened", "I", false)
  | 100 => ("GraveRequestModel", "qBase", "I", false)
  | 101 => ("GraveRequestModel", "qPile", "[J", true)
  | 102 => ("GraveRequestModel", "qPiled", "I", false)
  | 103 => ("GraveRequestModel", "qAnswer", "J", false)
  | 104 => ("GraveRequestModel", "qIsNew", "Z", false)
  | 105 => ("GraveRequestModel", "octet", "[I", true)
  | _ => ("GraveRequestModel", "octets", "I", false)
def tyX8 : Nat → FieldType := fun k => match k with
  | 0 => .array .int
  | 1 => .int
  | 2 => .int
  | 3 => .int
  | 4 => .int
  | 5 => .int
  | 6 => .int
  | 7 => .int
  | 8 => .int
  | 9 => .array .int
  | 10 => .array .char
  | 11 => .array .char
  | 12 => .array .char
  | 13 => .array .char
  | 14 => .array .char
  | 15 => .array .char
  | 16 => .array .char
  | 17 => .array .char
  | 18 => .array .char
  | 19 => .array .char
  | 20 => .array .char
  | 21 => .array .char
  | 22 => .array .char
  | 23 => .array .char
  | 24 => .array .char
  | 25 => .array .char
  | 26 => .array .char
  | 27 => .array .char
  | 28 => .array .char
  | 29 => .array .char
  | 30 => .array .char
  | 31 => .array .char
  | 32 => .array .char
  | 33 => .array .char
  | 34 => .array .char
  | 35 => .array .char
  | 36 => .array .char
  | 37 => .array .char
  | 38 => .int
  | 39 => .array .int
  | 40 => .array .int
  | 41 => .array .long
  | 42 => .array .int
  | 43 => .array .int
  | 44 => .array .int
  | 45 => .array .int
  | 46 => .array .int
  | 47 => .array .int
  | 48 => .int
  | 49 => .int
  | 50 => .boolean
  | 51 => .int
  | 52 => .array .int
  | 53 => .array .int
  | 54 => .int
  | 55 => .array .long
  | 56 => .int
  | 57 => .int
  | 58 => .boolean
  | 59 => .int
  | 60 => .array .int
  | 61 => .array .int
  | 62 => .int
  | 63 => .int
  | 64 => .array .int
  | 65 => .array .boolean
  | 66 => .array .boolean
  | 67 => .int
  | 68 => .array .int
  | 69 => .int
  | 70 => .int
  | 71 => .long
  | 72 => .array .char
  | 73 => .array .char
  | 74 => .array .char
  | 75 => .array .char
  | 76 => .array .char
  | 77 => .array .char
  | 78 => .array .char
  | 79 => .array .char
  | 80 => .array .char
  | 81 => .array .char
  | 82 => .array .char
  | 83 => .array .char
  | 84 => .array .char
  | 85 => .array .char
  | 86 => .array .char
  | 87 => .array .char
  | 88 => .array .char
  | 89 => .array .char
  | 90 => .array .char
  | 91 => .array .char
  | 92 => .array .char
  | 93 => .array .char
  | 94 => .array .char
  | 95 => .array .int
  | 96 => .int
  | 97 => .array .int
  | 98 => .int
  | 99 => .int
  | 100 => .int
  | 101 => .array .long
  | 102 => .int
  | 103 => .long
  | 104 => .boolean
  | 105 => .array .int
  | _ => .int
abbrev wsX80 : List Cond := u_ws RX8 TX8 107
theorem nmX8 : ∀ a, a < 107 → ∀ b, b < 107 → a ≠ b → (TX8 a).2.1 ≠ (TX8 b).2.1 := by decide +kernel
theorem tyX8_ok : ∀ k, k < 107 → parseFieldDescriptor (TX8 k).2.2.1 = some (tyX8 k) := by decide +kernel
abbrev cX8_init : ByteArray := prog_10_method_1_code
def yX8_init : MethodName := ⟨RX8, "<init>", "()V"⟩
abbrev cX8_isIn : ByteArray := prog_10_method_2_code
def yX8_isIn : MethodName := ⟨RX8, "isIn", "(JJJ)Z"⟩
abbrev cX8_feed : ByteArray := prog_10_method_3_code
def yX8_feed : MethodName := ⟨RX8, "feed", "(IIIII)I"⟩
abbrev cX8_end : ByteArray := prog_10_method_4_code
def yX8_end : MethodName := ⟨RX8, "end", "(I)Z"⟩
abbrev cX8_fail : ByteArray := prog_10_method_5_code
def yX8_fail : MethodName := ⟨RX8, "fail", "(II)V"⟩
abbrev cX8_isLetter : ByteArray := prog_10_method_6_code
def yX8_isLetter : MethodName := ⟨RX8, "isLetter", "(I)Z"⟩
abbrev cX8_isDigit : ByteArray := prog_10_method_7_code
def yX8_isDigit : MethodName := ⟨RX8, "isDigit", "(I)Z"⟩
abbrev cX8_look : ByteArray := prog_10_method_8_code
def yX8_look : MethodName := ⟨RX8, "look", "()I"⟩
abbrev cX8_isHere : ByteArray := prog_10_method_9_code
def yX8_isHere : MethodName := ⟨RX8, "isHere", "([C)Z"⟩
abbrev cX8_takes : ByteArray := prog_10_method_10_code
def yX8_takes : MethodName := ⟨RX8, "takes", "([C)Z"⟩
abbrev cX8_asks : ByteArray := prog_10_method_11_code
def yX8_asks : MethodName := ⟨RX8, "asks", "([C)V"⟩
abbrev cX8_takesSign : ByteArray := prog_10_method_12_code
def yX8_takesSign : MethodName := ⟨RX8, "takesSign", "(I)Z"⟩
abbrev cX8_asksSign : ByteArray := prog_10_method_13_code
def yX8_asksSign : MethodName := ⟨RX8, "asksSign", "(I)V"⟩
abbrev cX8_number : ByteArray := prog_10_method_14_code
def yX8_number : MethodName := ⟨RX8, "number", "(II)I"⟩
abbrev cX8_isOwnHere : ByteArray := prog_10_method_15_code
def yX8_isOwnHere : MethodName := ⟨RX8, "isOwnHere", "()Z"⟩
abbrev cX8_name : ByteArray := prog_10_method_16_code
def yX8_name : MethodName := ⟨RX8, "name", "()J"⟩
abbrev cX8_isAllowed : ByteArray := prog_10_method_17_code
def yX8_isAllowed : MethodName := ⟨RX8, "isAllowed", "(I)Z"⟩
abbrev cX8_isFull : ByteArray := prog_10_method_18_code
def yX8_isFull : MethodName := ⟨RX8, "isFull", "(III)Z"⟩
abbrev cX8_newName : ByteArray := prog_10_method_19_code
def yX8_newName : MethodName := ⟨RX8, "newName", "()J"⟩
abbrev cX8_songNamed : ByteArray := prog_10_method_20_code
def yX8_songNamed : MethodName := ⟨RX8, "songNamed", "()I"⟩
abbrev cX8_adds : ByteArray := prog_10_method_21_code
def yX8_adds : MethodName := ⟨RX8, "adds", "(IJ)I"⟩
abbrev cX8_hourTold : ByteArray := prog_10_method_22_code
def yX8_hourTold : MethodName := ⟨RX8, "hourTold", "()V"⟩
abbrev cX8_songTold : ByteArray := prog_10_method_23_code
def yX8_songTold : MethodName := ⟨RX8, "songTold", "(I)V"⟩
abbrev cX8_askerTold : ByteArray := prog_10_method_24_code
def yX8_askerTold : MethodName := ⟨RX8, "askerTold", "(I)V"⟩
abbrev cX8_earTold : ByteArray := prog_10_method_25_code
def yX8_earTold : MethodName := ⟨RX8, "earTold", "(I)V"⟩
abbrev cX8_codesTold : ByteArray := prog_10_method_26_code
def yX8_codesTold : MethodName := ⟨RX8, "codesTold", "(II)V"⟩
abbrev cX8_statementTold : ByteArray := prog_10_method_27_code
def yX8_statementTold : MethodName := ⟨RX8, "statementTold", "()V"⟩
abbrev cX8_station : ByteArray := prog_10_method_28_code
def yX8_station : MethodName := ⟨RX8, "station", "()I"⟩
abbrev cX8_stands : ByteArray := prog_10_method_29_code
def yX8_stands : MethodName := ⟨RX8, "stands", "()V"⟩
abbrev cX8_fault : ByteArray := prog_10_method_30_code
def yX8_fault : MethodName := ⟨RX8, "fault", "(I)I"⟩
abbrev cX8_songMany : ByteArray := prog_10_method_31_code
def yX8_songMany : MethodName := ⟨RX8, "songMany", "()I"⟩
abbrev cX8_askerMany : ByteArray := prog_10_method_32_code
def yX8_askerMany : MethodName := ⟨RX8, "askerMany", "()I"⟩
abbrev cX8_earMany : ByteArray := prog_10_method_33_code
def yX8_earMany : MethodName := ⟨RX8, "earMany", "()I"⟩
abbrev cX8_isAsker : ByteArray := prog_10_method_34_code
def yX8_isAsker : MethodName := ⟨RX8, "isAsker", "(I)Z"⟩
abbrev cX8_songOf : ByteArray := prog_10_method_35_code
def yX8_songOf : MethodName := ⟨RX8, "songOf", "(I)I"⟩
abbrev cX8_diesOf : ByteArray := prog_10_method_36_code
def yX8_diesOf : MethodName := ⟨RX8, "diesOf", "(I)I"⟩
abbrev cX8_mindsOf : ByteArray := prog_10_method_37_code
def yX8_mindsOf : MethodName := ⟨RX8, "mindsOf", "(I)I"⟩
abbrev cX8_lastOf : ByteArray := prog_10_method_38_code
def yX8_lastOf : MethodName := ⟨RX8, "lastOf", "(I)I"⟩
abbrev cX8_playedOf : ByteArray := prog_10_method_39_code
def yX8_playedOf : MethodName := ⟨RX8, "playedOf", "(I)I"⟩
abbrev cX8_longOf : ByteArray := prog_10_method_40_code
def yX8_longOf : MethodName := ⟨RX8, "longOf", "(I)I"⟩
abbrev cX8_styleOf : ByteArray := prog_10_method_41_code
def yX8_styleOf : MethodName := ⟨RX8, "styleOf", "(I)I"⟩
abbrev cX8_isDead : ByteArray := prog_10_method_42_code
def yX8_isDead : MethodName := ⟨RX8, "isDead", "(I)Z"⟩
abbrev cX8_ageOf : ByteArray := prog_10_method_43_code
def yX8_ageOf : MethodName := ⟨RX8, "ageOf", "(I)I"⟩
abbrev cX8_sinceOf : ByteArray := prog_10_method_44_code
def yX8_sinceOf : MethodName := ⟨RX8, "sinceOf", "(I)I"⟩
abbrev cX8_codesTell : ByteArray := prog_10_method_45_code
def yX8_codesTell : MethodName := ⟨RX8, "codesTell", "(II)J"⟩
abbrev cX8_canPlay : ByteArray := prog_10_method_46_code
def yX8_canPlay : MethodName := ⟨RX8, "canPlay", "(I)Z"⟩
abbrev cX8_worthOf : ByteArray := prog_10_method_47_code
def yX8_worthOf : MethodName := ⟨RX8, "worthOf", "(I)J"⟩
abbrev cX8_fadedOf : ByteArray := prog_10_method_48_code
def yX8_fadedOf : MethodName := ⟨RX8, "fadedOf", "(I)I"⟩
abbrev cX8_laysCan : ByteArray := prog_10_method_49_code
def yX8_laysCan : MethodName := ⟨RX8, "laysCan", "()V"⟩
abbrev cX8_minutesOf : ByteArray := prog_10_method_50_code
def yX8_minutesOf : MethodName := ⟨RX8, "minutesOf", "(I)I"⟩
abbrev cX8_worthBy : ByteArray := prog_10_method_51_code
def yX8_worthBy : MethodName := ⟨RX8, "worthBy", "(I)J"⟩
abbrev cX8_laysBest : ByteArray := prog_10_method_52_code
def yX8_laysBest : MethodName := ⟨RX8, "laysBest", "()V"⟩
abbrev cX8_bits : ByteArray := prog_10_method_53_code
def yX8_bits : MethodName := ⟨RX8, "bits", "(I)I"⟩
abbrev cX8_isKept : ByteArray := prog_10_method_54_code
def yX8_isKept : MethodName := ⟨RX8, "isKept", "(II)V"⟩
abbrev cX8_dayBy : ByteArray := prog_10_method_55_code
def yX8_dayBy : MethodName := ⟨RX8, "dayBy", "(I)V"⟩
abbrev cX8_dayGoes : ByteArray := prog_10_method_56_code
def yX8_dayGoes : MethodName := ⟨RX8, "dayGoes", "()V"⟩
abbrev cX8_daysGo : ByteArray := prog_10_method_57_code
def yX8_daysGo : MethodName := ⟨RX8, "daysGo", "(I)V"⟩
abbrev cX8_putsAside : ByteArray := prog_10_method_58_code
def yX8_putsAside : MethodName := ⟨RX8, "putsAside", "()V"⟩
abbrev cX8_triesAnew : ByteArray := prog_10_method_59_code
def yX8_triesAnew : MethodName := ⟨RX8, "triesAnew", "()V"⟩
abbrev cX8_takesBack : ByteArray := prog_10_method_60_code
def yX8_takesBack : MethodName := ⟨RX8, "takesBack", "()V"⟩
abbrev cX8_isAhead : ByteArray := prog_10_method_61_code
def yX8_isAhead : MethodName := ⟨RX8, "isAhead", "(III)Z"⟩
abbrev cX8_deadMany : ByteArray := prog_10_method_62_code
def yX8_deadMany : MethodName := ⟨RX8, "deadMany", "()I"⟩
abbrev cX8_forgottenMany : ByteArray := prog_10_method_63_code
def yX8_forgottenMany : MethodName := ⟨RX8, "forgottenMany", "()I"⟩
abbrev cX8_canMany : ByteArray := prog_10_method_64_code
def yX8_canMany : MethodName := ⟨RX8, "canMany", "()I"⟩
abbrev cX8_has : ByteArray := prog_10_method_65_code
def yX8_has : MethodName := ⟨RX8, "has", "(I)I"⟩
abbrev cX8_letter : ByteArray := prog_10_method_66_code
def yX8_letter : MethodName := ⟨RX8, "letter", "(III)I"⟩
abbrev cX8_song : ByteArray := prog_10_method_67_code
def yX8_song : MethodName := ⟨RX8, "song", "(II)I"⟩
abbrev cX8_asker : ByteArray := prog_10_method_68_code
def yX8_asker : MethodName := ⟨RX8, "asker", "(II)I"⟩
abbrev cX8_worth : ByteArray := prog_10_method_69_code
def yX8_worth : MethodName := ⟨RX8, "worth", "(I)J"⟩
abbrev cX8_best : ByteArray := prog_10_method_70_code
def yX8_best : MethodName := ⟨RX8, "best", "(I)I"⟩
abbrev cX8_kept : ByteArray := prog_10_method_71_code
def yX8_kept : MethodName := ⟨RX8, "kept", "(II)I"⟩
abbrev cX8_later : ByteArray := prog_10_method_72_code
def yX8_later : MethodName := ⟨RX8, "later", "(I)I"⟩
abbrev cX8_minded : ByteArray := prog_10_method_73_code
def yX8_minded : MethodName := ⟨RX8, "minded", "(II)I"⟩
abbrev cX8_nothing : ByteArray := prog_10_method_74_code
def yX8_nothing : MethodName := ⟨RX8, "nothing", "()I"⟩
abbrev cX8_hushed : ByteArray := prog_10_method_75_code
def yX8_hushed : MethodName := ⟨RX8, "hushed", "()I"⟩
abbrev cX8_canBeFull : ByteArray := prog_10_method_76_code
def yX8_canBeFull : MethodName := ⟨RX8, "canBeFull", "()Z"⟩
abbrev cX8_full : ByteArray := prog_10_method_77_code
def yX8_full : MethodName := ⟨RX8, "full", "()I"⟩
abbrev cX8_often : ByteArray := prog_10_method_78_code
def yX8_often : MethodName := ⟨RX8, "often", "(II)I"⟩
abbrev cX8_fame : ByteArray := prog_10_method_79_code
def yX8_fame : MethodName := ⟨RX8, "fame", "(III)I"⟩
abbrev cX8_shared : ByteArray := prog_10_method_80_code
def yX8_shared : MethodName := ⟨RX8, "shared", "()I"⟩
abbrev cX8_isNextRow : ByteArray := prog_10_method_81_code
def yX8_isNextRow : MethodName := ⟨RX8, "isNextRow", "()Z"⟩
abbrev cX8_pleasedBy : ByteArray := prog_10_method_82_code
def yX8_pleasedBy : MethodName := ⟨RX8, "pleasedBy", "()I"⟩
abbrev cX8_laysRow : ByteArray := prog_10_method_83_code
def yX8_laysRow : MethodName := ⟨RX8, "laysRow", "()V"⟩
abbrev cX8_heard : ByteArray := prog_10_method_84_code
def yX8_heard : MethodName := ⟨RX8, "heard", "(I)I"⟩
abbrev cX8_refuses : ByteArray := prog_10_method_85_code
def yX8_refuses : MethodName := ⟨RX8, "refuses", "(I)I"⟩
abbrev cX8_see : ByteArray := prog_10_method_86_code
def yX8_see : MethodName := ⟨RX8, "see", "()I"⟩
abbrev cX8_isAsSeen : ByteArray := prog_10_method_87_code
def yX8_isAsSeen : MethodName := ⟨RX8, "isAsSeen", "(I)Z"⟩
abbrev cX8_laysFits : ByteArray := prog_10_method_88_code
def yX8_laysFits : MethodName := ⟨RX8, "laysFits", "(I)V"⟩
abbrev cX8_fits : ByteArray := prog_10_method_89_code
def yX8_fits : MethodName := ⟨RX8, "fits", "(II)I"⟩
abbrev cX8_tells : ByteArray := prog_10_method_90_code
def yX8_tells : MethodName := ⟨RX8, "tells", "(II)I"⟩
abbrev cX8_keeps : ByteArray := prog_10_method_91_code
def yX8_keeps : MethodName := ⟨RX8, "keeps", "()V"⟩
abbrev cX8_undo : ByteArray := prog_10_method_92_code
def yX8_undo : MethodName := ⟨RX8, "undo", "()Z"⟩
abbrev cX8_want : ByteArray := prog_10_method_93_code
def yX8_want : MethodName := ⟨RX8, "want", "(II)Z"⟩
abbrev cX8_mourn : ByteArray := prog_10_method_94_code
def yX8_mourn : MethodName := ⟨RX8, "mourn", "(II)I"⟩
abbrev cX8_days : ByteArray := prog_10_method_95_code
def yX8_days : MethodName := ⟨RX8, "days", "(I)I"⟩
abbrev cX8_seed : ByteArray := prog_10_method_96_code
def yX8_seed : MethodName := ⟨RX8, "seed", "(I)Z"⟩
abbrev cX8_drawOf : ByteArray := prog_10_method_97_code
def yX8_drawOf : MethodName := ⟨RX8, "drawOf", "(I)I"⟩
abbrev cX8_aliveOf : ByteArray := prog_10_method_98_code
def yX8_aliveOf : MethodName := ⟨RX8, "aliveOf", "(I)I"⟩
abbrev cX8_chance : ByteArray := prog_10_method_99_code
def yX8_chance : MethodName := ⟨RX8, "chance", "(I)I"⟩
abbrev cX8_qCode : ByteArray := prog_10_method_100_code
def yX8_qCode : MethodName := ⟨RX8, "qCode", "(I)V"⟩
abbrev cX8_qOpens : ByteArray := prog_10_method_101_code
def yX8_qOpens : MethodName := ⟨RX8, "qOpens", "(II)V"⟩
abbrev cX8_qIsOn : ByteArray := prog_10_method_102_code
def yX8_qIsOn : MethodName := ⟨RX8, "qIsOn", "(I)Z"⟩
abbrev cX8_qDrops : ByteArray := prog_10_method_103_code
def yX8_qDrops : MethodName := ⟨RX8, "qDrops", "()V"⟩
abbrev cX8_qIsBracket : ByteArray := prog_10_method_104_code
def yX8_qIsBracket : MethodName := ⟨RX8, "qIsBracket", "(I)Z"⟩
abbrev cX8_qBracket : ByteArray := prog_10_method_105_code
def yX8_qBracket : MethodName := ⟨RX8, "qBracket", "()I"⟩
abbrev cX8_qDropsToBracket : ByteArray := prog_10_method_106_code
def yX8_qDropsToBracket : MethodName := ⟨RX8, "qDropsToBracket", "()V"⟩
abbrev cX8_qWordHere : ByteArray := prog_10_method_107_code
def yX8_qWordHere : MethodName := ⟨RX8, "qWordHere", "()I"⟩
abbrev cX8_qWordOf : ByteArray := prog_10_method_108_code
def yX8_qWordOf : MethodName := ⟨RX8, "qWordOf", "(II)I"⟩
abbrev cX8_qAsksWord : ByteArray := prog_10_method_109_code
def yX8_qAsksWord : MethodName := ⟨RX8, "qAsksWord", "(I)V"⟩
abbrev cX8_qEndsPart : ByteArray := prog_10_method_110_code
def yX8_qEndsPart : MethodName := ⟨RX8, "qEndsPart", "()V"⟩
abbrev cX8_qPartTold : ByteArray := prog_10_method_111_code
def yX8_qPartTold : MethodName := ⟨RX8, "qPartTold", "()V"⟩
abbrev cX8_qGoesOn : ByteArray := prog_10_method_112_code
def yX8_qGoesOn : MethodName := ⟨RX8, "qGoesOn", "()Z"⟩
abbrev cX8_qSums : ByteArray := prog_10_method_113_code
def yX8_qSums : MethodName := ⟨RX8, "qSums", "()V"⟩
abbrev cX8_qFact : ByteArray := prog_10_method_114_code
def yX8_qFact : MethodName := ⟨RX8, "qFact", "()V"⟩
abbrev cX8_qHasSquare : ByteArray := prog_10_method_115_code
def yX8_qHasSquare : MethodName := ⟨RX8, "qHasSquare", "()Z"⟩
abbrev cX8_qDropsNots : ByteArray := prog_10_method_116_code
def yX8_qDropsNots : MethodName := ⟨RX8, "qDropsNots", "()V"⟩
abbrev cX8_qTest : ByteArray := prog_10_method_117_code
def yX8_qTest : MethodName := ⟨RX8, "qTest", "()V"⟩
abbrev cX8_qGoesOnTest : ByteArray := prog_10_method_118_code
def yX8_qGoesOnTest : MethodName := ⟨RX8, "qGoesOnTest", "()Z"⟩
abbrev cX8_qClip : ByteArray := prog_10_method_119_code
def yX8_qClip : MethodName := ⟨RX8, "qClip", "(J)J"⟩
abbrev cX8_qFloor : ByteArray := prog_10_method_120_code
def yX8_qFloor : MethodName := ⟨RX8, "qFloor", "(JJ)J"⟩
abbrev cX8_qPuts : ByteArray := prog_10_method_121_code
def yX8_qPuts : MethodName := ⟨RX8, "qPuts", "(J)V"⟩
abbrev cX8_qJoins : ByteArray := prog_10_method_122_code
def yX8_qJoins : MethodName := ⟨RX8, "qJoins", "(I)V"⟩
abbrev cX8_qPartOf : ByteArray := prog_10_method_123_code
def yX8_qPartOf : MethodName := ⟨RX8, "qPartOf", "(II)J"⟩
abbrev cX8_qOf : ByteArray := prog_10_method_124_code
def yX8_qOf : MethodName := ⟨RX8, "qOf", "(IJI)J"⟩
abbrev cX8_qTold : ByteArray := prog_10_method_125_code
def yX8_qTold : MethodName := ⟨RX8, "qTold", "(I)J"⟩
abbrev cX8_qKind : ByteArray := prog_10_method_126_code
def yX8_qKind : MethodName := ⟨RX8, "qKind", "()I"⟩
abbrev cX8_qTakes : ByteArray := prog_10_method_127_code
def yX8_qTakes : MethodName := ⟨RX8, "qTakes", "(IJI)V"⟩
abbrev cX8_ask : ByteArray := prog_10_method_128_code
def yX8_ask : MethodName := ⟨RX8, "ask", "()J"⟩
abbrev cX8_checked : ByteArray := prog_10_method_129_code
def yX8_checked : MethodName := ⟨RX8, "checked", "([II)I"⟩
abbrev cX8_writes : ByteArray := prog_10_method_130_code
def yX8_writes : MethodName := ⟨RX8, "writes", "(I)V"⟩
abbrev cX8_writesTwo : ByteArray := prog_10_method_131_code
def yX8_writesTwo : MethodName := ⟨RX8, "writesTwo", "(I)V"⟩
abbrev cX8_image : ByteArray := prog_10_method_132_code
def yX8_image : MethodName := ⟨RX8, "image", "()I"⟩
abbrev cX8_octet : ByteArray := prog_10_method_133_code
def yX8_octet : MethodName := ⟨RX8, "octet", "(I)I"⟩
abbrev cX8_twoAt : ByteArray := prog_10_method_134_code
def yX8_twoAt : MethodName := ⟨RX8, "twoAt", "(I)I"⟩
abbrev cX8_isAskerTold : ByteArray := prog_10_method_135_code
def yX8_isAskerTold : MethodName := ⟨RX8, "isAskerTold", "(I)Z"⟩
abbrev cX8_isImage : ByteArray := prog_10_method_136_code
def yX8_isImage : MethodName := ⟨RX8, "isImage", "(I)Z"⟩
abbrev cX8_on : ByteArray := prog_10_method_137_code
def yX8_on : MethodName := ⟨RX8, "on", "()Z"⟩
abbrev cX8_status : ByteArray := prog_10_method_138_code
def yX8_status : MethodName := ⟨RX8, "status", "(I)I"⟩
def RJ6 : String := "java/lang/Integer"
def TJ6 : u_T := fun k => match k with
  | _ => ("", "", "", false)
def tyJ6 : Nat → FieldType := fun k => match k with
  | _ => .int
abbrev wsJ60 : List Cond := u_ws RJ6 TJ6 0
theorem nmJ6 : ∀ a, a < 0 → ∀ b, b < 0 → a ≠ b → (TJ6 a).2.1 ≠ (TJ6 b).2.1 := by decide +kernel
theorem tyJ6_ok : ∀ k, k < 0 → parseFieldDescriptor (TJ6 k).2.2.1 = some (tyJ6 k) := by decide +kernel
abbrev cJ6_bitCount_0f7a4 : ByteArray := prog_11_method_49_code
def yJ6_bitCount_0f7a4 : MethodName := ⟨RJ6, "bitCount", "(I)I"⟩
def RJ9 : String := "java/lang/Math"
def TJ9 : u_T := fun k => match k with
  | _ => ("", "", "", false)
def tyJ9 : Nat → FieldType := fun k => match k with
  | _ => .int
abbrev wsJ90 : List Cond := u_ws RJ9 TJ9 0
theorem nmJ9 : ∀ a, a < 0 → ∀ b, b < 0 → a ≠ b → (TJ9 a).2.1 ≠ (TJ9 b).2.1 := by decide +kernel
theorem tyJ9_ok : ∀ k, k < 0 → parseFieldDescriptor (TJ9 k).2.2.1 = some (tyJ9 k) := by decide +kernel
abbrev cJ9_floorDiv_7cf53 : ByteArray := prog_12_method_47_code
def yJ9_floorDiv_7cf53 : MethodName := ⟨RJ9, "floorDiv", "(II)I"⟩
abbrev cJ9_abs_0f7a4 : ByteArray := prog_12_method_59_code
def yJ9_abs_0f7a4 : MethodName := ⟨RJ9, "abs", "(I)I"⟩
abbrev cJ9_max_7cf53 : ByteArray := prog_12_method_65_code
def yJ9_max_7cf53 : MethodName := ⟨RJ9, "max", "(II)I"⟩
abbrev cJ9_max_f86c9 : ByteArray := prog_12_method_66_code
def yJ9_max_f86c9 : MethodName := ⟨RJ9, "max", "(JJ)J"⟩
abbrev cJ9_min_7cf53 : ByteArray := prog_12_method_69_code
def yJ9_min_7cf53 : MethodName := ⟨RJ9, "min", "(II)I"⟩
abbrev cJ9_min_f86c9 : ByteArray := prog_12_method_70_code
def yJ9_min_f86c9 : MethodName := ⟨RJ9, "min", "(JJ)J"⟩
def RJ0 : String := "java/lang/String"
def TJ0 : u_T := fun k => match k with
  | _ => ("", "", "", false)
def tyJ0 : Nat → FieldType := fun k => match k with
  | _ => .int
abbrev wsJ00 : List Cond := u_ws RJ0 TJ0 0
theorem nmJ0 : ∀ a, a < 0 → ∀ b, b < 0 → a ≠ b → (TJ0 a).2.1 ≠ (TJ0 b).2.1 := by decide +kernel
theorem tyJ0_ok : ∀ k, k < 0 → parseFieldDescriptor (TJ0 k).2.2.1 = some (tyJ0 k) := by decide +kernel
abbrev cJ0_length_8abf5 : ByteArray := prog_13_method_54_code
def yJ0_length_8abf5 : MethodName := ⟨RJ0, "length", "()I"⟩
abbrev cJ0_charAt_5068e : ByteArray := prog_13_method_56_code
def yJ0_charAt_5068e : MethodName := ⟨RJ0, "charAt", "(I)C"⟩
abbrev cJ0_coder_7d493 : ByteArray := prog_13_method_152_code
def yJ0_coder_7d493 : MethodName := ⟨RJ0, "coder", "()B"⟩
abbrev cJ0_isLatin1_aae02 : ByteArray := prog_13_method_154_code
def yJ0_isLatin1_aae02 : MethodName := ⟨RJ0, "isLatin1", "()Z"⟩
abbrev cJ0_checkIndex_df160 : ByteArray := prog_13_method_155_code
def yJ0_checkIndex_df160 : MethodName := ⟨RJ0, "checkIndex", "(II)V"⟩
def RJ1 : String := "java/lang/StringLatin1"
def TJ1 : u_T := fun k => match k with
  | _ => ("", "", "", false)
def tyJ1 : Nat → FieldType := fun k => match k with
  | _ => .int
abbrev wsJ10 : List Cond := u_ws RJ1 TJ1 0
theorem nmJ1 : ∀ a, a < 0 → ∀ b, b < 0 → a ≠ b → (TJ1 a).2.1 ≠ (TJ1 b).2.1 := by decide +kernel
theorem tyJ1_ok : ∀ k, k < 0 → parseFieldDescriptor (TJ1 k).2.2.1 = some (tyJ1 k) := by decide +kernel
abbrev cJ1_charAt_3b067 : ByteArray := prog_14_method_2_code
def yJ1_charAt_3b067 : MethodName := ⟨RJ1, "charAt", "([BI)C"⟩
def RJ2 : String := "java/lang/StringUTF16"
def TJ2 : u_T := fun k => match k with
  | _ => ("", "", "", false)
def tyJ2 : Nat → FieldType := fun k => match k with
  | _ => .int
abbrev wsJ20 : List Cond := u_ws RJ2 TJ2 0
theorem nmJ2 : ∀ a, a < 0 → ∀ b, b < 0 → a ≠ b → (TJ2 a).2.1 ≠ (TJ2 b).2.1 := by decide +kernel
theorem tyJ2_ok : ∀ k, k < 0 → parseFieldDescriptor (TJ2 k).2.2.1 = some (tyJ2 k) := by decide +kernel
abbrev cJ2_getChar_3b067 : ByteArray := prog_15_method_5_code
def yJ2_getChar_3b067 : MethodName := ⟨RJ2, "getChar", "([BI)C"⟩
abbrev cJ2_length_9d52b : ByteArray := prog_15_method_6_code
def yJ2_length_9d52b : MethodName := ⟨RJ2, "length", "([B)I"⟩
abbrev cJ2_charAt_3b067 : ByteArray := prog_15_method_83_code
def yJ2_charAt_3b067 : MethodName := ⟨RJ2, "charAt", "([BI)C"⟩
abbrev cJ2_checkIndex_2214a : ByteArray := prog_15_method_91_code
def yJ2_checkIndex_2214a : MethodName := ⟨RJ2, "checkIndex", "(I[B)V"⟩
def RJ10 : String := "java/lang/System"
def TJ10 : u_T := fun k => match k with
  | _ => ("", "", "", false)
def tyJ10 : Nat → FieldType := fun k => match k with
  | _ => .int
abbrev wsJ100 : List Cond := u_ws RJ10 TJ10 0
theorem nmJ10 : ∀ a, a < 0 → ∀ b, b < 0 → a ≠ b → (TJ10 a).2.1 ≠ (TJ10 b).2.1 := by decide +kernel
theorem tyJ10_ok : ∀ k, k < 0 → parseFieldDescriptor (TJ10 k).2.2.1 = some (tyJ10 k) := by decide +kernel
def RJ3 : String := "jdk/internal/util/Preconditions"
def TJ3 : u_T := fun k => match k with
  | _ => ("", "", "", false)
def tyJ3 : Nat → FieldType := fun k => match k with
  | _ => .int
abbrev wsJ30 : List Cond := u_ws RJ3 TJ3 0
theorem nmJ3 : ∀ a, a < 0 → ∀ b, b < 0 → a ≠ b → (TJ3 a).2.1 ≠ (TJ3 b).2.1 := by decide +kernel
theorem tyJ3_ok : ∀ k, k < 0 → parseFieldDescriptor (TJ3 k).2.2.1 = some (tyJ3 k) := by decide +kernel
abbrev cJ3_checkIndex_8e157 : ByteArray := prog_17_method_11_code
def yJ3_checkIndex_8e157 : MethodName := ⟨RJ3, "checkIndex", "(IILjava/util/function/BiFunction;)I"⟩
def RL : String := "GraveRequestLaw"
abbrev cL_law : ByteArray := code
def yL_law : MethodName := ⟨RL, "law", "([I)Z"⟩
abbrev pcl : List vw_C := [(RX0, TX0, 2), (RX1, TX1, 6), (RX2, TX2, 5), (RX3, TX3, 6), (RX4, TX4, 11), (RX5, TX5, 17), (RX6, TX6, 9), (RX7, TX7, 19), (RX8, TX8, 107)]
/-! the words, by list and place -/
def tb : Nat → List Cond
  | 0 => k2_sels lw_privs
  | 1 => tables_1_1
  | 2 => tables_1_2
  | 3 => tables_1_3
  | 4 => tables_1_4
  | 5 => tables_1_5
  | 6 => tables_1_6
  | 7 => tables_1_7
  | 8 => tables_1_8
  | _ => tables_1_9
theorem tb_in : ∀ (k : Nat) (w : Cond), w ∈ tb k → w ∈ lw_tbl := by
  intro k w h
  have key : w ∈ k2_sels lw_privs ∨ w ∈ tables_1 := by
    match k, h with
    | 0, h => exact Or.inl h
    | 1, h => exact Or.inr (by unfold tables_1; simp only [List.mem_append]; exact Or.inl h)
    | 2, h => exact Or.inr (by unfold tables_1; simp only [List.mem_append]; exact Or.inr (Or.inl h))
    | 3, h => exact Or.inr (by unfold tables_1; simp only [List.mem_append]; exact Or.inr (Or.inr (Or.inl h)))
    | 4, h => exact Or.inr (by unfold tables_1; simp only [List.mem_append]; exact Or.inr (Or.inr (Or.inr (Or.inl h))))
    | 5, h => exact Or.inr (by unfold tables_1; simp only [List.mem_append]; exact Or.inr (Or.inr (Or.inr (Or.inr (Or.inl h)))))
    | 6, h => exact Or.inr (by unfold tables_1; simp only [List.mem_append]; exact Or.inr (Or.inr (Or.inr (Or.inr (Or.inr (Or.inl h))))))
    | 7, h => exact Or.inr (by unfold tables_1; simp only [List.mem_append]; exact Or.inr (Or.inr (Or.inr (Or.inr (Or.inr (Or.inr (Or.inl h)))))))
    | 8, h => exact Or.inr (by unfold tables_1; simp only [List.mem_append]; exact Or.inr (Or.inr (Or.inr (Or.inr (Or.inr (Or.inr (Or.inr (Or.inl h))))))))
    | n + 9, h => exact Or.inr (by unfold tables_1; simp only [List.mem_append]; exact Or.inr (Or.inr (Or.inr (Or.inr (Or.inr (Or.inr (Or.inr (Or.inr (h)))))))))
  unfold lw_tbl
  exact List.mem_append.mpr key
def pBig : List Cond := lw_tbl.filter goodWord
theorem pb (k j : Nat) {w : Cond} (h : (tb k)[j]? = some w) (hg : goodWord w = true) : w ∈ pBig := List.mem_filter.mpr ⟨tb_in k w (List.mem_of_getElem? h), hg⟩
theorem pbs {ws : List Cond} (ps : List (Nat × Nat)) (h : ws = ps.filterMap (fun q => (tb q.1)[q.2]?)) (hg : ws.all goodWord = true) : ∀ w ∈ ws, w ∈ pBig := by
  intro w hw
  have h1 := List.all_eq_true.mp hg w hw
  rw [h] at hw
  obtain ⟨q, -, hq⟩ := List.mem_filterMap.mp hw
  exact pb q.1 q.2 hq h1
theorem pBig_good : GoodIn pBig pBig := fun w h => ⟨h, good_of_word (List.mem_filter.mp h).2⟩
set_option maxRecDepth 20000 in
theorem inlX0 : ∀ w ∈ wsX00, w ∈ pBig := pbs [(2, 116), (2, 118)] (by decide +kernel) (by decide +kernel)
set_option maxRecDepth 20000 in
theorem inlX1 : ∀ w ∈ wsX10, w ∈ pBig := pbs [(2, 34), (2, 36), (2, 38), (2, 40), (2, 42), (2, 44)] (by decide +kernel) (by decide +kernel)
set_option maxRecDepth 20000 in
theorem inlX2 : ∀ w ∈ wsX20, w ∈ pBig := pbs [(1, 138), (1, 140), (1, 142), (1, 144), (1, 146)] (by decide +kernel) (by decide +kernel)
set_option maxRecDepth 20000 in
theorem inlX3 : ∀ w ∈ wsX30, w ∈ pBig := pbs [(1, 159), (1, 161), (1, 163), (1, 165), (1, 167), (1, 169)] (by decide +kernel) (by decide +kernel)
set_option maxRecDepth 20000 in
theorem inlX4 : ∀ w ∈ wsX40, w ∈ pBig := pbs [(2, 81), (2, 83), (2, 85), (2, 87), (2, 89), (2, 91), (2, 93), (2, 95), (2, 97), (2, 99), (2, 101)] (by decide +kernel) (by decide +kernel)
set_option maxRecDepth 20000 in
theorem inlX5 : ∀ w ∈ wsX50, w ∈ pBig := pbs [(1, 225), (1, 227), (1, 229), (1, 231), (1, 233), (1, 235), (1, 237), (1, 239), (2, 1), (2, 3), (2, 5), (2, 7), (2, 9), (2, 11), (2, 13), (2, 15), (2, 17)] (by decide +kernel) (by decide +kernel)
set_option maxRecDepth 20000 in
theorem inlX6 : ∀ w ∈ wsX60, w ∈ pBig := pbs [(1, 103), (1, 105), (1, 107), (1, 109), (1, 111), (1, 113), (1, 115), (1, 117), (1, 119)] (by decide +kernel) (by decide +kernel)
set_option maxRecDepth 20000 in
theorem inlX7 : ∀ w ∈ wsX70, w ∈ pBig := pbs [(2, 141), (2, 143), (2, 145), (2, 147), (2, 149), (2, 151), (2, 153), (2, 155), (2, 157), (2, 159), (2, 161), (2, 163), (2, 165), (2, 167), (2, 169), (2, 171), (2, 173), (2, 175), (2, 177)] (by decide +kernel) (by decide +kernel)
set_option maxRecDepth 20000 in
theorem inlX8 : ∀ w ∈ wsX80, w ∈ pBig := pbs [(5, 189), (5, 191), (5, 193), (5, 195), (5, 197), (5, 199), (5, 201), (5, 203), (5, 205), (5, 207), (5, 209), (5, 211), (5, 213), (5, 215), (5, 217), (5, 219), (5, 221), (5, 223), (5, 225), (5, 227), (5, 229), (5, 231), (5, 233), (5, 235), (5, 237), (5, 239), (6, 1), (6, 3), (6, 5), (6, 7), (6, 9), (6, 11), (6, 13), (6, 15), (6, 17), (6, 19), (6, 21), (6, 23), (6, 25), (6, 27), (6, 29), (6, 31), (6, 33), (6, 35), (6, 37), (6, 39), (6, 41), (6, 43), (6, 45), (6, 47), (6, 49), (6, 51), (6, 53), (6, 55), (6, 57), (6, 59), (6, 61), (6, 63), (6, 65), (6, 67), (6, 69), (6, 71), (6, 73), (6, 75), (6, 77), (6, 79), (6, 81), (6, 83), (6, 85), (6, 87), (6, 89), (6, 91), (6, 93), (6, 95), (6, 97), (6, 99), (6, 101), (6, 103), (6, 105), (6, 107), (6, 109), (6, 111), (6, 113), (6, 115), (6, 117), (6, 119), (6, 121), (6, 123), (6, 125), (6, 127), (6, 129), (6, 131), (6, 133), (6, 135), (6, 137), (6, 139), (6, 141), (6, 143), (6, 145), (6, 147), (6, 149), (6, 151), (6, 153), (6, 155), (6, 157), (6, 159), (6, 161)] (by decide +kernel) (by decide +kernel)
