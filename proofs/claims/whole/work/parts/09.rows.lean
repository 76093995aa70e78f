/-! int[n][k] -/
def nm (M : pm) (N : Nat) : pm := (fun b j => if mN M + 3 ≤ b ∧ b ≤ mN M + 3 + N then 0 else M.1 b j, fun b j => if mN M + 3 ≤ b ∧ b ≤ mN M + 3 + N then 0 else M.2.1 b j, fun b j => if b = mN M + 3 then (if j < N then mN M + 4 + j else 0) else if mN M + 3 ≤ b ∧ b ≤ mN M + 3 + N then 0 else M.2.2.1 b j, mN M + (1 + N), mL M)
theorem mN_nm (M : pm) (N : Nat) : mN (nm M N) = mN M + (1 + N) := rfl
theorem mL_nm (M : pm) (N : Nat) : mL (nm M N) = mL M := rfl
theorem nm_row {M : pm} {N b : Nat} (h : ¬ (mN M + 3 ≤ b ∧ b ≤ mN M + 3 + N)) : mI (nm M N) b = mI M b ∧ mJ (nm M N) b = mJ M b ∧ mR (nm M N) b = mR M b := by
  refine ⟨?_, ?_, ?_⟩
  · funext j; show (if mN M + 3 ≤ b ∧ b ≤ mN M + 3 + N then _ else _) = _; rw [if_neg h]; rfl
  · funext j; show (if mN M + 3 ≤ b ∧ b ≤ mN M + 3 + N then _ else _) = _; rw [if_neg h]; rfl
  · funext j; show (if b = mN M + 3 then _ else if mN M + 3 ≤ b ∧ b ≤ mN M + 3 + N then _ else _) = _; rw [if_neg (by omega), if_neg h]; rfl
theorem nm_outer (g : pgh) (M : pm) (N : Nat) (h : lay (mN M + 3) = (15, N)) : ent g (nm M N) (mN M + 3) = .inl (gY g 15, N, .inr (.inr (.inr (.inr (fun i => if i < N then some (gO g + mN M + 1 + i) else none))))) := by
  unfold ent
  rw [h, if_neg (show ¬ (15 : Nat) < 9 by decide), if_neg (show ¬ (15 : Nat) = 12 by decide), if_neg (show ¬ (15 : Nat) < 14 by decide)]
  congr 7
  funext i
  show ro g (if mN M + 3 = mN M + 3 then (if i < N then mN M + 4 + i else 0) else _) = _
  rw [if_pos rfl]
  by_cases hi : i < N
  · rw [if_pos hi, if_pos hi]
    unfold ro
    rw [if_neg (by omega), ad_ge g (by omega)]
    congr 1
    omega
  · rw [if_neg hi, if_neg hi]
    rfl
theorem nm_inner (g : pgh) (M : pm) {N K i : Nat} (hi : i < N) (h : lay (mN M + 3 + 1 + i) = (11, K)) : ent g (nm M N) (mN M + 3 + 1 + i) = .inl (gY g 11, K, .inl (fun _ => 0)) := by
  unfold ent
  rw [h, if_neg (show ¬ (11 : Nat) < 9 by decide), if_neg (show ¬ (11 : Nat) = 12 by decide), if_pos (show (11 : Nat) < 14 by decide)]
  congr 4
  funext j
  show (if mN M + 3 ≤ mN M + 3 + 1 + i ∧ mN M + 3 + 1 + i ≤ mN M + 3 + N then _ else _) = _
  rw [if_pos (by omega)]
theorem vr_outer (c : ClassId) (N h0 : Nat) : ∀ i : Nat, Jvm.Free.Multi.outerC c N h0 i = arrV c N (fun j => va_rf (if j < i then some (h0 + 1 + j) else none))
  | 0 => by
    show ({ cls := c, slots := Array.replicate N .null, vm := .none } : Cell) = _
    rw [arrV_new]
    refine congrArg (arrV c N) (funext fun j => ?_)
    simp [va_rf]
  | i + 1 => by
    show (Jvm.Free.Multi.outerC c N h0 i).setSlot i (.ref (h0 + 1 + i)) = _
    rw [vr_outer c N h0 i, arrV_store]
    refine congrArg (arrV c N) (funext fun j => ?_)
    by_cases e : j = i
    · subst e
      simp [updV, va_rf]
    · by_cases h : j < i
      · simp [updV, e, h, Nat.lt_succ_of_lt h]
      · simp [updV, e, h, show ¬ j < i + 1 by omega]
theorem PW.mna {m : pmt} {d lim pc : Nat} {ls st : List Value} {M : pm} {Q : Option Value → pm → Prop} {idx a : Nat} {n k : Int32} {N K : Nat} (hd : decode m.2.1 pc = .ok (.multianewarray idx 2, 4)) (hc : Cond.classLink m.1.cls idx ("[" ++ (FieldType.array .int).toString) ∈ pBig) (hw : Cond.arrayClass .int ∈ pBig) (hn : ¬ n < 0) (hk : ¬ k < 0) (hN : n.toNatClampNeg = N) (hK : k.toNatClampNeg = K) (hb1 : N * 4 ≤ 536870912) (hb2 : K * 4 ≤ 536870912) (hb3 : K ≤ 536870912) (hlay : lay a = (15, N)) (hrow : ∀ i, i < N → lay (a + 1 + i) = (11, K)) (hz : lz (mN M + (1 + N)) = lz (mN M) + (N + N * K)) (hl : mN M + (1 + N) ≤ lim) (ha : mN M + 3 = a)
    (kk : PW m d lim (pc + 4) ls (.ref a :: st) (nm M N) Q) : PW m d lim pc ls (.int k :: .int n :: st) M Q := by
  subst ha
  subst hN
  subst hK
  intro p l e R s mi args below meth c CE SE Qf g H locs cells slots lsA C E
  have hts := C.2.2.2.2.2.2.1
  have hf := pw_fits C E hl
  rw [hz, Nat.add_sub_cancel_left] at hf
  have hKk := C.2.2.2.2.2.2.2.2.1.1
  have hcy : s.vm.findClass (FieldType.array .int).toString = some (gY g 11) := (hKk.2 2 _ rfl).2
  have hcA0 : s.vm.findClass ("[" ++ (FieldType.array .int).toString) = some (gY g 15) := (hKk.2 6 _ rfl).2
  intro T hT Xs
  obtain ⟨vm₁, cA, comp, -, fA, fC, hO, -, X', step⟩ := Xs.multianewarray2F C.1 C.2.2.2.2.1 (hts _ hc) (va_AOA.use C.2.2.2.2.2.2.2.2.1.2.2.2.1) (hts _ hw) (g := F0 mi pc lsA ((.int k :: .int n :: st).map (cv g))) rfl (by rw [C.2.1]; exact hd) rfl hn hk hb1 hb2 hb3 rfl rfl hf.1 hf.2
  have ec : some (gY g 11) = some comp := hcy.symm.trans fC
  have eA : some (gY g 15) = some cA := hcA0.symm.trans fA
  cases ec
  cases eA
  generalize hF : Jvm.Free.Multi.fill (T.setVm vm₁) (gY g 15) (gY g 11) n.toNatClampNeg k.toNatClampNeg (defaultValue .int) n.toNatClampNeg = F at X' step
  have hTh : (T.setVm vm₁).heap = H := hT
  obtain ⟨f1, f2, -, -⟩ := Jvm.Free.Multi.fill_facts (T.setVm vm₁) (gY g 15) (gY g 11) n.toNatClampNeg k.toNatClampNeg (defaultValue .int) n.toNatClampNeg
  rw [hF, hTh] at f1 f2
  have hold : ∀ x : Nat, x < H.size → F.heap[x]? = H[x]? := fun x hx => by
    have := Jvm.Free.Multi.fill_old (T.setVm vm₁) (gY g 15) (gY g 11) n.toNatClampNeg k.toNatClampNeg (defaultValue .int) (a := x) (by rw [hTh]; exact hx) n.toNatClampNeg
    rw [hF, hTh] at this
    exact this
  have hin : ∀ cc : ClassId, Jvm.Free.Multi.innerC cc k.toNatClampNeg (defaultValue .int) = vp_cell cc (k.toNatClampNeg, .inl (fun _ => 0)) := fun cc => by
    rw [vp_cell_i]
    exact arrV_new cc _ _
  have hrw : ∀ j : Nat, j < n.toNatClampNeg → F.heap[H.size + 1 + j]? = some (vp_cell (gY g 11) (k.toNatClampNeg, .inl (fun _ => 0))) := fun j hj => by
    have := Jvm.Free.Multi.fill_inner (T.setVm vm₁) (gY g 15) (gY g 11) n.toNatClampNeg k.toNatClampNeg (defaultValue .int) n.toNatClampNeg j hj
    rw [hF, hTh, hin] at this
    exact this
  rw [vr_outer] at f2
  obtain ⟨⟨a1, a2, a3⟩, E2, E3, E4, E5, E6⟩ := E
  have hres := kk p l e R s mi args below meth c CE SE Qf g F.heap locs (cells + (1 + n.toNatClampNeg)) (slots + (n.toNatClampNeg + n.toNatClampNeg * k.toNatClampNeg)) lsA C
    ⟨⟨by rw [mN_nm]; omega, by rw [mN_nm]; have := lz_le hl; omega, by rw [mN_nm]; exact hl⟩, by rw [f1, E2, mN_nm]; omega, fun i q hq => by
      obtain ⟨hi, rfl⟩ := mw_of hq
      rw [mN_nm] at hi
      by_cases h0 : i < mN M
      · obtain ⟨r1, r2, r3⟩ := nm_row (M := M) (N := n.toNatClampNeg) (b := i + 3) (by omega)
        rw [ent_row r1 r2 r3]
        exact (E3 i _ (mw_get h0)).kept (hold _ (by show gO g + i < _; omega))
      · by_cases h1 : i = mN M
        · subst h1
          rw [nm_outer g M _ hlay, ← E2]
          show F.heap[H.size]? = some (vp_cell _ _)
          rw [f2, vp_cell_q]
        · obtain ⟨j, rfl⟩ : ∃ j, i = mN M + 1 + j := ⟨i - (mN M + 1), by omega⟩
          rw [show mN M + 1 + j + 3 = mN M + 3 + 1 + j by omega, nm_inner g M (show j < n.toNatClampNeg by omega) (hrow j (by omega)), show gO g + (mN M + 1 + j) = H.size + 1 + j by omega]
          exact hrw j (by omega),
      by rw [mL_nm, (nm_row (M := M) (N := n.toNatClampNeg) (b := 1) (by omega)).1]; exact E4, ⟨by rw [f1]; have := E5.1; omega, fun x h1 h2 => (hold x (Nat.lt_of_lt_of_le h1 E5.1)).trans (E5.2.1 x h1 h2), E5.2.2⟩, E6⟩
  rw [show (Value.ref (mN M + 3) :: st).map (cv g) = Value.ref H.size :: st.map (cv g) by rw [E2, ← ad_c]; rfl] at hres
  have X2 := X'
  obtain ⟨t, b1, b2⟩ := hres F rfl (stand_widen X' (by omega) (by omega))
  refine ⟨t, step t ?_, b2⟩
  rw [hT]
  exact b1
