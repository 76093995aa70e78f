/-! methods, walked by program: w_ what must hold before, c_ its proof -/
def w_X8_shared_74  (x1 : Int64) (x3 : Int32) (x4 : Int64) (x6 : Int32) (t0 : Int64) (M : pm) (r : Int64 → Int32 → Int64 → Int32 → pm → Prop)  (Q : Int32 → pm → Prop) : Prop := ((x3 = (-1) → (r x1 x6 t0 (x6 + 1) M)) ∧ (¬ x3 = (-1) → ((x4 < t0 → (r x1 x6 t0 (x6 + 1) M)) ∧ (¬ x4 < t0 → (r x1 x3 x4 (x6 + 1) M)))))
set_option maxRecDepth 4000 in
theorem c_X8_shared_74 {r : Int64 → Int32 → Int64 → Int32 → pm → Prop}  {Q : Int32 → pm → Prop} (hr : ∀ (x1 : Int64) (x3 : Int32) (x4 : Int64) (x6 : Int32) (M : pm), pG M → r x1 x3 x4 x6 M → PW mX8_shared 8 350 21 [.ref 277, .long x1, .null, .int x3, .long x4, .null, .int x6, .null, .null, .null, .null] [] M (qI Q)) : ∀ (x1 : Int64) (x3 : Int32) (x4 : Int64) (x6 : Int32) (t0 : Int64) (M : pm), pG M → w_X8_shared_74 x1 x3 x4 x6 t0 M r Q → PW mX8_shared 8 350 74 [.ref 277, .long x1, .null, .int x3, .long x4, .null, .int x6, .null, .null, .null, .null] [.long t0] M (qI Q) := by
  intro x1 x3 x4 x6 t0 M hM h
  unfold w_X8_shared_74 at h
  refine PW.lstore (pc := 74) dX8_shared_74 (ls' := [.ref 277, .long x1, .null, .int x3, .long x4, .null, .int x6, .null, .null, .long t0, .null]) (by decide) rfl rfl ?_
  refine PW.iload_n (pc := 76) dX8_shared_76 rfl ?_
  refine PW.iconst (pc := 77) dX8_shared_77 (v := (-1)) (by decide) ?_
  refine PW.icmp_eq (pc := 78) dX8_shared_78 (t := 92) (by decide) (fun hc => ?_) (fun hc => ?_)
  · have h := h.1 hc
    refine PW.iload (pc := 92) dX8_shared_92 rfl ?_
    refine PW.istore_n (pc := 94) dX8_shared_94 (ls' := [.ref 277, .long x1, .null, .int x6, .long x4, .null, .int x6, .null, .null, .long t0, .null]) (by decide) rfl rfl ?_
    refine PW.lload (pc := 95) dX8_shared_95 rfl ?_
    refine PW.lstore (pc := 97) dX8_shared_97 (ls' := [.ref 277, .long x1, .null, .int x6, .long t0, .null, .int x6, .null, .null, .long t0, .null]) (by decide) rfl rfl ?_
    refine PW.iinc (pc := 99) dX8_shared_99 (v := (x6 + 1)) (ls' := [.ref 277, .long x1, .null, .int x6, .long t0, .null, .int (x6 + 1), .null, .null, .long t0, .null]) rfl rfl (by decide) rfl rfl ?_
    refine PW.goto (pc := 102) dX8_shared_102 (t := 21) (by decide) ?_
    exact PW.drop (hr _ _ _ _ _ hM h) ⟨rfl, rfl, rfl, rfl, rfl, trivial⟩
  · have h := h.2 hc
    refine PW.lload (pc := 81) dX8_shared_81 rfl ?_
    refine PW.lload (pc := 83) dX8_shared_83 rfl ?_
    refine PW.lcmp (pc := 85) dX8_shared_85 ?_
    refine PW.if_gt (pc := 86) dX8_shared_86 (t := 92) (by decide) (fun hc => ?_) (fun hc => ?_)
    · have h := h.1 ((lg_cmp_gt _ _).mp hc)
      refine PW.iload (pc := 92) dX8_shared_92 rfl ?_
      refine PW.istore_n (pc := 94) dX8_shared_94 (ls' := [.ref 277, .long x1, .null, .int x6, .long x4, .null, .int x6, .null, .null, .long t0, .null]) (by decide) rfl rfl ?_
      refine PW.lload (pc := 95) dX8_shared_95 rfl ?_
      refine PW.lstore (pc := 97) dX8_shared_97 (ls' := [.ref 277, .long x1, .null, .int x6, .long t0, .null, .int x6, .null, .null, .long t0, .null]) (by decide) rfl rfl ?_
      refine PW.iinc (pc := 99) dX8_shared_99 (v := (x6 + 1)) (ls' := [.ref 277, .long x1, .null, .int x6, .long t0, .null, .int (x6 + 1), .null, .null, .long t0, .null]) rfl rfl (by decide) rfl rfl ?_
      refine PW.goto (pc := 102) dX8_shared_102 (t := 21) (by decide) ?_
      exact PW.drop (hr _ _ _ _ _ hM h) ⟨rfl, rfl, rfl, rfl, rfl, trivial⟩
    · have h := h.2 (fun q => hc ((lg_cmp_gt _ _).mpr q))
      refine PW.goto (pc := 89) dX8_shared_89 (t := 99) (by decide) ?_
      refine PW.iinc (pc := 99) dX8_shared_99 (v := (x6 + 1)) (ls' := [.ref 277, .long x1, .null, .int x3, .long x4, .null, .int (x6 + 1), .null, .null, .long t0, .null]) rfl rfl (by decide) rfl rfl ?_
      refine PW.goto (pc := 102) dX8_shared_102 (t := 21) (by decide) ?_
      exact PW.drop (hr _ _ _ _ _ hM h) ⟨rfl, rfl, rfl, rfl, rfl, trivial⟩
def w_X8_shared_21 : Nat → Int64 → Int32 → Int64 → Int32 → pm → (Int32 → pm → Prop) → Prop
  | 0, _, _, _, _, _, _ => False
  | n + 1, x1, x3, x4, x6, M, Q => w_X8_askerMany  M (fun y8 M7 => (((1 <<< (y8 &&& 31)) ≤ x6 → (Q x3 M7)) ∧ (¬ (1 <<< (y8 &&& 31)) ≤ x6 → (((x6 &&& ((mI M7 277 54) ^^^ (-1))) = 0 → (w_X8_worthBy x6 M7 (fun y11 M10 => (((x1 - y11) ≤ y11 → (w_X8_shared_74 x1 x3 x4 x6 (x1 - y11) M10 (fun x1 x3 x4 x6 M => w_X8_shared_21 n x1 x3 x4 x6 M  Q) Q)) ∧ (¬ (x1 - y11) ≤ y11 → (w_X8_shared_74 x1 x3 x4 x6 y11 M10 (fun x1 x3 x4 x6 M => w_X8_shared_21 n x1 x3 x4 x6 M  Q) Q)))))) ∧ (¬ (x6 &&& ((mI M7 277 54) ^^^ (-1))) = 0 → (w_X8_shared_21 n x1 x3 x4 (x6 + 1) M7 Q))))))
set_option maxRecDepth 4000 in
theorem c_X8_shared_21  {Q : Int32 → pm → Prop}  : ∀ (n : Nat) (x1 : Int64) (x3 : Int32) (x4 : Int64) (x6 : Int32) (M : pm), pG M → w_X8_shared_21 n x1 x3 x4 x6 M  Q → PW mX8_shared 8 350 21 [.ref 277, .long x1, .null, .int x3, .long x4, .null, .int x6, .null, .null, .null, .null] [] M (qI Q) := by
  intro n
  induction n with
  | zero => intro x1 x3 x4 x6 M hM h; exact h.elim
  | succ n ih =>
    intro x1 x3 x4 x6 M hM h
    unfold w_X8_shared_21 at h
    refine PW.iload (pc := 21) dX8_shared_21 rfl ?_
    refine PW.iconst (pc := 23) dX8_shared_23 (v := 1) (by decide) ?_
    refine PW.aload_n (pc := 24) dX8_shared_24 rfl ?_
    refine PW.inv (m' := mX8_askerMany) (pc := 25) dX8_shared_25 lm_X8_395 me_X8_askerMany mi_X8_askerMany (ob hM.1 s_277 (by decide)) rfl (As := []) (st := [.int 1, .int x6]) rfl (Nat.le_of_ble_eq_true rfl) (Nat.le_of_ble_eq_true rfl) (Nat.le_of_eq hM.1) (Nat.le_refl _) (PW.deep (by decide) (c_X8_askerMany  hM h)) ?_
    rintro _ M7 ⟨hM9, y8, rfl, h⟩
    refine PW.ishl (pc := 28) dX8_shared_28 ?_
    refine PW.icmp_ge (pc := 29) dX8_shared_29 (t := 105) (by decide) (fun hc => ?_) (fun hc => ?_)
    · have h := h.1 hc
      refine PW.iload_n (pc := 105) dX8_shared_105 rfl ?_
      exact PW.retI (pc := 106) dX8_shared_106 hM9.1 rfl rfl ⟨hM9, _, rfl, h⟩
    · have h := h.2 hc
      refine PW.iload (pc := 32) dX8_shared_32 rfl ?_
      refine PW.aload_n (pc := 34) dX8_shared_34 rfl ?_
      refine PW.getI (pc := 35) dX8_shared_35 lf_X8_433 (ob hM9.1 s_277 (by decide)) fx_8_54 ?_
      refine PW.iconst (pc := 38) dX8_shared_38 (v := (-1)) (by decide) ?_
      refine PW.ixor (pc := 39) dX8_shared_39 ?_
      refine PW.iand (pc := 40) dX8_shared_40 ?_
      refine PW.if_eq (pc := 41) dX8_shared_41 (t := 47) (by decide) (fun hc => ?_) (fun hc => ?_)
      · have h := h.1 hc
        refine PW.aload_n (pc := 47) dX8_shared_47 rfl ?_
        refine PW.iload (pc := 48) dX8_shared_48 rfl ?_
        refine PW.inv (m' := mX8_worthBy) (pc := 50) dX8_shared_50 lm_X8_458 me_X8_worthBy mi_X8_worthBy (ob hM9.1 s_277 (by decide)) rfl (As := [.int x6]) (st := []) rfl (Nat.le_of_ble_eq_true rfl) (Nat.le_of_ble_eq_true rfl) (Nat.le_of_eq hM9.1) (Nat.le_refl _) (PW.deep (by decide) (c_X8_worthBy  hM9 h)) ?_
        rintro _ M10 ⟨hM12, y11, rfl, h⟩
        refine PW.lstore (pc := 53) dX8_shared_53 (ls' := [.ref 277, .long x1, .null, .int x3, .long x4, .null, .int x6, .long y11, .null, .null, .null]) (by decide) rfl rfl ?_
        refine PW.lload (pc := 55) dX8_shared_55 rfl ?_
        refine PW.lload_n (pc := 57) dX8_shared_57 rfl ?_
        refine PW.lload (pc := 58) dX8_shared_58 rfl ?_
        refine PW.lsub (pc := 60) dX8_shared_60 ?_
        refine PW.lcmp (pc := 61) dX8_shared_61 ?_
        refine PW.if_ge (pc := 62) dX8_shared_62 (t := 70) (by decide) (fun hc => ?_) (fun hc => ?_)
        · have h := h.1 ((lg_cmp_ge _ _).mp hc)
          refine PW.lload_n (pc := 70) dX8_shared_70 rfl ?_
          refine PW.lload (pc := 71) dX8_shared_71 rfl ?_
          refine PW.lsub (pc := 73) dX8_shared_73 ?_
          exact PW.drop (c_X8_shared_74 ih _ _ _ _ _ _ hM12 h) ⟨rfl, rfl, rfl, rfl, rfl, trivial⟩
        · have h := h.2 (fun q => hc ((lg_cmp_ge _ _).mpr q))
          refine PW.lload (pc := 65) dX8_shared_65 rfl ?_
          refine PW.goto (pc := 67) dX8_shared_67 (t := 74) (by decide) ?_
          exact PW.drop (c_X8_shared_74 ih _ _ _ _ _ _ hM12 h) ⟨rfl, rfl, rfl, rfl, rfl, trivial⟩
      · have h := h.2 hc
        refine PW.goto (pc := 44) dX8_shared_44 (t := 99) (by decide) ?_
        refine PW.iinc (pc := 99) dX8_shared_99 (v := (x6 + 1)) (ls' := [.ref 277, .long x1, .null, .int x3, .long x4, .null, .int (x6 + 1), .null, .null, .null, .null]) rfl rfl (by decide) rfl rfl ?_
        refine PW.goto (pc := 102) dX8_shared_102 (t := 21) (by decide) ?_
        exact PW.drop (ih _ _ _ _ _ hM9 h) ⟨rfl, rfl, rfl, rfl, rfl, trivial⟩
def w_X8_shared  (M : pm) (Q : Int32 → pm → Prop) : Prop := w_X8_laysCan  M (fun M1 => w_X8_worthBy (mI M1 277 54) M1 (fun y5 M4 => ∃ n13, w_X8_shared_21 n13 y5 (-1) (0 : Int64) 0 M4  Q))
set_option maxRecDepth 4000 in
theorem c_X8_shared  {M : pm} {Q : Int32 → pm → Prop}  (hM : pG M) (h : w_X8_shared  M Q) : PW mX8_shared 8 350 0 (pfr mX8_shared.2.2.1 [.ref 277]) [] M (qI Q) := by
  unfold w_X8_shared at h
  show PW mX8_shared 8 350 0 [.ref 277, .null, .null, .null, .null, .null, .null, .null, .null, .null, .null] [] M (qI Q)
  refine PW.aload_n (pc := 0) dX8_shared_0 rfl ?_
  refine PW.inv (m' := mX8_laysCan) (pc := 1) dX8_shared_1 lm_X8_446 me_X8_laysCan mi_X8_laysCan (ob hM.1 s_277 (by decide)) rfl (As := []) (st := []) rfl (Nat.le_of_ble_eq_true rfl) (Nat.le_of_ble_eq_true rfl) (Nat.le_of_eq hM.1) (Nat.le_refl _) (PW.deep (by decide) (c_X8_laysCan  hM h)) ?_
  rintro _ M1 ⟨hM3, rfl, h⟩
  refine PW.aload_n (pc := 4) dX8_shared_4 rfl ?_
  refine PW.aload_n (pc := 5) dX8_shared_5 rfl ?_
  refine PW.getI (pc := 6) dX8_shared_6 lf_X8_433 (ob hM3.1 s_277 (by decide)) fx_8_54 ?_
  refine PW.inv (m' := mX8_worthBy) (pc := 9) dX8_shared_9 lm_X8_458 me_X8_worthBy mi_X8_worthBy (ob hM3.1 s_277 (by decide)) rfl (As := [.int (mI M1 277 54)]) (st := []) rfl (Nat.le_of_ble_eq_true rfl) (Nat.le_of_ble_eq_true rfl) (Nat.le_of_eq hM3.1) (Nat.le_refl _) (PW.deep (by decide) (c_X8_worthBy  hM3 h)) ?_
  rintro _ M4 ⟨hM6, y5, rfl, h⟩
  refine PW.lstore_n (pc := 12) dX8_shared_12 (ls' := [.ref 277, .long y5, .null, .null, .null, .null, .null, .null, .null, .null, .null]) (by decide) rfl rfl ?_
  refine PW.iconst (pc := 13) dX8_shared_13 (v := (-1)) (by decide) ?_
  refine PW.istore_n (pc := 14) dX8_shared_14 (ls' := [.ref 277, .long y5, .null, .int (-1), .null, .null, .null, .null, .null, .null, .null]) (by decide) rfl rfl ?_
  refine PW.lconst (pc := 15) dX8_shared_15 (v := 0) (by decide) ?_
  refine PW.lstore (pc := 16) dX8_shared_16 (ls' := [.ref 277, .long y5, .null, .int (-1), .long (0 : Int64), .null, .null, .null, .null, .null, .null]) (by decide) rfl rfl ?_
  refine PW.iconst (pc := 18) dX8_shared_18 (v := 0) (by decide) ?_
  refine PW.istore (pc := 19) dX8_shared_19 (ls' := [.ref 277, .long y5, .null, .int (-1), .long (0 : Int64), .null, .int 0, .null, .null, .null, .null]) (by decide) rfl rfl ?_
  obtain ⟨n13, h⟩ := h
  refine PW.drop (c_X8_shared_21  n13 _ _ _ _ _ hM6 h) ⟨rfl, rfl, rfl, rfl, rfl, trivial⟩
def w_X8_isNextRow_7 : Nat → Int32 → pm → (Int32 → pm → Prop) → (Int32 → pm → Prop) → Prop
  | 0, _, _, _, _ => False
  | n + 1, x1, M, k37, Q => ((x1 < 0 → (k37 x1 M)) ∧ (¬ x1 < 0 → (vp_in x1 5 ∧ (w_X8_askerMany  M (fun y6 M5 => ((¬ (mI M 320 x1.toNatClampNeg) = y6 → (k37 x1 M5)) ∧ ((mI M 320 x1.toNatClampNeg) = y6 → (vp_in x1 5 ∧ (w_X8_isNextRow_7 n (x1 + (-1)) (sI M5 320 x1.toNatClampNeg 0) k37 Q)))))))))
set_option maxRecDepth 4000 in
theorem c_X8_isNextRow_7 {k37 : Int32 → pm → Prop} {Q : Int32 → pm → Prop} (hk37 : ∀ (x1 : Int32) (M : pm), pG M → k37 x1 M → PW mX8_isNextRow 2 350 37 [.ref 277, .int x1] [] M (qZ Q)) : ∀ (n : Nat) (x1 : Int32) (M : pm), pG M → w_X8_isNextRow_7 n x1 M k37 Q → PW mX8_isNextRow 2 350 7 [.ref 277, .int x1] [] M (qZ Q) := by
  intro n
  induction n with
  | zero => intro x1 M hM h; exact h.elim
  | succ n ih =>
    intro x1 M hM h
    unfold w_X8_isNextRow_7 at h
    refine PW.iload_n (pc := 7) dX8_isNextRow_7 rfl ?_
    refine PW.if_lt (pc := 8) dX8_isNextRow_8 (t := 37) (by decide) (fun hc => ?_) (fun hc => ?_)
    · have h := h.1 hc
      exact PW.drop (hk37 _ _ hM h) ⟨rfl, rfl, trivial⟩
    · have h := h.2 hc
      refine PW.aload_n (pc := 11) dX8_isNextRow_11 rfl ?_
      refine PW.getR (pc := 12) dX8_isNextRow_12 (r := 320) lf_X8_142 (ob hM.1 s_277 (by decide)) fx_8_60 (oR_8_60 hM s_277) (pS_ne s_320) ?_
      refine PW.iload_n (pc := 15) dX8_isNextRow_15 rfl ?_
      obtain ⟨v4, h⟩ := h
      refine PW.iald (pc := 16) dX8_isNextRow_16 (ar hM.1 s_320) (vpl n_320 v4) ?_
      refine PW.aload_n (pc := 17) dX8_isNextRow_17 rfl ?_
      refine PW.inv (m' := mX8_askerMany) (pc := 18) dX8_isNextRow_18 lm_X8_395 me_X8_askerMany mi_X8_askerMany (ob hM.1 s_277 (by decide)) rfl (As := []) (st := [.int (mI M 320 x1.toNatClampNeg)]) rfl (Nat.le_of_ble_eq_true rfl) (Nat.le_of_ble_eq_true rfl) (Nat.le_of_eq hM.1) (Nat.le_refl _) (PW.deep (by decide) (c_X8_askerMany  hM h)) ?_
      rintro _ M5 ⟨hM7, y6, rfl, h⟩
      refine PW.icmp_ne (pc := 21) dX8_isNextRow_21 (t := 37) (by decide) (fun hc => ?_) (fun hc => ?_)
      · have h := h.1 hc
        exact PW.drop (hk37 _ _ hM7 h) ⟨rfl, rfl, trivial⟩
      · have h := h.2 hc
        refine PW.aload_n (pc := 24) dX8_isNextRow_24 rfl ?_
        refine PW.getR (pc := 25) dX8_isNextRow_25 (r := 320) lf_X8_142 (ob hM7.1 s_277 (by decide)) fx_8_60 (oR_8_60 hM7 s_277) (pS_ne s_320) ?_
        refine PW.iload_n (pc := 28) dX8_isNextRow_28 rfl ?_
        refine PW.iconst (pc := 29) dX8_isNextRow_29 (v := 0) (by decide) ?_
        obtain ⟨v8, h⟩ := h
        refine PW.iast (pc := 30) dX8_isNextRow_30 (ar hM7.1 s_320) (vpl n_320 v8) ?_
        refine PW.iinc (pc := 31) dX8_isNextRow_31 (v := (x1 + (-1))) (ls' := [.ref 277, .int (x1 + (-1))]) rfl rfl (by decide) rfl rfl ?_
        refine PW.goto (pc := 34) dX8_isNextRow_34 (t := 7) (by decide) ?_
        exact PW.drop (ih _ _ (hM7.same rfl rfl) h) ⟨rfl, rfl, trivial⟩
def w_X8_isNextRow_37  (x1 : Int32) (M : pm)  (Q : Int32 → pm → Prop) : Prop := ((0 ≤ x1 → (vp_in x1 5 ∧ (vp_in x1 5 ∧ (Q 1 (sI M 320 x1.toNatClampNeg ((mI M 320 x1.toNatClampNeg) + 1)))))) ∧ (¬ 0 ≤ x1 → (Q 0 M)))
set_option maxRecDepth 4000 in
theorem c_X8_isNextRow_37  {Q : Int32 → pm → Prop}  : ∀ (x1 : Int32) (M : pm), pG M → w_X8_isNextRow_37 x1 M  Q → PW mX8_isNextRow 2 350 37 [.ref 277, .int x1] [] M (qZ Q) := by
  intro x1 M hM h
  unfold w_X8_isNextRow_37 at h
  refine PW.iload_n (pc := 37) dX8_isNextRow_37 rfl ?_
  refine PW.if_ge (pc := 38) dX8_isNextRow_38 (t := 43) (by decide) (fun hc => ?_) (fun hc => ?_)
  · have h := h.1 hc
    refine PW.aload_n (pc := 43) dX8_isNextRow_43 rfl ?_
    refine PW.getR (pc := 44) dX8_isNextRow_44 (r := 320) lf_X8_142 (ob hM.1 s_277 (by decide)) fx_8_60 (oR_8_60 hM s_277) (pS_ne s_320) ?_
    refine PW.iload_n (pc := 47) dX8_isNextRow_47 rfl ?_
    refine PW.dup2IR (pc := 48) dX8_isNextRow_48 ?_
    obtain ⟨v11, h⟩ := h
    refine PW.iald (pc := 49) dX8_isNextRow_49 (ar hM.1 s_320) (vpl n_320 v11) ?_
    refine PW.iconst (pc := 50) dX8_isNextRow_50 (v := 1) (by decide) ?_
    refine PW.iadd (pc := 51) dX8_isNextRow_51 ?_
    obtain ⟨v12, h⟩ := h
    refine PW.iast (pc := 52) dX8_isNextRow_52 (ar hM.1 s_320) (vpl n_320 v12) ?_
    refine PW.iconst (pc := 53) dX8_isNextRow_53 (v := 1) (by decide) ?_
    exact PW.retI (pc := 54) dX8_isNextRow_54 hM.1 rfl (bz_n bz1) ⟨(hM.same rfl rfl), _, rfl, bz1, h⟩
  · have h := h.2 hc
    refine PW.iconst (pc := 41) dX8_isNextRow_41 (v := 0) (by decide) ?_
    exact PW.retI (pc := 42) dX8_isNextRow_42 hM.1 rfl (bz_n bz0) ⟨hM, _, rfl, bz0, h⟩
def w_X8_isNextRow  (M : pm) (Q : Int32 → pm → Prop) : Prop := w_X8_earMany  M (fun y2 M1 => ∃ n9, w_X8_isNextRow_7 n9 (y2 - 1) M1 (fun x1 M10 => w_X8_isNextRow_37 x1 M10  Q) Q)
set_option maxRecDepth 4000 in
theorem c_X8_isNextRow  {M : pm} {Q : Int32 → pm → Prop}  (hM : pG M) (h : w_X8_isNextRow  M Q) : PW mX8_isNextRow 2 350 0 (pfr mX8_isNextRow.2.2.1 [.ref 277]) [] M (qZ Q) := by
  unfold w_X8_isNextRow at h
  show PW mX8_isNextRow 2 350 0 [.ref 277, .null] [] M (qZ Q)
  refine PW.aload_n (pc := 0) dX8_isNextRow_0 rfl ?_
  refine PW.inv (m' := mX8_earMany) (pc := 1) dX8_isNextRow_1 lm_X8_533 me_X8_earMany mi_X8_earMany (ob hM.1 s_277 (by decide)) rfl (As := []) (st := []) rfl (Nat.le_of_ble_eq_true rfl) (Nat.le_of_ble_eq_true rfl) (Nat.le_of_eq hM.1) (Nat.le_refl _) (PW.deep (by decide) (c_X8_earMany  hM h)) ?_
  rintro _ M1 ⟨hM3, y2, rfl, h⟩
  refine PW.iconst (pc := 4) dX8_isNextRow_4 (v := 1) (by decide) ?_
  refine PW.isub (pc := 5) dX8_isNextRow_5 ?_
  refine PW.istore_n (pc := 6) dX8_isNextRow_6 (ls' := [.ref 277, .int (y2 - 1)]) (by decide) rfl rfl ?_
  obtain ⟨n9, h⟩ := h
  refine PW.drop (c_X8_isNextRow_7 ?_ n9 _ _ hM3 h) ⟨rfl, rfl, trivial⟩
  · intro x1 M10 hM h
    exact PW.drop (c_X8_isNextRow_37  _ _ hM h) ⟨rfl, rfl, trivial⟩
def w_X8_pleasedBy_6 : Nat → Int32 → Int32 → Int32 → pm → (Int32 → pm → Prop) → Prop
  | 0, _, _, _, _, _ => False
  | n + 1, x1, x2, x3, M, Q => w_X8_earMany  M (fun y2 M1 => ((y2 ≤ x3 → (Q x1 M1)) ∧ (¬ y2 ≤ x3 → (vp_in x3 5 ∧ ((¬ (mI M1 320 x3.toNatClampNeg) = 0 → (vp_in x3 5 ∧ (((((mI M1 277 56) >>> (((mI M1 320 x3.toNatClampNeg) - 1) &&& 31)) &&& 1) = 0 → (Q (-1) M1)) ∧ (¬ (((mI M1 277 56) >>> (((mI M1 320 x3.toNatClampNeg) - 1) &&& 31)) &&& 1) = 0 → ((¬ ((x2 >>> (((mI M1 320 x3.toNatClampNeg) - 1) &&& 31)) &&& 1) = 1 → (w_X8_styleOf ((mI M1 320 x3.toNatClampNeg) - 1) M1 (fun y7 M6 => vp_in (5 + x3) 10 ∧ ((0 ≤ (y7 - (mI M6 313 ((5 + x3).toNatClampNeg))) → (w_X8_pleasedBy_6 n (x1 + (9 - (y7 - (mI M6 313 ((5 + x3).toNatClampNeg))))) (x2 ||| (1 <<< (((mI M1 320 x3.toNatClampNeg) - 1) &&& 31))) (x3 + 1) M6 Q)) ∧ (¬ 0 ≤ (y7 - (mI M6 313 ((5 + x3).toNatClampNeg))) → (w_X8_pleasedBy_6 n (x1 + (9 - (-(y7 - (mI M6 313 ((5 + x3).toNatClampNeg)))))) (x2 ||| (1 <<< (((mI M1 320 x3.toNatClampNeg) - 1) &&& 31))) (x3 + 1) M6 Q)))))) ∧ (((x2 >>> (((mI M1 320 x3.toNatClampNeg) - 1) &&& 31)) &&& 1) = 1 → (Q (-1) M1))))))) ∧ ((mI M1 320 x3.toNatClampNeg) = 0 → (w_X8_pleasedBy_6 n x1 x2 (x3 + 1) M1 Q)))))))
set_option maxRecDepth 4000 in
theorem c_X8_pleasedBy_6  {Q : Int32 → pm → Prop}  : ∀ (n : Nat) (x1 : Int32) (x2 : Int32) (x3 : Int32) (M : pm), pG M → w_X8_pleasedBy_6 n x1 x2 x3 M  Q → PW mX8_pleasedBy 3 350 6 [.ref 277, .int x1, .int x2, .int x3, .null, .null] [] M (qI Q) := by
  intro n
  induction n with
  | zero => intro x1 x2 x3 M hM h; exact h.elim
  | succ n ih =>
    intro x1 x2 x3 M hM h
    unfold w_X8_pleasedBy_6 at h
    refine PW.iload_n (pc := 6) dX8_pleasedBy_6 rfl ?_
    refine PW.aload_n (pc := 7) dX8_pleasedBy_7 rfl ?_
    refine PW.inv (m' := mX8_earMany) (pc := 8) dX8_pleasedBy_8 lm_X8_533 me_X8_earMany mi_X8_earMany (ob hM.1 s_277 (by decide)) rfl (As := []) (st := [.int x3]) rfl (Nat.le_of_ble_eq_true rfl) (Nat.le_of_ble_eq_true rfl) (Nat.le_of_eq hM.1) (Nat.le_refl _) (PW.deep (by decide) (c_X8_earMany  hM h)) ?_
    rintro _ M1 ⟨hM3, y2, rfl, h⟩
    refine PW.icmp_ge (pc := 11) dX8_pleasedBy_11 (t := 109) (by decide) (fun hc => ?_) (fun hc => ?_)
    · have h := h.1 hc
      refine PW.iload_n (pc := 109) dX8_pleasedBy_109 rfl ?_
      exact PW.retI (pc := 110) dX8_pleasedBy_110 hM3.1 rfl rfl ⟨hM3, _, rfl, h⟩
    · have h := h.2 hc
      refine PW.aload_n (pc := 14) dX8_pleasedBy_14 rfl ?_
      refine PW.getR (pc := 15) dX8_pleasedBy_15 (r := 320) lf_X8_142 (ob hM3.1 s_277 (by decide)) fx_8_60 (oR_8_60 hM3 s_277) (pS_ne s_320) ?_
      refine PW.iload_n (pc := 18) dX8_pleasedBy_18 rfl ?_
      obtain ⟨v4, h⟩ := h
      refine PW.iald (pc := 19) dX8_pleasedBy_19 (ar hM3.1 s_320) (vpl n_320 v4) ?_
      refine PW.if_ne (pc := 20) dX8_pleasedBy_20 (t := 26) (by decide) (fun hc => ?_) (fun hc => ?_)
      · have h := h.1 hc
        refine PW.aload_n (pc := 26) dX8_pleasedBy_26 rfl ?_
        refine PW.getR (pc := 27) dX8_pleasedBy_27 (r := 320) lf_X8_142 (ob hM3.1 s_277 (by decide)) fx_8_60 (oR_8_60 hM3 s_277) (pS_ne s_320) ?_
        refine PW.iload_n (pc := 30) dX8_pleasedBy_30 rfl ?_
        obtain ⟨v5, h⟩ := h
        refine PW.iald (pc := 31) dX8_pleasedBy_31 (ar hM3.1 s_320) (vpl n_320 v5) ?_
        refine PW.iconst (pc := 32) dX8_pleasedBy_32 (v := 1) (by decide) ?_
        refine PW.isub (pc := 33) dX8_pleasedBy_33 ?_
        refine PW.istore (pc := 34) dX8_pleasedBy_34 (ls' := [.ref 277, .int x1, .int x2, .int x3, .int ((mI M1 320 x3.toNatClampNeg) - 1), .null]) (by decide) rfl rfl ?_
        refine PW.aload_n (pc := 36) dX8_pleasedBy_36 rfl ?_
        refine PW.getI (pc := 37) dX8_pleasedBy_37 lf_X8_449 (ob hM3.1 s_277 (by decide)) fx_8_56 ?_
        refine PW.iload (pc := 40) dX8_pleasedBy_40 rfl ?_
        refine PW.ishr (pc := 42) dX8_pleasedBy_42 ?_
        refine PW.iconst (pc := 43) dX8_pleasedBy_43 (v := 1) (by decide) ?_
        refine PW.iand (pc := 44) dX8_pleasedBy_44 ?_
        refine PW.if_eq (pc := 45) dX8_pleasedBy_45 (t := 58) (by decide) (fun hc => ?_) (fun hc => ?_)
        · have h := h.1 hc
          refine PW.iconst (pc := 58) dX8_pleasedBy_58 (v := (-1)) (by decide) ?_
          exact PW.retI (pc := 59) dX8_pleasedBy_59 hM3.1 rfl rfl ⟨hM3, _, rfl, h⟩
        · have h := h.2 hc
          refine PW.iload_n (pc := 48) dX8_pleasedBy_48 rfl ?_
          refine PW.iload (pc := 49) dX8_pleasedBy_49 rfl ?_
          refine PW.ishr (pc := 51) dX8_pleasedBy_51 ?_
          refine PW.iconst (pc := 52) dX8_pleasedBy_52 (v := 1) (by decide) ?_
          refine PW.iand (pc := 53) dX8_pleasedBy_53 ?_
          refine PW.iconst (pc := 54) dX8_pleasedBy_54 (v := 1) (by decide) ?_
          refine PW.icmp_ne (pc := 55) dX8_pleasedBy_55 (t := 60) (by decide) (fun hc => ?_) (fun hc => ?_)
          · have h := h.1 hc
            refine PW.iload_n (pc := 60) dX8_pleasedBy_60 rfl ?_
            refine PW.iconst (pc := 61) dX8_pleasedBy_61 (v := 1) (by decide) ?_
            refine PW.iload (pc := 62) dX8_pleasedBy_62 rfl ?_
            refine PW.ishl (pc := 64) dX8_pleasedBy_64 ?_
            refine PW.ior (pc := 65) dX8_pleasedBy_65 ?_
            refine PW.istore_n (pc := 66) dX8_pleasedBy_66 (ls' := [.ref 277, .int x1, .int (x2 ||| (1 <<< (((mI M1 320 x3.toNatClampNeg) - 1) &&& 31))), .int x3, .int ((mI M1 320 x3.toNatClampNeg) - 1), .null]) (by decide) rfl rfl ?_
            refine PW.aload_n (pc := 67) dX8_pleasedBy_67 rfl ?_
            refine PW.iload (pc := 68) dX8_pleasedBy_68 rfl ?_
            refine PW.inv (m' := mX8_styleOf) (pc := 70) dX8_pleasedBy_70 lm_X8_536 me_X8_styleOf mi_X8_styleOf (ob hM3.1 s_277 (by decide)) rfl (As := [.int ((mI M1 320 x3.toNatClampNeg) - 1)]) (st := []) rfl (Nat.le_of_ble_eq_true rfl) (Nat.le_of_ble_eq_true rfl) (Nat.le_of_eq hM3.1) (Nat.le_refl _) (PW.deep (by decide) (c_X8_styleOf  hM3 h)) ?_
            rintro _ M6 ⟨hM8, y7, rfl, h⟩
            refine PW.aload_n (pc := 73) dX8_pleasedBy_73 rfl ?_
            refine PW.getR (pc := 74) dX8_pleasedBy_74 (r := 313) lf_X8_121 (ob hM8.1 s_277 (by decide)) fx_8_44 (oR_8_44 hM8 s_277) (pS_ne s_313) ?_
            refine PW.iconst (pc := 77) dX8_pleasedBy_77 (v := 5) (by decide) ?_
            refine PW.iload_n (pc := 78) dX8_pleasedBy_78 rfl ?_
            refine PW.iadd (pc := 79) dX8_pleasedBy_79 ?_
            obtain ⟨v9, h⟩ := h
            refine PW.iald (pc := 80) dX8_pleasedBy_80 (ar hM8.1 s_313) (vpl n_313 v9) ?_
            refine PW.isub (pc := 81) dX8_pleasedBy_81 ?_
            refine PW.istore (pc := 82) dX8_pleasedBy_82 (ls' := [.ref 277, .int x1, .int (x2 ||| (1 <<< (((mI M1 320 x3.toNatClampNeg) - 1) &&& 31))), .int x3, .int ((mI M1 320 x3.toNatClampNeg) - 1), .int (y7 - (mI M6 313 ((5 + x3).toNatClampNeg)))]) (by decide) rfl rfl ?_
            refine PW.iload_n (pc := 84) dX8_pleasedBy_84 rfl ?_
            refine PW.bipush (pc := 85) dX8_pleasedBy_85 (v := 9) (by decide) ?_
            refine PW.iload (pc := 87) dX8_pleasedBy_87 rfl ?_
            refine PW.if_ge (pc := 89) dX8_pleasedBy_89 (t := 98) (by decide) (fun hc => ?_) (fun hc => ?_)
            · have h := h.1 hc
              refine PW.iload (pc := 98) dX8_pleasedBy_98 rfl ?_
              refine PW.isub (pc := 100) dX8_pleasedBy_100 ?_
              refine PW.iadd (pc := 101) dX8_pleasedBy_101 ?_
              refine PW.istore_n (pc := 102) dX8_pleasedBy_102 (ls' := [.ref 277, .int (x1 + (9 - (y7 - (mI M6 313 ((5 + x3).toNatClampNeg))))), .int (x2 ||| (1 <<< (((mI M1 320 x3.toNatClampNeg) - 1) &&& 31))), .int x3, .int ((mI M1 320 x3.toNatClampNeg) - 1), .int (y7 - (mI M6 313 ((5 + x3).toNatClampNeg)))]) (by decide) rfl rfl ?_
              refine PW.iinc (pc := 103) dX8_pleasedBy_103 (v := (x3 + 1)) (ls' := [.ref 277, .int (x1 + (9 - (y7 - (mI M6 313 ((5 + x3).toNatClampNeg))))), .int (x2 ||| (1 <<< (((mI M1 320 x3.toNatClampNeg) - 1) &&& 31))), .int (x3 + 1), .int ((mI M1 320 x3.toNatClampNeg) - 1), .int (y7 - (mI M6 313 ((5 + x3).toNatClampNeg)))]) rfl rfl (by decide) rfl rfl ?_
              refine PW.goto (pc := 106) dX8_pleasedBy_106 (t := 6) (by decide) ?_
              exact PW.drop (ih _ _ _ _ hM8 h) ⟨rfl, rfl, rfl, rfl, trivial⟩
            · have h := h.2 hc
              refine PW.iload (pc := 92) dX8_pleasedBy_92 rfl ?_
              refine PW.ineg (pc := 94) dX8_pleasedBy_94 ?_
              refine PW.goto (pc := 95) dX8_pleasedBy_95 (t := 100) (by decide) ?_
              refine PW.isub (pc := 100) dX8_pleasedBy_100 ?_
              refine PW.iadd (pc := 101) dX8_pleasedBy_101 ?_
              refine PW.istore_n (pc := 102) dX8_pleasedBy_102 (ls' := [.ref 277, .int (x1 + (9 - (-(y7 - (mI M6 313 ((5 + x3).toNatClampNeg)))))), .int (x2 ||| (1 <<< (((mI M1 320 x3.toNatClampNeg) - 1) &&& 31))), .int x3, .int ((mI M1 320 x3.toNatClampNeg) - 1), .int (y7 - (mI M6 313 ((5 + x3).toNatClampNeg)))]) (by decide) rfl rfl ?_
              refine PW.iinc (pc := 103) dX8_pleasedBy_103 (v := (x3 + 1)) (ls' := [.ref 277, .int (x1 + (9 - (-(y7 - (mI M6 313 ((5 + x3).toNatClampNeg)))))), .int (x2 ||| (1 <<< (((mI M1 320 x3.toNatClampNeg) - 1) &&& 31))), .int (x3 + 1), .int ((mI M1 320 x3.toNatClampNeg) - 1), .int (y7 - (mI M6 313 ((5 + x3).toNatClampNeg)))]) rfl rfl (by decide) rfl rfl ?_
              refine PW.goto (pc := 106) dX8_pleasedBy_106 (t := 6) (by decide) ?_
              exact PW.drop (ih _ _ _ _ hM8 h) ⟨rfl, rfl, rfl, rfl, trivial⟩
          · have h := h.2 hc
            refine PW.iconst (pc := 58) dX8_pleasedBy_58 (v := (-1)) (by decide) ?_
            exact PW.retI (pc := 59) dX8_pleasedBy_59 hM3.1 rfl rfl ⟨hM3, _, rfl, h⟩
      · have h := h.2 hc
        refine PW.goto (pc := 23) dX8_pleasedBy_23 (t := 103) (by decide) ?_
        refine PW.iinc (pc := 103) dX8_pleasedBy_103 (v := (x3 + 1)) (ls' := [.ref 277, .int x1, .int x2, .int (x3 + 1), .null, .null]) rfl rfl (by decide) rfl rfl ?_
        refine PW.goto (pc := 106) dX8_pleasedBy_106 (t := 6) (by decide) ?_
        exact PW.drop (ih _ _ _ _ hM3 h) ⟨rfl, rfl, rfl, rfl, trivial⟩
def w_X8_pleasedBy  (M : pm) (Q : Int32 → pm → Prop) : Prop := ∃ n10, w_X8_pleasedBy_6 n10 0 0 0 M  Q
set_option maxRecDepth 4000 in
theorem c_X8_pleasedBy  {M : pm} {Q : Int32 → pm → Prop}  (hM : pG M) (h : w_X8_pleasedBy  M Q) : PW mX8_pleasedBy 3 350 0 (pfr mX8_pleasedBy.2.2.1 [.ref 277]) [] M (qI Q) := by
  unfold w_X8_pleasedBy at h
  show PW mX8_pleasedBy 3 350 0 [.ref 277, .null, .null, .null, .null, .null] [] M (qI Q)
  refine PW.iconst (pc := 0) dX8_pleasedBy_0 (v := 0) (by decide) ?_
  refine PW.istore_n (pc := 1) dX8_pleasedBy_1 (ls' := [.ref 277, .int 0, .null, .null, .null, .null]) (by decide) rfl rfl ?_
  refine PW.iconst (pc := 2) dX8_pleasedBy_2 (v := 0) (by decide) ?_
  refine PW.istore_n (pc := 3) dX8_pleasedBy_3 (ls' := [.ref 277, .int 0, .int 0, .null, .null, .null]) (by decide) rfl rfl ?_
  refine PW.iconst (pc := 4) dX8_pleasedBy_4 (v := 0) (by decide) ?_
  refine PW.istore_n (pc := 5) dX8_pleasedBy_5 (ls' := [.ref 277, .int 0, .int 0, .int 0, .null, .null]) (by decide) rfl rfl ?_
  obtain ⟨n10, h⟩ := h
  refine PW.drop (c_X8_pleasedBy_6  n10 _ _ _ _ hM h) ⟨rfl, rfl, rfl, rfl, trivial⟩
def w_X8_laysRow_6 : Nat → Int32 → pm → (pm → Prop) → (pm → Prop) → Prop
  | 0, _, _, _, _ => False
  | n + 1, x1, M, k31, Q => ((5 ≤ x1 → (k31  M)) ∧ (¬ 5 ≤ x1 → (vp_in x1 5 ∧ (vp_in x1 5 ∧ (w_X8_laysRow_6 n (x1 + 1) (sI (sI M 320 x1.toNatClampNeg 0) 321 x1.toNatClampNeg 0) k31 Q)))))
set_option maxRecDepth 4000 in
theorem c_X8_laysRow_6 {k31 : pm → Prop} {Q : pm → Prop} (hk31 : ∀  (M : pm), pG M → k31  M → PW mX8_laysRow 9 350 31 [.ref 277, .null, .null] [] M (qV Q)) : ∀ (n : Nat) (x1 : Int32) (M : pm), pG M → w_X8_laysRow_6 n x1 M k31 Q → PW mX8_laysRow 9 350 6 [.ref 277, .int x1, .null] [] M (qV Q) := by
  intro n
  induction n with
  | zero => intro x1 M hM h; exact h.elim
  | succ n ih =>
    intro x1 M hM h
    unfold w_X8_laysRow_6 at h
    refine PW.iload_n (pc := 6) dX8_laysRow_6 rfl ?_
    refine PW.iconst (pc := 7) dX8_laysRow_7 (v := 5) (by decide) ?_
    refine PW.icmp_ge (pc := 8) dX8_laysRow_8 (t := 31) (by decide) (fun hc => ?_) (fun hc => ?_)
    · have h := h.1 hc
      exact PW.drop (hk31 _ hM h) ⟨rfl, trivial⟩
    · have h := h.2 hc
      refine PW.aload_n (pc := 11) dX8_laysRow_11 rfl ?_
      refine PW.getR (pc := 12) dX8_laysRow_12 (r := 320) lf_X8_142 (ob hM.1 s_277 (by decide)) fx_8_60 (oR_8_60 hM s_277) (pS_ne s_320) ?_
      refine PW.iload_n (pc := 15) dX8_laysRow_15 rfl ?_
      refine PW.iconst (pc := 16) dX8_laysRow_16 (v := 0) (by decide) ?_
      obtain ⟨v4, h⟩ := h
      refine PW.iast (pc := 17) dX8_laysRow_17 (ar hM.1 s_320) (vpl n_320 v4) ?_
      refine PW.aload_n (pc := 18) dX8_laysRow_18 rfl ?_
      refine PW.getR (pc := 19) dX8_laysRow_19 (r := 321) lf_X8_145 (ob hM.1 s_277 (by decide)) fx_8_61 (oR_8_61 (hM.same rfl rfl) s_277) (pS_ne s_321) ?_
      refine PW.iload_n (pc := 22) dX8_laysRow_22 rfl ?_
      refine PW.iconst (pc := 23) dX8_laysRow_23 (v := 0) (by decide) ?_
      obtain ⟨v5, h⟩ := h
      refine PW.iast (pc := 24) dX8_laysRow_24 (ar hM.1 s_321) (vpl n_321 v5) ?_
      refine PW.iinc (pc := 25) dX8_laysRow_25 (v := (x1 + 1)) (ls' := [.ref 277, .int (x1 + 1), .null]) rfl rfl (by decide) rfl rfl ?_
      refine PW.goto (pc := 28) dX8_laysRow_28 (t := 6) (by decide) ?_
      exact PW.drop (ih _ _ (hM.same rfl rfl) h) ⟨rfl, rfl, trivial⟩
def w_X8_laysRow_66 : Nat → Int32 → pm → (pm → Prop) → (pm → Prop) → Prop
  | 0, _, _, _, _ => False
  | n + 1, x2, M, k89, Q => ((5 ≤ x2 → (k89  M)) ∧ (¬ 5 ≤ x2 → (vp_in x2 5 ∧ (vp_in x2 5 ∧ (w_X8_laysRow_66 n (x2 + 1) (sI M 321 x2.toNatClampNeg (mI M 320 x2.toNatClampNeg)) k89 Q)))))
set_option maxRecDepth 4000 in
theorem c_X8_laysRow_66 {k89 : pm → Prop} {Q : pm → Prop} (hk89 : ∀  (M : pm), pG M → k89  M → PW mX8_laysRow 9 350 89 [.ref 277, .null, .null] [] M (qV Q)) : ∀ (n : Nat) (x2 : Int32) (M : pm), pG M → w_X8_laysRow_66 n x2 M k89 Q → PW mX8_laysRow 9 350 66 [.ref 277, .null, .int x2] [] M (qV Q) := by
  intro n
  induction n with
  | zero => intro x2 M hM h; exact h.elim
  | succ n ih =>
    intro x2 M hM h
    unfold w_X8_laysRow_66 at h
    refine PW.iload_n (pc := 66) dX8_laysRow_66 rfl ?_
    refine PW.iconst (pc := 67) dX8_laysRow_67 (v := 5) (by decide) ?_
    refine PW.icmp_ge (pc := 68) dX8_laysRow_68 (t := 89) (by decide) (fun hc => ?_) (fun hc => ?_)
    · have h := h.1 hc
      exact PW.drop (hk89 _ hM h) ⟨rfl, trivial⟩
    · have h := h.2 hc
      refine PW.aload_n (pc := 71) dX8_laysRow_71 rfl ?_
      refine PW.getR (pc := 72) dX8_laysRow_72 (r := 321) lf_X8_145 (ob hM.1 s_277 (by decide)) fx_8_61 (oR_8_61 hM s_277) (pS_ne s_321) ?_
      refine PW.iload_n (pc := 75) dX8_laysRow_75 rfl ?_
      refine PW.aload_n (pc := 76) dX8_laysRow_76 rfl ?_
      refine PW.getR (pc := 77) dX8_laysRow_77 (r := 320) lf_X8_142 (ob hM.1 s_277 (by decide)) fx_8_60 (oR_8_60 hM s_277) (pS_ne s_320) ?_
      refine PW.iload_n (pc := 80) dX8_laysRow_80 rfl ?_
      obtain ⟨v15, h⟩ := h
      refine PW.iald (pc := 81) dX8_laysRow_81 (ar hM.1 s_320) (vpl n_320 v15) ?_
      obtain ⟨v16, h⟩ := h
      refine PW.iast (pc := 82) dX8_laysRow_82 (ar hM.1 s_321) (vpl n_321 v16) ?_
      refine PW.iinc (pc := 83) dX8_laysRow_83 (v := (x2 + 1)) (ls' := [.ref 277, .null, .int (x2 + 1)]) rfl rfl (by decide) rfl rfl ?_
      refine PW.goto (pc := 86) dX8_laysRow_86 (t := 66) (by decide) ?_
      exact PW.drop (ih _ _ (hM.same rfl rfl) h) ⟨rfl, rfl, trivial⟩
def w_X8_laysRow_36 : Nat → pm → (pm → Prop) → Prop
  | 0, _, _ => False
  | n + 1, M, Q => w_X8_isNextRow  M (fun y9 M8 => ((y9 = 0 → (Q M8)) ∧ (¬ y9 = 0 → (w_X8_pleasedBy  M8 (fun y13 M12 => (((mI M12 277 62) < y13 → (∃ n17, w_X8_laysRow_66 n17 0 (sI M12 277 62 y13) (fun M18 => w_X8_laysRow_36 n M18 Q) Q)) ∧ (¬ (mI M12 277 62) < y13 → (w_X8_laysRow_36 n M12 Q))))))))
set_option maxRecDepth 4000 in
theorem c_X8_laysRow_36  {Q : pm → Prop}  : ∀ (n : Nat)  (M : pm), pG M → w_X8_laysRow_36 n  M  Q → PW mX8_laysRow 9 350 36 [.ref 277, .null, .null] [] M (qV Q) := by
  intro n
  induction n with
  | zero => intro M hM h; exact h.elim
  | succ n ih =>
    intro M hM h
    unfold w_X8_laysRow_36 at h
    refine PW.aload_n (pc := 36) dX8_laysRow_36 rfl ?_
    refine PW.inv (m' := mX8_isNextRow) (pc := 37) dX8_laysRow_37 lm_X8_542 me_X8_isNextRow mi_X8_isNextRow (ob hM.1 s_277 (by decide)) rfl (As := []) (st := []) rfl (Nat.le_of_ble_eq_true rfl) (Nat.le_of_ble_eq_true rfl) (Nat.le_of_eq hM.1) (Nat.le_refl _) (PW.deep (by decide) (c_X8_isNextRow  hM h)) ?_
    rintro _ M8 ⟨hM10, y9, rfl, z11, h⟩
    refine PW.if_eq (pc := 40) dX8_laysRow_40 (t := 92) (by decide) (fun hc => ?_) (fun hc => ?_)
    · have h := h.1 hc
      exact PW.ret0 (pc := 92) dX8_laysRow_92 hM10.1 rfl ⟨hM10, rfl, h⟩
    · have h := h.2 hc
      refine PW.aload_n (pc := 43) dX8_laysRow_43 rfl ?_
      refine PW.inv (m' := mX8_pleasedBy) (pc := 44) dX8_laysRow_44 lm_X8_545 me_X8_pleasedBy mi_X8_pleasedBy (ob hM10.1 s_277 (by decide)) rfl (As := []) (st := []) rfl (Nat.le_of_ble_eq_true rfl) (Nat.le_of_ble_eq_true rfl) (Nat.le_of_eq hM10.1) (Nat.le_refl _) (PW.deep (by decide) (c_X8_pleasedBy  hM10 h)) ?_
      rintro _ M12 ⟨hM14, y13, rfl, h⟩
      refine PW.istore_n (pc := 47) dX8_laysRow_47 (ls' := [.ref 277, .int y13, .null]) (by decide) rfl rfl ?_
      refine PW.iload_n (pc := 48) dX8_laysRow_48 rfl ?_
      refine PW.aload_n (pc := 49) dX8_laysRow_49 rfl ?_
      refine PW.getI (pc := 50) dX8_laysRow_50 lf_X8_539 (ob hM14.1 s_277 (by decide)) fx_8_62 ?_
      refine PW.icmp_gt (pc := 53) dX8_laysRow_53 (t := 59) (by decide) (fun hc => ?_) (fun hc => ?_)
      · have h := h.1 hc
        refine PW.aload_n (pc := 59) dX8_laysRow_59 rfl ?_
        refine PW.iload_n (pc := 60) dX8_laysRow_60 rfl ?_
        refine PW.putI (pc := 61) dX8_laysRow_61 lf_X8_539 (ob hM14.1 s_277 (by decide)) fx_8_62 fw_8_62 rfl rfl ?_
        refine PW.iconst (pc := 64) dX8_laysRow_64 (v := 0) (by decide) ?_
        refine PW.istore_n (pc := 65) dX8_laysRow_65 (ls' := [.ref 277, .int y13, .int 0]) (by decide) rfl rfl ?_
        obtain ⟨n17, h⟩ := h
        refine PW.drop (c_X8_laysRow_66 ?_ n17 _ _ (hM14.same rfl rfl) h) ⟨rfl, rfl, trivial⟩
        · intro M18 hM h
          refine PW.goto (pc := 89) dX8_laysRow_89 (t := 36) (by decide) ?_
          exact PW.drop (ih _ hM h) ⟨rfl, trivial⟩
      · have h := h.2 hc
        refine PW.goto (pc := 56) dX8_laysRow_56 (t := 36) (by decide) ?_
        exact PW.drop (ih _ hM14 h) ⟨rfl, trivial⟩
def w_X8_laysRow  (M : pm) (Q : pm → Prop) : Prop := w_X8_laysBest  M (fun M1 => ∃ n6, w_X8_laysRow_6 n6 0 M1 (fun M7 => ∃ n19, w_X8_laysRow_36 n19  (sI M7 277 62 0)  Q) Q)
set_option maxRecDepth 4000 in
theorem c_X8_laysRow  {M : pm} {Q : pm → Prop}  (hM : pG M) (h : w_X8_laysRow  M Q) : PW mX8_laysRow 9 350 0 (pfr mX8_laysRow.2.2.1 [.ref 277]) [] M (qV Q) := by
  unfold w_X8_laysRow at h
  show PW mX8_laysRow 9 350 0 [.ref 277, .null, .null] [] M (qV Q)
  refine PW.aload_n (pc := 0) dX8_laysRow_0 rfl ?_
  refine PW.inv (m' := mX8_laysBest) (pc := 1) dX8_laysRow_1 lm_X8_479 me_X8_laysBest mi_X8_laysBest (ob hM.1 s_277 (by decide)) rfl (As := []) (st := []) rfl (Nat.le_of_ble_eq_true rfl) (Nat.le_of_ble_eq_true rfl) (Nat.le_of_eq hM.1) (Nat.le_refl _) (PW.deep (by decide) (c_X8_laysBest  hM h)) ?_
  rintro _ M1 ⟨hM3, rfl, h⟩
  refine PW.iconst (pc := 4) dX8_laysRow_4 (v := 0) (by decide) ?_
  refine PW.istore_n (pc := 5) dX8_laysRow_5 (ls' := [.ref 277, .int 0, .null]) (by decide) rfl rfl ?_
  obtain ⟨n6, h⟩ := h
  refine PW.drop (c_X8_laysRow_6 ?_ n6 _ _ hM3 h) ⟨rfl, rfl, trivial⟩
  · intro M7 hM h
    refine PW.aload_n (pc := 31) dX8_laysRow_31 rfl ?_
    refine PW.iconst (pc := 32) dX8_laysRow_32 (v := 0) (by decide) ?_
    refine PW.putI (pc := 33) dX8_laysRow_33 lf_X8_539 (ob hM.1 s_277 (by decide)) fx_8_62 fw_8_62 rfl rfl ?_
    obtain ⟨n19, h⟩ := h
    refine PW.drop (c_X8_laysRow_36  n19 _ (hM.same rfl rfl) h) ⟨rfl, trivial⟩
def w_X8_heard_23  (x1 : Int32) (M : pm)  (Q : Int32 → pm → Prop) : Prop := w_X8_laysRow  M (fun M1 => ((¬ x1 = (-1) → (vp_in x1 5 ∧ (Q ((mI M1 321 x1.toNatClampNeg) - 1) M1))) ∧ (x1 = (-1) → (Q (mI M1 277 62) M1))))
set_option maxRecDepth 4000 in
theorem c_X8_heard_23  {Q : Int32 → pm → Prop}  : ∀ (x1 : Int32) (M : pm), pG M → w_X8_heard_23 x1 M  Q → PW mX8_heard 10 350 23 [.ref 277, .int x1] [] M (qI Q) := by
  intro x1 M hM h
  unfold w_X8_heard_23 at h
  refine PW.aload_n (pc := 23) dX8_heard_23 rfl ?_
  refine PW.inv (m' := mX8_laysRow) (pc := 24) dX8_heard_24 lm_X8_548 me_X8_laysRow mi_X8_laysRow (ob hM.1 s_277 (by decide)) rfl (As := []) (st := []) rfl (Nat.le_of_ble_eq_true rfl) (Nat.le_of_ble_eq_true rfl) (Nat.le_of_eq hM.1) (Nat.le_refl _) (PW.deep (by decide) (c_X8_laysRow  hM h)) ?_
  rintro _ M1 ⟨hM3, rfl, h⟩
  refine PW.iload_n (pc := 27) dX8_heard_27 rfl ?_
  refine PW.iconst (pc := 28) dX8_heard_28 (v := (-1)) (by decide) ?_
  refine PW.icmp_ne (pc := 29) dX8_heard_29 (t := 39) (by decide) (fun hc => ?_) (fun hc => ?_)
  · have h := h.1 hc
    refine PW.aload_n (pc := 39) dX8_heard_39 rfl ?_
    refine PW.getR (pc := 40) dX8_heard_40 (r := 321) lf_X8_145 (ob hM3.1 s_277 (by decide)) fx_8_61 (oR_8_61 hM3 s_277) (pS_ne s_321) ?_
    refine PW.iload_n (pc := 43) dX8_heard_43 rfl ?_
    obtain ⟨v4, h⟩ := h
    refine PW.iald (pc := 44) dX8_heard_44 (ar hM3.1 s_321) (vpl n_321 v4) ?_
    refine PW.iconst (pc := 45) dX8_heard_45 (v := 1) (by decide) ?_
    refine PW.isub (pc := 46) dX8_heard_46 ?_
    exact PW.retI (pc := 47) dX8_heard_47 hM3.1 rfl rfl ⟨hM3, _, rfl, h⟩
  · have h := h.2 hc
    refine PW.aload_n (pc := 32) dX8_heard_32 rfl ?_
    refine PW.getI (pc := 33) dX8_heard_33 lf_X8_539 (ob hM3.1 s_277 (by decide)) fx_8_62 ?_
    refine PW.goto (pc := 36) dX8_heard_36 (t := 47) (by decide) ?_
    exact PW.retI (pc := 47) dX8_heard_47 hM3.1 rfl rfl ⟨hM3, _, rfl, h⟩
def w_X8_heard (x1 : Int32) (M : pm) (Q : Int32 → pm → Prop) : Prop := ((x1 = (-1) → (w_X8_heard_23 x1 M  Q)) ∧ (¬ x1 = (-1) → (w_X8_earMany  M (fun y6 M5 => w_X8_isIn (Int32.toInt64 x1) (0 : Int64) (Int32.toInt64 (y6 - 1)) M5 (fun y9 M8 => ((¬ y9 = 0 → (w_X8_heard_23 x1 M8  Q)) ∧ (y9 = 0 → (Q (-1) M8))))))))
set_option maxRecDepth 4000 in
theorem c_X8_heard {x1 : Int32} {M : pm} {Q : Int32 → pm → Prop}  (hM : pG M) (h : w_X8_heard x1 M Q) : PW mX8_heard 10 350 0 (pfr mX8_heard.2.2.1 [.ref 277, .int x1]) [] M (qI Q) := by
  unfold w_X8_heard at h
  show PW mX8_heard 10 350 0 [.ref 277, .int x1] [] M (qI Q)
  refine PW.iload_n (pc := 0) dX8_heard_0 rfl ?_
  refine PW.iconst (pc := 1) dX8_heard_1 (v := (-1)) (by decide) ?_
  refine PW.icmp_eq (pc := 2) dX8_heard_2 (t := 23) (by decide) (fun hc => ?_) (fun hc => ?_)
  · have h := h.1 hc
    exact PW.drop (c_X8_heard_23  _ _ hM h) ⟨rfl, rfl, trivial⟩
  · have h := h.2 hc
    refine PW.iload_n (pc := 5) dX8_heard_5 rfl ?_
    refine PW.i2l (pc := 6) dX8_heard_6 ?_
    refine PW.lconst (pc := 7) dX8_heard_7 (v := 0) (by decide) ?_
    refine PW.aload_n (pc := 8) dX8_heard_8 rfl ?_
    refine PW.inv (m' := mX8_earMany) (pc := 9) dX8_heard_9 lm_X8_533 me_X8_earMany mi_X8_earMany (ob hM.1 s_277 (by decide)) rfl (As := []) (st := [.long (0 : Int64), .long (Int32.toInt64 x1)]) rfl (Nat.le_of_ble_eq_true rfl) (Nat.le_of_ble_eq_true rfl) (Nat.le_of_eq hM.1) (Nat.le_refl _) (PW.deep (by decide) (c_X8_earMany  hM h)) ?_
    rintro _ M5 ⟨hM7, y6, rfl, h⟩
    refine PW.iconst (pc := 12) dX8_heard_12 (v := 1) (by decide) ?_
    refine PW.isub (pc := 13) dX8_heard_13 ?_
    refine PW.i2l (pc := 14) dX8_heard_14 ?_
    refine PW.ins (m' := mX8_isIn) (pc := 15) dX8_heard_15 lm_X8_289 me_X8_isIn ms_X8_isIn (As := [.long (Int32.toInt64 x1), .long (0 : Int64), .long (Int32.toInt64 (y6 - 1))]) (st := []) rfl (Nat.le_of_ble_eq_true rfl) (Nat.le_of_ble_eq_true rfl) (Nat.le_of_eq hM7.1) (Nat.le_refl _) (PW.deep (by decide) (c_X8_isIn  hM7 h)) ?_
    rintro _ M8 ⟨hM10, y9, rfl, z11, h⟩
    refine PW.if_ne (pc := 18) dX8_heard_18 (t := 23) (by decide) (fun hc => ?_) (fun hc => ?_)
    · have h := h.1 hc
      exact PW.drop (c_X8_heard_23  _ _ hM10 h) ⟨rfl, rfl, trivial⟩
    · have h := h.2 hc
      refine PW.iconst (pc := 21) dX8_heard_21 (v := (-1)) (by decide) ?_
      exact PW.retI (pc := 22) dX8_heard_22 hM10.1 rfl rfl ⟨hM10, _, rfl, h⟩
def w_X8_refuses (x1 : Int32) (M : pm) (Q : Int32 → pm → Prop) : Prop := vp_in x1 6 ∧ (vp_in x1 6 ∧ (Q (-1) (sI M 279 x1.toNatClampNeg ((mI M 279 x1.toNatClampNeg) + 1))))
set_option maxRecDepth 4000 in
theorem c_X8_refuses {x1 : Int32} {M : pm} {Q : Int32 → pm → Prop}  (hM : pG M) (h : w_X8_refuses x1 M Q) : PW mX8_refuses 1 350 0 (pfr mX8_refuses.2.2.1 [.ref 277, .int x1]) [] M (qI Q) := by
  unfold w_X8_refuses at h
  show PW mX8_refuses 1 350 0 [.ref 277, .int x1] [] M (qI Q)
  refine PW.aload_n (pc := 0) dX8_refuses_0 rfl ?_
  refine PW.getR (pc := 1) dX8_refuses_1 (r := 279) lf_X8_17 (ob hM.1 s_277 (by decide)) fx_8_9 (oR_8_9 hM s_277) (pS_ne s_279) ?_
  refine PW.iload_n (pc := 4) dX8_refuses_4 rfl ?_
  refine PW.dup2IR (pc := 5) dX8_refuses_5 ?_
  obtain ⟨v1, h⟩ := h
  refine PW.iald (pc := 6) dX8_refuses_6 (ar hM.1 s_279) (vpl n_279 v1) ?_
  refine PW.iconst (pc := 7) dX8_refuses_7 (v := 1) (by decide) ?_
  refine PW.iadd (pc := 8) dX8_refuses_8 ?_
  obtain ⟨v2, h⟩ := h
  refine PW.iast (pc := 9) dX8_refuses_9 (ar hM.1 s_279) (vpl n_279 v2) ?_
  refine PW.iconst (pc := 10) dX8_refuses_10 (v := (-1)) (by decide) ?_
  exact PW.retI (pc := 11) dX8_refuses_11 hM.1 rfl rfl ⟨(hM.same rfl rfl), _, rfl, h⟩
def w_X8_see_43 : Nat → Int32 → Int32 → Int32 → pm → (Int32 → Int32 → pm → Prop) → (Int32 → pm → Prop) → Prop
  | 0, _, _, _, _, _, _ => False
  | n + 1, x1, x2, x3, M, k102, Q => ((x1 ≤ x3 → (k102 x1 x2 M)) ∧ (¬ x1 ≤ x3 → ((x2 = 0 → (k102 x1 x2 M)) ∧ (¬ x2 = 0 → (vp_in x3 1600 ∧ ((30 < (mI M 278 x3.toNatClampNeg) → (w_X8_see_43 n x1 0 (x3 + 3) M k102 Q)) ∧ (¬ 30 < (mI M 278 x3.toNatClampNeg) → (vp_in (x3 + 1) 1600 ∧ (w_X8_isAsker (mI M 278 ((x3 + 1).toNatClampNeg)) M (fun y4 M3 => ((y4 = 0 → (w_X8_see_43 n x1 0 (x3 + 3) M3 k102 Q)) ∧ (¬ y4 = 0 → (vp_in (x3 + 2) 1600 ∧ ((1 < (mI M3 278 ((x3 + 2).toNatClampNeg)) → (w_X8_see_43 n x1 0 (x3 + 3) M3 k102 Q)) ∧ (¬ 1 < (mI M3 278 ((x3 + 2).toNatClampNeg)) → (w_X8_see_43 n x1 1 (x3 + 3) M3 k102 Q))))))))))))))))
set_option maxRecDepth 4000 in
theorem c_X8_see_43 {k102 : Int32 → Int32 → pm → Prop} {Q : Int32 → pm → Prop} (hk102 : ∀ (x1 : Int32) (x2 : Int32) (M : pm), pG M → k102 x1 x2 M → PW mX8_see 3 350 102 [.ref 277, .int x1, .int x2, .null] [] M (qI Q)) : ∀ (n : Nat) (x1 : Int32) (x2 : Int32) (x3 : Int32) (M : pm), pG M → w_X8_see_43 n x1 x2 x3 M k102 Q → PW mX8_see 3 350 43 [.ref 277, .int x1, .int x2, .int x3] [] M (qI Q) := by
  intro n
  induction n with
  | zero => intro x1 x2 x3 M hM h; exact h.elim
  | succ n ih =>
    intro x1 x2 x3 M hM h
    unfold w_X8_see_43 at h
    refine PW.iload_n (pc := 43) dX8_see_43 rfl ?_
    refine PW.iload_n (pc := 44) dX8_see_44 rfl ?_
    refine PW.icmp_ge (pc := 45) dX8_see_45 (t := 102) (by decide) (fun hc => ?_) (fun hc => ?_)
    · have h := h.1 hc
      exact PW.drop (hk102 _ _ _ hM h) ⟨rfl, rfl, rfl, trivial⟩
    · have h := h.2 hc
      refine PW.iload_n (pc := 48) dX8_see_48 rfl ?_
      refine PW.if_eq (pc := 49) dX8_see_49 (t := 102) (by decide) (fun hc => ?_) (fun hc => ?_)
      · have h := h.1 hc
        exact PW.drop (hk102 _ _ _ hM h) ⟨rfl, rfl, rfl, trivial⟩
      · have h := h.2 hc
        refine PW.aload_n (pc := 52) dX8_see_52 rfl ?_
        refine PW.getR (pc := 53) dX8_see_53 (r := 278) lf_X8_7 (ob hM.1 s_277 (by decide)) fx_8_0 (oR_8_0 hM s_277) (pS_ne s_278) ?_
        refine PW.iload_n (pc := 56) dX8_see_56 rfl ?_
        obtain ⟨v1, h⟩ := h
        refine PW.iald (pc := 57) dX8_see_57 (ar hM.1 s_278) (vpl n_278 v1) ?_
        refine PW.bipush (pc := 58) dX8_see_58 (v := 30) (by decide) ?_
        refine PW.icmp_gt (pc := 60) dX8_see_60 (t := 94) (by decide) (fun hc => ?_) (fun hc => ?_)
        · have h := h.1 hc
          refine PW.iconst (pc := 94) dX8_see_94 (v := 0) (by decide) ?_
          refine PW.istore_n (pc := 95) dX8_see_95 (ls' := [.ref 277, .int x1, .int 0, .int x3]) (by decide) rfl rfl ?_
          refine PW.iinc (pc := 96) dX8_see_96 (v := (x3 + 3)) (ls' := [.ref 277, .int x1, .int 0, .int (x3 + 3)]) rfl rfl (by decide) rfl rfl ?_
          refine PW.goto (pc := 99) dX8_see_99 (t := 43) (by decide) ?_
          exact PW.drop (ih _ _ _ _ hM h) ⟨rfl, rfl, rfl, rfl, trivial⟩
        · have h := h.2 hc
          refine PW.aload_n (pc := 63) dX8_see_63 rfl ?_
          refine PW.aload_n (pc := 64) dX8_see_64 rfl ?_
          refine PW.getR (pc := 65) dX8_see_65 (r := 278) lf_X8_7 (ob hM.1 s_277 (by decide)) fx_8_0 (oR_8_0 hM s_277) (pS_ne s_278) ?_
          refine PW.iload_n (pc := 68) dX8_see_68 rfl ?_
          refine PW.iconst (pc := 69) dX8_see_69 (v := 1) (by decide) ?_
          refine PW.iadd (pc := 70) dX8_see_70 ?_
          obtain ⟨v2, h⟩ := h
          refine PW.iald (pc := 71) dX8_see_71 (ar hM.1 s_278) (vpl n_278 v2) ?_
          refine PW.inv (m' := mX8_isAsker) (pc := 72) dX8_see_72 lm_X8_507 me_X8_isAsker mi_X8_isAsker (ob hM.1 s_277 (by decide)) rfl (As := [.int (mI M 278 ((x3 + 1).toNatClampNeg))]) (st := []) rfl (Nat.le_of_ble_eq_true rfl) (Nat.le_of_ble_eq_true rfl) (Nat.le_of_eq hM.1) (Nat.le_refl _) (PW.deep (by decide) (c_X8_isAsker  hM h)) ?_
          rintro _ M3 ⟨hM5, y4, rfl, z6, h⟩
          refine PW.if_eq (pc := 75) dX8_see_75 (t := 94) (by decide) (fun hc => ?_) (fun hc => ?_)
          · have h := h.1 hc
            refine PW.iconst (pc := 94) dX8_see_94 (v := 0) (by decide) ?_
            refine PW.istore_n (pc := 95) dX8_see_95 (ls' := [.ref 277, .int x1, .int 0, .int x3]) (by decide) rfl rfl ?_
            refine PW.iinc (pc := 96) dX8_see_96 (v := (x3 + 3)) (ls' := [.ref 277, .int x1, .int 0, .int (x3 + 3)]) rfl rfl (by decide) rfl rfl ?_
            refine PW.goto (pc := 99) dX8_see_99 (t := 43) (by decide) ?_
            exact PW.drop (ih _ _ _ _ hM5 h) ⟨rfl, rfl, rfl, rfl, trivial⟩
          · have h := h.2 hc
            refine PW.aload_n (pc := 78) dX8_see_78 rfl ?_
            refine PW.getR (pc := 79) dX8_see_79 (r := 278) lf_X8_7 (ob hM5.1 s_277 (by decide)) fx_8_0 (oR_8_0 hM5 s_277) (pS_ne s_278) ?_
            refine PW.iload_n (pc := 82) dX8_see_82 rfl ?_
            refine PW.iconst (pc := 83) dX8_see_83 (v := 2) (by decide) ?_
            refine PW.iadd (pc := 84) dX8_see_84 ?_
            obtain ⟨v7, h⟩ := h
            refine PW.iald (pc := 85) dX8_see_85 (ar hM5.1 s_278) (vpl n_278 v7) ?_
            refine PW.iconst (pc := 86) dX8_see_86 (v := 1) (by decide) ?_
            refine PW.icmp_gt (pc := 87) dX8_see_87 (t := 94) (by decide) (fun hc => ?_) (fun hc => ?_)
            · have h := h.1 hc
              refine PW.iconst (pc := 94) dX8_see_94 (v := 0) (by decide) ?_
              refine PW.istore_n (pc := 95) dX8_see_95 (ls' := [.ref 277, .int x1, .int 0, .int x3]) (by decide) rfl rfl ?_
              refine PW.iinc (pc := 96) dX8_see_96 (v := (x3 + 3)) (ls' := [.ref 277, .int x1, .int 0, .int (x3 + 3)]) rfl rfl (by decide) rfl rfl ?_
              refine PW.goto (pc := 99) dX8_see_99 (t := 43) (by decide) ?_
              exact PW.drop (ih _ _ _ _ hM5 h) ⟨rfl, rfl, rfl, rfl, trivial⟩
            · have h := h.2 hc
              refine PW.iconst (pc := 90) dX8_see_90 (v := 1) (by decide) ?_
              refine PW.goto (pc := 91) dX8_see_91 (t := 95) (by decide) ?_
              refine PW.istore_n (pc := 95) dX8_see_95 (ls' := [.ref 277, .int x1, .int 1, .int x3]) (by decide) rfl rfl ?_
              refine PW.iinc (pc := 96) dX8_see_96 (v := (x3 + 3)) (ls' := [.ref 277, .int x1, .int 1, .int (x3 + 3)]) rfl rfl (by decide) rfl rfl ?_
              refine PW.goto (pc := 99) dX8_see_99 (t := 43) (by decide) ?_
              exact PW.drop (ih _ _ _ _ hM5 h) ⟨rfl, rfl, rfl, rfl, trivial⟩
def w_X8_see_114 : Nat → Int32 → Int32 → pm → (Int32 → pm → Prop) → Prop
  | 0, _, _, _, _ => False
  | n + 1, x1, x3, M, Q => ((x1 ≤ x3 → (Q (x1 / 3) (sI M 277 63 (x1 / 3)))) ∧ (¬ x1 ≤ x3 → (vp_in x3 1600 ∧ (vp_in x3 48 ∧ (w_X8_see_114 n x1 (x3 + 1) (sI M 322 x3.toNatClampNeg (mI M 278 x3.toNatClampNeg)) Q)))))
set_option maxRecDepth 4000 in
theorem c_X8_see_114  {Q : Int32 → pm → Prop}  : ∀ (n : Nat) (x1 : Int32) (x3 : Int32) (M : pm), pG M → w_X8_see_114 n x1 x3 M  Q → PW mX8_see 3 350 114 [.ref 277, .int x1, .null, .int x3] [] M (qI Q) := by
  intro n
  induction n with
  | zero => intro x1 x3 M hM h; exact h.elim
  | succ n ih =>
    intro x1 x3 M hM h
    unfold w_X8_see_114 at h
    refine PW.iload_n (pc := 114) dX8_see_114 rfl ?_
    refine PW.iload_n (pc := 115) dX8_see_115 rfl ?_
    refine PW.icmp_ge (pc := 116) dX8_see_116 (t := 137) (by decide) (fun hc => ?_) (fun hc => ?_)
    · have h := h.1 hc
      refine PW.aload_n (pc := 137) dX8_see_137 rfl ?_
      refine PW.iload_n (pc := 138) dX8_see_138 rfl ?_
      refine PW.iconst (pc := 139) dX8_see_139 (v := 3) (by decide) ?_
      refine PW.idiv (pc := 140) dX8_see_140 (by decide) ?_
      refine PW.putI (pc := 141) dX8_see_141 lf_X8_392 (ob hM.1 s_277 (by decide)) fx_8_63 fw_8_63 rfl rfl ?_
      refine PW.aload_n (pc := 144) dX8_see_144 rfl ?_
      refine PW.getI (pc := 145) dX8_see_145 lf_X8_392 (ob hM.1 s_277 (by decide)) fx_8_63 ?_
      exact PW.retI (pc := 148) dX8_see_148 hM.1 rfl rfl ⟨(hM.same rfl rfl), _, rfl, h⟩
    · have h := h.2 hc
      refine PW.aload_n (pc := 119) dX8_see_119 rfl ?_
      refine PW.getR (pc := 120) dX8_see_120 (r := 322) lf_X8_148 (ob hM.1 s_277 (by decide)) fx_8_64 (oR_8_64 hM s_277) (pS_ne s_322) ?_
      refine PW.iload_n (pc := 123) dX8_see_123 rfl ?_
      refine PW.aload_n (pc := 124) dX8_see_124 rfl ?_
      refine PW.getR (pc := 125) dX8_see_125 (r := 278) lf_X8_7 (ob hM.1 s_277 (by decide)) fx_8_0 (oR_8_0 hM s_277) (pS_ne s_278) ?_
      refine PW.iload_n (pc := 128) dX8_see_128 rfl ?_
      obtain ⟨v10, h⟩ := h
      refine PW.iald (pc := 129) dX8_see_129 (ar hM.1 s_278) (vpl n_278 v10) ?_
      obtain ⟨v11, h⟩ := h
      refine PW.iast (pc := 130) dX8_see_130 (ar hM.1 s_322) (vpl n_322 v11) ?_
      refine PW.iinc (pc := 131) dX8_see_131 (v := (x3 + 1)) (ls' := [.ref 277, .int x1, .null, .int (x3 + 1)]) rfl rfl (by decide) rfl rfl ?_
      refine PW.goto (pc := 134) dX8_see_134 (t := 114) (by decide) ?_
      exact PW.drop (ih _ _ _ (hM.same rfl rfl) h) ⟨rfl, rfl, rfl, trivial⟩
def w_X8_see  (M : pm) (Q : Int32 → pm → Prop) : Prop := (((mI M 277 50) = 0 → (∃ n8, w_X8_see_43 n8 (mI M 277 1) 0 0 (sI M 277 1 0) (fun x1 x2 M9 => ((¬ x2 = 0 → (∃ n12, w_X8_see_114 n12 x1 0 M9  Q)) ∧ (x2 = 0 → (w_X8_refuses 1 M9 (fun y14 M13 => Q y14 M13))))) Q)) ∧ (¬ (mI M 277 50) = 0 → (((mI M 277 1) ≤ 0 → (∃ n16, w_X8_see_43 n16 (mI M 277 1) 0 0 (sI M 277 1 0) (fun x1 x2 M17 => ((¬ x2 = 0 → (∃ n18, w_X8_see_114 n18 x1 0 M17  Q)) ∧ (x2 = 0 → (w_X8_refuses 1 M17 (fun y20 M19 => Q y20 M19))))) Q)) ∧ (¬ (mI M 277 1) ≤ 0 → ((¬ (irm (mI M 277 1) 3) = 0 → (∃ n22, w_X8_see_43 n22 (mI M 277 1) 0 0 (sI M 277 1 0) (fun x1 x2 M23 => ((¬ x2 = 0 → (∃ n24, w_X8_see_114 n24 x1 0 M23  Q)) ∧ (x2 = 0 → (w_X8_refuses 1 M23 (fun y26 M25 => Q y26 M25))))) Q)) ∧ ((irm (mI M 277 1) 3) = 0 → ((16 < ((mI M 277 1) / 3) → (∃ n28, w_X8_see_43 n28 (mI M 277 1) 0 0 (sI M 277 1 0) (fun x1 x2 M29 => ((¬ x2 = 0 → (∃ n30, w_X8_see_114 n30 x1 0 M29  Q)) ∧ (x2 = 0 → (w_X8_refuses 1 M29 (fun y32 M31 => Q y32 M31))))) Q)) ∧ (¬ 16 < ((mI M 277 1) / 3) → (∃ n34, w_X8_see_43 n34 (mI M 277 1) 1 0 (sI M 277 1 0) (fun x1 x2 M35 => ((¬ x2 = 0 → (∃ n36, w_X8_see_114 n36 x1 0 M35  Q)) ∧ (x2 = 0 → (w_X8_refuses 1 M35 (fun y38 M37 => Q y38 M37))))) Q)))))))))
set_option maxRecDepth 4000 in
theorem c_X8_see  {M : pm} {Q : Int32 → pm → Prop}  (hM : pG M) (h : w_X8_see  M Q) : PW mX8_see 3 350 0 (pfr mX8_see.2.2.1 [.ref 277]) [] M (qI Q) := by
  unfold w_X8_see at h
  show PW mX8_see 3 350 0 [.ref 277, .null, .null, .null] [] M (qI Q)
  refine PW.aload_n (pc := 0) dX8_see_0 rfl ?_
  refine PW.getI (pc := 1) dX8_see_1 lf_X8_246 (ob hM.1 s_277 (by decide)) fx_8_1 ?_
  refine PW.istore_n (pc := 4) dX8_see_4 (ls' := [.ref 277, .int (mI M 277 1), .null, .null]) (by decide) rfl rfl ?_
  refine PW.aload_n (pc := 5) dX8_see_5 rfl ?_
  refine PW.iconst (pc := 6) dX8_see_6 (v := 0) (by decide) ?_
  refine PW.putI (pc := 7) dX8_see_7 lf_X8_246 (ob hM.1 s_277 (by decide)) fx_8_1 fw_8_1 rfl rfl ?_
  refine PW.aload_n (pc := 10) dX8_see_10 rfl ?_
  refine PW.getI (pc := 11) dX8_see_11 lf_X8_385 (ob hM.1 s_277 (by decide)) fx_8_50 ?_
  refine PW.if_eq (pc := 14) dX8_see_14 (t := 39) (by decide) (fun hc => ?_) (fun hc => ?_)
  · have h := h.1 hc
    refine PW.iconst (pc := 39) dX8_see_39 (v := 0) (by decide) ?_
    refine PW.istore_n (pc := 40) dX8_see_40 (ls' := [.ref 277, .int (mI M 277 1), .int 0, .null]) (by decide) rfl rfl ?_
    refine PW.iconst (pc := 41) dX8_see_41 (v := 0) (by decide) ?_
    refine PW.istore_n (pc := 42) dX8_see_42 (ls' := [.ref 277, .int (mI M 277 1), .int 0, .int 0]) (by decide) rfl rfl ?_
    obtain ⟨n8, h⟩ := h
    refine PW.drop (c_X8_see_43 ?_ n8 _ _ _ _ (hM.same rfl rfl) h) ⟨rfl, rfl, rfl, rfl, trivial⟩
    · intro x1 x2 M9 hM h
      refine PW.iload_n (pc := 102) dX8_see_102 rfl ?_
      refine PW.if_ne (pc := 103) dX8_see_103 (t := 112) (by decide) (fun hc => ?_) (fun hc => ?_)
      · have h := h.1 hc
        refine PW.iconst (pc := 112) dX8_see_112 (v := 0) (by decide) ?_
        refine PW.istore_n (pc := 113) dX8_see_113 (ls' := [.ref 277, .int x1, .int x2, .int 0]) (by decide) rfl rfl ?_
        obtain ⟨n12, h⟩ := h
        refine PW.drop (c_X8_see_114  n12 _ _ _ hM h) ⟨rfl, rfl, rfl, trivial⟩
      · have h := h.2 hc
        refine PW.aload_n (pc := 106) dX8_see_106 rfl ?_
        refine PW.iconst (pc := 107) dX8_see_107 (v := 1) (by decide) ?_
        refine PW.inv (m' := mX8_refuses) (pc := 108) dX8_see_108 lm_X8_551 me_X8_refuses mi_X8_refuses (ob hM.1 s_277 (by decide)) rfl (As := [.int 1]) (st := []) rfl (Nat.le_of_ble_eq_true rfl) (Nat.le_of_ble_eq_true rfl) (Nat.le_of_eq hM.1) (Nat.le_refl _) (PW.deep (by decide) (c_X8_refuses  hM h)) ?_
        rintro _ M13 ⟨hM15, y14, rfl, h⟩
        exact PW.retI (pc := 111) dX8_see_111 hM15.1 rfl rfl ⟨hM15, _, rfl, h⟩
  · have h := h.2 hc
    refine PW.iload_n (pc := 17) dX8_see_17 rfl ?_
    refine PW.if_le (pc := 18) dX8_see_18 (t := 39) (by decide) (fun hc => ?_) (fun hc => ?_)
    · have h := h.1 hc
      refine PW.iconst (pc := 39) dX8_see_39 (v := 0) (by decide) ?_
      refine PW.istore_n (pc := 40) dX8_see_40 (ls' := [.ref 277, .int (mI M 277 1), .int 0, .null]) (by decide) rfl rfl ?_
      refine PW.iconst (pc := 41) dX8_see_41 (v := 0) (by decide) ?_
      refine PW.istore_n (pc := 42) dX8_see_42 (ls' := [.ref 277, .int (mI M 277 1), .int 0, .int 0]) (by decide) rfl rfl ?_
      obtain ⟨n16, h⟩ := h
      refine PW.drop (c_X8_see_43 ?_ n16 _ _ _ _ (hM.same rfl rfl) h) ⟨rfl, rfl, rfl, rfl, trivial⟩
      · intro x1 x2 M17 hM h
        refine PW.iload_n (pc := 102) dX8_see_102 rfl ?_
        refine PW.if_ne (pc := 103) dX8_see_103 (t := 112) (by decide) (fun hc => ?_) (fun hc => ?_)
        · have h := h.1 hc
          refine PW.iconst (pc := 112) dX8_see_112 (v := 0) (by decide) ?_
          refine PW.istore_n (pc := 113) dX8_see_113 (ls' := [.ref 277, .int x1, .int x2, .int 0]) (by decide) rfl rfl ?_
          obtain ⟨n18, h⟩ := h
          refine PW.drop (c_X8_see_114  n18 _ _ _ hM h) ⟨rfl, rfl, rfl, trivial⟩
        · have h := h.2 hc
          refine PW.aload_n (pc := 106) dX8_see_106 rfl ?_
          refine PW.iconst (pc := 107) dX8_see_107 (v := 1) (by decide) ?_
          refine PW.inv (m' := mX8_refuses) (pc := 108) dX8_see_108 lm_X8_551 me_X8_refuses mi_X8_refuses (ob hM.1 s_277 (by decide)) rfl (As := [.int 1]) (st := []) rfl (Nat.le_of_ble_eq_true rfl) (Nat.le_of_ble_eq_true rfl) (Nat.le_of_eq hM.1) (Nat.le_refl _) (PW.deep (by decide) (c_X8_refuses  hM h)) ?_
          rintro _ M19 ⟨hM21, y20, rfl, h⟩
          exact PW.retI (pc := 111) dX8_see_111 hM21.1 rfl rfl ⟨hM21, _, rfl, h⟩
    · have h := h.2 hc
      refine PW.iload_n (pc := 21) dX8_see_21 rfl ?_
      refine PW.iconst (pc := 22) dX8_see_22 (v := 3) (by decide) ?_
      refine PW.irem (pc := 23) dX8_see_23 (by decide) ?_
      refine PW.if_ne (pc := 24) dX8_see_24 (t := 39) (by decide) (fun hc => ?_) (fun hc => ?_)
      · have h := h.1 hc
        refine PW.iconst (pc := 39) dX8_see_39 (v := 0) (by decide) ?_
        refine PW.istore_n (pc := 40) dX8_see_40 (ls' := [.ref 277, .int (mI M 277 1), .int 0, .null]) (by decide) rfl rfl ?_
        refine PW.iconst (pc := 41) dX8_see_41 (v := 0) (by decide) ?_
        refine PW.istore_n (pc := 42) dX8_see_42 (ls' := [.ref 277, .int (mI M 277 1), .int 0, .int 0]) (by decide) rfl rfl ?_
        obtain ⟨n22, h⟩ := h
        refine PW.drop (c_X8_see_43 ?_ n22 _ _ _ _ (hM.same rfl rfl) h) ⟨rfl, rfl, rfl, rfl, trivial⟩
        · intro x1 x2 M23 hM h
          refine PW.iload_n (pc := 102) dX8_see_102 rfl ?_
          refine PW.if_ne (pc := 103) dX8_see_103 (t := 112) (by decide) (fun hc => ?_) (fun hc => ?_)
          · have h := h.1 hc
            refine PW.iconst (pc := 112) dX8_see_112 (v := 0) (by decide) ?_
            refine PW.istore_n (pc := 113) dX8_see_113 (ls' := [.ref 277, .int x1, .int x2, .int 0]) (by decide) rfl rfl ?_
            obtain ⟨n24, h⟩ := h
            refine PW.drop (c_X8_see_114  n24 _ _ _ hM h) ⟨rfl, rfl, rfl, trivial⟩
          · have h := h.2 hc
            refine PW.aload_n (pc := 106) dX8_see_106 rfl ?_
            refine PW.iconst (pc := 107) dX8_see_107 (v := 1) (by decide) ?_
            refine PW.inv (m' := mX8_refuses) (pc := 108) dX8_see_108 lm_X8_551 me_X8_refuses mi_X8_refuses (ob hM.1 s_277 (by decide)) rfl (As := [.int 1]) (st := []) rfl (Nat.le_of_ble_eq_true rfl) (Nat.le_of_ble_eq_true rfl) (Nat.le_of_eq hM.1) (Nat.le_refl _) (PW.deep (by decide) (c_X8_refuses  hM h)) ?_
            rintro _ M25 ⟨hM27, y26, rfl, h⟩
            exact PW.retI (pc := 111) dX8_see_111 hM27.1 rfl rfl ⟨hM27, _, rfl, h⟩
      · have h := h.2 hc
        refine PW.iload_n (pc := 27) dX8_see_27 rfl ?_
        refine PW.iconst (pc := 28) dX8_see_28 (v := 3) (by decide) ?_
        refine PW.idiv (pc := 29) dX8_see_29 (by decide) ?_
        refine PW.bipush (pc := 30) dX8_see_30 (v := 16) (by decide) ?_
        refine PW.icmp_gt (pc := 32) dX8_see_32 (t := 39) (by decide) (fun hc => ?_) (fun hc => ?_)
        · have h := h.1 hc
          refine PW.iconst (pc := 39) dX8_see_39 (v := 0) (by decide) ?_
          refine PW.istore_n (pc := 40) dX8_see_40 (ls' := [.ref 277, .int (mI M 277 1), .int 0, .null]) (by decide) rfl rfl ?_
          refine PW.iconst (pc := 41) dX8_see_41 (v := 0) (by decide) ?_
          refine PW.istore_n (pc := 42) dX8_see_42 (ls' := [.ref 277, .int (mI M 277 1), .int 0, .int 0]) (by decide) rfl rfl ?_
          obtain ⟨n28, h⟩ := h
          refine PW.drop (c_X8_see_43 ?_ n28 _ _ _ _ (hM.same rfl rfl) h) ⟨rfl, rfl, rfl, rfl, trivial⟩
          · intro x1 x2 M29 hM h
            refine PW.iload_n (pc := 102) dX8_see_102 rfl ?_
            refine PW.if_ne (pc := 103) dX8_see_103 (t := 112) (by decide) (fun hc => ?_) (fun hc => ?_)
            · have h := h.1 hc
              refine PW.iconst (pc := 112) dX8_see_112 (v := 0) (by decide) ?_
              refine PW.istore_n (pc := 113) dX8_see_113 (ls' := [.ref 277, .int x1, .int x2, .int 0]) (by decide) rfl rfl ?_
              obtain ⟨n30, h⟩ := h
              refine PW.drop (c_X8_see_114  n30 _ _ _ hM h) ⟨rfl, rfl, rfl, trivial⟩
            · have h := h.2 hc
              refine PW.aload_n (pc := 106) dX8_see_106 rfl ?_
              refine PW.iconst (pc := 107) dX8_see_107 (v := 1) (by decide) ?_
              refine PW.inv (m' := mX8_refuses) (pc := 108) dX8_see_108 lm_X8_551 me_X8_refuses mi_X8_refuses (ob hM.1 s_277 (by decide)) rfl (As := [.int 1]) (st := []) rfl (Nat.le_of_ble_eq_true rfl) (Nat.le_of_ble_eq_true rfl) (Nat.le_of_eq hM.1) (Nat.le_refl _) (PW.deep (by decide) (c_X8_refuses  hM h)) ?_
              rintro _ M31 ⟨hM33, y32, rfl, h⟩
              exact PW.retI (pc := 111) dX8_see_111 hM33.1 rfl rfl ⟨hM33, _, rfl, h⟩
        · have h := h.2 hc
          refine PW.iconst (pc := 35) dX8_see_35 (v := 1) (by decide) ?_
          refine PW.goto (pc := 36) dX8_see_36 (t := 40) (by decide) ?_
          refine PW.istore_n (pc := 40) dX8_see_40 (ls' := [.ref 277, .int (mI M 277 1), .int 1, .null]) (by decide) rfl rfl ?_
          refine PW.iconst (pc := 41) dX8_see_41 (v := 0) (by decide) ?_
          refine PW.istore_n (pc := 42) dX8_see_42 (ls' := [.ref 277, .int (mI M 277 1), .int 1, .int 0]) (by decide) rfl rfl ?_
          obtain ⟨n34, h⟩ := h
          refine PW.drop (c_X8_see_43 ?_ n34 _ _ _ _ (hM.same rfl rfl) h) ⟨rfl, rfl, rfl, rfl, trivial⟩
          · intro x1 x2 M35 hM h
            refine PW.iload_n (pc := 102) dX8_see_102 rfl ?_
            refine PW.if_ne (pc := 103) dX8_see_103 (t := 112) (by decide) (fun hc => ?_) (fun hc => ?_)
            · have h := h.1 hc
              refine PW.iconst (pc := 112) dX8_see_112 (v := 0) (by decide) ?_
              refine PW.istore_n (pc := 113) dX8_see_113 (ls' := [.ref 277, .int x1, .int x2, .int 0]) (by decide) rfl rfl ?_
              obtain ⟨n36, h⟩ := h
              refine PW.drop (c_X8_see_114  n36 _ _ _ hM h) ⟨rfl, rfl, rfl, trivial⟩
            · have h := h.2 hc
              refine PW.aload_n (pc := 106) dX8_see_106 rfl ?_
              refine PW.iconst (pc := 107) dX8_see_107 (v := 1) (by decide) ?_
              refine PW.inv (m' := mX8_refuses) (pc := 108) dX8_see_108 lm_X8_551 me_X8_refuses mi_X8_refuses (ob hM.1 s_277 (by decide)) rfl (As := [.int 1]) (st := []) rfl (Nat.le_of_ble_eq_true rfl) (Nat.le_of_ble_eq_true rfl) (Nat.le_of_eq hM.1) (Nat.le_refl _) (PW.deep (by decide) (c_X8_refuses  hM h)) ?_
              rintro _ M37 ⟨hM39, y38, rfl, h⟩
              exact PW.retI (pc := 111) dX8_see_111 hM39.1 rfl rfl ⟨hM39, _, rfl, h⟩
def w_X8_isAsSeen_2 : Nat → Int32 → Int32 → pm → (Int32 → pm → Prop) → Prop
  | 0, _, _, _, _ => False
  | n + 1, x1, x2, M, Q => (((mI M 277 63) ≤ x2 → (Q 1 M)) ∧ (¬ (mI M 277 63) ≤ x2 → (vp_in (3 * x2) 48 ∧ ((¬ (mI M 322 ((3 * x2).toNatClampNeg)) = x1 → (w_X8_isAsSeen_2 n x1 (x2 + 1) M Q)) ∧ ((mI M 322 ((3 * x2).toNatClampNeg)) = x1 → ((999 < (mI M 317 0) → (Q 0 M)) ∧ (¬ 999 < (mI M 317 0) → (vp_in ((3 * x2) + 1) 48 ∧ (vp_in ((3 * x2) + 2) 48 ∧ (((((mI M 277 56) >>> ((mI M 322 (((3 * x2) + 1).toNatClampNeg)) &&& 31)) &&& 1) = (mI M 322 (((3 * x2) + 2).toNatClampNeg)) → (w_X8_isAsSeen_2 n x1 (x2 + 1) M Q)) ∧ (¬ (((mI M 277 56) >>> ((mI M 322 (((3 * x2) + 1).toNatClampNeg)) &&& 31)) &&& 1) = (mI M 322 (((3 * x2) + 2).toNatClampNeg)) → (Q 0 M))))))))))))
set_option maxRecDepth 4000 in
theorem c_X8_isAsSeen_2  {Q : Int32 → pm → Prop}  : ∀ (n : Nat) (x1 : Int32) (x2 : Int32) (M : pm), pG M → w_X8_isAsSeen_2 n x1 x2 M  Q → PW mX8_isAsSeen 1 350 2 [.ref 277, .int x1, .int x2] [] M (qZ Q) := by
  intro n
  induction n with
  | zero => intro x1 x2 M hM h; exact h.elim
  | succ n ih =>
    intro x1 x2 M hM h
    unfold w_X8_isAsSeen_2 at h
    refine PW.iload_n (pc := 2) dX8_isAsSeen_2 rfl ?_
    refine PW.aload_n (pc := 3) dX8_isAsSeen_3 rfl ?_
    refine PW.getI (pc := 4) dX8_isAsSeen_4 lf_X8_392 (ob hM.1 s_277 (by decide)) fx_8_63 ?_
    refine PW.icmp_ge (pc := 7) dX8_isAsSeen_7 (t := 72) (by decide) (fun hc => ?_) (fun hc => ?_)
    · have h := h.1 hc
      refine PW.iconst (pc := 72) dX8_isAsSeen_72 (v := 1) (by decide) ?_
      exact PW.retI (pc := 73) dX8_isAsSeen_73 hM.1 rfl (bz_n bz1) ⟨hM, _, rfl, bz1, h⟩
    · have h := h.2 hc
      refine PW.aload_n (pc := 10) dX8_isAsSeen_10 rfl ?_
      refine PW.getR (pc := 11) dX8_isAsSeen_11 (r := 322) lf_X8_148 (ob hM.1 s_277 (by decide)) fx_8_64 (oR_8_64 hM s_277) (pS_ne s_322) ?_
      refine PW.iconst (pc := 14) dX8_isAsSeen_14 (v := 3) (by decide) ?_
      refine PW.iload_n (pc := 15) dX8_isAsSeen_15 rfl ?_
      refine PW.imul (pc := 16) dX8_isAsSeen_16 ?_
      obtain ⟨v1, h⟩ := h
      refine PW.iald (pc := 17) dX8_isAsSeen_17 (ar hM.1 s_322) (vpl n_322 v1) ?_
      refine PW.iload_n (pc := 18) dX8_isAsSeen_18 rfl ?_
      refine PW.icmp_ne (pc := 19) dX8_isAsSeen_19 (t := 66) (by decide) (fun hc => ?_) (fun hc => ?_)
      · have h := h.1 hc
        refine PW.iinc (pc := 66) dX8_isAsSeen_66 (v := (x2 + 1)) (ls' := [.ref 277, .int x1, .int (x2 + 1)]) rfl rfl (by decide) rfl rfl ?_
        refine PW.goto (pc := 69) dX8_isAsSeen_69 (t := 2) (by decide) ?_
        exact PW.drop (ih _ _ _ hM h) ⟨rfl, rfl, rfl, trivial⟩
      · have h := h.2 hc
        refine PW.aload_n (pc := 22) dX8_isAsSeen_22 rfl ?_
        refine PW.getR (pc := 23) dX8_isAsSeen_23 (r := 317) lf_X8_133 (ob hM.1 s_277 (by decide)) fx_8_52 (oR_8_52 hM s_277) (pS_ne s_317) ?_
        refine PW.iconst (pc := 26) dX8_isAsSeen_26 (v := 0) (by decide) ?_
        refine PW.iald (pc := 27) dX8_isAsSeen_27 (ar hM.1 s_317) (vpl n_317 (vp_c (i := 0) (n := 163) (by decide))) ?_
        refine PW.sipush (pc := 28) dX8_isAsSeen_28 (v := 999) (by decide) ?_
        refine PW.icmp_gt (pc := 31) dX8_isAsSeen_31 (t := 64) (by decide) (fun hc => ?_) (fun hc => ?_)
        · have h := h.1 hc
          refine PW.iconst (pc := 64) dX8_isAsSeen_64 (v := 0) (by decide) ?_
          exact PW.retI (pc := 65) dX8_isAsSeen_65 hM.1 rfl (bz_n bz0) ⟨hM, _, rfl, bz0, h⟩
        · have h := h.2 hc
          refine PW.aload_n (pc := 34) dX8_isAsSeen_34 rfl ?_
          refine PW.getI (pc := 35) dX8_isAsSeen_35 lf_X8_449 (ob hM.1 s_277 (by decide)) fx_8_56 ?_
          refine PW.aload_n (pc := 38) dX8_isAsSeen_38 rfl ?_
          refine PW.getR (pc := 39) dX8_isAsSeen_39 (r := 322) lf_X8_148 (ob hM.1 s_277 (by decide)) fx_8_64 (oR_8_64 hM s_277) (pS_ne s_322) ?_
          refine PW.iconst (pc := 42) dX8_isAsSeen_42 (v := 3) (by decide) ?_
          refine PW.iload_n (pc := 43) dX8_isAsSeen_43 rfl ?_
          refine PW.imul (pc := 44) dX8_isAsSeen_44 ?_
          refine PW.iconst (pc := 45) dX8_isAsSeen_45 (v := 1) (by decide) ?_
          refine PW.iadd (pc := 46) dX8_isAsSeen_46 ?_
          obtain ⟨v2, h⟩ := h
          refine PW.iald (pc := 47) dX8_isAsSeen_47 (ar hM.1 s_322) (vpl n_322 v2) ?_
          refine PW.ishr (pc := 48) dX8_isAsSeen_48 ?_
          refine PW.iconst (pc := 49) dX8_isAsSeen_49 (v := 1) (by decide) ?_
          refine PW.iand (pc := 50) dX8_isAsSeen_50 ?_
          refine PW.aload_n (pc := 51) dX8_isAsSeen_51 rfl ?_
          refine PW.getR (pc := 52) dX8_isAsSeen_52 (r := 322) lf_X8_148 (ob hM.1 s_277 (by decide)) fx_8_64 (oR_8_64 hM s_277) (pS_ne s_322) ?_
          refine PW.iconst (pc := 55) dX8_isAsSeen_55 (v := 3) (by decide) ?_
          refine PW.iload_n (pc := 56) dX8_isAsSeen_56 rfl ?_
          refine PW.imul (pc := 57) dX8_isAsSeen_57 ?_
          refine PW.iconst (pc := 58) dX8_isAsSeen_58 (v := 2) (by decide) ?_
          refine PW.iadd (pc := 59) dX8_isAsSeen_59 ?_
          obtain ⟨v3, h⟩ := h
          refine PW.iald (pc := 60) dX8_isAsSeen_60 (ar hM.1 s_322) (vpl n_322 v3) ?_
          refine PW.icmp_eq (pc := 61) dX8_isAsSeen_61 (t := 66) (by decide) (fun hc => ?_) (fun hc => ?_)
          · have h := h.1 hc
            refine PW.iinc (pc := 66) dX8_isAsSeen_66 (v := (x2 + 1)) (ls' := [.ref 277, .int x1, .int (x2 + 1)]) rfl rfl (by decide) rfl rfl ?_
            refine PW.goto (pc := 69) dX8_isAsSeen_69 (t := 2) (by decide) ?_
            exact PW.drop (ih _ _ _ hM h) ⟨rfl, rfl, rfl, trivial⟩
          · have h := h.2 hc
            refine PW.iconst (pc := 64) dX8_isAsSeen_64 (v := 0) (by decide) ?_
            exact PW.retI (pc := 65) dX8_isAsSeen_65 hM.1 rfl (bz_n bz0) ⟨hM, _, rfl, bz0, h⟩
def w_X8_isAsSeen (x1 : Int32) (M : pm) (Q : Int32 → pm → Prop) : Prop := ∃ n4, w_X8_isAsSeen_2 n4 x1 0 M  Q
set_option maxRecDepth 4000 in
theorem c_X8_isAsSeen {x1 : Int32} {M : pm} {Q : Int32 → pm → Prop}  (hM : pG M) (h : w_X8_isAsSeen x1 M Q) : PW mX8_isAsSeen 1 350 0 (pfr mX8_isAsSeen.2.2.1 [.ref 277, .int x1]) [] M (qZ Q) := by
  unfold w_X8_isAsSeen at h
  show PW mX8_isAsSeen 1 350 0 [.ref 277, .int x1, .null] [] M (qZ Q)
  refine PW.iconst (pc := 0) dX8_isAsSeen_0 (v := 0) (by decide) ?_
  refine PW.istore_n (pc := 1) dX8_isAsSeen_1 (ls' := [.ref 277, .int x1, .int 0]) (by decide) rfl rfl ?_
  obtain ⟨n4, h⟩ := h
  refine PW.drop (c_X8_isAsSeen_2  n4 _ _ _ hM h) ⟨rfl, rfl, rfl, trivial⟩
def w_X8_laysFits_62  (x1 : Int32) (x2 : Int32) (x4 : Int32) (t0 : Int32) (M : pm) (r : Int32 → Int32 → Int32 → Int32 → pm → Prop) (k106 : Int32 → Int32 → Int32 → pm → Prop) (Q : pm → Prop) : Prop := ((¬ (((mI M 277 56) >>> (x1 &&& 31)) &&& 1) = 1 → (vp_in ((31 * x2) + x4) 3100 ∧ (w_X8_dayBy (mI M 277 56) (sI M 323 (((31 * x2) + x4).toNatClampNeg) (vp_nar .boolean 0)) (fun M12 => r x1 x2 t0 (x4 + 1) M12)))) ∧ ((((mI M 277 56) >>> (x1 &&& 31)) &&& 1) = 1 → (vp_in ((31 * x2) + x4) 3100 ∧ (w_X8_dayBy (mI M 277 56) (sI M 323 (((31 * x2) + x4).toNatClampNeg) (vp_nar .boolean 1)) (fun M16 => r x1 x2 t0 (x4 + 1) M16)))))
set_option maxRecDepth 4000 in
theorem c_X8_laysFits_62 {r : Int32 → Int32 → Int32 → Int32 → pm → Prop} {k106 : Int32 → Int32 → Int32 → pm → Prop} {Q : pm → Prop} (hr : ∀ (x1 : Int32) (x2 : Int32) (x3 : Int32) (x4 : Int32) (M : pm), pG M → r x1 x2 x3 x4 M → PW mX8_laysFits 9 350 33 [.ref 277, .int x1, .int x2, .int x3, .int x4] [] M (qV Q)) (hk106 : ∀ (x1 : Int32) (x2 : Int32) (x3 : Int32) (M : pm), pG M → k106 x1 x2 x3 M → PW mX8_laysFits 9 350 106 [.ref 277, .int x1, .int x2, .int x3, .null] [] M (qV Q)) : ∀ (x1 : Int32) (x2 : Int32) (x4 : Int32) (t0 : Int32) (M : pm), pG M → w_X8_laysFits_62 x1 x2 x4 t0 M r k106 Q → PW mX8_laysFits 9 350 62 [.ref 277, .int x1, .int x2, .null, .int x4] [.int t0] M (qV Q) := by
  intro x1 x2 x4 t0 M hM h
  unfold w_X8_laysFits_62 at h
  refine PW.istore_n (pc := 62) dX8_laysFits_62 (ls' := [.ref 277, .int x1, .int x2, .int t0, .int x4]) (by decide) rfl rfl ?_
  refine PW.aload_n (pc := 63) dX8_laysFits_63 rfl ?_
  refine PW.getR (pc := 64) dX8_laysFits_64 (r := 323) lf_X8_151 (ob hM.1 s_277 (by decide)) fx_8_65 (oR_8_65 hM s_277) (pS_ne s_323) ?_
  refine PW.bipush (pc := 67) dX8_laysFits_67 (v := 31) (by decide) ?_
  refine PW.iload_n (pc := 69) dX8_laysFits_69 rfl ?_
  refine PW.imul (pc := 70) dX8_laysFits_70 ?_
  refine PW.iload (pc := 71) dX8_laysFits_71 rfl ?_
  refine PW.iadd (pc := 73) dX8_laysFits_73 ?_
  refine PW.aload_n (pc := 74) dX8_laysFits_74 rfl ?_
  refine PW.getI (pc := 75) dX8_laysFits_75 lf_X8_449 (ob hM.1 s_277 (by decide)) fx_8_56 ?_
  refine PW.iload_n (pc := 78) dX8_laysFits_78 rfl ?_
  refine PW.ishr (pc := 79) dX8_laysFits_79 ?_
  refine PW.iconst (pc := 80) dX8_laysFits_80 (v := 1) (by decide) ?_
  refine PW.iand (pc := 81) dX8_laysFits_81 ?_
  refine PW.iconst (pc := 82) dX8_laysFits_82 (v := 1) (by decide) ?_
  refine PW.icmp_ne (pc := 83) dX8_laysFits_83 (t := 90) (by decide) (fun hc => ?_) (fun hc => ?_)
  · have h := h.1 hc
    refine PW.iconst (pc := 90) dX8_laysFits_90 (v := 0) (by decide) ?_
    obtain ⟨v11, h⟩ := h
    refine PW.zast (pc := 91) dX8_laysFits_91 (ar hM.1 s_323) (vpl n_323 v11) ?_
    refine PW.aload_n (pc := 92) dX8_laysFits_92 rfl ?_
    refine PW.aload_n (pc := 93) dX8_laysFits_93 rfl ?_
    refine PW.getI (pc := 94) dX8_laysFits_94 lf_X8_449 (ob hM.1 s_277 (by decide)) fx_8_56 ?_
    refine PW.inv (m' := mX8_dayBy) (pc := 97) dX8_laysFits_97 lm_X8_482 me_X8_dayBy mi_X8_dayBy (ob hM.1 s_277 (by decide)) rfl (As := [.int (mI M 277 56)]) (st := []) rfl (Nat.le_of_ble_eq_true rfl) (Nat.le_of_ble_eq_true rfl) (Nat.le_of_eq hM.1) (Nat.le_refl _) (PW.deep (by decide) (c_X8_dayBy  (hM.same rfl rfl) h)) ?_
    rintro _ M12 ⟨hM14, rfl, h⟩
    refine PW.iinc (pc := 100) dX8_laysFits_100 (v := (x4 + 1)) (ls' := [.ref 277, .int x1, .int x2, .int t0, .int (x4 + 1)]) rfl rfl (by decide) rfl rfl ?_
    refine PW.goto (pc := 103) dX8_laysFits_103 (t := 33) (by decide) ?_
    exact PW.drop (hr _ _ _ _ _ hM14 h) ⟨rfl, rfl, rfl, rfl, rfl, trivial⟩
  · have h := h.2 hc
    refine PW.iconst (pc := 86) dX8_laysFits_86 (v := 1) (by decide) ?_
    refine PW.goto (pc := 87) dX8_laysFits_87 (t := 91) (by decide) ?_
    obtain ⟨v15, h⟩ := h
    refine PW.zast (pc := 91) dX8_laysFits_91 (ar hM.1 s_323) (vpl n_323 v15) ?_
    refine PW.aload_n (pc := 92) dX8_laysFits_92 rfl ?_
    refine PW.aload_n (pc := 93) dX8_laysFits_93 rfl ?_
    refine PW.getI (pc := 94) dX8_laysFits_94 lf_X8_449 (ob hM.1 s_277 (by decide)) fx_8_56 ?_
    refine PW.inv (m' := mX8_dayBy) (pc := 97) dX8_laysFits_97 lm_X8_482 me_X8_dayBy mi_X8_dayBy (ob hM.1 s_277 (by decide)) rfl (As := [.int (mI M 277 56)]) (st := []) rfl (Nat.le_of_ble_eq_true rfl) (Nat.le_of_ble_eq_true rfl) (Nat.le_of_eq hM.1) (Nat.le_refl _) (PW.deep (by decide) (c_X8_dayBy  (hM.same rfl rfl) h)) ?_
    rintro _ M16 ⟨hM18, rfl, h⟩
    refine PW.iinc (pc := 100) dX8_laysFits_100 (v := (x4 + 1)) (ls' := [.ref 277, .int x1, .int x2, .int t0, .int (x4 + 1)]) rfl rfl (by decide) rfl rfl ?_
    refine PW.goto (pc := 103) dX8_laysFits_103 (t := 33) (by decide) ?_
    exact PW.drop (hr _ _ _ _ _ hM18 h) ⟨rfl, rfl, rfl, rfl, rfl, trivial⟩
def w_X8_laysFits_33 : Nat → Int32 → Int32 → Int32 → Int32 → pm → (Int32 → Int32 → Int32 → pm → Prop) → (pm → Prop) → Prop
  | 0, _, _, _, _, _, _, _ => False
  | n + 1, x1, x2, x3, x4, M, k106, Q => ((30 < x4 → (k106 x1 x2 x3 M)) ∧ (¬ 30 < x4 → (w_X8_laysBest  M (fun M8 => ((x3 = 0 → (w_X8_laysFits_62 x1 x2 x4 0 M8 (fun x1 x2 x3 x4 M => w_X8_laysFits_33 n x1 x2 x3 x4 M k106 Q) k106 Q)) ∧ (¬ x3 = 0 → (w_X8_isAsSeen x4 M8 (fun y20 M19 => ((y20 = 0 → (w_X8_laysFits_62 x1 x2 x4 0 M19 (fun x1 x2 x3 x4 M => w_X8_laysFits_33 n x1 x2 x3 x4 M k106 Q) k106 Q)) ∧ (¬ y20 = 0 → (w_X8_laysFits_62 x1 x2 x4 1 M19 (fun x1 x2 x3 x4 M => w_X8_laysFits_33 n x1 x2 x3 x4 M k106 Q) k106 Q)))))))))))
set_option maxRecDepth 4000 in
theorem c_X8_laysFits_33 {k106 : Int32 → Int32 → Int32 → pm → Prop} {Q : pm → Prop} (hk106 : ∀ (x1 : Int32) (x2 : Int32) (x3 : Int32) (M : pm), pG M → k106 x1 x2 x3 M → PW mX8_laysFits 9 350 106 [.ref 277, .int x1, .int x2, .int x3, .null] [] M (qV Q)) : ∀ (n : Nat) (x1 : Int32) (x2 : Int32) (x3 : Int32) (x4 : Int32) (M : pm), pG M → w_X8_laysFits_33 n x1 x2 x3 x4 M k106 Q → PW mX8_laysFits 9 350 33 [.ref 277, .int x1, .int x2, .int x3, .int x4] [] M (qV Q) := by
  intro n
  induction n with
  | zero => intro x1 x2 x3 x4 M hM h; exact h.elim
  | succ n ih =>
    intro x1 x2 x3 x4 M hM h
    unfold w_X8_laysFits_33 at h
    refine PW.iload (pc := 33) dX8_laysFits_33 rfl ?_
    refine PW.bipush (pc := 35) dX8_laysFits_35 (v := 30) (by decide) ?_
    refine PW.icmp_gt (pc := 37) dX8_laysFits_37 (t := 106) (by decide) (fun hc => ?_) (fun hc => ?_)
    · have h := h.1 hc
      exact PW.drop (hk106 _ _ _ _ hM h) ⟨rfl, rfl, rfl, rfl, trivial⟩
    · have h := h.2 hc
      refine PW.aload_n (pc := 40) dX8_laysFits_40 rfl ?_
      refine PW.inv (m' := mX8_laysBest) (pc := 41) dX8_laysFits_41 lm_X8_479 me_X8_laysBest mi_X8_laysBest (ob hM.1 s_277 (by decide)) rfl (As := []) (st := []) rfl (Nat.le_of_ble_eq_true rfl) (Nat.le_of_ble_eq_true rfl) (Nat.le_of_eq hM.1) (Nat.le_refl _) (PW.deep (by decide) (c_X8_laysBest  hM h)) ?_
      rintro _ M8 ⟨hM10, rfl, h⟩
      refine PW.iload_n (pc := 44) dX8_laysFits_44 rfl ?_
      refine PW.if_eq (pc := 45) dX8_laysFits_45 (t := 61) (by decide) (fun hc => ?_) (fun hc => ?_)
      · have h := h.1 hc
        refine PW.iconst (pc := 61) dX8_laysFits_61 (v := 0) (by decide) ?_
        exact PW.drop (c_X8_laysFits_62 ih hk106 _ _ _ _ _ hM10 h) ⟨rfl, rfl, rfl, rfl, trivial⟩
      · have h := h.2 hc
        refine PW.aload_n (pc := 48) dX8_laysFits_48 rfl ?_
        refine PW.iload (pc := 49) dX8_laysFits_49 rfl ?_
        refine PW.inv (m' := mX8_isAsSeen) (pc := 51) dX8_laysFits_51 lm_X8_557 me_X8_isAsSeen mi_X8_isAsSeen (ob hM10.1 s_277 (by decide)) rfl (As := [.int x4]) (st := []) rfl (Nat.le_of_ble_eq_true rfl) (Nat.le_of_ble_eq_true rfl) (Nat.le_of_eq hM10.1) (Nat.le_refl _) (PW.deep (by decide) (c_X8_isAsSeen  hM10 h)) ?_
        rintro _ M19 ⟨hM21, y20, rfl, z22, h⟩
        refine PW.if_eq (pc := 54) dX8_laysFits_54 (t := 61) (by decide) (fun hc => ?_) (fun hc => ?_)
        · have h := h.1 hc
          refine PW.iconst (pc := 61) dX8_laysFits_61 (v := 0) (by decide) ?_
          exact PW.drop (c_X8_laysFits_62 ih hk106 _ _ _ _ _ hM21 h) ⟨rfl, rfl, rfl, rfl, trivial⟩
        · have h := h.2 hc
          refine PW.iconst (pc := 57) dX8_laysFits_57 (v := 1) (by decide) ?_
          refine PW.goto (pc := 58) dX8_laysFits_58 (t := 62) (by decide) ?_
          exact PW.drop (c_X8_laysFits_62 ih hk106 _ _ _ _ _ hM21 h) ⟨rfl, rfl, rfl, rfl, trivial⟩
def w_X8_laysFits_11 : Nat → Int32 → Int32 → pm → (pm → Prop) → Prop
  | 0, _, _, _, _ => False
  | n + 1, x1, x2, M, Q => ((100 ≤ x2 → (w_X8_takesBack  M (fun M4 => Q M4))) ∧ (¬ 100 ≤ x2 → (vp_in (4 + (5 * x1)) 163 ∧ (∃ n23, w_X8_laysFits_33 n23 x1 x2 1 0 (sI M 317 ((4 + (5 * x1)).toNatClampNeg) x2) (fun x1 x2 x3 M24 => w_X8_triesAnew  M24 (fun M25 => vp_in x2 100 ∧ ((x3 = 0 → (w_X8_laysFits_11 n x1 (x2 + 1) (sI M25 324 x2.toNatClampNeg (vp_nar .boolean x3)) Q)) ∧ (¬ x3 = 0 → (w_X8_laysFits_11 n x1 (x2 + 1) (sI (sI M25 324 x2.toNatClampNeg (vp_nar .boolean x3)) 277 67 ((mI M25 277 67) + 1)) Q))))) Q))))
set_option maxRecDepth 4000 in
theorem c_X8_laysFits_11  {Q : pm → Prop}  : ∀ (n : Nat) (x1 : Int32) (x2 : Int32) (M : pm), pG M → w_X8_laysFits_11 n x1 x2 M  Q → PW mX8_laysFits 9 350 11 [.ref 277, .int x1, .int x2, .null, .null] [] M (qV Q) := by
  intro n
  induction n with
  | zero => intro x1 x2 M hM h; exact h.elim
  | succ n ih =>
    intro x1 x2 M hM h
    unfold w_X8_laysFits_11 at h
    refine PW.iload_n (pc := 11) dX8_laysFits_11 rfl ?_
    refine PW.bipush (pc := 12) dX8_laysFits_12 (v := 100) (by decide) ?_
    refine PW.icmp_ge (pc := 14) dX8_laysFits_14 (t := 137) (by decide) (fun hc => ?_) (fun hc => ?_)
    · have h := h.1 hc
      refine PW.aload_n (pc := 137) dX8_laysFits_137 rfl ?_
      refine PW.inv (m' := mX8_takesBack) (pc := 138) dX8_laysFits_138 lm_X8_524 me_X8_takesBack mi_X8_takesBack (ob hM.1 s_277 (by decide)) rfl (As := []) (st := []) rfl (Nat.le_of_ble_eq_true rfl) (Nat.le_of_ble_eq_true rfl) (Nat.le_of_eq hM.1) (Nat.le_refl _) (PW.deep (by decide) (c_X8_takesBack  hM h)) ?_
      rintro _ M4 ⟨hM6, rfl, h⟩
      exact PW.ret0 (pc := 141) dX8_laysFits_141 hM6.1 rfl ⟨hM6, rfl, h⟩
    · have h := h.2 hc
      refine PW.aload_n (pc := 17) dX8_laysFits_17 rfl ?_
      refine PW.getR (pc := 18) dX8_laysFits_18 (r := 317) lf_X8_133 (ob hM.1 s_277 (by decide)) fx_8_52 (oR_8_52 hM s_277) (pS_ne s_317) ?_
      refine PW.iconst (pc := 21) dX8_laysFits_21 (v := 4) (by decide) ?_
      refine PW.iconst (pc := 22) dX8_laysFits_22 (v := 5) (by decide) ?_
      refine PW.iload_n (pc := 23) dX8_laysFits_23 rfl ?_
      refine PW.imul (pc := 24) dX8_laysFits_24 ?_
      refine PW.iadd (pc := 25) dX8_laysFits_25 ?_
      refine PW.iload_n (pc := 26) dX8_laysFits_26 rfl ?_
      obtain ⟨v7, h⟩ := h
      refine PW.iast (pc := 27) dX8_laysFits_27 (ar hM.1 s_317) (vpl n_317 v7) ?_
      refine PW.iconst (pc := 28) dX8_laysFits_28 (v := 1) (by decide) ?_
      refine PW.istore_n (pc := 29) dX8_laysFits_29 (ls' := [.ref 277, .int x1, .int x2, .int 1, .null]) (by decide) rfl rfl ?_
      refine PW.iconst (pc := 30) dX8_laysFits_30 (v := 0) (by decide) ?_
      refine PW.istore (pc := 31) dX8_laysFits_31 (ls' := [.ref 277, .int x1, .int x2, .int 1, .int 0]) (by decide) rfl rfl ?_
      obtain ⟨n23, h⟩ := h
      refine PW.drop (c_X8_laysFits_33 ?_ n23 _ _ _ _ _ (hM.same rfl rfl) h) ⟨rfl, rfl, rfl, rfl, rfl, trivial⟩
      · intro x1 x2 x3 M24 hM h
        refine PW.aload_n (pc := 106) dX8_laysFits_106 rfl ?_
        refine PW.inv (m' := mX8_triesAnew) (pc := 107) dX8_laysFits_107 lm_X8_488 me_X8_triesAnew mi_X8_triesAnew (ob hM.1 s_277 (by decide)) rfl (As := []) (st := []) rfl (Nat.le_of_ble_eq_true rfl) (Nat.le_of_ble_eq_true rfl) (Nat.le_of_eq hM.1) (Nat.le_refl _) (PW.deep (by decide) (c_X8_triesAnew  hM h)) ?_
        rintro _ M25 ⟨hM27, rfl, h⟩
        refine PW.aload_n (pc := 110) dX8_laysFits_110 rfl ?_
        refine PW.getR (pc := 111) dX8_laysFits_111 (r := 324) lf_X8_155 (ob hM27.1 s_277 (by decide)) fx_8_66 (oR_8_66 hM27 s_277) (pS_ne s_324) ?_
        refine PW.iload_n (pc := 114) dX8_laysFits_114 rfl ?_
        refine PW.iload_n (pc := 115) dX8_laysFits_115 rfl ?_
        obtain ⟨v28, h⟩ := h
        refine PW.zast (pc := 116) dX8_laysFits_116 (ar hM27.1 s_324) (vpl n_324 v28) ?_
        refine PW.iload_n (pc := 117) dX8_laysFits_117 rfl ?_
        refine PW.if_eq (pc := 118) dX8_laysFits_118 (t := 131) (by decide) (fun hc => ?_) (fun hc => ?_)
        · have h := h.1 hc
          refine PW.iinc (pc := 131) dX8_laysFits_131 (v := (x2 + 1)) (ls' := [.ref 277, .int x1, .int (x2 + 1), .int x3, .null]) rfl rfl (by decide) rfl rfl ?_
          refine PW.goto (pc := 134) dX8_laysFits_134 (t := 11) (by decide) ?_
          exact PW.drop (ih _ _ _ (hM27.same rfl rfl) h) ⟨rfl, rfl, rfl, trivial⟩
        · have h := h.2 hc
          refine PW.aload_n (pc := 121) dX8_laysFits_121 rfl ?_
          refine PW.dupR (pc := 122) dX8_laysFits_122 ?_
          refine PW.getI (pc := 123) dX8_laysFits_123 lf_X8_554 (ob hM27.1 s_277 (by decide)) fx_8_67 ?_
          refine PW.iconst (pc := 126) dX8_laysFits_126 (v := 1) (by decide) ?_
          refine PW.iadd (pc := 127) dX8_laysFits_127 ?_
          refine PW.putI (pc := 128) dX8_laysFits_128 lf_X8_554 (ob hM27.1 s_277 (by decide)) fx_8_67 fw_8_67 rfl rfl ?_
          refine PW.iinc (pc := 131) dX8_laysFits_131 (v := (x2 + 1)) (ls' := [.ref 277, .int x1, .int (x2 + 1), .int x3, .null]) rfl rfl (by decide) rfl rfl ?_
          refine PW.goto (pc := 134) dX8_laysFits_134 (t := 11) (by decide) ?_
          exact PW.drop (ih _ _ _ (hM27.same rfl rfl) h) ⟨rfl, rfl, rfl, trivial⟩
def w_X8_laysFits (x1 : Int32) (M : pm) (Q : pm → Prop) : Prop := w_X8_putsAside  M (fun M1 => ∃ n29, w_X8_laysFits_11 n29 x1 0 (sI M1 277 67 0)  Q)
set_option maxRecDepth 4000 in
theorem c_X8_laysFits {x1 : Int32} {M : pm} {Q : pm → Prop}  (hM : pG M) (h : w_X8_laysFits x1 M Q) : PW mX8_laysFits 9 350 0 (pfr mX8_laysFits.2.2.1 [.ref 277, .int x1]) [] M (qV Q) := by
  unfold w_X8_laysFits at h
  show PW mX8_laysFits 9 350 0 [.ref 277, .int x1, .null, .null, .null] [] M (qV Q)
  refine PW.aload_n (pc := 0) dX8_laysFits_0 rfl ?_
  refine PW.inv (m' := mX8_putsAside) (pc := 1) dX8_laysFits_1 lm_X8_518 me_X8_putsAside mi_X8_putsAside (ob hM.1 s_277 (by decide)) rfl (As := []) (st := []) rfl (Nat.le_of_ble_eq_true rfl) (Nat.le_of_ble_eq_true rfl) (Nat.le_of_eq hM.1) (Nat.le_refl _) (PW.deep (by decide) (c_X8_putsAside  hM h)) ?_
  rintro _ M1 ⟨hM3, rfl, h⟩
  refine PW.aload_n (pc := 4) dX8_laysFits_4 rfl ?_
  refine PW.iconst (pc := 5) dX8_laysFits_5 (v := 0) (by decide) ?_
  refine PW.putI (pc := 6) dX8_laysFits_6 lf_X8_554 (ob hM3.1 s_277 (by decide)) fx_8_67 fw_8_67 rfl rfl ?_
  refine PW.iconst (pc := 9) dX8_laysFits_9 (v := 0) (by decide) ?_
  refine PW.istore_n (pc := 10) dX8_laysFits_10 (ls' := [.ref 277, .int x1, .int 0, .null, .null]) (by decide) rfl rfl ?_
  obtain ⟨n29, h⟩ := h
  refine PW.drop (c_X8_laysFits_11  n29 _ _ _ (hM3.same rfl rfl) h) ⟨rfl, rfl, rfl, trivial⟩
