/-! methods, walked by program: w_ what must hold before, c_ its proof -/
def w_X8_fits_35 : Nat → Int32 → Int32 → Int32 → Int32 → pm → (Int32 → Int32 → Int32 → pm → Prop) → (Int32 → pm → Prop) → Prop
  | 0, _, _, _, _, _, _, _ => False
  | n + 1, x2, x3, x4, x5, M, k73, Q => ((100 ≤ x5 → (k73 x2 x3 x4 M)) ∧ (¬ 100 ≤ x5 → (vp_in x5 100 ∧ ((¬ (mI M 324 x5.toNatClampNeg) = 0 → ((¬ x3 = (-1) → (w_X8_fits_35 n x2 x3 x5 (x5 + 1) M k73 Q)) ∧ (x3 = (-1) → (w_X8_fits_35 n x2 x5 x5 (x5 + 1) M k73 Q)))) ∧ ((mI M 324 x5.toNatClampNeg) = 0 → (w_X8_fits_35 n x2 x3 x4 (x5 + 1) M k73 Q))))))
set_option maxRecDepth 4000 in
theorem c_X8_fits_35 {k73 : Int32 → Int32 → Int32 → pm → Prop} {Q : Int32 → pm → Prop} (hk73 : ∀ (x2 : Int32) (x3 : Int32) (x4 : Int32) (M : pm), pG M → k73 x2 x3 x4 M → PW mX8_fits 10 350 73 [.ref 277, .null, .int x2, .int x3, .int x4, .null] [] M (qI Q)) : ∀ (n : Nat) (x2 : Int32) (x3 : Int32) (x4 : Int32) (x5 : Int32) (M : pm), pG M → w_X8_fits_35 n x2 x3 x4 x5 M k73 Q → PW mX8_fits 10 350 35 [.ref 277, .null, .int x2, .int x3, .int x4, .int x5] [] M (qI Q) := by
  intro n
  induction n with
  | zero => intro x2 x3 x4 x5 M hM h; exact h.elim
  | succ n ih =>
    intro x2 x3 x4 x5 M hM h
    unfold w_X8_fits_35 at h
    refine PW.iload (pc := 35) dX8_fits_35 rfl ?_
    refine PW.bipush (pc := 37) dX8_fits_37 (v := 100) (by decide) ?_
    refine PW.icmp_ge (pc := 39) dX8_fits_39 (t := 73) (by decide) (fun hc => ?_) (fun hc => ?_)
    · have h := h.1 hc
      exact PW.drop (hk73 _ _ _ _ hM h) ⟨rfl, rfl, rfl, rfl, trivial⟩
    · have h := h.2 hc
      refine PW.aload_n (pc := 42) dX8_fits_42 rfl ?_
      refine PW.getR (pc := 43) dX8_fits_43 (r := 324) lf_X8_155 (ob hM.1 s_277 (by decide)) fx_8_66 (oR_8_66 hM s_277) (pS_ne s_324) ?_
      refine PW.iload (pc := 46) dX8_fits_46 rfl ?_
      obtain ⟨v12, h⟩ := h
      refine PW.zald (pc := 48) dX8_fits_48 (ar hM.1 s_324) (vpl n_324 v12) ?_
      refine PW.if_ne (pc := 49) dX8_fits_49 (t := 55) (by decide) (fun hc => ?_) (fun hc => ?_)
      · have h := h.1 hc
        refine PW.iload_n (pc := 55) dX8_fits_55 rfl ?_
        refine PW.iconst (pc := 56) dX8_fits_56 (v := (-1)) (by decide) ?_
        refine PW.icmp_ne (pc := 57) dX8_fits_57 (t := 63) (by decide) (fun hc => ?_) (fun hc => ?_)
        · have h := h.1 hc
          refine PW.iload (pc := 63) dX8_fits_63 rfl ?_
          refine PW.istore (pc := 65) dX8_fits_65 (ls' := [.ref 277, .null, .int x2, .int x3, .int x5, .int x5]) (by decide) rfl rfl ?_
          refine PW.iinc (pc := 67) dX8_fits_67 (v := (x5 + 1)) (ls' := [.ref 277, .null, .int x2, .int x3, .int x5, .int (x5 + 1)]) rfl rfl (by decide) rfl rfl ?_
          refine PW.goto (pc := 70) dX8_fits_70 (t := 35) (by decide) ?_
          exact PW.drop (ih _ _ _ _ _ hM h) ⟨rfl, rfl, rfl, rfl, rfl, trivial⟩
        · have h := h.2 hc
          refine PW.iload (pc := 60) dX8_fits_60 rfl ?_
          refine PW.istore_n (pc := 62) dX8_fits_62 (ls' := [.ref 277, .null, .int x2, .int x5, .int x4, .int x5]) (by decide) rfl rfl ?_
          refine PW.iload (pc := 63) dX8_fits_63 rfl ?_
          refine PW.istore (pc := 65) dX8_fits_65 (ls' := [.ref 277, .null, .int x2, .int x5, .int x5, .int x5]) (by decide) rfl rfl ?_
          refine PW.iinc (pc := 67) dX8_fits_67 (v := (x5 + 1)) (ls' := [.ref 277, .null, .int x2, .int x5, .int x5, .int (x5 + 1)]) rfl rfl (by decide) rfl rfl ?_
          refine PW.goto (pc := 70) dX8_fits_70 (t := 35) (by decide) ?_
          exact PW.drop (ih _ _ _ _ _ hM h) ⟨rfl, rfl, rfl, rfl, rfl, trivial⟩
      · have h := h.2 hc
        refine PW.goto (pc := 52) dX8_fits_52 (t := 67) (by decide) ?_
        refine PW.iinc (pc := 67) dX8_fits_67 (v := (x5 + 1)) (ls' := [.ref 277, .null, .int x2, .int x3, .int x4, .int (x5 + 1)]) rfl rfl (by decide) rfl rfl ?_
        refine PW.goto (pc := 70) dX8_fits_70 (t := 35) (by decide) ?_
        exact PW.drop (ih _ _ _ _ _ hM h) ⟨rfl, rfl, rfl, rfl, rfl, trivial⟩
def w_X8_fits (x1 : Int32) (x2 : Int32) (M : pm) (Q : Int32 → pm → Prop) : Prop := w_X8_isAsker x1 M (fun y2 M1 => ((y2 = 0 → (Q (-1) M1)) ∧ (¬ y2 = 0 → (w_X8_isIn (Int32.toInt64 x2) (0 : Int64) (2 : Int64) M1 (fun y6 M5 => ((¬ y6 = 0 → (w_X8_laysFits x1 M5 (fun M9 => ∃ n13, w_X8_fits_35 n13 x2 (-1) (-1) 0 M9 (fun x2 x3 x4 M14 => ((¬ x2 = 0 → ((¬ x2 = 1 → (Q x4 M14)) ∧ (x2 = 1 → (Q x3 M14)))) ∧ (x2 = 0 → (Q (mI M14 277 67) M14)))) Q))) ∧ (y6 = 0 → (Q (-1) M5))))))))
set_option maxRecDepth 4000 in
theorem c_X8_fits {x1 : Int32} {x2 : Int32} {M : pm} {Q : Int32 → pm → Prop}  (hM : pG M) (h : w_X8_fits x1 x2 M Q) : PW mX8_fits 10 350 0 (pfr mX8_fits.2.2.1 [.ref 277, .int x1, .int x2]) [] M (qI Q) := by
  unfold w_X8_fits at h
  show PW mX8_fits 10 350 0 [.ref 277, .int x1, .int x2, .null, .null, .null] [] M (qI Q)
  refine PW.aload_n (pc := 0) dX8_fits_0 rfl ?_
  refine PW.iload_n (pc := 1) dX8_fits_1 rfl ?_
  refine PW.inv (m' := mX8_isAsker) (pc := 2) dX8_fits_2 lm_X8_507 me_X8_isAsker mi_X8_isAsker (ob hM.1 s_277 (by decide)) rfl (As := [.int x1]) (st := []) rfl (Nat.le_of_ble_eq_true rfl) (Nat.le_of_ble_eq_true rfl) (Nat.le_of_eq hM.1) (Nat.le_refl _) (PW.deep (by decide) (c_X8_isAsker  hM h)) ?_
  rintro _ M1 ⟨hM3, y2, rfl, z4, h⟩
  refine PW.if_eq (pc := 5) dX8_fits_5 (t := 20) (by decide) (fun hc => ?_) (fun hc => ?_)
  · have h := h.1 hc
    refine PW.iconst (pc := 20) dX8_fits_20 (v := (-1)) (by decide) ?_
    exact PW.retI (pc := 21) dX8_fits_21 hM3.1 rfl rfl ⟨hM3, _, rfl, h⟩
  · have h := h.2 hc
    refine PW.iload_n (pc := 8) dX8_fits_8 rfl ?_
    refine PW.i2l (pc := 9) dX8_fits_9 ?_
    refine PW.lconst (pc := 10) dX8_fits_10 (v := 0) (by decide) ?_
    refine PW.ldc2 (pc := 11) dX8_fits_11 lk_X8_500 ?_
    refine PW.ins (m' := mX8_isIn) (pc := 14) dX8_fits_14 lm_X8_289 me_X8_isIn ms_X8_isIn (As := [.long (Int32.toInt64 x2), .long (0 : Int64), .long (2 : Int64)]) (st := []) rfl (Nat.le_of_ble_eq_true rfl) (Nat.le_of_ble_eq_true rfl) (Nat.le_of_eq hM3.1) (Nat.le_refl _) (PW.deep (by decide) (c_X8_isIn  hM3 h)) ?_
    rintro _ M5 ⟨hM7, y6, rfl, z8, h⟩
    refine PW.if_ne (pc := 17) dX8_fits_17 (t := 22) (by decide) (fun hc => ?_) (fun hc => ?_)
    · have h := h.1 hc
      refine PW.aload_n (pc := 22) dX8_fits_22 rfl ?_
      refine PW.iload_n (pc := 23) dX8_fits_23 rfl ?_
      refine PW.inv (m' := mX8_laysFits) (pc := 24) dX8_fits_24 lm_X8_560 me_X8_laysFits mi_X8_laysFits (ob hM7.1 s_277 (by decide)) rfl (As := [.int x1]) (st := []) rfl (Nat.le_of_ble_eq_true rfl) (Nat.le_of_ble_eq_true rfl) (Nat.le_of_eq hM7.1) (Nat.le_refl _) (PW.deep (by decide) (c_X8_laysFits  hM7 h)) ?_
      rintro _ M9 ⟨hM11, rfl, h⟩
      refine PW.iconst (pc := 27) dX8_fits_27 (v := (-1)) (by decide) ?_
      refine PW.istore_n (pc := 28) dX8_fits_28 (ls' := [.ref 277, .int x1, .int x2, .int (-1), .null, .null]) (by decide) rfl rfl ?_
      refine PW.iconst (pc := 29) dX8_fits_29 (v := (-1)) (by decide) ?_
      refine PW.istore (pc := 30) dX8_fits_30 (ls' := [.ref 277, .int x1, .int x2, .int (-1), .int (-1), .null]) (by decide) rfl rfl ?_
      refine PW.iconst (pc := 32) dX8_fits_32 (v := 0) (by decide) ?_
      refine PW.istore (pc := 33) dX8_fits_33 (ls' := [.ref 277, .int x1, .int x2, .int (-1), .int (-1), .int 0]) (by decide) rfl rfl ?_
      obtain ⟨n13, h⟩ := h
      refine PW.drop (c_X8_fits_35 ?_ n13 _ _ _ _ _ hM11 h) ⟨rfl, rfl, rfl, rfl, rfl, trivial⟩
      · intro x2 x3 x4 M14 hM h
        refine PW.iload_n (pc := 73) dX8_fits_73 rfl ?_
        refine PW.if_ne (pc := 74) dX8_fits_74 (t := 84) (by decide) (fun hc => ?_) (fun hc => ?_)
        · have h := h.1 hc
          refine PW.iload_n (pc := 84) dX8_fits_84 rfl ?_
          refine PW.iconst (pc := 85) dX8_fits_85 (v := 1) (by decide) ?_
          refine PW.icmp_ne (pc := 86) dX8_fits_86 (t := 93) (by decide) (fun hc => ?_) (fun hc => ?_)
          · have h := h.1 hc
            refine PW.iload (pc := 93) dX8_fits_93 rfl ?_
            exact PW.retI (pc := 95) dX8_fits_95 hM.1 rfl rfl ⟨hM, _, rfl, h⟩
          · have h := h.2 hc
            refine PW.iload_n (pc := 89) dX8_fits_89 rfl ?_
            refine PW.goto (pc := 90) dX8_fits_90 (t := 95) (by decide) ?_
            exact PW.retI (pc := 95) dX8_fits_95 hM.1 rfl rfl ⟨hM, _, rfl, h⟩
        · have h := h.2 hc
          refine PW.aload_n (pc := 77) dX8_fits_77 rfl ?_
          refine PW.getI (pc := 78) dX8_fits_78 lf_X8_554 (ob hM.1 s_277 (by decide)) fx_8_67 ?_
          refine PW.goto (pc := 81) dX8_fits_81 (t := 95) (by decide) ?_
          exact PW.retI (pc := 95) dX8_fits_95 hM.1 rfl rfl ⟨hM, _, rfl, h⟩
    · have h := h.2 hc
      refine PW.iconst (pc := 20) dX8_fits_20 (v := (-1)) (by decide) ?_
      exact PW.retI (pc := 21) dX8_fits_21 hM7.1 rfl rfl ⟨hM7, _, rfl, h⟩
def w_X8_tells_58 : Nat → Int32 → Int32 → Int32 → Int32 → Int32 → Int32 → pm → (Int32 → Int32 → Int32 → Int32 → Int32 → pm → Prop) → (Int32 → pm → Prop) → Prop
  | 0, _, _, _, _, _, _, _, _, _ => False
  | n + 1, x2, x3, x4, x5, x6, x7, M, k100, Q => ((100 ≤ x7 → (k100 x2 x3 x4 x5 x6 M)) ∧ (¬ 100 ≤ x7 → (vp_in x7 100 ∧ (((mI M 324 x7.toNatClampNeg) = 0 → (w_X8_tells_58 n x2 x3 x4 x5 x6 (x7 + 1) M k100 Q)) ∧ (¬ (mI M 324 x7.toNatClampNeg) = 0 → (vp_in ((31 * x7) + x5) 3100 ∧ (((mI M 323 (((31 * x7) + x5).toNatClampNeg)) = 0 → (w_X8_tells_58 n x2 x3 x4 x5 x6 (x7 + 1) M k100 Q)) ∧ (¬ (mI M 323 (((31 * x7) + x5).toNatClampNeg)) = 0 → (w_X8_tells_58 n x2 x3 x4 x5 (x6 + 1) (x7 + 1) M k100 Q)))))))))
set_option maxRecDepth 4000 in
theorem c_X8_tells_58 {k100 : Int32 → Int32 → Int32 → Int32 → Int32 → pm → Prop} {Q : Int32 → pm → Prop} (hk100 : ∀ (x2 : Int32) (x3 : Int32) (x4 : Int32) (x5 : Int32) (x6 : Int32) (M : pm), pG M → k100 x2 x3 x4 x5 x6 M → PW mX8_tells 10 350 100 [.ref 277, .null, .int x2, .int x3, .int x4, .int x5, .int x6, .null] [] M (qI Q)) : ∀ (n : Nat) (x2 : Int32) (x3 : Int32) (x4 : Int32) (x5 : Int32) (x6 : Int32) (x7 : Int32) (M : pm), pG M → w_X8_tells_58 n x2 x3 x4 x5 x6 x7 M k100 Q → PW mX8_tells 10 350 58 [.ref 277, .null, .int x2, .int x3, .int x4, .int x5, .int x6, .int x7] [] M (qI Q) := by
  intro n
  induction n with
  | zero => intro x2 x3 x4 x5 x6 x7 M hM h; exact h.elim
  | succ n ih =>
    intro x2 x3 x4 x5 x6 x7 M hM h
    unfold w_X8_tells_58 at h
    refine PW.iload (pc := 58) dX8_tells_58 rfl ?_
    refine PW.bipush (pc := 60) dX8_tells_60 (v := 100) (by decide) ?_
    refine PW.icmp_ge (pc := 62) dX8_tells_62 (t := 100) (by decide) (fun hc => ?_) (fun hc => ?_)
    · have h := h.1 hc
      exact PW.drop (hk100 _ _ _ _ _ _ hM h) ⟨rfl, rfl, rfl, rfl, rfl, rfl, trivial⟩
    · have h := h.2 hc
      refine PW.aload_n (pc := 65) dX8_tells_65 rfl ?_
      refine PW.getR (pc := 66) dX8_tells_66 (r := 324) lf_X8_155 (ob hM.1 s_277 (by decide)) fx_8_66 (oR_8_66 hM s_277) (pS_ne s_324) ?_
      refine PW.iload (pc := 69) dX8_tells_69 rfl ?_
      obtain ⟨v16, h⟩ := h
      refine PW.zald (pc := 71) dX8_tells_71 (ar hM.1 s_324) (vpl n_324 v16) ?_
      refine PW.if_eq (pc := 72) dX8_tells_72 (t := 94) (by decide) (fun hc => ?_) (fun hc => ?_)
      · have h := h.1 hc
        refine PW.iinc (pc := 94) dX8_tells_94 (v := (x7 + 1)) (ls' := [.ref 277, .null, .int x2, .int x3, .int x4, .int x5, .int x6, .int (x7 + 1)]) rfl rfl (by decide) rfl rfl ?_
        refine PW.goto (pc := 97) dX8_tells_97 (t := 58) (by decide) ?_
        exact PW.drop (ih _ _ _ _ _ _ _ hM h) ⟨rfl, rfl, rfl, rfl, rfl, rfl, rfl, trivial⟩
      · have h := h.2 hc
        refine PW.aload_n (pc := 75) dX8_tells_75 rfl ?_
        refine PW.getR (pc := 76) dX8_tells_76 (r := 323) lf_X8_151 (ob hM.1 s_277 (by decide)) fx_8_65 (oR_8_65 hM s_277) (pS_ne s_323) ?_
        refine PW.bipush (pc := 79) dX8_tells_79 (v := 31) (by decide) ?_
        refine PW.iload (pc := 81) dX8_tells_81 rfl ?_
        refine PW.imul (pc := 83) dX8_tells_83 ?_
        refine PW.iload (pc := 84) dX8_tells_84 rfl ?_
        refine PW.iadd (pc := 86) dX8_tells_86 ?_
        obtain ⟨v17, h⟩ := h
        refine PW.zald (pc := 87) dX8_tells_87 (ar hM.1 s_323) (vpl n_323 v17) ?_
        refine PW.if_eq (pc := 88) dX8_tells_88 (t := 94) (by decide) (fun hc => ?_) (fun hc => ?_)
        · have h := h.1 hc
          refine PW.iinc (pc := 94) dX8_tells_94 (v := (x7 + 1)) (ls' := [.ref 277, .null, .int x2, .int x3, .int x4, .int x5, .int x6, .int (x7 + 1)]) rfl rfl (by decide) rfl rfl ?_
          refine PW.goto (pc := 97) dX8_tells_97 (t := 58) (by decide) ?_
          exact PW.drop (ih _ _ _ _ _ _ _ hM h) ⟨rfl, rfl, rfl, rfl, rfl, rfl, rfl, trivial⟩
        · have h := h.2 hc
          refine PW.iinc (pc := 91) dX8_tells_91 (v := (x6 + 1)) (ls' := [.ref 277, .null, .int x2, .int x3, .int x4, .int x5, .int (x6 + 1), .int x7]) rfl rfl (by decide) rfl rfl ?_
          refine PW.iinc (pc := 94) dX8_tells_94 (v := (x7 + 1)) (ls' := [.ref 277, .null, .int x2, .int x3, .int x4, .int x5, .int (x6 + 1), .int (x7 + 1)]) rfl rfl (by decide) rfl rfl ?_
          refine PW.goto (pc := 97) dX8_tells_97 (t := 58) (by decide) ?_
          exact PW.drop (ih _ _ _ _ _ _ _ hM h) ⟨rfl, rfl, rfl, rfl, rfl, rfl, rfl, trivial⟩
def w_X8_tells_124  (x2 : Int32) (x3 : Int32) (x4 : Int32) (x5 : Int32) (t0 : Int32) (M : pm) (r : Int32 → Int32 → Int32 → Int32 → pm → Prop) (k154 : Int32 → Int32 → Int32 → pm → Prop) (Q : Int32 → pm → Prop) : Prop := ((x3 = (-1) → (r x2 x5 t0 (x5 + 1) M)) ∧ (¬ x3 = (-1) → ((t0 < x4 → (r x2 x5 t0 (x5 + 1) M)) ∧ (¬ t0 < x4 → (r x2 x3 x4 (x5 + 1) M)))))
set_option maxRecDepth 4000 in
theorem c_X8_tells_124 {r : Int32 → Int32 → Int32 → Int32 → pm → Prop} {k154 : Int32 → Int32 → Int32 → pm → Prop} {Q : Int32 → pm → Prop} (hr : ∀ (x2 : Int32) (x3 : Int32) (x4 : Int32) (x5 : Int32) (M : pm), pG M → r x2 x3 x4 x5 M → PW mX8_tells 10 350 33 [.ref 277, .null, .int x2, .int x3, .int x4, .int x5, .null, .null] [] M (qI Q)) (hk154 : ∀ (x2 : Int32) (x3 : Int32) (x4 : Int32) (M : pm), pG M → k154 x2 x3 x4 M → PW mX8_tells 10 350 154 [.ref 277, .null, .int x2, .int x3, .int x4, .null, .null, .null] [] M (qI Q)) : ∀ (x2 : Int32) (x3 : Int32) (x4 : Int32) (x5 : Int32) (t0 : Int32) (M : pm), pG M → w_X8_tells_124 x2 x3 x4 x5 t0 M r k154 Q → PW mX8_tells 10 350 124 [.ref 277, .null, .int x2, .int x3, .int x4, .int x5, .null, .null] [.int t0] M (qI Q) := by
  intro x2 x3 x4 x5 t0 M hM h
  unfold w_X8_tells_124 at h
  refine PW.istore (pc := 124) dX8_tells_124 (ls' := [.ref 277, .null, .int x2, .int x3, .int x4, .int x5, .null, .int t0]) (by decide) rfl rfl ?_
  refine PW.iload_n (pc := 126) dX8_tells_126 rfl ?_
  refine PW.iconst (pc := 127) dX8_tells_127 (v := (-1)) (by decide) ?_
  refine PW.icmp_eq (pc := 128) dX8_tells_128 (t := 141) (by decide) (fun hc => ?_) (fun hc => ?_)
  · have h := h.1 hc
    refine PW.iload (pc := 141) dX8_tells_141 rfl ?_
    refine PW.istore_n (pc := 143) dX8_tells_143 (ls' := [.ref 277, .null, .int x2, .int x5, .int x4, .int x5, .null, .int t0]) (by decide) rfl rfl ?_
    refine PW.iload (pc := 144) dX8_tells_144 rfl ?_
    refine PW.istore (pc := 146) dX8_tells_146 (ls' := [.ref 277, .null, .int x2, .int x5, .int t0, .int x5, .null, .int t0]) (by decide) rfl rfl ?_
    refine PW.iinc (pc := 148) dX8_tells_148 (v := (x5 + 1)) (ls' := [.ref 277, .null, .int x2, .int x5, .int t0, .int (x5 + 1), .null, .int t0]) rfl rfl (by decide) rfl rfl ?_
    refine PW.goto (pc := 151) dX8_tells_151 (t := 33) (by decide) ?_
    exact PW.drop (hr _ _ _ _ _ hM h) ⟨rfl, rfl, rfl, rfl, rfl, trivial⟩
  · have h := h.2 hc
    refine PW.iload (pc := 131) dX8_tells_131 rfl ?_
    refine PW.iload (pc := 133) dX8_tells_133 rfl ?_
    refine PW.icmp_lt (pc := 135) dX8_tells_135 (t := 141) (by decide) (fun hc => ?_) (fun hc => ?_)
    · have h := h.1 hc
      refine PW.iload (pc := 141) dX8_tells_141 rfl ?_
      refine PW.istore_n (pc := 143) dX8_tells_143 (ls' := [.ref 277, .null, .int x2, .int x5, .int x4, .int x5, .null, .int t0]) (by decide) rfl rfl ?_
      refine PW.iload (pc := 144) dX8_tells_144 rfl ?_
      refine PW.istore (pc := 146) dX8_tells_146 (ls' := [.ref 277, .null, .int x2, .int x5, .int t0, .int x5, .null, .int t0]) (by decide) rfl rfl ?_
      refine PW.iinc (pc := 148) dX8_tells_148 (v := (x5 + 1)) (ls' := [.ref 277, .null, .int x2, .int x5, .int t0, .int (x5 + 1), .null, .int t0]) rfl rfl (by decide) rfl rfl ?_
      refine PW.goto (pc := 151) dX8_tells_151 (t := 33) (by decide) ?_
      exact PW.drop (hr _ _ _ _ _ hM h) ⟨rfl, rfl, rfl, rfl, rfl, trivial⟩
    · have h := h.2 hc
      refine PW.goto (pc := 138) dX8_tells_138 (t := 148) (by decide) ?_
      refine PW.iinc (pc := 148) dX8_tells_148 (v := (x5 + 1)) (ls' := [.ref 277, .null, .int x2, .int x3, .int x4, .int (x5 + 1), .null, .int t0]) rfl rfl (by decide) rfl rfl ?_
      refine PW.goto (pc := 151) dX8_tells_151 (t := 33) (by decide) ?_
      exact PW.drop (hr _ _ _ _ _ hM h) ⟨rfl, rfl, rfl, rfl, rfl, trivial⟩
def w_X8_tells_33 : Nat → Int32 → Int32 → Int32 → Int32 → pm → (Int32 → Int32 → Int32 → pm → Prop) → (Int32 → pm → Prop) → Prop
  | 0, _, _, _, _, _, _, _ => False
  | n + 1, x2, x3, x4, x5, M, k154, Q => (((mI M 277 67) ≤ 0 → (k154 x2 x3 x4 M)) ∧ (¬ (mI M 277 67) ≤ 0 → (w_X8_isAhead x5 0 30 M (fun y13 M12 => ((y13 = 0 → (k154 x2 x3 x4 M12)) ∧ (¬ y13 = 0 → (∃ n18, w_X8_tells_58 n18 x2 x3 x4 x5 0 0 M12 (fun x2 x3 x4 x5 x6 M19 => ((x6 ≤ ((mI M19 277 67) - x6) → (w_X8_tells_124 x2 x3 x4 x5 ((mI M19 277 67) - x6) M19 (fun x2 x3 x4 x5 M => w_X8_tells_33 n x2 x3 x4 x5 M k154 Q) k154 Q)) ∧ (¬ x6 ≤ ((mI M19 277 67) - x6) → (w_X8_tells_124 x2 x3 x4 x5 x6 M19 (fun x2 x3 x4 x5 M => w_X8_tells_33 n x2 x3 x4 x5 M k154 Q) k154 Q)))) Q)))))))
set_option maxRecDepth 4000 in
theorem c_X8_tells_33 {k154 : Int32 → Int32 → Int32 → pm → Prop} {Q : Int32 → pm → Prop} (hk154 : ∀ (x2 : Int32) (x3 : Int32) (x4 : Int32) (M : pm), pG M → k154 x2 x3 x4 M → PW mX8_tells 10 350 154 [.ref 277, .null, .int x2, .int x3, .int x4, .null, .null, .null] [] M (qI Q)) : ∀ (n : Nat) (x2 : Int32) (x3 : Int32) (x4 : Int32) (x5 : Int32) (M : pm), pG M → w_X8_tells_33 n x2 x3 x4 x5 M k154 Q → PW mX8_tells 10 350 33 [.ref 277, .null, .int x2, .int x3, .int x4, .int x5, .null, .null] [] M (qI Q) := by
  intro n
  induction n with
  | zero => intro x2 x3 x4 x5 M hM h; exact h.elim
  | succ n ih =>
    intro x2 x3 x4 x5 M hM h
    unfold w_X8_tells_33 at h
    refine PW.aload_n (pc := 33) dX8_tells_33 rfl ?_
    refine PW.getI (pc := 34) dX8_tells_34 lf_X8_554 (ob hM.1 s_277 (by decide)) fx_8_67 ?_
    refine PW.if_le (pc := 37) dX8_tells_37 (t := 154) (by decide) (fun hc => ?_) (fun hc => ?_)
    · have h := h.1 hc
      exact PW.drop (hk154 _ _ _ _ hM h) ⟨rfl, rfl, rfl, rfl, trivial⟩
    · have h := h.2 hc
      refine PW.aload_n (pc := 40) dX8_tells_40 rfl ?_
      refine PW.iload (pc := 41) dX8_tells_41 rfl ?_
      refine PW.iconst (pc := 43) dX8_tells_43 (v := 0) (by decide) ?_
      refine PW.bipush (pc := 44) dX8_tells_44 (v := 30) (by decide) ?_
      refine PW.inv (m' := mX8_isAhead) (pc := 46) dX8_tells_46 lm_X8_515 me_X8_isAhead mi_X8_isAhead (ob hM.1 s_277 (by decide)) rfl (As := [.int x5, .int 0, .int 30]) (st := []) rfl (Nat.le_of_ble_eq_true rfl) (Nat.le_of_ble_eq_true rfl) (Nat.le_of_eq hM.1) (Nat.le_refl _) (PW.deep (by decide) (c_X8_isAhead  hM h)) ?_
      rintro _ M12 ⟨hM14, y13, rfl, z15, h⟩
      refine PW.if_eq (pc := 49) dX8_tells_49 (t := 154) (by decide) (fun hc => ?_) (fun hc => ?_)
      · have h := h.1 hc
        exact PW.drop (hk154 _ _ _ _ hM14 h) ⟨rfl, rfl, rfl, rfl, trivial⟩
      · have h := h.2 hc
        refine PW.iconst (pc := 52) dX8_tells_52 (v := 0) (by decide) ?_
        refine PW.istore (pc := 53) dX8_tells_53 (ls' := [.ref 277, .null, .int x2, .int x3, .int x4, .int x5, .int 0, .null]) (by decide) rfl rfl ?_
        refine PW.iconst (pc := 55) dX8_tells_55 (v := 0) (by decide) ?_
        refine PW.istore (pc := 56) dX8_tells_56 (ls' := [.ref 277, .null, .int x2, .int x3, .int x4, .int x5, .int 0, .int 0]) (by decide) rfl rfl ?_
        obtain ⟨n18, h⟩ := h
        refine PW.drop (c_X8_tells_58 ?_ n18 _ _ _ _ _ _ _ hM14 h) ⟨rfl, rfl, rfl, rfl, rfl, rfl, rfl, trivial⟩
        · intro x2 x3 x4 x5 x6 M19 hM h
          refine PW.iload (pc := 100) dX8_tells_100 rfl ?_
          refine PW.aload_n (pc := 102) dX8_tells_102 rfl ?_
          refine PW.getI (pc := 103) dX8_tells_103 lf_X8_554 (ob hM.1 s_277 (by decide)) fx_8_67 ?_
          refine PW.iload (pc := 106) dX8_tells_106 rfl ?_
          refine PW.isub (pc := 108) dX8_tells_108 ?_
          refine PW.icmp_le (pc := 109) dX8_tells_109 (t := 117) (by decide) (fun hc => ?_) (fun hc => ?_)
          · have h := h.1 hc
            refine PW.aload_n (pc := 117) dX8_tells_117 rfl ?_
            refine PW.getI (pc := 118) dX8_tells_118 lf_X8_554 (ob hM.1 s_277 (by decide)) fx_8_67 ?_
            refine PW.iload (pc := 121) dX8_tells_121 rfl ?_
            refine PW.isub (pc := 123) dX8_tells_123 ?_
            exact PW.drop (c_X8_tells_124 ih hk154 _ _ _ _ _ _ hM h) ⟨rfl, rfl, rfl, rfl, rfl, trivial⟩
          · have h := h.2 hc
            refine PW.iload (pc := 112) dX8_tells_112 rfl ?_
            refine PW.goto (pc := 114) dX8_tells_114 (t := 124) (by decide) ?_
            exact PW.drop (c_X8_tells_124 ih hk154 _ _ _ _ _ _ hM h) ⟨rfl, rfl, rfl, rfl, rfl, trivial⟩
def w_X8_tells_154  (x2 : Int32) (x3 : Int32) (x4 : Int32) (M : pm)  (Q : Int32 → pm → Prop) : Prop := ((¬ x3 = (-1) → ((¬ x2 = 0 → (Q x4 M)) ∧ (x2 = 0 → (Q x3 M)))) ∧ (x3 = (-1) → (Q (-1) M)))
set_option maxRecDepth 4000 in
theorem c_X8_tells_154  {Q : Int32 → pm → Prop}  : ∀ (x2 : Int32) (x3 : Int32) (x4 : Int32) (M : pm), pG M → w_X8_tells_154 x2 x3 x4 M  Q → PW mX8_tells 10 350 154 [.ref 277, .null, .int x2, .int x3, .int x4, .null, .null, .null] [] M (qI Q) := by
  intro x2 x3 x4 M hM h
  unfold w_X8_tells_154 at h
  refine PW.iload_n (pc := 154) dX8_tells_154 rfl ?_
  refine PW.iconst (pc := 155) dX8_tells_155 (v := (-1)) (by decide) ?_
  refine PW.icmp_ne (pc := 156) dX8_tells_156 (t := 163) (by decide) (fun hc => ?_) (fun hc => ?_)
  · have h := h.1 hc
    refine PW.iload_n (pc := 163) dX8_tells_163 rfl ?_
    refine PW.if_ne (pc := 164) dX8_tells_164 (t := 171) (by decide) (fun hc => ?_) (fun hc => ?_)
    · have h := h.1 hc
      refine PW.iload (pc := 171) dX8_tells_171 rfl ?_
      exact PW.retI (pc := 173) dX8_tells_173 hM.1 rfl rfl ⟨hM, _, rfl, h⟩
    · have h := h.2 hc
      refine PW.iload_n (pc := 167) dX8_tells_167 rfl ?_
      refine PW.goto (pc := 168) dX8_tells_168 (t := 173) (by decide) ?_
      exact PW.retI (pc := 173) dX8_tells_173 hM.1 rfl rfl ⟨hM, _, rfl, h⟩
  · have h := h.2 hc
    refine PW.iconst (pc := 159) dX8_tells_159 (v := (-1)) (by decide) ?_
    refine PW.goto (pc := 160) dX8_tells_160 (t := 173) (by decide) ?_
    exact PW.retI (pc := 173) dX8_tells_173 hM.1 rfl rfl ⟨hM, _, rfl, h⟩
def w_X8_tells (x1 : Int32) (x2 : Int32) (M : pm) (Q : Int32 → pm → Prop) : Prop := w_X8_isAsker x1 M (fun y2 M1 => ((y2 = 0 → (Q (-1) M1)) ∧ (¬ y2 = 0 → (w_X8_isIn (Int32.toInt64 x2) (0 : Int64) (1 : Int64) M1 (fun y6 M5 => ((¬ y6 = 0 → (w_X8_laysFits x1 M5 (fun M9 => ∃ n20, w_X8_tells_33 n20 x2 (-1) 0 0 M9 (fun x2 x3 x4 M21 => w_X8_tells_154 x2 x3 x4 M21  Q) Q))) ∧ (y6 = 0 → (Q (-1) M5))))))))
set_option maxRecDepth 4000 in
theorem c_X8_tells {x1 : Int32} {x2 : Int32} {M : pm} {Q : Int32 → pm → Prop}  (hM : pG M) (h : w_X8_tells x1 x2 M Q) : PW mX8_tells 10 350 0 (pfr mX8_tells.2.2.1 [.ref 277, .int x1, .int x2]) [] M (qI Q) := by
  unfold w_X8_tells at h
  show PW mX8_tells 10 350 0 [.ref 277, .int x1, .int x2, .null, .null, .null, .null, .null] [] M (qI Q)
  refine PW.aload_n (pc := 0) dX8_tells_0 rfl ?_
  refine PW.iload_n (pc := 1) dX8_tells_1 rfl ?_
  refine PW.inv (m' := mX8_isAsker) (pc := 2) dX8_tells_2 lm_X8_507 me_X8_isAsker mi_X8_isAsker (ob hM.1 s_277 (by decide)) rfl (As := [.int x1]) (st := []) rfl (Nat.le_of_ble_eq_true rfl) (Nat.le_of_ble_eq_true rfl) (Nat.le_of_eq hM.1) (Nat.le_refl _) (PW.deep (by decide) (c_X8_isAsker  hM h)) ?_
  rintro _ M1 ⟨hM3, y2, rfl, z4, h⟩
  refine PW.if_eq (pc := 5) dX8_tells_5 (t := 18) (by decide) (fun hc => ?_) (fun hc => ?_)
  · have h := h.1 hc
    refine PW.iconst (pc := 18) dX8_tells_18 (v := (-1)) (by decide) ?_
    exact PW.retI (pc := 19) dX8_tells_19 hM3.1 rfl rfl ⟨hM3, _, rfl, h⟩
  · have h := h.2 hc
    refine PW.iload_n (pc := 8) dX8_tells_8 rfl ?_
    refine PW.i2l (pc := 9) dX8_tells_9 ?_
    refine PW.lconst (pc := 10) dX8_tells_10 (v := 0) (by decide) ?_
    refine PW.lconst (pc := 11) dX8_tells_11 (v := 1) (by decide) ?_
    refine PW.ins (m' := mX8_isIn) (pc := 12) dX8_tells_12 lm_X8_289 me_X8_isIn ms_X8_isIn (As := [.long (Int32.toInt64 x2), .long (0 : Int64), .long (1 : Int64)]) (st := []) rfl (Nat.le_of_ble_eq_true rfl) (Nat.le_of_ble_eq_true rfl) (Nat.le_of_eq hM3.1) (Nat.le_refl _) (PW.deep (by decide) (c_X8_isIn  hM3 h)) ?_
    rintro _ M5 ⟨hM7, y6, rfl, z8, h⟩
    refine PW.if_ne (pc := 15) dX8_tells_15 (t := 20) (by decide) (fun hc => ?_) (fun hc => ?_)
    · have h := h.1 hc
      refine PW.aload_n (pc := 20) dX8_tells_20 rfl ?_
      refine PW.iload_n (pc := 21) dX8_tells_21 rfl ?_
      refine PW.inv (m' := mX8_laysFits) (pc := 22) dX8_tells_22 lm_X8_560 me_X8_laysFits mi_X8_laysFits (ob hM7.1 s_277 (by decide)) rfl (As := [.int x1]) (st := []) rfl (Nat.le_of_ble_eq_true rfl) (Nat.le_of_ble_eq_true rfl) (Nat.le_of_eq hM7.1) (Nat.le_refl _) (PW.deep (by decide) (c_X8_laysFits  hM7 h)) ?_
      rintro _ M9 ⟨hM11, rfl, h⟩
      refine PW.iconst (pc := 25) dX8_tells_25 (v := (-1)) (by decide) ?_
      refine PW.istore_n (pc := 26) dX8_tells_26 (ls' := [.ref 277, .int x1, .int x2, .int (-1), .null, .null, .null, .null]) (by decide) rfl rfl ?_
      refine PW.iconst (pc := 27) dX8_tells_27 (v := 0) (by decide) ?_
      refine PW.istore (pc := 28) dX8_tells_28 (ls' := [.ref 277, .int x1, .int x2, .int (-1), .int 0, .null, .null, .null]) (by decide) rfl rfl ?_
      refine PW.iconst (pc := 30) dX8_tells_30 (v := 0) (by decide) ?_
      refine PW.istore (pc := 31) dX8_tells_31 (ls' := [.ref 277, .int x1, .int x2, .int (-1), .int 0, .int 0, .null, .null]) (by decide) rfl rfl ?_
      obtain ⟨n20, h⟩ := h
      refine PW.drop (c_X8_tells_33 ?_ n20 _ _ _ _ _ hM11 h) ⟨rfl, rfl, rfl, rfl, rfl, trivial⟩
      · intro x2 x3 x4 M21 hM h
        exact PW.drop (c_X8_tells_154  _ _ _ _ hM h) ⟨rfl, rfl, rfl, rfl, trivial⟩
    · have h := h.2 hc
      refine PW.iconst (pc := 18) dX8_tells_18 (v := (-1)) (by decide) ?_
      exact PW.retI (pc := 19) dX8_tells_19 hM7.1 rfl rfl ⟨hM7, _, rfl, h⟩
def w_X8_keeps_15 : Nat → Int32 → pm → (pm → Prop) → Prop
  | 0, _, _, _ => False
  | n + 1, x1, M, Q => ((163 ≤ x1 → ((20 ≤ (mI M 277 69) → (Q M)) ∧ (¬ 20 ≤ (mI M 277 69) → (Q (sI M 277 69 ((mI M 277 69) + 1)))))) ∧ (¬ 163 ≤ x1 → (vp_in x1 163 ∧ (vp_in ((163 * (mI M 277 70)) + x1) 3260 ∧ (w_X8_keeps_15 n (x1 + 1) (sI M 325 (((163 * (mI M 277 70)) + x1).toNatClampNeg) (mI M 317 x1.toNatClampNeg)) Q)))))
set_option maxRecDepth 4000 in
theorem c_X8_keeps_15  {Q : pm → Prop}  : ∀ (n : Nat) (x1 : Int32) (M : pm), pG M → w_X8_keeps_15 n x1 M  Q → PW mX8_keeps 1 350 15 [.ref 277, .int x1] [] M (qV Q) := by
  intro n
  induction n with
  | zero => intro x1 M hM h; exact h.elim
  | succ n ih =>
    intro x1 M hM h
    unfold w_X8_keeps_15 at h
    refine PW.iload_n (pc := 15) dX8_keeps_15 rfl ?_
    refine PW.sipush (pc := 16) dX8_keeps_16 (v := 163) (by decide) ?_
    refine PW.icmp_ge (pc := 19) dX8_keeps_19 (t := 49) (by decide) (fun hc => ?_) (fun hc => ?_)
    · have h := h.1 hc
      refine PW.aload_n (pc := 49) dX8_keeps_49 rfl ?_
      refine PW.getI (pc := 50) dX8_keeps_50 lf_X8_389 (ob hM.1 s_277 (by decide)) fx_8_69 ?_
      refine PW.bipush (pc := 53) dX8_keeps_53 (v := 20) (by decide) ?_
      refine PW.icmp_ge (pc := 55) dX8_keeps_55 (t := 68) (by decide) (fun hc => ?_) (fun hc => ?_)
      · have h := h.1 hc
        exact PW.ret0 (pc := 68) dX8_keeps_68 hM.1 rfl ⟨hM, rfl, h⟩
      · have h := h.2 hc
        refine PW.aload_n (pc := 58) dX8_keeps_58 rfl ?_
        refine PW.dupR (pc := 59) dX8_keeps_59 ?_
        refine PW.getI (pc := 60) dX8_keeps_60 lf_X8_389 (ob hM.1 s_277 (by decide)) fx_8_69 ?_
        refine PW.iconst (pc := 63) dX8_keeps_63 (v := 1) (by decide) ?_
        refine PW.iadd (pc := 64) dX8_keeps_64 ?_
        refine PW.putI (pc := 65) dX8_keeps_65 lf_X8_389 (ob hM.1 s_277 (by decide)) fx_8_69 fw_8_69 rfl rfl ?_
        exact PW.ret0 (pc := 68) dX8_keeps_68 hM.1 rfl ⟨(hM.same rfl rfl), rfl, h⟩
    · have h := h.2 hc
      refine PW.aload_n (pc := 22) dX8_keeps_22 rfl ?_
      refine PW.getR (pc := 23) dX8_keeps_23 (r := 325) lf_X8_158 (ob hM.1 s_277 (by decide)) fx_8_68 (oR_8_68 hM s_277) (pS_ne s_325) ?_
      refine PW.sipush (pc := 26) dX8_keeps_26 (v := 163) (by decide) ?_
      refine PW.aload_n (pc := 29) dX8_keeps_29 rfl ?_
      refine PW.getI (pc := 30) dX8_keeps_30 lf_X8_563 (ob hM.1 s_277 (by decide)) fx_8_70 ?_
      refine PW.imul (pc := 33) dX8_keeps_33 ?_
      refine PW.iload_n (pc := 34) dX8_keeps_34 rfl ?_
      refine PW.iadd (pc := 35) dX8_keeps_35 ?_
      refine PW.aload_n (pc := 36) dX8_keeps_36 rfl ?_
      refine PW.getR (pc := 37) dX8_keeps_37 (r := 317) lf_X8_133 (ob hM.1 s_277 (by decide)) fx_8_52 (oR_8_52 hM s_277) (pS_ne s_317) ?_
      refine PW.iload_n (pc := 40) dX8_keeps_40 rfl ?_
      obtain ⟨v1, h⟩ := h
      refine PW.iald (pc := 41) dX8_keeps_41 (ar hM.1 s_317) (vpl n_317 v1) ?_
      obtain ⟨v2, h⟩ := h
      refine PW.iast (pc := 42) dX8_keeps_42 (ar hM.1 s_325) (vpl n_325 v2) ?_
      refine PW.iinc (pc := 43) dX8_keeps_43 (v := (x1 + 1)) (ls' := [.ref 277, .int (x1 + 1)]) rfl rfl (by decide) rfl rfl ?_
      refine PW.goto (pc := 46) dX8_keeps_46 (t := 15) (by decide) ?_
      exact PW.drop (ih _ _ (hM.same rfl rfl) h) ⟨rfl, rfl, trivial⟩
def w_X8_keeps  (M : pm) (Q : pm → Prop) : Prop := ∃ n3, w_X8_keeps_15 n3 0 (sI M 277 70 (irm ((mI M 277 70) + 1) 20))  Q
set_option maxRecDepth 4000 in
theorem c_X8_keeps  {M : pm} {Q : pm → Prop}  (hM : pG M) (h : w_X8_keeps  M Q) : PW mX8_keeps 1 350 0 (pfr mX8_keeps.2.2.1 [.ref 277]) [] M (qV Q) := by
  unfold w_X8_keeps at h
  show PW mX8_keeps 1 350 0 [.ref 277, .null] [] M (qV Q)
  refine PW.aload_n (pc := 0) dX8_keeps_0 rfl ?_
  refine PW.aload_n (pc := 1) dX8_keeps_1 rfl ?_
  refine PW.getI (pc := 2) dX8_keeps_2 lf_X8_563 (ob hM.1 s_277 (by decide)) fx_8_70 ?_
  refine PW.iconst (pc := 5) dX8_keeps_5 (v := 1) (by decide) ?_
  refine PW.iadd (pc := 6) dX8_keeps_6 ?_
  refine PW.bipush (pc := 7) dX8_keeps_7 (v := 20) (by decide) ?_
  refine PW.irem (pc := 9) dX8_keeps_9 (by decide) ?_
  refine PW.putI (pc := 10) dX8_keeps_10 lf_X8_563 (ob hM.1 s_277 (by decide)) fx_8_70 fw_8_70 rfl rfl ?_
  refine PW.iconst (pc := 13) dX8_keeps_13 (v := 0) (by decide) ?_
  refine PW.istore_n (pc := 14) dX8_keeps_14 (ls' := [.ref 277, .int 0]) (by decide) rfl rfl ?_
  obtain ⟨n3, h⟩ := h
  refine PW.drop (c_X8_keeps_15  n3 _ _ (hM.same rfl rfl) h) ⟨rfl, rfl, trivial⟩
def w_X8_undo_21 : Nat → Int32 → pm → (pm → Prop) → (Int32 → pm → Prop) → Prop
  | 0, _, _, _, _ => False
  | n + 1, x1, M, k55, Q => ((163 ≤ x1 → (k55  M)) ∧ (¬ 163 ≤ x1 → (vp_in ((163 * (mI M 277 70)) + x1) 3260 ∧ (vp_in x1 163 ∧ (w_X8_undo_21 n (x1 + 1) (sI M 317 x1.toNatClampNeg (mI M 325 (((163 * (mI M 277 70)) + x1).toNatClampNeg))) k55 Q)))))
set_option maxRecDepth 4000 in
theorem c_X8_undo_21 {k55 : pm → Prop} {Q : Int32 → pm → Prop} (hk55 : ∀  (M : pm), pG M → k55  M → PW mX8_undo 1 350 55 [.ref 277, .null] [] M (qZ Q)) : ∀ (n : Nat) (x1 : Int32) (M : pm), pG M → w_X8_undo_21 n x1 M k55 Q → PW mX8_undo 1 350 21 [.ref 277, .int x1] [] M (qZ Q) := by
  intro n
  induction n with
  | zero => intro x1 M hM h; exact h.elim
  | succ n ih =>
    intro x1 M hM h
    unfold w_X8_undo_21 at h
    refine PW.iload_n (pc := 21) dX8_undo_21 rfl ?_
    refine PW.sipush (pc := 22) dX8_undo_22 (v := 163) (by decide) ?_
    refine PW.icmp_ge (pc := 25) dX8_undo_25 (t := 55) (by decide) (fun hc => ?_) (fun hc => ?_)
    · have h := h.1 hc
      exact PW.drop (hk55 _ hM h) ⟨rfl, trivial⟩
    · have h := h.2 hc
      refine PW.aload_n (pc := 28) dX8_undo_28 rfl ?_
      refine PW.getR (pc := 29) dX8_undo_29 (r := 317) lf_X8_133 (ob hM.1 s_277 (by decide)) fx_8_52 (oR_8_52 hM s_277) (pS_ne s_317) ?_
      refine PW.iload_n (pc := 32) dX8_undo_32 rfl ?_
      refine PW.aload_n (pc := 33) dX8_undo_33 rfl ?_
      refine PW.getR (pc := 34) dX8_undo_34 (r := 325) lf_X8_158 (ob hM.1 s_277 (by decide)) fx_8_68 (oR_8_68 hM s_277) (pS_ne s_325) ?_
      refine PW.sipush (pc := 37) dX8_undo_37 (v := 163) (by decide) ?_
      refine PW.aload_n (pc := 40) dX8_undo_40 rfl ?_
      refine PW.getI (pc := 41) dX8_undo_41 lf_X8_563 (ob hM.1 s_277 (by decide)) fx_8_70 ?_
      refine PW.imul (pc := 44) dX8_undo_44 ?_
      refine PW.iload_n (pc := 45) dX8_undo_45 rfl ?_
      refine PW.iadd (pc := 46) dX8_undo_46 ?_
      obtain ⟨v1, h⟩ := h
      refine PW.iald (pc := 47) dX8_undo_47 (ar hM.1 s_325) (vpl n_325 v1) ?_
      obtain ⟨v2, h⟩ := h
      refine PW.iast (pc := 48) dX8_undo_48 (ar hM.1 s_317) (vpl n_317 v2) ?_
      refine PW.iinc (pc := 49) dX8_undo_49 (v := (x1 + 1)) (ls' := [.ref 277, .int (x1 + 1)]) rfl rfl (by decide) rfl rfl ?_
      refine PW.goto (pc := 52) dX8_undo_52 (t := 21) (by decide) ?_
      exact PW.drop (ih _ _ (hM.same rfl rfl) h) ⟨rfl, rfl, trivial⟩
def w_X8_undo  (M : pm) (Q : Int32 → pm → Prop) : Prop := ((¬ (mI M 277 69) = 0 → (∃ n3, w_X8_undo_21 n3 0 M (fun M4 => Q 1 (sI (sI M4 277 70 (irm (((mI M4 277 70) + 20) - 1) 20)) 277 69 ((mI M4 277 69) - 1))) Q)) ∧ ((mI M 277 69) = 0 → (Q 0 (sI M 279 4 ((mI M 279 4) + 1)))))
set_option maxRecDepth 4000 in
theorem c_X8_undo  {M : pm} {Q : Int32 → pm → Prop}  (hM : pG M) (h : w_X8_undo  M Q) : PW mX8_undo 1 350 0 (pfr mX8_undo.2.2.1 [.ref 277]) [] M (qZ Q) := by
  unfold w_X8_undo at h
  show PW mX8_undo 1 350 0 [.ref 277, .null] [] M (qZ Q)
  refine PW.aload_n (pc := 0) dX8_undo_0 rfl ?_
  refine PW.getI (pc := 1) dX8_undo_1 lf_X8_389 (ob hM.1 s_277 (by decide)) fx_8_69 ?_
  refine PW.if_ne (pc := 4) dX8_undo_4 (t := 19) (by decide) (fun hc => ?_) (fun hc => ?_)
  · have h := h.1 hc
    refine PW.iconst (pc := 19) dX8_undo_19 (v := 0) (by decide) ?_
    refine PW.istore_n (pc := 20) dX8_undo_20 (ls' := [.ref 277, .int 0]) (by decide) rfl rfl ?_
    obtain ⟨n3, h⟩ := h
    refine PW.drop (c_X8_undo_21 ?_ n3 _ _ hM h) ⟨rfl, rfl, trivial⟩
    · intro M4 hM h
      refine PW.aload_n (pc := 55) dX8_undo_55 rfl ?_
      refine PW.aload_n (pc := 56) dX8_undo_56 rfl ?_
      refine PW.getI (pc := 57) dX8_undo_57 lf_X8_563 (ob hM.1 s_277 (by decide)) fx_8_70 ?_
      refine PW.bipush (pc := 60) dX8_undo_60 (v := 20) (by decide) ?_
      refine PW.iadd (pc := 62) dX8_undo_62 ?_
      refine PW.iconst (pc := 63) dX8_undo_63 (v := 1) (by decide) ?_
      refine PW.isub (pc := 64) dX8_undo_64 ?_
      refine PW.bipush (pc := 65) dX8_undo_65 (v := 20) (by decide) ?_
      refine PW.irem (pc := 67) dX8_undo_67 (by decide) ?_
      refine PW.putI (pc := 68) dX8_undo_68 lf_X8_563 (ob hM.1 s_277 (by decide)) fx_8_70 fw_8_70 rfl rfl ?_
      refine PW.aload_n (pc := 71) dX8_undo_71 rfl ?_
      refine PW.dupR (pc := 72) dX8_undo_72 ?_
      refine PW.getI (pc := 73) dX8_undo_73 lf_X8_389 (ob hM.1 s_277 (by decide)) fx_8_69 ?_
      refine PW.iconst (pc := 76) dX8_undo_76 (v := 1) (by decide) ?_
      refine PW.isub (pc := 77) dX8_undo_77 ?_
      refine PW.putI (pc := 78) dX8_undo_78 lf_X8_389 (ob hM.1 s_277 (by decide)) fx_8_69 fw_8_69 rfl rfl ?_
      refine PW.iconst (pc := 81) dX8_undo_81 (v := 1) (by decide) ?_
      exact PW.retI (pc := 82) dX8_undo_82 hM.1 rfl (bz_n bz1) ⟨(hM.same rfl rfl), _, rfl, bz1, h⟩
  · have h := h.2 hc
    refine PW.aload_n (pc := 7) dX8_undo_7 rfl ?_
    refine PW.getR (pc := 8) dX8_undo_8 (r := 279) lf_X8_17 (ob hM.1 s_277 (by decide)) fx_8_9 (oR_8_9 hM s_277) (pS_ne s_279) ?_
    refine PW.iconst (pc := 11) dX8_undo_11 (v := 4) (by decide) ?_
    refine PW.dup2IR (pc := 12) dX8_undo_12 ?_
    refine PW.iald (pc := 13) dX8_undo_13 (ar hM.1 s_279) (vpl n_279 (vp_c (i := 4) (n := 6) (by decide))) ?_
    refine PW.iconst (pc := 14) dX8_undo_14 (v := 1) (by decide) ?_
    refine PW.iadd (pc := 15) dX8_undo_15 ?_
    refine PW.iast (pc := 16) dX8_undo_16 (ar hM.1 s_279) (vpl n_279 (vp_c (i := 4) (n := 6) (by decide))) ?_
    refine PW.iconst (pc := 17) dX8_undo_17 (v := 0) (by decide) ?_
    exact PW.retI (pc := 18) dX8_undo_18 hM.1 rfl (bz_n bz0) ⟨(hM.same rfl rfl), _, rfl, bz0, h⟩
def w_X8_want (x1 : Int32) (x2 : Int32) (M : pm) (Q : Int32 → pm → Prop) : Prop := w_X8_isAsker x1 M (fun y2 M1 => ((y2 = 0 → (Q 0 (sI M1 279 2 ((mI M1 279 2) + 1)))) ∧ (¬ y2 = 0 → (w_X8_songMany  M1 (fun y6 M5 => w_X8_isIn (Int32.toInt64 x2) (0 : Int64) (Int32.toInt64 (y6 - 1)) M5 (fun y9 M8 => ((y9 = 0 → (Q 0 (sI M8 279 2 ((mI M8 279 2) + 1)))) ∧ (¬ y9 = 0 → (w_X8_songOf x1 M8 (fun y13 M12 => ((¬ y13 = x2 → (w_X8_keeps  M12 (fun M15 => vp_in (2 + (5 * x1)) 163 ∧ (Q 1 (sI M15 317 ((2 + (5 * x1)).toNatClampNeg) x2))))) ∧ (y13 = x2 → (Q 0 (sI M12 279 2 ((mI M12 279 2) + 1)))))))))))))))
set_option maxRecDepth 4000 in
theorem c_X8_want {x1 : Int32} {x2 : Int32} {M : pm} {Q : Int32 → pm → Prop}  (hM : pG M) (h : w_X8_want x1 x2 M Q) : PW mX8_want 3 350 0 (pfr mX8_want.2.2.1 [.ref 277, .int x1, .int x2]) [] M (qZ Q) := by
  unfold w_X8_want at h
  show PW mX8_want 3 350 0 [.ref 277, .int x1, .int x2] [] M (qZ Q)
  refine PW.aload_n (pc := 0) dX8_want_0 rfl ?_
  refine PW.iload_n (pc := 1) dX8_want_1 rfl ?_
  refine PW.inv (m' := mX8_isAsker) (pc := 2) dX8_want_2 lm_X8_507 me_X8_isAsker mi_X8_isAsker (ob hM.1 s_277 (by decide)) rfl (As := [.int x1]) (st := []) rfl (Nat.le_of_ble_eq_true rfl) (Nat.le_of_ble_eq_true rfl) (Nat.le_of_eq hM.1) (Nat.le_refl _) (PW.deep (by decide) (c_X8_isAsker  hM h)) ?_
  rintro _ M1 ⟨hM3, y2, rfl, z4, h⟩
  refine PW.if_eq (pc := 5) dX8_want_5 (t := 33) (by decide) (fun hc => ?_) (fun hc => ?_)
  · have h := h.1 hc
    refine PW.aload_n (pc := 33) dX8_want_33 rfl ?_
    refine PW.getR (pc := 34) dX8_want_34 (r := 279) lf_X8_17 (ob hM3.1 s_277 (by decide)) fx_8_9 (oR_8_9 hM3 s_277) (pS_ne s_279) ?_
    refine PW.iconst (pc := 37) dX8_want_37 (v := 2) (by decide) ?_
    refine PW.dup2IR (pc := 38) dX8_want_38 ?_
    refine PW.iald (pc := 39) dX8_want_39 (ar hM3.1 s_279) (vpl n_279 (vp_c (i := 2) (n := 6) (by decide))) ?_
    refine PW.iconst (pc := 40) dX8_want_40 (v := 1) (by decide) ?_
    refine PW.iadd (pc := 41) dX8_want_41 ?_
    refine PW.iast (pc := 42) dX8_want_42 (ar hM3.1 s_279) (vpl n_279 (vp_c (i := 2) (n := 6) (by decide))) ?_
    refine PW.iconst (pc := 43) dX8_want_43 (v := 0) (by decide) ?_
    exact PW.retI (pc := 44) dX8_want_44 hM3.1 rfl (bz_n bz0) ⟨(hM3.same rfl rfl), _, rfl, bz0, h⟩
  · have h := h.2 hc
    refine PW.iload_n (pc := 8) dX8_want_8 rfl ?_
    refine PW.i2l (pc := 9) dX8_want_9 ?_
    refine PW.lconst (pc := 10) dX8_want_10 (v := 0) (by decide) ?_
    refine PW.aload_n (pc := 11) dX8_want_11 rfl ?_
    refine PW.inv (m' := mX8_songMany) (pc := 12) dX8_want_12 lm_X8_504 me_X8_songMany mi_X8_songMany (ob hM3.1 s_277 (by decide)) rfl (As := []) (st := [.long (0 : Int64), .long (Int32.toInt64 x2)]) rfl (Nat.le_of_ble_eq_true rfl) (Nat.le_of_ble_eq_true rfl) (Nat.le_of_eq hM3.1) (Nat.le_refl _) (PW.deep (by decide) (c_X8_songMany  hM3 h)) ?_
    rintro _ M5 ⟨hM7, y6, rfl, h⟩
    refine PW.iconst (pc := 15) dX8_want_15 (v := 1) (by decide) ?_
    refine PW.isub (pc := 16) dX8_want_16 ?_
    refine PW.i2l (pc := 17) dX8_want_17 ?_
    refine PW.ins (m' := mX8_isIn) (pc := 18) dX8_want_18 lm_X8_289 me_X8_isIn ms_X8_isIn (As := [.long (Int32.toInt64 x2), .long (0 : Int64), .long (Int32.toInt64 (y6 - 1))]) (st := []) rfl (Nat.le_of_ble_eq_true rfl) (Nat.le_of_ble_eq_true rfl) (Nat.le_of_eq hM7.1) (Nat.le_refl _) (PW.deep (by decide) (c_X8_isIn  hM7 h)) ?_
    rintro _ M8 ⟨hM10, y9, rfl, z11, h⟩
    refine PW.if_eq (pc := 21) dX8_want_21 (t := 33) (by decide) (fun hc => ?_) (fun hc => ?_)
    · have h := h.1 hc
      refine PW.aload_n (pc := 33) dX8_want_33 rfl ?_
      refine PW.getR (pc := 34) dX8_want_34 (r := 279) lf_X8_17 (ob hM10.1 s_277 (by decide)) fx_8_9 (oR_8_9 hM10 s_277) (pS_ne s_279) ?_
      refine PW.iconst (pc := 37) dX8_want_37 (v := 2) (by decide) ?_
      refine PW.dup2IR (pc := 38) dX8_want_38 ?_
      refine PW.iald (pc := 39) dX8_want_39 (ar hM10.1 s_279) (vpl n_279 (vp_c (i := 2) (n := 6) (by decide))) ?_
      refine PW.iconst (pc := 40) dX8_want_40 (v := 1) (by decide) ?_
      refine PW.iadd (pc := 41) dX8_want_41 ?_
      refine PW.iast (pc := 42) dX8_want_42 (ar hM10.1 s_279) (vpl n_279 (vp_c (i := 2) (n := 6) (by decide))) ?_
      refine PW.iconst (pc := 43) dX8_want_43 (v := 0) (by decide) ?_
      exact PW.retI (pc := 44) dX8_want_44 hM10.1 rfl (bz_n bz0) ⟨(hM10.same rfl rfl), _, rfl, bz0, h⟩
    · have h := h.2 hc
      refine PW.aload_n (pc := 24) dX8_want_24 rfl ?_
      refine PW.iload_n (pc := 25) dX8_want_25 rfl ?_
      refine PW.inv (m' := mX8_songOf) (pc := 26) dX8_want_26 lm_X8_398 me_X8_songOf mi_X8_songOf (ob hM10.1 s_277 (by decide)) rfl (As := [.int x1]) (st := []) rfl (Nat.le_of_ble_eq_true rfl) (Nat.le_of_ble_eq_true rfl) (Nat.le_of_eq hM10.1) (Nat.le_refl _) (PW.deep (by decide) (c_X8_songOf  hM10 h)) ?_
      rintro _ M12 ⟨hM14, y13, rfl, h⟩
      refine PW.iload_n (pc := 29) dX8_want_29 rfl ?_
      refine PW.icmp_ne (pc := 30) dX8_want_30 (t := 45) (by decide) (fun hc => ?_) (fun hc => ?_)
      · have h := h.1 hc
        refine PW.aload_n (pc := 45) dX8_want_45 rfl ?_
        refine PW.inv (m' := mX8_keeps) (pc := 46) dX8_want_46 lm_X8_566 me_X8_keeps mi_X8_keeps (ob hM14.1 s_277 (by decide)) rfl (As := []) (st := []) rfl (Nat.le_of_ble_eq_true rfl) (Nat.le_of_ble_eq_true rfl) (Nat.le_of_eq hM14.1) (Nat.le_refl _) (PW.deep (by decide) (c_X8_keeps  hM14 h)) ?_
        rintro _ M15 ⟨hM17, rfl, h⟩
        refine PW.aload_n (pc := 49) dX8_want_49 rfl ?_
        refine PW.getR (pc := 50) dX8_want_50 (r := 317) lf_X8_133 (ob hM17.1 s_277 (by decide)) fx_8_52 (oR_8_52 hM17 s_277) (pS_ne s_317) ?_
        refine PW.iconst (pc := 53) dX8_want_53 (v := 2) (by decide) ?_
        refine PW.iconst (pc := 54) dX8_want_54 (v := 5) (by decide) ?_
        refine PW.iload_n (pc := 55) dX8_want_55 rfl ?_
        refine PW.imul (pc := 56) dX8_want_56 ?_
        refine PW.iadd (pc := 57) dX8_want_57 ?_
        refine PW.iload_n (pc := 58) dX8_want_58 rfl ?_
        obtain ⟨v18, h⟩ := h
        refine PW.iast (pc := 59) dX8_want_59 (ar hM17.1 s_317) (vpl n_317 v18) ?_
        refine PW.iconst (pc := 60) dX8_want_60 (v := 1) (by decide) ?_
        exact PW.retI (pc := 61) dX8_want_61 hM17.1 rfl (bz_n bz1) ⟨(hM17.same rfl rfl), _, rfl, bz1, h⟩
      · have h := h.2 hc
        refine PW.aload_n (pc := 33) dX8_want_33 rfl ?_
        refine PW.getR (pc := 34) dX8_want_34 (r := 279) lf_X8_17 (ob hM14.1 s_277 (by decide)) fx_8_9 (oR_8_9 hM14 s_277) (pS_ne s_279) ?_
        refine PW.iconst (pc := 37) dX8_want_37 (v := 2) (by decide) ?_
        refine PW.dup2IR (pc := 38) dX8_want_38 ?_
        refine PW.iald (pc := 39) dX8_want_39 (ar hM14.1 s_279) (vpl n_279 (vp_c (i := 2) (n := 6) (by decide))) ?_
        refine PW.iconst (pc := 40) dX8_want_40 (v := 1) (by decide) ?_
        refine PW.iadd (pc := 41) dX8_want_41 ?_
        refine PW.iast (pc := 42) dX8_want_42 (ar hM14.1 s_279) (vpl n_279 (vp_c (i := 2) (n := 6) (by decide))) ?_
        refine PW.iconst (pc := 43) dX8_want_43 (v := 0) (by decide) ?_
        exact PW.retI (pc := 44) dX8_want_44 hM14.1 rfl (bz_n bz0) ⟨(hM14.same rfl rfl), _, rfl, bz0, h⟩
def w_X8_mourn (x1 : Int32) (x2 : Int32) (M : pm) (Q : Int32 → pm → Prop) : Prop := w_X8_isAsker x1 M (fun y2 M1 => ((y2 = 0 → (w_X8_refuses 2 M1 (fun y6 M5 => Q y6 M5))) ∧ (¬ y2 = 0 → (w_X8_isIn (Int32.toInt64 x2) (1 : Int64) (99 : Int64) M1 (fun y9 M8 => ((y9 = 0 → (w_X8_refuses 2 M8 (fun y13 M12 => Q y13 M12))) ∧ (¬ y9 = 0 → (w_X8_mindsOf x1 M8 (fun y16 M15 => ((¬ y16 = 99 → (w_X8_keeps  M15 (fun M18 => w_X8_mindsOf x1 M18 (fun y22 M21 => (((y22 + x2) ≤ 99 → (vp_in (4 + (5 * x1)) 163 ∧ (w_X8_mindsOf x1 (sI M21 317 ((4 + (5 * x1)).toNatClampNeg) (y22 + x2)) (fun y26 M25 => Q y26 M25)))) ∧ (¬ (y22 + x2) ≤ 99 → (vp_in (4 + (5 * x1)) 163 ∧ (w_X8_mindsOf x1 (sI M21 317 ((4 + (5 * x1)).toNatClampNeg) 99) (fun y30 M29 => Q y30 M29))))))))) ∧ (y16 = 99 → (w_X8_refuses 2 M15 (fun y33 M32 => Q y33 M32)))))))))))))
set_option maxRecDepth 4000 in
theorem c_X8_mourn {x1 : Int32} {x2 : Int32} {M : pm} {Q : Int32 → pm → Prop}  (hM : pG M) (h : w_X8_mourn x1 x2 M Q) : PW mX8_mourn 3 350 0 (pfr mX8_mourn.2.2.1 [.ref 277, .int x1, .int x2]) [] M (qI Q) := by
  unfold w_X8_mourn at h
  show PW mX8_mourn 3 350 0 [.ref 277, .int x1, .int x2, .null] [] M (qI Q)
  refine PW.aload_n (pc := 0) dX8_mourn_0 rfl ?_
  refine PW.iload_n (pc := 1) dX8_mourn_1 rfl ?_
  refine PW.inv (m' := mX8_isAsker) (pc := 2) dX8_mourn_2 lm_X8_507 me_X8_isAsker mi_X8_isAsker (ob hM.1 s_277 (by decide)) rfl (As := [.int x1]) (st := []) rfl (Nat.le_of_ble_eq_true rfl) (Nat.le_of_ble_eq_true rfl) (Nat.le_of_eq hM.1) (Nat.le_refl _) (PW.deep (by decide) (c_X8_isAsker  hM h)) ?_
  rintro _ M1 ⟨hM3, y2, rfl, z4, h⟩
  refine PW.if_eq (pc := 5) dX8_mourn_5 (t := 30) (by decide) (fun hc => ?_) (fun hc => ?_)
  · have h := h.1 hc
    refine PW.aload_n (pc := 30) dX8_mourn_30 rfl ?_
    refine PW.iconst (pc := 31) dX8_mourn_31 (v := 2) (by decide) ?_
    refine PW.inv (m' := mX8_refuses) (pc := 32) dX8_mourn_32 lm_X8_551 me_X8_refuses mi_X8_refuses (ob hM3.1 s_277 (by decide)) rfl (As := [.int 2]) (st := []) rfl (Nat.le_of_ble_eq_true rfl) (Nat.le_of_ble_eq_true rfl) (Nat.le_of_eq hM3.1) (Nat.le_refl _) (PW.deep (by decide) (c_X8_refuses  hM3 h)) ?_
    rintro _ M5 ⟨hM7, y6, rfl, h⟩
    exact PW.retI (pc := 35) dX8_mourn_35 hM7.1 rfl rfl ⟨hM7, _, rfl, h⟩
  · have h := h.2 hc
    refine PW.iload_n (pc := 8) dX8_mourn_8 rfl ?_
    refine PW.i2l (pc := 9) dX8_mourn_9 ?_
    refine PW.lconst (pc := 10) dX8_mourn_10 (v := 1) (by decide) ?_
    refine PW.ldc2 (pc := 11) dX8_mourn_11 lk_X8_431 ?_
    refine PW.ins (m' := mX8_isIn) (pc := 14) dX8_mourn_14 lm_X8_289 me_X8_isIn ms_X8_isIn (As := [.long (Int32.toInt64 x2), .long (1 : Int64), .long (99 : Int64)]) (st := []) rfl (Nat.le_of_ble_eq_true rfl) (Nat.le_of_ble_eq_true rfl) (Nat.le_of_eq hM3.1) (Nat.le_refl _) (PW.deep (by decide) (c_X8_isIn  hM3 h)) ?_
    rintro _ M8 ⟨hM10, y9, rfl, z11, h⟩
    refine PW.if_eq (pc := 17) dX8_mourn_17 (t := 30) (by decide) (fun hc => ?_) (fun hc => ?_)
    · have h := h.1 hc
      refine PW.aload_n (pc := 30) dX8_mourn_30 rfl ?_
      refine PW.iconst (pc := 31) dX8_mourn_31 (v := 2) (by decide) ?_
      refine PW.inv (m' := mX8_refuses) (pc := 32) dX8_mourn_32 lm_X8_551 me_X8_refuses mi_X8_refuses (ob hM10.1 s_277 (by decide)) rfl (As := [.int 2]) (st := []) rfl (Nat.le_of_ble_eq_true rfl) (Nat.le_of_ble_eq_true rfl) (Nat.le_of_eq hM10.1) (Nat.le_refl _) (PW.deep (by decide) (c_X8_refuses  hM10 h)) ?_
      rintro _ M12 ⟨hM14, y13, rfl, h⟩
      exact PW.retI (pc := 35) dX8_mourn_35 hM14.1 rfl rfl ⟨hM14, _, rfl, h⟩
    · have h := h.2 hc
      refine PW.aload_n (pc := 20) dX8_mourn_20 rfl ?_
      refine PW.iload_n (pc := 21) dX8_mourn_21 rfl ?_
      refine PW.inv (m' := mX8_mindsOf) (pc := 22) dX8_mourn_22 lm_X8_425 me_X8_mindsOf mi_X8_mindsOf (ob hM10.1 s_277 (by decide)) rfl (As := [.int x1]) (st := []) rfl (Nat.le_of_ble_eq_true rfl) (Nat.le_of_ble_eq_true rfl) (Nat.le_of_eq hM10.1) (Nat.le_refl _) (PW.deep (by decide) (c_X8_mindsOf  hM10 h)) ?_
      rintro _ M15 ⟨hM17, y16, rfl, h⟩
      refine PW.bipush (pc := 25) dX8_mourn_25 (v := 99) (by decide) ?_
      refine PW.icmp_ne (pc := 27) dX8_mourn_27 (t := 36) (by decide) (fun hc => ?_) (fun hc => ?_)
      · have h := h.1 hc
        refine PW.aload_n (pc := 36) dX8_mourn_36 rfl ?_
        refine PW.inv (m' := mX8_keeps) (pc := 37) dX8_mourn_37 lm_X8_566 me_X8_keeps mi_X8_keeps (ob hM17.1 s_277 (by decide)) rfl (As := []) (st := []) rfl (Nat.le_of_ble_eq_true rfl) (Nat.le_of_ble_eq_true rfl) (Nat.le_of_eq hM17.1) (Nat.le_refl _) (PW.deep (by decide) (c_X8_keeps  hM17 h)) ?_
        rintro _ M18 ⟨hM20, rfl, h⟩
        refine PW.aload_n (pc := 40) dX8_mourn_40 rfl ?_
        refine PW.iload_n (pc := 41) dX8_mourn_41 rfl ?_
        refine PW.inv (m' := mX8_mindsOf) (pc := 42) dX8_mourn_42 lm_X8_425 me_X8_mindsOf mi_X8_mindsOf (ob hM20.1 s_277 (by decide)) rfl (As := [.int x1]) (st := []) rfl (Nat.le_of_ble_eq_true rfl) (Nat.le_of_ble_eq_true rfl) (Nat.le_of_eq hM20.1) (Nat.le_refl _) (PW.deep (by decide) (c_X8_mindsOf  hM20 h)) ?_
        rintro _ M21 ⟨hM23, y22, rfl, h⟩
        refine PW.iload_n (pc := 45) dX8_mourn_45 rfl ?_
        refine PW.iadd (pc := 46) dX8_mourn_46 ?_
        refine PW.istore_n (pc := 47) dX8_mourn_47 (ls' := [.ref 277, .int x1, .int x2, .int (y22 + x2)]) (by decide) rfl rfl ?_
        refine PW.aload_n (pc := 48) dX8_mourn_48 rfl ?_
        refine PW.getR (pc := 49) dX8_mourn_49 (r := 317) lf_X8_133 (ob hM23.1 s_277 (by decide)) fx_8_52 (oR_8_52 hM23 s_277) (pS_ne s_317) ?_
        refine PW.iconst (pc := 52) dX8_mourn_52 (v := 4) (by decide) ?_
        refine PW.iconst (pc := 53) dX8_mourn_53 (v := 5) (by decide) ?_
        refine PW.iload_n (pc := 54) dX8_mourn_54 rfl ?_
        refine PW.imul (pc := 55) dX8_mourn_55 ?_
        refine PW.iadd (pc := 56) dX8_mourn_56 ?_
        refine PW.iload_n (pc := 57) dX8_mourn_57 rfl ?_
        refine PW.bipush (pc := 58) dX8_mourn_58 (v := 99) (by decide) ?_
        refine PW.icmp_le (pc := 60) dX8_mourn_60 (t := 68) (by decide) (fun hc => ?_) (fun hc => ?_)
        · have h := h.1 hc
          refine PW.iload_n (pc := 68) dX8_mourn_68 rfl ?_
          obtain ⟨v24, h⟩ := h
          refine PW.iast (pc := 69) dX8_mourn_69 (ar hM23.1 s_317) (vpl n_317 v24) ?_
          refine PW.aload_n (pc := 70) dX8_mourn_70 rfl ?_
          refine PW.iload_n (pc := 71) dX8_mourn_71 rfl ?_
          refine PW.inv (m' := mX8_mindsOf) (pc := 72) dX8_mourn_72 lm_X8_425 me_X8_mindsOf mi_X8_mindsOf (ob hM23.1 s_277 (by decide)) rfl (As := [.int x1]) (st := []) rfl (Nat.le_of_ble_eq_true rfl) (Nat.le_of_ble_eq_true rfl) (Nat.le_of_eq hM23.1) (Nat.le_refl _) (PW.deep (by decide) (c_X8_mindsOf  (hM23.same rfl rfl) h)) ?_
          rintro _ M25 ⟨hM27, y26, rfl, h⟩
          exact PW.retI (pc := 75) dX8_mourn_75 hM27.1 rfl rfl ⟨hM27, _, rfl, h⟩
        · have h := h.2 hc
          refine PW.bipush (pc := 63) dX8_mourn_63 (v := 99) (by decide) ?_
          refine PW.goto (pc := 65) dX8_mourn_65 (t := 69) (by decide) ?_
          obtain ⟨v28, h⟩ := h
          refine PW.iast (pc := 69) dX8_mourn_69 (ar hM23.1 s_317) (vpl n_317 v28) ?_
          refine PW.aload_n (pc := 70) dX8_mourn_70 rfl ?_
          refine PW.iload_n (pc := 71) dX8_mourn_71 rfl ?_
          refine PW.inv (m' := mX8_mindsOf) (pc := 72) dX8_mourn_72 lm_X8_425 me_X8_mindsOf mi_X8_mindsOf (ob hM23.1 s_277 (by decide)) rfl (As := [.int x1]) (st := []) rfl (Nat.le_of_ble_eq_true rfl) (Nat.le_of_ble_eq_true rfl) (Nat.le_of_eq hM23.1) (Nat.le_refl _) (PW.deep (by decide) (c_X8_mindsOf  (hM23.same rfl rfl) h)) ?_
          rintro _ M29 ⟨hM31, y30, rfl, h⟩
          exact PW.retI (pc := 75) dX8_mourn_75 hM31.1 rfl rfl ⟨hM31, _, rfl, h⟩
      · have h := h.2 hc
        refine PW.aload_n (pc := 30) dX8_mourn_30 rfl ?_
        refine PW.iconst (pc := 31) dX8_mourn_31 (v := 2) (by decide) ?_
        refine PW.inv (m' := mX8_refuses) (pc := 32) dX8_mourn_32 lm_X8_551 me_X8_refuses mi_X8_refuses (ob hM17.1 s_277 (by decide)) rfl (As := [.int 2]) (st := []) rfl (Nat.le_of_ble_eq_true rfl) (Nat.le_of_ble_eq_true rfl) (Nat.le_of_eq hM17.1) (Nat.le_refl _) (PW.deep (by decide) (c_X8_refuses  hM17 h)) ?_
        rintro _ M32 ⟨hM34, y33, rfl, h⟩
        exact PW.retI (pc := 35) dX8_mourn_35 hM34.1 rfl rfl ⟨hM34, _, rfl, h⟩
def w_X8_days (x1 : Int32) (M : pm) (Q : Int32 → pm → Prop) : Prop := w_X8_isAhead x1 1 100 M (fun y2 M1 => ((¬ y2 = 0 → (w_X8_keeps  M1 (fun M5 => w_X8_daysGo x1 (sI M5 277 59 0) (fun M8 => Q (mI M8 277 59) M8)))) ∧ (y2 = 0 → (w_X8_refuses 3 M1 (fun y12 M11 => Q y12 M11)))))
set_option maxRecDepth 4000 in
theorem c_X8_days {x1 : Int32} {M : pm} {Q : Int32 → pm → Prop}  (hM : pG M) (h : w_X8_days x1 M Q) : PW mX8_days 11 350 0 (pfr mX8_days.2.2.1 [.ref 277, .int x1]) [] M (qI Q) := by
  unfold w_X8_days at h
  show PW mX8_days 11 350 0 [.ref 277, .int x1] [] M (qI Q)
  refine PW.aload_n (pc := 0) dX8_days_0 rfl ?_
  refine PW.iload_n (pc := 1) dX8_days_1 rfl ?_
  refine PW.iconst (pc := 2) dX8_days_2 (v := 1) (by decide) ?_
  refine PW.bipush (pc := 3) dX8_days_3 (v := 100) (by decide) ?_
  refine PW.inv (m' := mX8_isAhead) (pc := 5) dX8_days_5 lm_X8_515 me_X8_isAhead mi_X8_isAhead (ob hM.1 s_277 (by decide)) rfl (As := [.int x1, .int 1, .int 100]) (st := []) rfl (Nat.le_of_ble_eq_true rfl) (Nat.le_of_ble_eq_true rfl) (Nat.le_of_eq hM.1) (Nat.le_refl _) (PW.deep (by decide) (c_X8_isAhead  hM h)) ?_
  rintro _ M1 ⟨hM3, y2, rfl, z4, h⟩
  refine PW.if_ne (pc := 8) dX8_days_8 (t := 17) (by decide) (fun hc => ?_) (fun hc => ?_)
  · have h := h.1 hc
    refine PW.aload_n (pc := 17) dX8_days_17 rfl ?_
    refine PW.inv (m' := mX8_keeps) (pc := 18) dX8_days_18 lm_X8_566 me_X8_keeps mi_X8_keeps (ob hM3.1 s_277 (by decide)) rfl (As := []) (st := []) rfl (Nat.le_of_ble_eq_true rfl) (Nat.le_of_ble_eq_true rfl) (Nat.le_of_eq hM3.1) (Nat.le_refl _) (PW.deep (by decide) (c_X8_keeps  hM3 h)) ?_
    rintro _ M5 ⟨hM7, rfl, h⟩
    refine PW.aload_n (pc := 21) dX8_days_21 rfl ?_
    refine PW.iconst (pc := 22) dX8_days_22 (v := 0) (by decide) ?_
    refine PW.putI (pc := 23) dX8_days_23 lf_X8_470 (ob hM7.1 s_277 (by decide)) fx_8_59 fw_8_59 rfl rfl ?_
    refine PW.aload_n (pc := 26) dX8_days_26 rfl ?_
    refine PW.iload_n (pc := 27) dX8_days_27 rfl ?_
    refine PW.inv (m' := mX8_daysGo) (pc := 28) dX8_days_28 lm_X8_521 me_X8_daysGo mi_X8_daysGo (ob hM7.1 s_277 (by decide)) rfl (As := [.int x1]) (st := []) rfl (Nat.le_of_ble_eq_true rfl) (Nat.le_of_ble_eq_true rfl) (Nat.le_of_eq hM7.1) (Nat.le_refl _) (PW.deep (by decide) (c_X8_daysGo  (hM7.same rfl rfl) h)) ?_
    rintro _ M8 ⟨hM10, rfl, h⟩
    refine PW.aload_n (pc := 31) dX8_days_31 rfl ?_
    refine PW.getI (pc := 32) dX8_days_32 lf_X8_470 (ob hM10.1 s_277 (by decide)) fx_8_59 ?_
    exact PW.retI (pc := 35) dX8_days_35 hM10.1 rfl rfl ⟨hM10, _, rfl, h⟩
  · have h := h.2 hc
    refine PW.aload_n (pc := 11) dX8_days_11 rfl ?_
    refine PW.iconst (pc := 12) dX8_days_12 (v := 3) (by decide) ?_
    refine PW.inv (m' := mX8_refuses) (pc := 13) dX8_days_13 lm_X8_551 me_X8_refuses mi_X8_refuses (ob hM3.1 s_277 (by decide)) rfl (As := [.int 3]) (st := []) rfl (Nat.le_of_ble_eq_true rfl) (Nat.le_of_ble_eq_true rfl) (Nat.le_of_eq hM3.1) (Nat.le_refl _) (PW.deep (by decide) (c_X8_refuses  hM3 h)) ?_
    rintro _ M11 ⟨hM13, y12, rfl, h⟩
    exact PW.retI (pc := 16) dX8_days_16 hM13.1 rfl rfl ⟨hM13, _, rfl, h⟩
def w_X8_seed (x1 : Int32) (M : pm) (Q : Int32 → pm → Prop) : Prop := ((0 ≤ x1 → (Q 1 (sJ M 277 71 (Int32.toInt64 x1)))) ∧ (¬ 0 ≤ x1 → (Q 0 (sI M 279 5 ((mI M 279 5) + 1)))))
set_option maxRecDepth 4000 in
theorem c_X8_seed {x1 : Int32} {M : pm} {Q : Int32 → pm → Prop}  (hM : pG M) (h : w_X8_seed x1 M Q) : PW mX8_seed 1 350 0 (pfr mX8_seed.2.2.1 [.ref 277, .int x1]) [] M (qZ Q) := by
  unfold w_X8_seed at h
  show PW mX8_seed 1 350 0 [.ref 277, .int x1] [] M (qZ Q)
  refine PW.iload_n (pc := 0) dX8_seed_0 rfl ?_
  refine PW.if_ge (pc := 1) dX8_seed_1 (t := 16) (by decide) (fun hc => ?_) (fun hc => ?_)
  · have h := h.1 hc
    refine PW.aload_n (pc := 16) dX8_seed_16 rfl ?_
    refine PW.iload_n (pc := 17) dX8_seed_17 rfl ?_
    refine PW.i2l (pc := 18) dX8_seed_18 ?_
    refine PW.putJ (pc := 19) dX8_seed_19 lf_X8_161 (ob hM.1 s_277 (by decide)) fx_8_71 fw_8_71 rfl rfl ?_
    refine PW.iconst (pc := 22) dX8_seed_22 (v := 1) (by decide) ?_
    exact PW.retI (pc := 23) dX8_seed_23 hM.1 rfl (bz_n bz1) ⟨(hM.same rfl rfl), _, rfl, bz1, h⟩
  · have h := h.2 hc
    refine PW.aload_n (pc := 4) dX8_seed_4 rfl ?_
    refine PW.getR (pc := 5) dX8_seed_5 (r := 279) lf_X8_17 (ob hM.1 s_277 (by decide)) fx_8_9 (oR_8_9 hM s_277) (pS_ne s_279) ?_
    refine PW.iconst (pc := 8) dX8_seed_8 (v := 5) (by decide) ?_
    refine PW.dup2IR (pc := 9) dX8_seed_9 ?_
    refine PW.iald (pc := 10) dX8_seed_10 (ar hM.1 s_279) (vpl n_279 (vp_c (i := 5) (n := 6) (by decide))) ?_
    refine PW.iconst (pc := 11) dX8_seed_11 (v := 1) (by decide) ?_
    refine PW.iadd (pc := 12) dX8_seed_12 ?_
    refine PW.iast (pc := 13) dX8_seed_13 (ar hM.1 s_279) (vpl n_279 (vp_c (i := 5) (n := 6) (by decide))) ?_
    refine PW.iconst (pc := 14) dX8_seed_14 (v := 0) (by decide) ?_
    exact PW.retI (pc := 15) dX8_seed_15 hM.1 rfl (bz_n bz0) ⟨(hM.same rfl rfl), _, rfl, bz0, h⟩
def w_X8_drawOf (x1 : Int32) (M : pm) (Q : Int32 → pm → Prop) : Prop := ¬ (Int32.toInt64 x1) = 0 ∧ (Q (Int64.toInt32 (lrm ((lrm (((1103515245 : Int64) * (mJ M 277 71)) + (12345 : Int64)) (2147483648 : Int64)) / (64 : Int64)) (Int32.toInt64 x1))) (sJ M 277 71 (lrm (((1103515245 : Int64) * (mJ M 277 71)) + (12345 : Int64)) (2147483648 : Int64))))
set_option maxRecDepth 4000 in
theorem c_X8_drawOf {x1 : Int32} {M : pm} {Q : Int32 → pm → Prop}  (hM : pG M) (h : w_X8_drawOf x1 M Q) : PW mX8_drawOf 1 350 0 (pfr mX8_drawOf.2.2.1 [.ref 277, .int x1]) [] M (qI Q) := by
  unfold w_X8_drawOf at h
  show PW mX8_drawOf 1 350 0 [.ref 277, .int x1] [] M (qI Q)
  refine PW.aload_n (pc := 0) dX8_drawOf_0 rfl ?_
  refine PW.ldc2 (pc := 1) dX8_drawOf_1 lk_X8_569 ?_
  refine PW.aload_n (pc := 4) dX8_drawOf_4 rfl ?_
  refine PW.getJ (pc := 5) dX8_drawOf_5 lf_X8_161 (ob hM.1 s_277 (by decide)) fx_8_71 ?_
  refine PW.lmul (pc := 8) dX8_drawOf_8 ?_
  refine PW.ldc2 (pc := 9) dX8_drawOf_9 lk_X8_571 ?_
  refine PW.ladd (pc := 12) dX8_drawOf_12 ?_
  refine PW.ldc2 (pc := 13) dX8_drawOf_13 lk_X8_573 ?_
  refine PW.lrem (pc := 16) dX8_drawOf_16 (by decide) ?_
  refine PW.putJ (pc := 17) dX8_drawOf_17 lf_X8_161 (ob hM.1 s_277 (by decide)) fx_8_71 fw_8_71 rfl rfl ?_
  refine PW.aload_n (pc := 20) dX8_drawOf_20 rfl ?_
  refine PW.getJ (pc := 21) dX8_drawOf_21 lf_X8_161 (ob hM.1 s_277 (by decide)) fx_8_71 ?_
  refine PW.ldc2 (pc := 24) dX8_drawOf_24 lk_X8_575 ?_
  refine PW.ldiv (pc := 27) dX8_drawOf_27 (by decide) ?_
  refine PW.iload_n (pc := 28) dX8_drawOf_28 rfl ?_
  refine PW.i2l (pc := 29) dX8_drawOf_29 ?_
  obtain ⟨v1, h⟩ := h
  refine PW.lrem (pc := 30) dX8_drawOf_30 v1 ?_
  refine PW.l2i (pc := 31) dX8_drawOf_31 ?_
  exact PW.retI (pc := 32) dX8_drawOf_32 hM.1 rfl rfl ⟨(hM.same rfl rfl), _, rfl, h⟩
def w_X8_aliveOf_2 : Nat → Int32 → Int32 → pm → (Int32 → pm → Prop) → Prop
  | 0, _, _, _, _ => False
  | n + 1, x1, x2, M, Q => w_X8_isDead x2 M (fun y2 M1 => ((¬ y2 = 0 → (w_X8_isDead x2 M1 (fun y6 M5 => ((¬ y6 = 0 → (w_X8_aliveOf_2 n x1 (x2 + 1) M5 Q)) ∧ (y6 = 0 → (w_X8_aliveOf_2 n (x1 + (-1)) (x2 + 1) M5 Q)))))) ∧ (y2 = 0 → ((x1 ≤ 0 → (Q x2 M1)) ∧ (¬ x1 ≤ 0 → (w_X8_isDead x2 M1 (fun y10 M9 => ((¬ y10 = 0 → (w_X8_aliveOf_2 n x1 (x2 + 1) M9 Q)) ∧ (y10 = 0 → (w_X8_aliveOf_2 n (x1 + (-1)) (x2 + 1) M9 Q))))))))))
set_option maxRecDepth 4000 in
theorem c_X8_aliveOf_2  {Q : Int32 → pm → Prop}  : ∀ (n : Nat) (x1 : Int32) (x2 : Int32) (M : pm), pG M → w_X8_aliveOf_2 n x1 x2 M  Q → PW mX8_aliveOf 3 350 2 [.ref 277, .int x1, .int x2] [] M (qI Q) := by
  intro n
  induction n with
  | zero => intro x1 x2 M hM h; exact h.elim
  | succ n ih =>
    intro x1 x2 M hM h
    unfold w_X8_aliveOf_2 at h
    refine PW.aload_n (pc := 2) dX8_aliveOf_2 rfl ?_
    refine PW.iload_n (pc := 3) dX8_aliveOf_3 rfl ?_
    refine PW.inv (m' := mX8_isDead) (pc := 4) dX8_aliveOf_4 lm_X8_405 me_X8_isDead mi_X8_isDead (ob hM.1 s_277 (by decide)) rfl (As := [.int x2]) (st := []) rfl (Nat.le_of_ble_eq_true rfl) (Nat.le_of_ble_eq_true rfl) (Nat.le_of_eq hM.1) (Nat.le_refl _) (PW.deep (by decide) (c_X8_isDead  hM h)) ?_
    rintro _ M1 ⟨hM3, y2, rfl, z4, h⟩
    refine PW.if_ne (pc := 7) dX8_aliveOf_7 (t := 14) (by decide) (fun hc => ?_) (fun hc => ?_)
    · have h := h.1 hc
      refine PW.aload_n (pc := 14) dX8_aliveOf_14 rfl ?_
      refine PW.iload_n (pc := 15) dX8_aliveOf_15 rfl ?_
      refine PW.inv (m' := mX8_isDead) (pc := 16) dX8_aliveOf_16 lm_X8_405 me_X8_isDead mi_X8_isDead (ob hM3.1 s_277 (by decide)) rfl (As := [.int x2]) (st := []) rfl (Nat.le_of_ble_eq_true rfl) (Nat.le_of_ble_eq_true rfl) (Nat.le_of_eq hM3.1) (Nat.le_refl _) (PW.deep (by decide) (c_X8_isDead  hM3 h)) ?_
      rintro _ M5 ⟨hM7, y6, rfl, z8, h⟩
      refine PW.if_ne (pc := 19) dX8_aliveOf_19 (t := 25) (by decide) (fun hc => ?_) (fun hc => ?_)
      · have h := h.1 hc
        refine PW.iinc (pc := 25) dX8_aliveOf_25 (v := (x2 + 1)) (ls' := [.ref 277, .int x1, .int (x2 + 1)]) rfl rfl (by decide) rfl rfl ?_
        refine PW.goto (pc := 28) dX8_aliveOf_28 (t := 2) (by decide) ?_
        exact PW.drop (ih _ _ _ hM7 h) ⟨rfl, rfl, rfl, trivial⟩
      · have h := h.2 hc
        refine PW.iinc (pc := 22) dX8_aliveOf_22 (v := (x1 + (-1))) (ls' := [.ref 277, .int (x1 + (-1)), .int x2]) rfl rfl (by decide) rfl rfl ?_
        refine PW.iinc (pc := 25) dX8_aliveOf_25 (v := (x2 + 1)) (ls' := [.ref 277, .int (x1 + (-1)), .int (x2 + 1)]) rfl rfl (by decide) rfl rfl ?_
        refine PW.goto (pc := 28) dX8_aliveOf_28 (t := 2) (by decide) ?_
        exact PW.drop (ih _ _ _ hM7 h) ⟨rfl, rfl, rfl, trivial⟩
    · have h := h.2 hc
      refine PW.iload_n (pc := 10) dX8_aliveOf_10 rfl ?_
      refine PW.if_le (pc := 11) dX8_aliveOf_11 (t := 31) (by decide) (fun hc => ?_) (fun hc => ?_)
      · have h := h.1 hc
        refine PW.iload_n (pc := 31) dX8_aliveOf_31 rfl ?_
        exact PW.retI (pc := 32) dX8_aliveOf_32 hM3.1 rfl rfl ⟨hM3, _, rfl, h⟩
      · have h := h.2 hc
        refine PW.aload_n (pc := 14) dX8_aliveOf_14 rfl ?_
        refine PW.iload_n (pc := 15) dX8_aliveOf_15 rfl ?_
        refine PW.inv (m' := mX8_isDead) (pc := 16) dX8_aliveOf_16 lm_X8_405 me_X8_isDead mi_X8_isDead (ob hM3.1 s_277 (by decide)) rfl (As := [.int x2]) (st := []) rfl (Nat.le_of_ble_eq_true rfl) (Nat.le_of_ble_eq_true rfl) (Nat.le_of_eq hM3.1) (Nat.le_refl _) (PW.deep (by decide) (c_X8_isDead  hM3 h)) ?_
        rintro _ M9 ⟨hM11, y10, rfl, z12, h⟩
        refine PW.if_ne (pc := 19) dX8_aliveOf_19 (t := 25) (by decide) (fun hc => ?_) (fun hc => ?_)
        · have h := h.1 hc
          refine PW.iinc (pc := 25) dX8_aliveOf_25 (v := (x2 + 1)) (ls' := [.ref 277, .int x1, .int (x2 + 1)]) rfl rfl (by decide) rfl rfl ?_
          refine PW.goto (pc := 28) dX8_aliveOf_28 (t := 2) (by decide) ?_
          exact PW.drop (ih _ _ _ hM11 h) ⟨rfl, rfl, rfl, trivial⟩
        · have h := h.2 hc
          refine PW.iinc (pc := 22) dX8_aliveOf_22 (v := (x1 + (-1))) (ls' := [.ref 277, .int (x1 + (-1)), .int x2]) rfl rfl (by decide) rfl rfl ?_
          refine PW.iinc (pc := 25) dX8_aliveOf_25 (v := (x2 + 1)) (ls' := [.ref 277, .int (x1 + (-1)), .int (x2 + 1)]) rfl rfl (by decide) rfl rfl ?_
          refine PW.goto (pc := 28) dX8_aliveOf_28 (t := 2) (by decide) ?_
          exact PW.drop (ih _ _ _ hM11 h) ⟨rfl, rfl, rfl, trivial⟩
def w_X8_aliveOf (x1 : Int32) (M : pm) (Q : Int32 → pm → Prop) : Prop := ∃ n13, w_X8_aliveOf_2 n13 x1 0 M  Q
set_option maxRecDepth 4000 in
theorem c_X8_aliveOf {x1 : Int32} {M : pm} {Q : Int32 → pm → Prop}  (hM : pG M) (h : w_X8_aliveOf x1 M Q) : PW mX8_aliveOf 3 350 0 (pfr mX8_aliveOf.2.2.1 [.ref 277, .int x1]) [] M (qI Q) := by
  unfold w_X8_aliveOf at h
  show PW mX8_aliveOf 3 350 0 [.ref 277, .int x1, .null] [] M (qI Q)
  refine PW.iconst (pc := 0) dX8_aliveOf_0 (v := 0) (by decide) ?_
  refine PW.istore_n (pc := 1) dX8_aliveOf_1 (ls' := [.ref 277, .int x1, .int 0]) (by decide) rfl rfl ?_
  obtain ⟨n13, h⟩ := h
  refine PW.drop (c_X8_aliveOf_2  n13 _ _ _ hM h) ⟨rfl, rfl, rfl, trivial⟩
def w_X8_chance_25 : Nat → Int32 → Int32 → Int32 → pm → (Int32 → pm → Prop) → Prop
  | 0, _, _, _, _, _ => False
  | n + 1, x1, x2, x3, M, Q => ((x1 ≤ x3 → (Q x2 M)) ∧ (¬ x1 ≤ x3 → (w_X8_askerMany  M (fun y9 M8 => w_X8_deadMany  M8 (fun y12 M11 => w_X8_drawOf 100 M11 (fun y15 M14 => (((mI M14 308 5) ≤ y15 → (w_X8_dayGoes  M14 (fun M17 => w_X8_chance_25 n x1 x2 (x3 + 1) M17 Q))) ∧ (¬ (mI M14 308 5) ≤ y15 → (((y9 - y12) ≤ 0 → (w_X8_dayGoes  M14 (fun M20 => w_X8_chance_25 n x1 x2 (x3 + 1) M20 Q))) ∧ (¬ (y9 - y12) ≤ 0 → (w_X8_drawOf (y9 - y12) M14 (fun y24 M23 => w_X8_aliveOf y24 M23 (fun y27 M26 => vp_in (3 + (5 * y27)) 163 ∧ (w_X8_dayGoes  (sI M26 317 ((3 + (5 * y27)).toNatClampNeg) (mI M26 317 0)) (fun M30 => w_X8_chance_25 n x1 (x2 + 1) (x3 + 1) M30 Q)))))))))))))))
set_option maxRecDepth 4000 in
theorem c_X8_chance_25  {Q : Int32 → pm → Prop}  : ∀ (n : Nat) (x1 : Int32) (x2 : Int32) (x3 : Int32) (M : pm), pG M → w_X8_chance_25 n x1 x2 x3 M  Q → PW mX8_chance 10 350 25 [.ref 277, .int x1, .int x2, .int x3, .null] [] M (qI Q) := by
  intro n
  induction n with
  | zero => intro x1 x2 x3 M hM h; exact h.elim
  | succ n ih =>
    intro x1 x2 x3 M hM h
    unfold w_X8_chance_25 at h
    refine PW.iload_n (pc := 25) dX8_chance_25 rfl ?_
    refine PW.iload_n (pc := 26) dX8_chance_26 rfl ?_
    refine PW.icmp_ge (pc := 27) dX8_chance_27 (t := 99) (by decide) (fun hc => ?_) (fun hc => ?_)
    · have h := h.1 hc
      refine PW.iload_n (pc := 99) dX8_chance_99 rfl ?_
      exact PW.retI (pc := 100) dX8_chance_100 hM.1 rfl rfl ⟨hM, _, rfl, h⟩
    · have h := h.2 hc
      refine PW.aload_n (pc := 30) dX8_chance_30 rfl ?_
      refine PW.inv (m' := mX8_askerMany) (pc := 31) dX8_chance_31 lm_X8_395 me_X8_askerMany mi_X8_askerMany (ob hM.1 s_277 (by decide)) rfl (As := []) (st := []) rfl (Nat.le_of_ble_eq_true rfl) (Nat.le_of_ble_eq_true rfl) (Nat.le_of_eq hM.1) (Nat.le_refl _) (PW.deep (by decide) (c_X8_askerMany  hM h)) ?_
      rintro _ M8 ⟨hM10, y9, rfl, h⟩
      refine PW.aload_n (pc := 34) dX8_chance_34 rfl ?_
      refine PW.inv (m' := mX8_deadMany) (pc := 35) dX8_chance_35 lm_X8_491 me_X8_deadMany mi_X8_deadMany (ob hM10.1 s_277 (by decide)) rfl (As := []) (st := [.int y9]) rfl (Nat.le_of_ble_eq_true rfl) (Nat.le_of_ble_eq_true rfl) (Nat.le_of_eq hM10.1) (Nat.le_refl _) (PW.deep (by decide) (c_X8_deadMany  hM10 h)) ?_
      rintro _ M11 ⟨hM13, y12, rfl, h⟩
      refine PW.isub (pc := 38) dX8_chance_38 ?_
      refine PW.istore (pc := 39) dX8_chance_39 (ls' := [.ref 277, .int x1, .int x2, .int x3, .int (y9 - y12)]) (by decide) rfl rfl ?_
      refine PW.aload_n (pc := 41) dX8_chance_41 rfl ?_
      refine PW.bipush (pc := 42) dX8_chance_42 (v := 100) (by decide) ?_
      refine PW.inv (m' := mX8_drawOf) (pc := 44) dX8_chance_44 lm_X8_577 me_X8_drawOf mi_X8_drawOf (ob hM13.1 s_277 (by decide)) rfl (As := [.int 100]) (st := []) rfl (Nat.le_of_ble_eq_true rfl) (Nat.le_of_ble_eq_true rfl) (Nat.le_of_eq hM13.1) (Nat.le_refl _) (PW.deep (by decide) (c_X8_drawOf  hM13 h)) ?_
      rintro _ M14 ⟨hM16, y15, rfl, h⟩
      refine PW.aload_n (pc := 47) dX8_chance_47 rfl ?_
      refine PW.getR (pc := 48) dX8_chance_48 (r := 308) lf_X8_105 (ob hM16.1 s_277 (by decide)) fx_8_39 (oR_8_39 hM16 s_277) (pS_ne s_308) ?_
      refine PW.iconst (pc := 51) dX8_chance_51 (v := 5) (by decide) ?_
      refine PW.iald (pc := 52) dX8_chance_52 (ar hM16.1 s_308) (vpl n_308 (vp_c (i := 5) (n := 6) (by decide))) ?_
      refine PW.icmp_ge (pc := 53) dX8_chance_53 (t := 89) (by decide) (fun hc => ?_) (fun hc => ?_)
      · have h := h.1 hc
        refine PW.aload_n (pc := 89) dX8_chance_89 rfl ?_
        refine PW.inv (m' := mX8_dayGoes) (pc := 90) dX8_chance_90 lm_X8_485 me_X8_dayGoes mi_X8_dayGoes (ob hM16.1 s_277 (by decide)) rfl (As := []) (st := []) rfl (Nat.le_of_ble_eq_true rfl) (Nat.le_of_ble_eq_true rfl) (Nat.le_of_eq hM16.1) (Nat.le_refl _) (PW.deep (by decide) (c_X8_dayGoes  hM16 h)) ?_
        rintro _ M17 ⟨hM19, rfl, h⟩
        refine PW.iinc (pc := 93) dX8_chance_93 (v := (x3 + 1)) (ls' := [.ref 277, .int x1, .int x2, .int (x3 + 1), .int (y9 - y12)]) rfl rfl (by decide) rfl rfl ?_
        refine PW.goto (pc := 96) dX8_chance_96 (t := 25) (by decide) ?_
        exact PW.drop (ih _ _ _ _ hM19 h) ⟨rfl, rfl, rfl, rfl, trivial⟩
      · have h := h.2 hc
        refine PW.iload (pc := 56) dX8_chance_56 rfl ?_
        refine PW.if_le (pc := 58) dX8_chance_58 (t := 89) (by decide) (fun hc => ?_) (fun hc => ?_)
        · have h := h.1 hc
          refine PW.aload_n (pc := 89) dX8_chance_89 rfl ?_
          refine PW.inv (m' := mX8_dayGoes) (pc := 90) dX8_chance_90 lm_X8_485 me_X8_dayGoes mi_X8_dayGoes (ob hM16.1 s_277 (by decide)) rfl (As := []) (st := []) rfl (Nat.le_of_ble_eq_true rfl) (Nat.le_of_ble_eq_true rfl) (Nat.le_of_eq hM16.1) (Nat.le_refl _) (PW.deep (by decide) (c_X8_dayGoes  hM16 h)) ?_
          rintro _ M20 ⟨hM22, rfl, h⟩
          refine PW.iinc (pc := 93) dX8_chance_93 (v := (x3 + 1)) (ls' := [.ref 277, .int x1, .int x2, .int (x3 + 1), .int (y9 - y12)]) rfl rfl (by decide) rfl rfl ?_
          refine PW.goto (pc := 96) dX8_chance_96 (t := 25) (by decide) ?_
          exact PW.drop (ih _ _ _ _ hM22 h) ⟨rfl, rfl, rfl, rfl, trivial⟩
        · have h := h.2 hc
          refine PW.aload_n (pc := 61) dX8_chance_61 rfl ?_
          refine PW.getR (pc := 62) dX8_chance_62 (r := 317) lf_X8_133 (ob hM16.1 s_277 (by decide)) fx_8_52 (oR_8_52 hM16 s_277) (pS_ne s_317) ?_
          refine PW.iconst (pc := 65) dX8_chance_65 (v := 3) (by decide) ?_
          refine PW.iconst (pc := 66) dX8_chance_66 (v := 5) (by decide) ?_
          refine PW.aload_n (pc := 67) dX8_chance_67 rfl ?_
          refine PW.aload_n (pc := 68) dX8_chance_68 rfl ?_
          refine PW.iload (pc := 69) dX8_chance_69 rfl ?_
          refine PW.inv (m' := mX8_drawOf) (pc := 71) dX8_chance_71 lm_X8_577 me_X8_drawOf mi_X8_drawOf (ob hM16.1 s_277 (by decide)) rfl (As := [.int (y9 - y12)]) (st := [.ref 277, .int 5, .int 3, .ref 317]) rfl (Nat.le_of_ble_eq_true rfl) (Nat.le_of_ble_eq_true rfl) (Nat.le_of_eq hM16.1) (Nat.le_refl _) (PW.deep (by decide) (c_X8_drawOf  hM16 h)) ?_
          rintro _ M23 ⟨hM25, y24, rfl, h⟩
          refine PW.inv (m' := mX8_aliveOf) (pc := 74) dX8_chance_74 lm_X8_580 me_X8_aliveOf mi_X8_aliveOf (ob hM25.1 s_277 (by decide)) rfl (As := [.int y24]) (st := [.int 5, .int 3, .ref 317]) rfl (Nat.le_of_ble_eq_true rfl) (Nat.le_of_ble_eq_true rfl) (Nat.le_of_eq hM25.1) (Nat.le_refl _) (PW.deep (by decide) (c_X8_aliveOf  hM25 h)) ?_
          rintro _ M26 ⟨hM28, y27, rfl, h⟩
          refine PW.imul (pc := 77) dX8_chance_77 ?_
          refine PW.iadd (pc := 78) dX8_chance_78 ?_
          refine PW.aload_n (pc := 79) dX8_chance_79 rfl ?_
          refine PW.getR (pc := 80) dX8_chance_80 (r := 317) lf_X8_133 (ob hM28.1 s_277 (by decide)) fx_8_52 (oR_8_52 hM28 s_277) (pS_ne s_317) ?_
          refine PW.iconst (pc := 83) dX8_chance_83 (v := 0) (by decide) ?_
          refine PW.iald (pc := 84) dX8_chance_84 (ar hM28.1 s_317) (vpl n_317 (vp_c (i := 0) (n := 163) (by decide))) ?_
          obtain ⟨v29, h⟩ := h
          refine PW.iast (pc := 85) dX8_chance_85 (ar hM28.1 s_317) (vpl n_317 v29) ?_
          refine PW.iinc (pc := 86) dX8_chance_86 (v := (x2 + 1)) (ls' := [.ref 277, .int x1, .int (x2 + 1), .int x3, .int (y9 - y12)]) rfl rfl (by decide) rfl rfl ?_
          refine PW.aload_n (pc := 89) dX8_chance_89 rfl ?_
          refine PW.inv (m' := mX8_dayGoes) (pc := 90) dX8_chance_90 lm_X8_485 me_X8_dayGoes mi_X8_dayGoes (ob hM28.1 s_277 (by decide)) rfl (As := []) (st := []) rfl (Nat.le_of_ble_eq_true rfl) (Nat.le_of_ble_eq_true rfl) (Nat.le_of_eq hM28.1) (Nat.le_refl _) (PW.deep (by decide) (c_X8_dayGoes  (hM28.same rfl rfl) h)) ?_
          rintro _ M30 ⟨hM32, rfl, h⟩
          refine PW.iinc (pc := 93) dX8_chance_93 (v := (x3 + 1)) (ls' := [.ref 277, .int x1, .int (x2 + 1), .int (x3 + 1), .int (y9 - y12)]) rfl rfl (by decide) rfl rfl ?_
          refine PW.goto (pc := 96) dX8_chance_96 (t := 25) (by decide) ?_
          exact PW.drop (ih _ _ _ _ hM32 h) ⟨rfl, rfl, rfl, rfl, trivial⟩
def w_X8_chance (x1 : Int32) (M : pm) (Q : Int32 → pm → Prop) : Prop := w_X8_isAhead x1 1 100 M (fun y2 M1 => ((¬ y2 = 0 → (w_X8_keeps  M1 (fun M5 => ∃ n33, w_X8_chance_25 n33 x1 0 0 M5  Q))) ∧ (y2 = 0 → (w_X8_refuses 3 M1 (fun y35 M34 => Q y35 M34)))))
set_option maxRecDepth 4000 in
theorem c_X8_chance {x1 : Int32} {M : pm} {Q : Int32 → pm → Prop}  (hM : pG M) (h : w_X8_chance x1 M Q) : PW mX8_chance 10 350 0 (pfr mX8_chance.2.2.1 [.ref 277, .int x1]) [] M (qI Q) := by
  unfold w_X8_chance at h
  show PW mX8_chance 10 350 0 [.ref 277, .int x1, .null, .null, .null] [] M (qI Q)
  refine PW.aload_n (pc := 0) dX8_chance_0 rfl ?_
  refine PW.iload_n (pc := 1) dX8_chance_1 rfl ?_
  refine PW.iconst (pc := 2) dX8_chance_2 (v := 1) (by decide) ?_
  refine PW.bipush (pc := 3) dX8_chance_3 (v := 100) (by decide) ?_
  refine PW.inv (m' := mX8_isAhead) (pc := 5) dX8_chance_5 lm_X8_515 me_X8_isAhead mi_X8_isAhead (ob hM.1 s_277 (by decide)) rfl (As := [.int x1, .int 1, .int 100]) (st := []) rfl (Nat.le_of_ble_eq_true rfl) (Nat.le_of_ble_eq_true rfl) (Nat.le_of_eq hM.1) (Nat.le_refl _) (PW.deep (by decide) (c_X8_isAhead  hM h)) ?_
  rintro _ M1 ⟨hM3, y2, rfl, z4, h⟩
  refine PW.if_ne (pc := 8) dX8_chance_8 (t := 17) (by decide) (fun hc => ?_) (fun hc => ?_)
  · have h := h.1 hc
    refine PW.aload_n (pc := 17) dX8_chance_17 rfl ?_
    refine PW.inv (m' := mX8_keeps) (pc := 18) dX8_chance_18 lm_X8_566 me_X8_keeps mi_X8_keeps (ob hM3.1 s_277 (by decide)) rfl (As := []) (st := []) rfl (Nat.le_of_ble_eq_true rfl) (Nat.le_of_ble_eq_true rfl) (Nat.le_of_eq hM3.1) (Nat.le_refl _) (PW.deep (by decide) (c_X8_keeps  hM3 h)) ?_
    rintro _ M5 ⟨hM7, rfl, h⟩
    refine PW.iconst (pc := 21) dX8_chance_21 (v := 0) (by decide) ?_
    refine PW.istore_n (pc := 22) dX8_chance_22 (ls' := [.ref 277, .int x1, .int 0, .null, .null]) (by decide) rfl rfl ?_
    refine PW.iconst (pc := 23) dX8_chance_23 (v := 0) (by decide) ?_
    refine PW.istore_n (pc := 24) dX8_chance_24 (ls' := [.ref 277, .int x1, .int 0, .int 0, .null]) (by decide) rfl rfl ?_
    obtain ⟨n33, h⟩ := h
    refine PW.drop (c_X8_chance_25  n33 _ _ _ _ hM7 h) ⟨rfl, rfl, rfl, rfl, trivial⟩
  · have h := h.2 hc
    refine PW.aload_n (pc := 11) dX8_chance_11 rfl ?_
    refine PW.iconst (pc := 12) dX8_chance_12 (v := 3) (by decide) ?_
    refine PW.inv (m' := mX8_refuses) (pc := 13) dX8_chance_13 lm_X8_551 me_X8_refuses mi_X8_refuses (ob hM3.1 s_277 (by decide)) rfl (As := [.int 3]) (st := []) rfl (Nat.le_of_ble_eq_true rfl) (Nat.le_of_ble_eq_true rfl) (Nat.le_of_eq hM3.1) (Nat.le_refl _) (PW.deep (by decide) (c_X8_refuses  hM3 h)) ?_
    rintro _ M34 ⟨hM36, y35, rfl, h⟩
    exact PW.retI (pc := 16) dX8_chance_16 hM36.1 rfl rfl ⟨hM36, _, rfl, h⟩
def w_X8_qOf (x1 : Int32) (x2 : Int64) (x4 : Int32) (M : pm) (Q : Int64 → pm → Prop) : Prop := w_X8_songOf x4 M (fun y2 M1 => ((¬ x2 = (Int32.toInt64 y2) → (Q (0 : Int64) M1)) ∧ (x2 = (Int32.toInt64 y2) → (Q (1 : Int64) M1))))
set_option maxRecDepth 4000 in
theorem c_X8_qOf {x1 : Int32} {x2 : Int64} {x4 : Int32} {M : pm} {Q : Int64 → pm → Prop}  (hM : pG M) (h : w_X8_qOf x1 x2 x4 M Q) : PW mX8_qOf 2 350 0 (pfr mX8_qOf.2.2.1 [.ref 277, .int x1, .long x2, .int x4]) [] M (qJ Q) := by
  unfold w_X8_qOf at h
  show PW mX8_qOf 2 350 0 [.ref 277, .int x1, .long x2, .null, .int x4] [] M (qJ Q)
  refine PW.iload_n (pc := 0) dX8_qOf_0 rfl ?_
  refine PW.lookup (pc := 1) dX8_qOf_1 (by decide) (off := 11) rfl (t := 12) (by decide) ?_
  refine PW.lload_n (pc := 12) dX8_qOf_12 rfl ?_
  refine PW.aload_n (pc := 13) dX8_qOf_13 rfl ?_
  refine PW.iload (pc := 14) dX8_qOf_14 rfl ?_
  refine PW.inv (m' := mX8_songOf) (pc := 16) dX8_qOf_16 lm_X8_398 me_X8_songOf mi_X8_songOf (ob hM.1 s_277 (by decide)) rfl (As := [.int x4]) (st := [.long x2]) rfl (Nat.le_of_ble_eq_true rfl) (Nat.le_of_ble_eq_true rfl) (Nat.le_of_eq hM.1) (Nat.le_refl _) (PW.deep (by decide) (c_X8_songOf  hM h)) ?_
  rintro _ M1 ⟨hM3, y2, rfl, h⟩
  refine PW.i2l (pc := 19) dX8_qOf_19 ?_
  refine PW.lcmp (pc := 20) dX8_qOf_20 ?_
  refine PW.if_ne (pc := 21) dX8_qOf_21 (t := 28) (by decide) (fun hc => ?_) (fun hc => ?_)
  · have h := h.1 (fun q => hc ((lg_cmp_eq _ _).mpr q))
    refine PW.lconst (pc := 28) dX8_qOf_28 (v := 0) (by decide) ?_
    exact PW.retJ (pc := 29) dX8_qOf_29 hM3.1 rfl ⟨hM3, _, rfl, h⟩
  · have h := h.2 ((lg_cmp_eq _ _).mp hc)
    refine PW.lconst (pc := 24) dX8_qOf_24 (v := 1) (by decide) ?_
    refine PW.goto (pc := 25) dX8_qOf_25 (t := 29) (by decide) ?_
    exact PW.retJ (pc := 29) dX8_qOf_29 hM3.1 rfl ⟨hM3, _, rfl, h⟩
