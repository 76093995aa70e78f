/-! methods, walked by program: w_ what must hold before, c_ its proof -/
def w_X8_isImage_67 : Nat → Int32 → pm → (Int32 → pm → Prop) → Prop
  | 0, _, _, _ => False
  | n + 1, x2, M, Q => w_X8_askerMany  M (fun y15 M14 => ((y15 ≤ x2 → (Q 1 M14)) ∧ (¬ y15 ≤ x2 → (w_X8_isAskerTold (4 + (8 * x2)) M14 (fun y18 M17 => ((¬ y18 = 0 → (w_X8_isImage_67 n (x2 + 1) M17 Q)) ∧ (y18 = 0 → (Q 0 M17))))))))
set_option maxRecDepth 4000 in
theorem c_X8_isImage_67  {Q : Int32 → pm → Prop}  : ∀ (n : Nat) (x2 : Int32) (M : pm), pG M → w_X8_isImage_67 n x2 M  Q → PW mX8_isImage 3 350 67 [.ref 277, .null, .int x2] [] M (qZ Q) := by
  intro n
  induction n with
  | zero => intro x2 M hM h; exact h.elim
  | succ n ih =>
    intro x2 M hM h
    unfold w_X8_isImage_67 at h
    refine PW.iload_n (pc := 67) dX8_isImage_67 rfl ?_
    refine PW.aload_n (pc := 68) dX8_isImage_68 rfl ?_
    refine PW.inv (m' := mX8_askerMany) (pc := 69) dX8_isImage_69 lm_X8_395 me_X8_askerMany mi_X8_askerMany (ob hM.1 s_277 (by decide)) rfl (As := []) (st := [.int x2]) rfl (Nat.le_of_ble_eq_true rfl) (Nat.le_of_ble_eq_true rfl) (Nat.le_of_eq hM.1) (Nat.le_refl _) (PW.deep (by decide) (c_X8_askerMany  hM h)) ?_
    rintro _ M14 ⟨hM16, y15, rfl, h⟩
    refine PW.icmp_ge (pc := 72) dX8_isImage_72 (t := 96) (by decide) (fun hc => ?_) (fun hc => ?_)
    · have h := h.1 hc
      refine PW.iconst (pc := 96) dX8_isImage_96 (v := 1) (by decide) ?_
      exact PW.retI (pc := 97) dX8_isImage_97 hM16.1 rfl (bz_n bz1) ⟨hM16, _, rfl, bz1, h⟩
    · have h := h.2 hc
      refine PW.aload_n (pc := 75) dX8_isImage_75 rfl ?_
      refine PW.iconst (pc := 76) dX8_isImage_76 (v := 4) (by decide) ?_
      refine PW.bipush (pc := 77) dX8_isImage_77 (v := 8) (by decide) ?_
      refine PW.iload_n (pc := 79) dX8_isImage_79 rfl ?_
      refine PW.imul (pc := 80) dX8_isImage_80 ?_
      refine PW.iadd (pc := 81) dX8_isImage_81 ?_
      refine PW.inv (m' := mX8_isAskerTold) (pc := 82) dX8_isImage_82 lm_X8_690 me_X8_isAskerTold mi_X8_isAskerTold (ob hM16.1 s_277 (by decide)) rfl (As := [.int (4 + (8 * x2))]) (st := []) rfl (Nat.le_of_ble_eq_true rfl) (Nat.le_of_ble_eq_true rfl) (Nat.le_of_eq hM16.1) (Nat.le_refl _) (PW.deep (by decide) (c_X8_isAskerTold  hM16 h)) ?_
      rintro _ M17 ⟨hM19, y18, rfl, z20, h⟩
      refine PW.if_ne (pc := 85) dX8_isImage_85 (t := 90) (by decide) (fun hc => ?_) (fun hc => ?_)
      · have h := h.1 hc
        refine PW.iinc (pc := 90) dX8_isImage_90 (v := (x2 + 1)) (ls' := [.ref 277, .null, .int (x2 + 1)]) rfl rfl (by decide) rfl rfl ?_
        refine PW.goto (pc := 93) dX8_isImage_93 (t := 67) (by decide) ?_
        exact PW.drop (ih _ _ hM19 h) ⟨rfl, rfl, trivial⟩
      · have h := h.2 hc
        refine PW.iconst (pc := 88) dX8_isImage_88 (v := 0) (by decide) ?_
        exact PW.retI (pc := 89) dX8_isImage_89 hM19.1 rfl (bz_n bz0) ⟨hM19, _, rfl, bz0, h⟩
def w_X8_isImage (x1 : Int32) (M : pm) (Q : Int32 → pm → Prop) : Prop := (((mI M 277 50) = 0 → (Q 0 M)) ∧ (¬ (mI M 277 50) = 0 → (w_X8_askerMany  M (fun y2 M1 => ((¬ x1 = (5 + (8 * y2)) → (Q 0 M1)) ∧ (x1 = (5 + (8 * y2)) → (vp_in (x1 - 1) 1600 ∧ (w_X8_checked 278 (x1 - 1) M1 (fun y6 M5 => ((¬ (mI M1 278 ((x1 - 1).toNatClampNeg)) = y6 → (Q 0 M5)) ∧ ((mI M1 278 ((x1 - 1).toNatClampNeg)) = y6 → (w_X8_twoAt 0 M5 (fun y9 M8 => ((999 < y9 → (Q 0 M8)) ∧ (¬ 999 < y9 → (w_X8_twoAt 2 M8 (fun y12 M11 => ((y12 ≤ 999 → (∃ n21, w_X8_isImage_67 n21 0 M11  Q)) ∧ (¬ y12 ≤ 999 → (Q 0 M11))))))))))))))))))))
set_option maxRecDepth 4000 in
theorem c_X8_isImage {x1 : Int32} {M : pm} {Q : Int32 → pm → Prop}  (hM : pG M) (h : w_X8_isImage x1 M Q) : PW mX8_isImage 3 350 0 (pfr mX8_isImage.2.2.1 [.ref 277, .int x1]) [] M (qZ Q) := by
  unfold w_X8_isImage at h
  show PW mX8_isImage 3 350 0 [.ref 277, .int x1, .null] [] M (qZ Q)
  refine PW.aload_n (pc := 0) dX8_isImage_0 rfl ?_
  refine PW.getI (pc := 1) dX8_isImage_1 lf_X8_385 (ob hM.1 s_277 (by decide)) fx_8_50 ?_
  refine PW.if_eq (pc := 4) dX8_isImage_4 (t := 63) (by decide) (fun hc => ?_) (fun hc => ?_)
  · have h := h.1 hc
    refine PW.iconst (pc := 63) dX8_isImage_63 (v := 0) (by decide) ?_
    exact PW.retI (pc := 64) dX8_isImage_64 hM.1 rfl (bz_n bz0) ⟨hM, _, rfl, bz0, h⟩
  · have h := h.2 hc
    refine PW.iload_n (pc := 7) dX8_isImage_7 rfl ?_
    refine PW.iconst (pc := 8) dX8_isImage_8 (v := 5) (by decide) ?_
    refine PW.bipush (pc := 9) dX8_isImage_9 (v := 8) (by decide) ?_
    refine PW.aload_n (pc := 11) dX8_isImage_11 rfl ?_
    refine PW.inv (m' := mX8_askerMany) (pc := 12) dX8_isImage_12 lm_X8_395 me_X8_askerMany mi_X8_askerMany (ob hM.1 s_277 (by decide)) rfl (As := []) (st := [.int 8, .int 5, .int x1]) rfl (Nat.le_of_ble_eq_true rfl) (Nat.le_of_ble_eq_true rfl) (Nat.le_of_eq hM.1) (Nat.le_refl _) (PW.deep (by decide) (c_X8_askerMany  hM h)) ?_
    rintro _ M1 ⟨hM3, y2, rfl, h⟩
    refine PW.imul (pc := 15) dX8_isImage_15 ?_
    refine PW.iadd (pc := 16) dX8_isImage_16 ?_
    refine PW.icmp_ne (pc := 17) dX8_isImage_17 (t := 63) (by decide) (fun hc => ?_) (fun hc => ?_)
    · have h := h.1 hc
      refine PW.iconst (pc := 63) dX8_isImage_63 (v := 0) (by decide) ?_
      exact PW.retI (pc := 64) dX8_isImage_64 hM3.1 rfl (bz_n bz0) ⟨hM3, _, rfl, bz0, h⟩
    · have h := h.2 hc
      refine PW.aload_n (pc := 20) dX8_isImage_20 rfl ?_
      refine PW.getR (pc := 21) dX8_isImage_21 (r := 278) lf_X8_7 (ob hM3.1 s_277 (by decide)) fx_8_0 (oR_8_0 hM3 s_277) (pS_ne s_278) ?_
      refine PW.iload_n (pc := 24) dX8_isImage_24 rfl ?_
      refine PW.iconst (pc := 25) dX8_isImage_25 (v := 1) (by decide) ?_
      refine PW.isub (pc := 26) dX8_isImage_26 ?_
      obtain ⟨v4, h⟩ := h
      refine PW.iald (pc := 27) dX8_isImage_27 (ar hM3.1 s_278) (vpl n_278 v4) ?_
      refine PW.aload_n (pc := 28) dX8_isImage_28 rfl ?_
      refine PW.getR (pc := 29) dX8_isImage_29 (r := 278) lf_X8_7 (ob hM3.1 s_277 (by decide)) fx_8_0 (oR_8_0 hM3 s_277) (pS_ne s_278) ?_
      refine PW.iload_n (pc := 32) dX8_isImage_32 rfl ?_
      refine PW.iconst (pc := 33) dX8_isImage_33 (v := 1) (by decide) ?_
      refine PW.isub (pc := 34) dX8_isImage_34 ?_
      refine PW.ins (m' := mX8_checked) (pc := 35) dX8_isImage_35 lm_X8_683 me_X8_checked ms_X8_checked (As := [.ref 278, .int (x1 - 1)]) (st := [.int (mI M1 278 ((x1 - 1).toNatClampNeg))]) rfl (Nat.le_of_ble_eq_true rfl) (Nat.le_of_ble_eq_true rfl) (Nat.le_of_eq hM3.1) (Nat.le_refl _) (PW.deep (by decide) (c_X8_checked s_278 hM3 h)) ?_
      rintro _ M5 ⟨hM7, y6, rfl, h⟩
      refine PW.icmp_ne (pc := 38) dX8_isImage_38 (t := 63) (by decide) (fun hc => ?_) (fun hc => ?_)
      · have h := h.1 hc
        refine PW.iconst (pc := 63) dX8_isImage_63 (v := 0) (by decide) ?_
        exact PW.retI (pc := 64) dX8_isImage_64 hM7.1 rfl (bz_n bz0) ⟨hM7, _, rfl, bz0, h⟩
      · have h := h.2 hc
        refine PW.aload_n (pc := 41) dX8_isImage_41 rfl ?_
        refine PW.iconst (pc := 42) dX8_isImage_42 (v := 0) (by decide) ?_
        refine PW.inv (m' := mX8_twoAt) (pc := 43) dX8_isImage_43 lm_X8_687 me_X8_twoAt mi_X8_twoAt (ob hM7.1 s_277 (by decide)) rfl (As := [.int 0]) (st := []) rfl (Nat.le_of_ble_eq_true rfl) (Nat.le_of_ble_eq_true rfl) (Nat.le_of_eq hM7.1) (Nat.le_refl _) (PW.deep (by decide) (c_X8_twoAt  hM7 h)) ?_
        rintro _ M8 ⟨hM10, y9, rfl, h⟩
        refine PW.sipush (pc := 46) dX8_isImage_46 (v := 999) (by decide) ?_
        refine PW.icmp_gt (pc := 49) dX8_isImage_49 (t := 63) (by decide) (fun hc => ?_) (fun hc => ?_)
        · have h := h.1 hc
          refine PW.iconst (pc := 63) dX8_isImage_63 (v := 0) (by decide) ?_
          exact PW.retI (pc := 64) dX8_isImage_64 hM10.1 rfl (bz_n bz0) ⟨hM10, _, rfl, bz0, h⟩
        · have h := h.2 hc
          refine PW.aload_n (pc := 52) dX8_isImage_52 rfl ?_
          refine PW.iconst (pc := 53) dX8_isImage_53 (v := 2) (by decide) ?_
          refine PW.inv (m' := mX8_twoAt) (pc := 54) dX8_isImage_54 lm_X8_687 me_X8_twoAt mi_X8_twoAt (ob hM10.1 s_277 (by decide)) rfl (As := [.int 2]) (st := []) rfl (Nat.le_of_ble_eq_true rfl) (Nat.le_of_ble_eq_true rfl) (Nat.le_of_eq hM10.1) (Nat.le_refl _) (PW.deep (by decide) (c_X8_twoAt  hM10 h)) ?_
          rintro _ M11 ⟨hM13, y12, rfl, h⟩
          refine PW.sipush (pc := 57) dX8_isImage_57 (v := 999) (by decide) ?_
          refine PW.icmp_le (pc := 60) dX8_isImage_60 (t := 65) (by decide) (fun hc => ?_) (fun hc => ?_)
          · have h := h.1 hc
            refine PW.iconst (pc := 65) dX8_isImage_65 (v := 0) (by decide) ?_
            refine PW.istore_n (pc := 66) dX8_isImage_66 (ls' := [.ref 277, .int x1, .int 0]) (by decide) rfl rfl ?_
            obtain ⟨n21, h⟩ := h
            refine PW.drop (c_X8_isImage_67  n21 _ _ hM13 h) ⟨rfl, rfl, trivial⟩
          · have h := h.2 hc
            refine PW.iconst (pc := 63) dX8_isImage_63 (v := 0) (by decide) ?_
            exact PW.retI (pc := 64) dX8_isImage_64 hM13.1 rfl (bz_n bz0) ⟨hM13, _, rfl, bz0, h⟩
def w_X8_on_54 : Nat → Int32 → pm → (Int32 → pm → Prop) → Prop
  | 0, _, _, _ => False
  | n + 1, x2, M, Q => w_X8_askerMany  M (fun y12 M11 => ((y12 ≤ x2 → (Q 1 (sI (sI M11 317 42 0) 277 69 0))) ∧ (¬ y12 ≤ x2 → (vp_in (4 + (8 * x2)) 1600 ∧ (vp_in (2 + (5 * x2)) 163 ∧ (w_X8_twoAt ((4 + (8 * x2)) + 1) (sI M11 317 ((2 + (5 * x2)).toNatClampNeg) (mI M11 278 ((4 + (8 * x2)).toNatClampNeg))) (fun y17 M16 => vp_in (3 + (5 * x2)) 163 ∧ (vp_in ((4 + (8 * x2)) + 3) 1600 ∧ (vp_in (4 + (5 * x2)) 163 ∧ (w_X8_twoAt ((4 + (8 * x2)) + 4) (sI (sI M16 317 ((3 + (5 * x2)).toNatClampNeg) y17) 317 ((4 + (5 * x2)).toNatClampNeg) (mI M16 278 (((4 + (8 * x2)) + 3).toNatClampNeg))) (fun y23 M22 => vp_in (5 + (5 * x2)) 163 ∧ (w_X8_twoAt ((4 + (8 * x2)) + 6) (sI M22 317 ((5 + (5 * x2)).toNatClampNeg) y23) (fun y27 M26 => vp_in (6 + (5 * x2)) 163 ∧ (w_X8_on_54 n (x2 + 1) (sI M26 317 ((6 + (5 * x2)).toNatClampNeg) y27) Q))))))))))))))
set_option maxRecDepth 4000 in
theorem c_X8_on_54  {Q : Int32 → pm → Prop}  : ∀ (n : Nat) (x2 : Int32) (M : pm), pG M → w_X8_on_54 n x2 M  Q → PW mX8_on 4 350 54 [.ref 277, .null, .int x2, .null] [] M (qZ Q) := by
  intro n
  induction n with
  | zero => intro x2 M hM h; exact h.elim
  | succ n ih =>
    intro x2 M hM h
    unfold w_X8_on_54 at h
    refine PW.iload_n (pc := 54) dX8_on_54 rfl ?_
    refine PW.aload_n (pc := 55) dX8_on_55 rfl ?_
    refine PW.inv (m' := mX8_askerMany) (pc := 56) dX8_on_56 lm_X8_395 me_X8_askerMany mi_X8_askerMany (ob hM.1 s_277 (by decide)) rfl (As := []) (st := [.int x2]) rfl (Nat.le_of_ble_eq_true rfl) (Nat.le_of_ble_eq_true rfl) (Nat.le_of_eq hM.1) (Nat.le_refl _) (PW.deep (by decide) (c_X8_askerMany  hM h)) ?_
    rintro _ M11 ⟨hM13, y12, rfl, h⟩
    refine PW.icmp_ge (pc := 59) dX8_on_59 (t := 162) (by decide) (fun hc => ?_) (fun hc => ?_)
    · have h := h.1 hc
      refine PW.aload_n (pc := 162) dX8_on_162 rfl ?_
      refine PW.getR (pc := 163) dX8_on_163 (r := 317) lf_X8_133 (ob hM13.1 s_277 (by decide)) fx_8_52 (oR_8_52 hM13 s_277) (pS_ne s_317) ?_
      refine PW.bipush (pc := 166) dX8_on_166 (v := 42) (by decide) ?_
      refine PW.iconst (pc := 168) dX8_on_168 (v := 0) (by decide) ?_
      refine PW.iast (pc := 169) dX8_on_169 (ar hM13.1 s_317) (vpl n_317 (vp_c (i := 42) (n := 163) (by decide))) ?_
      refine PW.aload_n (pc := 170) dX8_on_170 rfl ?_
      refine PW.iconst (pc := 171) dX8_on_171 (v := 0) (by decide) ?_
      refine PW.putI (pc := 172) dX8_on_172 lf_X8_389 (ob hM13.1 s_277 (by decide)) fx_8_69 fw_8_69 rfl rfl ?_
      refine PW.iconst (pc := 175) dX8_on_175 (v := 1) (by decide) ?_
      exact PW.retI (pc := 176) dX8_on_176 hM13.1 rfl (bz_n bz1) ⟨(hM13.same rfl rfl), _, rfl, bz1, h⟩
    · have h := h.2 hc
      refine PW.iconst (pc := 62) dX8_on_62 (v := 4) (by decide) ?_
      refine PW.bipush (pc := 63) dX8_on_63 (v := 8) (by decide) ?_
      refine PW.iload_n (pc := 65) dX8_on_65 rfl ?_
      refine PW.imul (pc := 66) dX8_on_66 ?_
      refine PW.iadd (pc := 67) dX8_on_67 ?_
      refine PW.istore_n (pc := 68) dX8_on_68 (ls' := [.ref 277, .null, .int x2, .int (4 + (8 * x2))]) (by decide) rfl rfl ?_
      refine PW.aload_n (pc := 69) dX8_on_69 rfl ?_
      refine PW.getR (pc := 70) dX8_on_70 (r := 317) lf_X8_133 (ob hM13.1 s_277 (by decide)) fx_8_52 (oR_8_52 hM13 s_277) (pS_ne s_317) ?_
      refine PW.iconst (pc := 73) dX8_on_73 (v := 2) (by decide) ?_
      refine PW.iconst (pc := 74) dX8_on_74 (v := 5) (by decide) ?_
      refine PW.iload_n (pc := 75) dX8_on_75 rfl ?_
      refine PW.imul (pc := 76) dX8_on_76 ?_
      refine PW.iadd (pc := 77) dX8_on_77 ?_
      refine PW.aload_n (pc := 78) dX8_on_78 rfl ?_
      refine PW.getR (pc := 79) dX8_on_79 (r := 278) lf_X8_7 (ob hM13.1 s_277 (by decide)) fx_8_0 (oR_8_0 hM13 s_277) (pS_ne s_278) ?_
      refine PW.iload_n (pc := 82) dX8_on_82 rfl ?_
      obtain ⟨v14, h⟩ := h
      refine PW.iald (pc := 83) dX8_on_83 (ar hM13.1 s_278) (vpl n_278 v14) ?_
      obtain ⟨v15, h⟩ := h
      refine PW.iast (pc := 84) dX8_on_84 (ar hM13.1 s_317) (vpl n_317 v15) ?_
      refine PW.aload_n (pc := 85) dX8_on_85 rfl ?_
      refine PW.getR (pc := 86) dX8_on_86 (r := 317) lf_X8_133 (ob hM13.1 s_277 (by decide)) fx_8_52 (oR_8_52 (hM13.same rfl rfl) s_277) (pS_ne s_317) ?_
      refine PW.iconst (pc := 89) dX8_on_89 (v := 3) (by decide) ?_
      refine PW.iconst (pc := 90) dX8_on_90 (v := 5) (by decide) ?_
      refine PW.iload_n (pc := 91) dX8_on_91 rfl ?_
      refine PW.imul (pc := 92) dX8_on_92 ?_
      refine PW.iadd (pc := 93) dX8_on_93 ?_
      refine PW.aload_n (pc := 94) dX8_on_94 rfl ?_
      refine PW.iload_n (pc := 95) dX8_on_95 rfl ?_
      refine PW.iconst (pc := 96) dX8_on_96 (v := 1) (by decide) ?_
      refine PW.iadd (pc := 97) dX8_on_97 ?_
      refine PW.inv (m' := mX8_twoAt) (pc := 98) dX8_on_98 lm_X8_687 me_X8_twoAt mi_X8_twoAt (ob hM13.1 s_277 (by decide)) rfl (As := [.int ((4 + (8 * x2)) + 1)]) (st := [.int (3 + (5 * x2)), .ref 317]) rfl (Nat.le_of_ble_eq_true rfl) (Nat.le_of_ble_eq_true rfl) (Nat.le_of_eq hM13.1) (Nat.le_refl _) (PW.deep (by decide) (c_X8_twoAt  (hM13.same rfl rfl) h)) ?_
      rintro _ M16 ⟨hM18, y17, rfl, h⟩
      obtain ⟨v19, h⟩ := h
      refine PW.iast (pc := 101) dX8_on_101 (ar hM18.1 s_317) (vpl n_317 v19) ?_
      refine PW.aload_n (pc := 102) dX8_on_102 rfl ?_
      refine PW.getR (pc := 103) dX8_on_103 (r := 317) lf_X8_133 (ob hM18.1 s_277 (by decide)) fx_8_52 (oR_8_52 (hM18.same rfl rfl) s_277) (pS_ne s_317) ?_
      refine PW.iconst (pc := 106) dX8_on_106 (v := 4) (by decide) ?_
      refine PW.iconst (pc := 107) dX8_on_107 (v := 5) (by decide) ?_
      refine PW.iload_n (pc := 108) dX8_on_108 rfl ?_
      refine PW.imul (pc := 109) dX8_on_109 ?_
      refine PW.iadd (pc := 110) dX8_on_110 ?_
      refine PW.aload_n (pc := 111) dX8_on_111 rfl ?_
      refine PW.getR (pc := 112) dX8_on_112 (r := 278) lf_X8_7 (ob hM18.1 s_277 (by decide)) fx_8_0 (oR_8_0 (hM18.same rfl rfl) s_277) (pS_ne s_278) ?_
      refine PW.iload_n (pc := 115) dX8_on_115 rfl ?_
      refine PW.iconst (pc := 116) dX8_on_116 (v := 3) (by decide) ?_
      refine PW.iadd (pc := 117) dX8_on_117 ?_
      obtain ⟨v20, h⟩ := h
      refine PW.iald (pc := 118) dX8_on_118 (ar hM18.1 s_278) (vpl n_278 v20) ?_
      obtain ⟨v21, h⟩ := h
      refine PW.iast (pc := 119) dX8_on_119 (ar hM18.1 s_317) (vpl n_317 v21) ?_
      refine PW.aload_n (pc := 120) dX8_on_120 rfl ?_
      refine PW.getR (pc := 121) dX8_on_121 (r := 317) lf_X8_133 (ob hM18.1 s_277 (by decide)) fx_8_52 (oR_8_52 (hM18.same rfl rfl) s_277) (pS_ne s_317) ?_
      refine PW.iconst (pc := 124) dX8_on_124 (v := 5) (by decide) ?_
      refine PW.iconst (pc := 125) dX8_on_125 (v := 5) (by decide) ?_
      refine PW.iload_n (pc := 126) dX8_on_126 rfl ?_
      refine PW.imul (pc := 127) dX8_on_127 ?_
      refine PW.iadd (pc := 128) dX8_on_128 ?_
      refine PW.aload_n (pc := 129) dX8_on_129 rfl ?_
      refine PW.iload_n (pc := 130) dX8_on_130 rfl ?_
      refine PW.iconst (pc := 131) dX8_on_131 (v := 4) (by decide) ?_
      refine PW.iadd (pc := 132) dX8_on_132 ?_
      refine PW.inv (m' := mX8_twoAt) (pc := 133) dX8_on_133 lm_X8_687 me_X8_twoAt mi_X8_twoAt (ob hM18.1 s_277 (by decide)) rfl (As := [.int ((4 + (8 * x2)) + 4)]) (st := [.int (5 + (5 * x2)), .ref 317]) rfl (Nat.le_of_ble_eq_true rfl) (Nat.le_of_ble_eq_true rfl) (Nat.le_of_eq hM18.1) (Nat.le_refl _) (PW.deep (by decide) (c_X8_twoAt  (hM18.same rfl rfl) h)) ?_
      rintro _ M22 ⟨hM24, y23, rfl, h⟩
      obtain ⟨v25, h⟩ := h
      refine PW.iast (pc := 136) dX8_on_136 (ar hM24.1 s_317) (vpl n_317 v25) ?_
      refine PW.aload_n (pc := 137) dX8_on_137 rfl ?_
      refine PW.getR (pc := 138) dX8_on_138 (r := 317) lf_X8_133 (ob hM24.1 s_277 (by decide)) fx_8_52 (oR_8_52 (hM24.same rfl rfl) s_277) (pS_ne s_317) ?_
      refine PW.bipush (pc := 141) dX8_on_141 (v := 6) (by decide) ?_
      refine PW.iconst (pc := 143) dX8_on_143 (v := 5) (by decide) ?_
      refine PW.iload_n (pc := 144) dX8_on_144 rfl ?_
      refine PW.imul (pc := 145) dX8_on_145 ?_
      refine PW.iadd (pc := 146) dX8_on_146 ?_
      refine PW.aload_n (pc := 147) dX8_on_147 rfl ?_
      refine PW.iload_n (pc := 148) dX8_on_148 rfl ?_
      refine PW.bipush (pc := 149) dX8_on_149 (v := 6) (by decide) ?_
      refine PW.iadd (pc := 151) dX8_on_151 ?_
      refine PW.inv (m' := mX8_twoAt) (pc := 152) dX8_on_152 lm_X8_687 me_X8_twoAt mi_X8_twoAt (ob hM24.1 s_277 (by decide)) rfl (As := [.int ((4 + (8 * x2)) + 6)]) (st := [.int (6 + (5 * x2)), .ref 317]) rfl (Nat.le_of_ble_eq_true rfl) (Nat.le_of_ble_eq_true rfl) (Nat.le_of_eq hM24.1) (Nat.le_refl _) (PW.deep (by decide) (c_X8_twoAt  (hM24.same rfl rfl) h)) ?_
      rintro _ M26 ⟨hM28, y27, rfl, h⟩
      obtain ⟨v29, h⟩ := h
      refine PW.iast (pc := 155) dX8_on_155 (ar hM28.1 s_317) (vpl n_317 v29) ?_
      refine PW.iinc (pc := 156) dX8_on_156 (v := (x2 + 1)) (ls' := [.ref 277, .null, .int (x2 + 1), .int (4 + (8 * x2))]) rfl rfl (by decide) rfl rfl ?_
      refine PW.goto (pc := 159) dX8_on_159 (t := 54) (by decide) ?_
      exact PW.drop (ih _ _ (hM28.same rfl rfl) h) ⟨rfl, rfl, trivial⟩
def w_X8_on  (M : pm) (Q : Int32 → pm → Prop) : Prop := w_X8_isImage (mI M 277 1) (sI M 277 1 0) (fun y2 M1 => ((¬ y2 = 0 → (w_X8_twoAt 0 M1 (fun y6 M5 => w_X8_twoAt 2 (sI M5 317 0 y6) (fun y9 M8 => ∃ n30, w_X8_on_54 n30 0 (sI M8 317 1 y9)  Q)))) ∧ (y2 = 0 → (Q 0 (sI M1 279 5 ((mI M1 279 5) + 1))))))
set_option maxRecDepth 4000 in
theorem c_X8_on  {M : pm} {Q : Int32 → pm → Prop}  (hM : pG M) (h : w_X8_on  M Q) : PW mX8_on 4 350 0 (pfr mX8_on.2.2.1 [.ref 277]) [] M (qZ Q) := by
  unfold w_X8_on at h
  show PW mX8_on 4 350 0 [.ref 277, .null, .null, .null] [] M (qZ Q)
  refine PW.aload_n (pc := 0) dX8_on_0 rfl ?_
  refine PW.getI (pc := 1) dX8_on_1 lf_X8_246 (ob hM.1 s_277 (by decide)) fx_8_1 ?_
  refine PW.istore_n (pc := 4) dX8_on_4 (ls' := [.ref 277, .int (mI M 277 1), .null, .null]) (by decide) rfl rfl ?_
  refine PW.aload_n (pc := 5) dX8_on_5 rfl ?_
  refine PW.iconst (pc := 6) dX8_on_6 (v := 0) (by decide) ?_
  refine PW.putI (pc := 7) dX8_on_7 lf_X8_246 (ob hM.1 s_277 (by decide)) fx_8_1 fw_8_1 rfl rfl ?_
  refine PW.aload_n (pc := 10) dX8_on_10 rfl ?_
  refine PW.iload_n (pc := 11) dX8_on_11 rfl ?_
  refine PW.inv (m' := mX8_isImage) (pc := 12) dX8_on_12 lm_X8_693 me_X8_isImage mi_X8_isImage (ob hM.1 s_277 (by decide)) rfl (As := [.int (mI M 277 1)]) (st := []) rfl (Nat.le_of_ble_eq_true rfl) (Nat.le_of_ble_eq_true rfl) (Nat.le_of_eq hM.1) (Nat.le_refl _) (PW.deep (by decide) (c_X8_isImage  (hM.same rfl rfl) h)) ?_
  rintro _ M1 ⟨hM3, y2, rfl, z4, h⟩
  refine PW.if_ne (pc := 15) dX8_on_15 (t := 30) (by decide) (fun hc => ?_) (fun hc => ?_)
  · have h := h.1 hc
    refine PW.aload_n (pc := 30) dX8_on_30 rfl ?_
    refine PW.getR (pc := 31) dX8_on_31 (r := 317) lf_X8_133 (ob hM3.1 s_277 (by decide)) fx_8_52 (oR_8_52 hM3 s_277) (pS_ne s_317) ?_
    refine PW.iconst (pc := 34) dX8_on_34 (v := 0) (by decide) ?_
    refine PW.aload_n (pc := 35) dX8_on_35 rfl ?_
    refine PW.iconst (pc := 36) dX8_on_36 (v := 0) (by decide) ?_
    refine PW.inv (m' := mX8_twoAt) (pc := 37) dX8_on_37 lm_X8_687 me_X8_twoAt mi_X8_twoAt (ob hM3.1 s_277 (by decide)) rfl (As := [.int 0]) (st := [.int 0, .ref 317]) rfl (Nat.le_of_ble_eq_true rfl) (Nat.le_of_ble_eq_true rfl) (Nat.le_of_eq hM3.1) (Nat.le_refl _) (PW.deep (by decide) (c_X8_twoAt  hM3 h)) ?_
    rintro _ M5 ⟨hM7, y6, rfl, h⟩
    refine PW.iast (pc := 40) dX8_on_40 (ar hM7.1 s_317) (vpl n_317 (vp_c (i := 0) (n := 163) (by decide))) ?_
    refine PW.aload_n (pc := 41) dX8_on_41 rfl ?_
    refine PW.getR (pc := 42) dX8_on_42 (r := 317) lf_X8_133 (ob hM7.1 s_277 (by decide)) fx_8_52 (oR_8_52 (hM7.same rfl rfl) s_277) (pS_ne s_317) ?_
    refine PW.iconst (pc := 45) dX8_on_45 (v := 1) (by decide) ?_
    refine PW.aload_n (pc := 46) dX8_on_46 rfl ?_
    refine PW.iconst (pc := 47) dX8_on_47 (v := 2) (by decide) ?_
    refine PW.inv (m' := mX8_twoAt) (pc := 48) dX8_on_48 lm_X8_687 me_X8_twoAt mi_X8_twoAt (ob hM7.1 s_277 (by decide)) rfl (As := [.int 2]) (st := [.int 1, .ref 317]) rfl (Nat.le_of_ble_eq_true rfl) (Nat.le_of_ble_eq_true rfl) (Nat.le_of_eq hM7.1) (Nat.le_refl _) (PW.deep (by decide) (c_X8_twoAt  (hM7.same rfl rfl) h)) ?_
    rintro _ M8 ⟨hM10, y9, rfl, h⟩
    refine PW.iast (pc := 51) dX8_on_51 (ar hM10.1 s_317) (vpl n_317 (vp_c (i := 1) (n := 163) (by decide))) ?_
    refine PW.iconst (pc := 52) dX8_on_52 (v := 0) (by decide) ?_
    refine PW.istore_n (pc := 53) dX8_on_53 (ls' := [.ref 277, .int (mI M 277 1), .int 0, .null]) (by decide) rfl rfl ?_
    obtain ⟨n30, h⟩ := h
    refine PW.drop (c_X8_on_54  n30 _ _ (hM10.same rfl rfl) h) ⟨rfl, rfl, trivial⟩
  · have h := h.2 hc
    refine PW.aload_n (pc := 18) dX8_on_18 rfl ?_
    refine PW.getR (pc := 19) dX8_on_19 (r := 279) lf_X8_17 (ob hM3.1 s_277 (by decide)) fx_8_9 (oR_8_9 hM3 s_277) (pS_ne s_279) ?_
    refine PW.iconst (pc := 22) dX8_on_22 (v := 5) (by decide) ?_
    refine PW.dup2IR (pc := 23) dX8_on_23 ?_
    refine PW.iald (pc := 24) dX8_on_24 (ar hM3.1 s_279) (vpl n_279 (vp_c (i := 5) (n := 6) (by decide))) ?_
    refine PW.iconst (pc := 25) dX8_on_25 (v := 1) (by decide) ?_
    refine PW.iadd (pc := 26) dX8_on_26 ?_
    refine PW.iast (pc := 27) dX8_on_27 (ar hM3.1 s_279) (vpl n_279 (vp_c (i := 5) (n := 6) (by decide))) ?_
    refine PW.iconst (pc := 28) dX8_on_28 (v := 0) (by decide) ?_
    exact PW.retI (pc := 29) dX8_on_29 hM3.1 rfl (bz_n bz0) ⟨(hM3.same rfl rfl), _, rfl, bz0, h⟩
def w_X8_status (x1 : Int32) (M : pm) (Q : Int32 → pm → Prop) : Prop := w_X8_isIn (Int32.toInt64 x1) (0 : Int64) (5 : Int64) M (fun y2 M1 => ((y2 = 0 → (Q (-1) M1)) ∧ (¬ y2 = 0 → (vp_in x1 6 ∧ (Q (mI M1 279 x1.toNatClampNeg) M1)))))
set_option maxRecDepth 4000 in
theorem c_X8_status {x1 : Int32} {M : pm} {Q : Int32 → pm → Prop}  (hM : pG M) (h : w_X8_status x1 M Q) : PW mX8_status 2 350 0 (pfr mX8_status.2.2.1 [.ref 277, .int x1]) [] M (qI Q) := by
  unfold w_X8_status at h
  show PW mX8_status 2 350 0 [.ref 277, .int x1] [] M (qI Q)
  refine PW.iload_n (pc := 0) dX8_status_0 rfl ?_
  refine PW.i2l (pc := 1) dX8_status_1 ?_
  refine PW.lconst (pc := 2) dX8_status_2 (v := 0) (by decide) ?_
  refine PW.ldc2 (pc := 3) dX8_status_3 lk_X8_502 ?_
  refine PW.ins (m' := mX8_isIn) (pc := 6) dX8_status_6 lm_X8_289 me_X8_isIn ms_X8_isIn (As := [.long (Int32.toInt64 x1), .long (0 : Int64), .long (5 : Int64)]) (st := []) rfl (Nat.le_of_ble_eq_true rfl) (Nat.le_of_ble_eq_true rfl) (Nat.le_of_eq hM.1) (Nat.le_refl _) (PW.deep (by decide) (c_X8_isIn  hM h)) ?_
  rintro _ M1 ⟨hM3, y2, rfl, z4, h⟩
  refine PW.if_eq (pc := 9) dX8_status_9 (t := 21) (by decide) (fun hc => ?_) (fun hc => ?_)
  · have h := h.1 hc
    refine PW.iconst (pc := 21) dX8_status_21 (v := (-1)) (by decide) ?_
    exact PW.retI (pc := 22) dX8_status_22 hM3.1 rfl rfl ⟨hM3, _, rfl, h⟩
  · have h := h.2 hc
    refine PW.aload_n (pc := 12) dX8_status_12 rfl ?_
    refine PW.getR (pc := 13) dX8_status_13 (r := 279) lf_X8_17 (ob hM3.1 s_277 (by decide)) fx_8_9 (oR_8_9 hM3 s_277) (pS_ne s_279) ?_
    refine PW.iload_n (pc := 16) dX8_status_16 rfl ?_
    obtain ⟨v5, h⟩ := h
    refine PW.iald (pc := 17) dX8_status_17 (ar hM3.1 s_279) (vpl n_279 v5) ?_
    refine PW.goto (pc := 18) dX8_status_18 (t := 22) (by decide) ?_
    exact PW.retI (pc := 22) dX8_status_22 hM3.1 rfl rfl ⟨hM3, _, rfl, h⟩
