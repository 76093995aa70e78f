/-! methods, walked by program: w_ what must hold before, c_ its proof -/
def w_X8_name_58 : Nat → Int64 → pm → (Int64 → pm → Prop) → Prop
  | 0, _, _, _ => False
  | n + 1, x1, M, Q => (((mI M 277 3) ≤ (mI M 277 2) → (Q x1 (sI M 277 4 (mI M 277 2)))) ∧ (¬ (mI M 277 3) ≤ (mI M 277 2) → (vp_in (mI M 277 2) 1600 ∧ (w_X8_isLetter (mI M 278 ((mI M 277 2).toNatClampNeg)) M (fun y20 M19 => ((y20 = 0 → (Q x1 (sI M19 277 4 (mI M19 277 2)))) ∧ (¬ y20 = 0 → ((¬ ((mI M19 277 2) - (mI M19 277 38)) = 6 → (vp_in (mI M19 277 2) 1600 ∧ (w_X8_name_58 n (((((27 : Int64) * x1) + (Int32.toInt64 (mI M19 278 ((mI M19 277 2).toNatClampNeg)))) - (97 : Int64)) + (1 : Int64)) (sI M19 277 2 ((mI M19 277 2) + 1)) Q))) ∧ (((mI M19 277 2) - (mI M19 277 38)) = 6 → (w_X8_fail 1 (mI M19 277 2) M19 (fun M24 => Q (0 : Int64) M24)))))))))))
set_option maxRecDepth 4000 in
theorem c_X8_name_58  {Q : Int64 → pm → Prop}  : ∀ (n : Nat) (x1 : Int64) (M : pm), pG M → w_X8_name_58 n x1 M  Q → PW mX8_name 4 350 58 [.ref 277, .long x1, .null] [] M (qJ Q) := by
  intro n
  induction n with
  | zero => intro x1 M hM h; exact h.elim
  | succ n ih =>
    intro x1 M hM h
    unfold w_X8_name_58 at h
    refine PW.aload_n (pc := 58) dX8_name_58 rfl ?_
    refine PW.getI (pc := 59) dX8_name_59 lf_X8_255 (ob hM.1 s_277 (by decide)) fx_8_2 ?_
    refine PW.aload_n (pc := 62) dX8_name_62 rfl ?_
    refine PW.getI (pc := 63) dX8_name_63 lf_X8_258 (ob hM.1 s_277 (by decide)) fx_8_3 ?_
    refine PW.icmp_ge (pc := 66) dX8_name_66 (t := 145) (by decide) (fun hc => ?_) (fun hc => ?_)
    · have h := h.1 hc
      refine PW.aload_n (pc := 145) dX8_name_145 rfl ?_
      refine PW.aload_n (pc := 146) dX8_name_146 rfl ?_
      refine PW.getI (pc := 147) dX8_name_147 lf_X8_255 (ob hM.1 s_277 (by decide)) fx_8_2 ?_
      refine PW.putI (pc := 150) dX8_name_150 lf_X8_269 (ob hM.1 s_277 (by decide)) fx_8_4 fw_8_4 rfl rfl ?_
      refine PW.lload_n (pc := 153) dX8_name_153 rfl ?_
      exact PW.retJ (pc := 154) dX8_name_154 hM.1 rfl ⟨(hM.same rfl rfl), _, rfl, h⟩
    · have h := h.2 hc
      refine PW.aload_n (pc := 69) dX8_name_69 rfl ?_
      refine PW.getR (pc := 70) dX8_name_70 (r := 278) lf_X8_7 (ob hM.1 s_277 (by decide)) fx_8_0 (oR_8_0 hM s_277) (pS_ne s_278) ?_
      refine PW.aload_n (pc := 73) dX8_name_73 rfl ?_
      refine PW.getI (pc := 74) dX8_name_74 lf_X8_255 (ob hM.1 s_277 (by decide)) fx_8_2 ?_
      obtain ⟨v18, h⟩ := h
      refine PW.iald (pc := 77) dX8_name_77 (ar hM.1 s_278) (vpl n_278 v18) ?_
      refine PW.ins (m' := mX8_isLetter) (pc := 78) dX8_name_78 lm_X8_265 me_X8_isLetter ms_X8_isLetter (As := [.int (mI M 278 ((mI M 277 2).toNatClampNeg))]) (st := []) rfl (Nat.le_of_ble_eq_true rfl) (Nat.le_of_ble_eq_true rfl) (Nat.le_of_eq hM.1) (Nat.le_refl _) (PW.deep (by decide) (c_X8_isLetter  hM h)) ?_
      rintro _ M19 ⟨hM21, y20, rfl, z22, h⟩
      refine PW.if_eq (pc := 81) dX8_name_81 (t := 145) (by decide) (fun hc => ?_) (fun hc => ?_)
      · have h := h.1 hc
        refine PW.aload_n (pc := 145) dX8_name_145 rfl ?_
        refine PW.aload_n (pc := 146) dX8_name_146 rfl ?_
        refine PW.getI (pc := 147) dX8_name_147 lf_X8_255 (ob hM21.1 s_277 (by decide)) fx_8_2 ?_
        refine PW.putI (pc := 150) dX8_name_150 lf_X8_269 (ob hM21.1 s_277 (by decide)) fx_8_4 fw_8_4 rfl rfl ?_
        refine PW.lload_n (pc := 153) dX8_name_153 rfl ?_
        exact PW.retJ (pc := 154) dX8_name_154 hM21.1 rfl ⟨(hM21.same rfl rfl), _, rfl, h⟩
      · have h := h.2 hc
        refine PW.aload_n (pc := 84) dX8_name_84 rfl ?_
        refine PW.getI (pc := 85) dX8_name_85 lf_X8_255 (ob hM21.1 s_277 (by decide)) fx_8_2 ?_
        refine PW.aload_n (pc := 88) dX8_name_88 rfl ?_
        refine PW.getI (pc := 89) dX8_name_89 lf_X8_297 (ob hM21.1 s_277 (by decide)) fx_8_38 ?_
        refine PW.isub (pc := 92) dX8_name_92 ?_
        refine PW.bipush (pc := 93) dX8_name_93 (v := 6) (by decide) ?_
        refine PW.icmp_ne (pc := 95) dX8_name_95 (t := 109) (by decide) (fun hc => ?_) (fun hc => ?_)
        · have h := h.1 hc
          refine PW.ldc2 (pc := 109) dX8_name_109 lk_X8_300 ?_
          refine PW.lload_n (pc := 112) dX8_name_112 rfl ?_
          refine PW.lmul (pc := 113) dX8_name_113 ?_
          refine PW.aload_n (pc := 114) dX8_name_114 rfl ?_
          refine PW.getR (pc := 115) dX8_name_115 (r := 278) lf_X8_7 (ob hM21.1 s_277 (by decide)) fx_8_0 (oR_8_0 hM21 s_277) (pS_ne s_278) ?_
          refine PW.aload_n (pc := 118) dX8_name_118 rfl ?_
          refine PW.getI (pc := 119) dX8_name_119 lf_X8_255 (ob hM21.1 s_277 (by decide)) fx_8_2 ?_
          obtain ⟨v23, h⟩ := h
          refine PW.iald (pc := 122) dX8_name_122 (ar hM21.1 s_278) (vpl n_278 v23) ?_
          refine PW.i2l (pc := 123) dX8_name_123 ?_
          refine PW.ladd (pc := 124) dX8_name_124 ?_
          refine PW.ldc2 (pc := 125) dX8_name_125 lk_X8_302 ?_
          refine PW.lsub (pc := 128) dX8_name_128 ?_
          refine PW.lconst (pc := 129) dX8_name_129 (v := 1) (by decide) ?_
          refine PW.ladd (pc := 130) dX8_name_130 ?_
          refine PW.lstore_n (pc := 131) dX8_name_131 (ls' := [.ref 277, .long (((((27 : Int64) * x1) + (Int32.toInt64 (mI M19 278 ((mI M19 277 2).toNatClampNeg)))) - (97 : Int64)) + (1 : Int64)), .null]) (by decide) rfl rfl ?_
          refine PW.aload_n (pc := 132) dX8_name_132 rfl ?_
          refine PW.dupR (pc := 133) dX8_name_133 ?_
          refine PW.getI (pc := 134) dX8_name_134 lf_X8_255 (ob hM21.1 s_277 (by decide)) fx_8_2 ?_
          refine PW.iconst (pc := 137) dX8_name_137 (v := 1) (by decide) ?_
          refine PW.iadd (pc := 138) dX8_name_138 ?_
          refine PW.putI (pc := 139) dX8_name_139 lf_X8_255 (ob hM21.1 s_277 (by decide)) fx_8_2 fw_8_2 rfl rfl ?_
          refine PW.goto (pc := 142) dX8_name_142 (t := 58) (by decide) ?_
          exact PW.drop (ih _ _ (hM21.same rfl rfl) h) ⟨rfl, rfl, trivial⟩
        · have h := h.2 hc
          refine PW.aload_n (pc := 98) dX8_name_98 rfl ?_
          refine PW.iconst (pc := 99) dX8_name_99 (v := 1) (by decide) ?_
          refine PW.aload_n (pc := 100) dX8_name_100 rfl ?_
          refine PW.getI (pc := 101) dX8_name_101 lf_X8_255 (ob hM21.1 s_277 (by decide)) fx_8_2 ?_
          refine PW.inv (m' := mX8_fail) (pc := 104) dX8_name_104 lm_X8_279 me_X8_fail mi_X8_fail (ob hM21.1 s_277 (by decide)) rfl (As := [.int 1, .int (mI M19 277 2)]) (st := []) rfl (Nat.le_of_ble_eq_true rfl) (Nat.le_of_ble_eq_true rfl) (Nat.le_of_eq hM21.1) (Nat.le_refl _) (PW.deep (by decide) (c_X8_fail  hM21 h)) ?_
          rintro _ M24 ⟨hM26, rfl, h⟩
          refine PW.lconst (pc := 107) dX8_name_107 (v := 0) (by decide) ?_
          exact PW.retJ (pc := 108) dX8_name_108 hM26.1 rfl ⟨hM26, _, rfl, h⟩
def w_X8_name  (M : pm) (Q : Int64 → pm → Prop) : Prop := (((mI M 277 5) = 0 → (w_X8_look  M (fun y2 M1 => w_X8_isLetter y2 M1 (fun y5 M4 => ((y5 = 0 → (w_X8_fail 1 (mI M4 277 2) M4 (fun M8 => Q (0 : Int64) M8))) ∧ (¬ y5 = 0 → (((mI M4 277 2) = (mI M4 277 4) → (w_X8_fail 1 (mI M4 277 2) M4 (fun M11 => Q (0 : Int64) M11))) ∧ (¬ (mI M4 277 2) = (mI M4 277 4) → (w_X8_isOwnHere  M4 (fun y15 M14 => ((y15 = 0 → (∃ n27, w_X8_name_58 n27 (0 : Int64) (sI M14 277 38 (mI M14 277 2))  Q)) ∧ (¬ y15 = 0 → (w_X8_fail 1 (mI M14 277 2) M14 (fun M28 => Q (0 : Int64) M28)))))))))))))) ∧ (¬ (mI M 277 5) = 0 → (Q (0 : Int64) M)))
set_option maxRecDepth 4000 in
theorem c_X8_name  {M : pm} {Q : Int64 → pm → Prop}  (hM : pG M) (h : w_X8_name  M Q) : PW mX8_name 4 350 0 (pfr mX8_name.2.2.1 [.ref 277]) [] M (qJ Q) := by
  unfold w_X8_name at h
  show PW mX8_name 4 350 0 [.ref 277, .null, .null] [] M (qJ Q)
  refine PW.aload_n (pc := 0) dX8_name_0 rfl ?_
  refine PW.getI (pc := 1) dX8_name_1 lf_X8_249 (ob hM.1 s_277 (by decide)) fx_8_5 ?_
  refine PW.if_eq (pc := 4) dX8_name_4 (t := 9) (by decide) (fun hc => ?_) (fun hc => ?_)
  · have h := h.1 hc
    refine PW.aload_n (pc := 9) dX8_name_9 rfl ?_
    refine PW.inv (m' := mX8_look) (pc := 10) dX8_name_10 lm_X8_261 me_X8_look mi_X8_look (ob hM.1 s_277 (by decide)) rfl (As := []) (st := []) rfl (Nat.le_of_ble_eq_true rfl) (Nat.le_of_ble_eq_true rfl) (Nat.le_of_eq hM.1) (Nat.le_refl _) (PW.deep (by decide) (c_X8_look  hM h)) ?_
    rintro _ M1 ⟨hM3, y2, rfl, h⟩
    refine PW.ins (m' := mX8_isLetter) (pc := 13) dX8_name_13 lm_X8_265 me_X8_isLetter ms_X8_isLetter (As := [.int y2]) (st := []) rfl (Nat.le_of_ble_eq_true rfl) (Nat.le_of_ble_eq_true rfl) (Nat.le_of_eq hM3.1) (Nat.le_refl _) (PW.deep (by decide) (c_X8_isLetter  hM3 h)) ?_
    rintro _ M4 ⟨hM6, y5, rfl, z7, h⟩
    refine PW.if_eq (pc := 16) dX8_name_16 (t := 37) (by decide) (fun hc => ?_) (fun hc => ?_)
    · have h := h.1 hc
      refine PW.aload_n (pc := 37) dX8_name_37 rfl ?_
      refine PW.iconst (pc := 38) dX8_name_38 (v := 1) (by decide) ?_
      refine PW.aload_n (pc := 39) dX8_name_39 rfl ?_
      refine PW.getI (pc := 40) dX8_name_40 lf_X8_255 (ob hM6.1 s_277 (by decide)) fx_8_2 ?_
      refine PW.inv (m' := mX8_fail) (pc := 43) dX8_name_43 lm_X8_279 me_X8_fail mi_X8_fail (ob hM6.1 s_277 (by decide)) rfl (As := [.int 1, .int (mI M4 277 2)]) (st := []) rfl (Nat.le_of_ble_eq_true rfl) (Nat.le_of_ble_eq_true rfl) (Nat.le_of_eq hM6.1) (Nat.le_refl _) (PW.deep (by decide) (c_X8_fail  hM6 h)) ?_
      rintro _ M8 ⟨hM10, rfl, h⟩
      refine PW.lconst (pc := 46) dX8_name_46 (v := 0) (by decide) ?_
      exact PW.retJ (pc := 47) dX8_name_47 hM10.1 rfl ⟨hM10, _, rfl, h⟩
    · have h := h.2 hc
      refine PW.aload_n (pc := 19) dX8_name_19 rfl ?_
      refine PW.getI (pc := 20) dX8_name_20 lf_X8_255 (ob hM6.1 s_277 (by decide)) fx_8_2 ?_
      refine PW.aload_n (pc := 23) dX8_name_23 rfl ?_
      refine PW.getI (pc := 24) dX8_name_24 lf_X8_269 (ob hM6.1 s_277 (by decide)) fx_8_4 ?_
      refine PW.icmp_eq (pc := 27) dX8_name_27 (t := 37) (by decide) (fun hc => ?_) (fun hc => ?_)
      · have h := h.1 hc
        refine PW.aload_n (pc := 37) dX8_name_37 rfl ?_
        refine PW.iconst (pc := 38) dX8_name_38 (v := 1) (by decide) ?_
        refine PW.aload_n (pc := 39) dX8_name_39 rfl ?_
        refine PW.getI (pc := 40) dX8_name_40 lf_X8_255 (ob hM6.1 s_277 (by decide)) fx_8_2 ?_
        refine PW.inv (m' := mX8_fail) (pc := 43) dX8_name_43 lm_X8_279 me_X8_fail mi_X8_fail (ob hM6.1 s_277 (by decide)) rfl (As := [.int 1, .int (mI M4 277 2)]) (st := []) rfl (Nat.le_of_ble_eq_true rfl) (Nat.le_of_ble_eq_true rfl) (Nat.le_of_eq hM6.1) (Nat.le_refl _) (PW.deep (by decide) (c_X8_fail  hM6 h)) ?_
        rintro _ M11 ⟨hM13, rfl, h⟩
        refine PW.lconst (pc := 46) dX8_name_46 (v := 0) (by decide) ?_
        exact PW.retJ (pc := 47) dX8_name_47 hM13.1 rfl ⟨hM13, _, rfl, h⟩
      · have h := h.2 hc
        refine PW.aload_n (pc := 30) dX8_name_30 rfl ?_
        refine PW.inv (m' := mX8_isOwnHere) (pc := 31) dX8_name_31 lm_X8_293 me_X8_isOwnHere mi_X8_isOwnHere (ob hM6.1 s_277 (by decide)) rfl (As := []) (st := []) rfl (Nat.le_of_ble_eq_true rfl) (Nat.le_of_ble_eq_true rfl) (Nat.le_of_eq hM6.1) (Nat.le_refl _) (PW.deep (by decide) (c_X8_isOwnHere  hM6 h)) ?_
        rintro _ M14 ⟨hM16, y15, rfl, z17, h⟩
        refine PW.if_eq (pc := 34) dX8_name_34 (t := 48) (by decide) (fun hc => ?_) (fun hc => ?_)
        · have h := h.1 hc
          refine PW.aload_n (pc := 48) dX8_name_48 rfl ?_
          refine PW.aload_n (pc := 49) dX8_name_49 rfl ?_
          refine PW.getI (pc := 50) dX8_name_50 lf_X8_255 (ob hM16.1 s_277 (by decide)) fx_8_2 ?_
          refine PW.putI (pc := 53) dX8_name_53 lf_X8_297 (ob hM16.1 s_277 (by decide)) fx_8_38 fw_8_38 rfl rfl ?_
          refine PW.lconst (pc := 56) dX8_name_56 (v := 0) (by decide) ?_
          refine PW.lstore_n (pc := 57) dX8_name_57 (ls' := [.ref 277, .long (0 : Int64), .null]) (by decide) rfl rfl ?_
          obtain ⟨n27, h⟩ := h
          refine PW.drop (c_X8_name_58  n27 _ _ (hM16.same rfl rfl) h) ⟨rfl, rfl, trivial⟩
        · have h := h.2 hc
          refine PW.aload_n (pc := 37) dX8_name_37 rfl ?_
          refine PW.iconst (pc := 38) dX8_name_38 (v := 1) (by decide) ?_
          refine PW.aload_n (pc := 39) dX8_name_39 rfl ?_
          refine PW.getI (pc := 40) dX8_name_40 lf_X8_255 (ob hM16.1 s_277 (by decide)) fx_8_2 ?_
          refine PW.inv (m' := mX8_fail) (pc := 43) dX8_name_43 lm_X8_279 me_X8_fail mi_X8_fail (ob hM16.1 s_277 (by decide)) rfl (As := [.int 1, .int (mI M14 277 2)]) (st := []) rfl (Nat.le_of_ble_eq_true rfl) (Nat.le_of_ble_eq_true rfl) (Nat.le_of_eq hM16.1) (Nat.le_refl _) (PW.deep (by decide) (c_X8_fail  hM16 h)) ?_
          rintro _ M28 ⟨hM30, rfl, h⟩
          refine PW.lconst (pc := 46) dX8_name_46 (v := 0) (by decide) ?_
          exact PW.retJ (pc := 47) dX8_name_47 hM30.1 rfl ⟨hM30, _, rfl, h⟩
  · have h := h.2 hc
    refine PW.lconst (pc := 7) dX8_name_7 (v := 0) (by decide) ?_
    exact PW.retJ (pc := 8) dX8_name_8 hM.1 rfl ⟨hM, _, rfl, h⟩
def w_X8_isAllowed (x1 : Int32) (M : pm) (Q : Int32 → pm → Prop) : Prop := (((mI M 277 51) = 2 → (Q 1 M)) ∧ (¬ (mI M 277 51) = 2 → ((¬ (mI M 277 51) = 0 → ((7 ≤ x1 → (Q 0 M)) ∧ (¬ 7 ≤ x1 → (Q 1 M)))) ∧ ((mI M 277 51) = 0 → ((5 ≤ x1 → (Q 0 M)) ∧ (¬ 5 ≤ x1 → (Q 1 M)))))))
set_option maxRecDepth 4000 in
theorem c_X8_isAllowed {x1 : Int32} {M : pm} {Q : Int32 → pm → Prop}  (hM : pG M) (h : w_X8_isAllowed x1 M Q) : PW mX8_isAllowed 1 350 0 (pfr mX8_isAllowed.2.2.1 [.ref 277, .int x1]) [] M (qZ Q) := by
  unfold w_X8_isAllowed at h
  show PW mX8_isAllowed 1 350 0 [.ref 277, .int x1] [] M (qZ Q)
  refine PW.aload_n (pc := 0) dX8_isAllowed_0 rfl ?_
  refine PW.getI (pc := 1) dX8_isAllowed_1 lf_X8_304 (ob hM.1 s_277 (by decide)) fx_8_51 ?_
  refine PW.iconst (pc := 4) dX8_isAllowed_4 (v := 2) (by decide) ?_
  refine PW.icmp_eq (pc := 5) dX8_isAllowed_5 (t := 25) (by decide) (fun hc => ?_) (fun hc => ?_)
  · have h := h.1 hc
    refine PW.iconst (pc := 25) dX8_isAllowed_25 (v := 1) (by decide) ?_
    refine PW.goto (pc := 26) dX8_isAllowed_26 (t := 30) (by decide) ?_
    exact PW.retI (pc := 30) dX8_isAllowed_30 hM.1 rfl (bz_n bz1) ⟨hM, _, rfl, bz1, h⟩
  · have h := h.2 hc
    refine PW.iload_n (pc := 8) dX8_isAllowed_8 rfl ?_
    refine PW.aload_n (pc := 9) dX8_isAllowed_9 rfl ?_
    refine PW.getI (pc := 10) dX8_isAllowed_10 lf_X8_304 (ob hM.1 s_277 (by decide)) fx_8_51 ?_
    refine PW.if_ne (pc := 13) dX8_isAllowed_13 (t := 20) (by decide) (fun hc => ?_) (fun hc => ?_)
    · have h := h.1 hc
      refine PW.bipush (pc := 20) dX8_isAllowed_20 (v := 7) (by decide) ?_
      refine PW.icmp_ge (pc := 22) dX8_isAllowed_22 (t := 29) (by decide) (fun hc => ?_) (fun hc => ?_)
      · have h := h.1 hc
        refine PW.iconst (pc := 29) dX8_isAllowed_29 (v := 0) (by decide) ?_
        exact PW.retI (pc := 30) dX8_isAllowed_30 hM.1 rfl (bz_n bz0) ⟨hM, _, rfl, bz0, h⟩
      · have h := h.2 hc
        refine PW.iconst (pc := 25) dX8_isAllowed_25 (v := 1) (by decide) ?_
        refine PW.goto (pc := 26) dX8_isAllowed_26 (t := 30) (by decide) ?_
        exact PW.retI (pc := 30) dX8_isAllowed_30 hM.1 rfl (bz_n bz1) ⟨hM, _, rfl, bz1, h⟩
    · have h := h.2 hc
      refine PW.iconst (pc := 16) dX8_isAllowed_16 (v := 5) (by decide) ?_
      refine PW.goto (pc := 17) dX8_isAllowed_17 (t := 22) (by decide) ?_
      refine PW.icmp_ge (pc := 22) dX8_isAllowed_22 (t := 29) (by decide) (fun hc => ?_) (fun hc => ?_)
      · have h := h.1 hc
        refine PW.iconst (pc := 29) dX8_isAllowed_29 (v := 0) (by decide) ?_
        exact PW.retI (pc := 30) dX8_isAllowed_30 hM.1 rfl (bz_n bz0) ⟨hM, _, rfl, bz0, h⟩
      · have h := h.2 hc
        refine PW.iconst (pc := 25) dX8_isAllowed_25 (v := 1) (by decide) ?_
        refine PW.goto (pc := 26) dX8_isAllowed_26 (t := 30) (by decide) ?_
        exact PW.retI (pc := 30) dX8_isAllowed_30 hM.1 rfl (bz_n bz1) ⟨hM, _, rfl, bz1, h⟩
def w_X8_isFull (x1 : Int32) (x2 : Int32) (x3 : Int32) (M : pm) (Q : Int32 → pm → Prop) : Prop := ((¬ (mI M 277 5) = 0 → (((mI M 277 5) = 0 → (Q 0 M)) ∧ (¬ (mI M 277 5) = 0 → (Q 1 M)))) ∧ ((mI M 277 5) = 0 → (vp_in x1 6 ∧ ((¬ (mI M 309 x1.toNatClampNeg) = x2 → (((mI M 277 5) = 0 → (Q 0 M)) ∧ (¬ (mI M 277 5) = 0 → (Q 1 M)))) ∧ ((mI M 309 x1.toNatClampNeg) = x2 → (w_X8_fail 5 x3 M (fun M2 => (((mI M2 277 5) = 0 → (Q 0 M2)) ∧ (¬ (mI M2 277 5) = 0 → (Q 1 M2))))))))))
set_option maxRecDepth 4000 in
theorem c_X8_isFull {x1 : Int32} {x2 : Int32} {x3 : Int32} {M : pm} {Q : Int32 → pm → Prop}  (hM : pG M) (h : w_X8_isFull x1 x2 x3 M Q) : PW mX8_isFull 2 350 0 (pfr mX8_isFull.2.2.1 [.ref 277, .int x1, .int x2, .int x3]) [] M (qZ Q) := by
  unfold w_X8_isFull at h
  show PW mX8_isFull 2 350 0 [.ref 277, .int x1, .int x2, .int x3] [] M (qZ Q)
  refine PW.aload_n (pc := 0) dX8_isFull_0 rfl ?_
  refine PW.getI (pc := 1) dX8_isFull_1 lf_X8_249 (ob hM.1 s_277 (by decide)) fx_8_5 ?_
  refine PW.if_ne (pc := 4) dX8_isFull_4 (t := 23) (by decide) (fun hc => ?_) (fun hc => ?_)
  · have h := h.1 hc
    refine PW.aload_n (pc := 23) dX8_isFull_23 rfl ?_
    refine PW.getI (pc := 24) dX8_isFull_24 lf_X8_249 (ob hM.1 s_277 (by decide)) fx_8_5 ?_
    refine PW.if_eq (pc := 27) dX8_isFull_27 (t := 34) (by decide) (fun hc => ?_) (fun hc => ?_)
    · have h := h.1 hc
      refine PW.iconst (pc := 34) dX8_isFull_34 (v := 0) (by decide) ?_
      exact PW.retI (pc := 35) dX8_isFull_35 hM.1 rfl (bz_n bz0) ⟨hM, _, rfl, bz0, h⟩
    · have h := h.2 hc
      refine PW.iconst (pc := 30) dX8_isFull_30 (v := 1) (by decide) ?_
      refine PW.goto (pc := 31) dX8_isFull_31 (t := 35) (by decide) ?_
      exact PW.retI (pc := 35) dX8_isFull_35 hM.1 rfl (bz_n bz1) ⟨hM, _, rfl, bz1, h⟩
  · have h := h.2 hc
    refine PW.aload_n (pc := 7) dX8_isFull_7 rfl ?_
    refine PW.getR (pc := 8) dX8_isFull_8 (r := 309) lf_X8_108 (ob hM.1 s_277 (by decide)) fx_8_40 (oR_8_40 hM s_277) (pS_ne s_309) ?_
    refine PW.iload_n (pc := 11) dX8_isFull_11 rfl ?_
    obtain ⟨v1, h⟩ := h
    refine PW.iald (pc := 12) dX8_isFull_12 (ar hM.1 s_309) (vpl n_309 v1) ?_
    refine PW.iload_n (pc := 13) dX8_isFull_13 rfl ?_
    refine PW.icmp_ne (pc := 14) dX8_isFull_14 (t := 23) (by decide) (fun hc => ?_) (fun hc => ?_)
    · have h := h.1 hc
      refine PW.aload_n (pc := 23) dX8_isFull_23 rfl ?_
      refine PW.getI (pc := 24) dX8_isFull_24 lf_X8_249 (ob hM.1 s_277 (by decide)) fx_8_5 ?_
      refine PW.if_eq (pc := 27) dX8_isFull_27 (t := 34) (by decide) (fun hc => ?_) (fun hc => ?_)
      · have h := h.1 hc
        refine PW.iconst (pc := 34) dX8_isFull_34 (v := 0) (by decide) ?_
        exact PW.retI (pc := 35) dX8_isFull_35 hM.1 rfl (bz_n bz0) ⟨hM, _, rfl, bz0, h⟩
      · have h := h.2 hc
        refine PW.iconst (pc := 30) dX8_isFull_30 (v := 1) (by decide) ?_
        refine PW.goto (pc := 31) dX8_isFull_31 (t := 35) (by decide) ?_
        exact PW.retI (pc := 35) dX8_isFull_35 hM.1 rfl (bz_n bz1) ⟨hM, _, rfl, bz1, h⟩
    · have h := h.2 hc
      refine PW.aload_n (pc := 17) dX8_isFull_17 rfl ?_
      refine PW.iconst (pc := 18) dX8_isFull_18 (v := 5) (by decide) ?_
      refine PW.iload_n (pc := 19) dX8_isFull_19 rfl ?_
      refine PW.inv (m' := mX8_fail) (pc := 20) dX8_isFull_20 lm_X8_279 me_X8_fail mi_X8_fail (ob hM.1 s_277 (by decide)) rfl (As := [.int 5, .int x3]) (st := []) rfl (Nat.le_of_ble_eq_true rfl) (Nat.le_of_ble_eq_true rfl) (Nat.le_of_eq hM.1) (Nat.le_refl _) (PW.deep (by decide) (c_X8_fail  hM h)) ?_
      rintro _ M2 ⟨hM4, rfl, h⟩
      refine PW.aload_n (pc := 23) dX8_isFull_23 rfl ?_
      refine PW.getI (pc := 24) dX8_isFull_24 lf_X8_249 (ob hM4.1 s_277 (by decide)) fx_8_5 ?_
      refine PW.if_eq (pc := 27) dX8_isFull_27 (t := 34) (by decide) (fun hc => ?_) (fun hc => ?_)
      · have h := h.1 hc
        refine PW.iconst (pc := 34) dX8_isFull_34 (v := 0) (by decide) ?_
        exact PW.retI (pc := 35) dX8_isFull_35 hM4.1 rfl (bz_n bz0) ⟨hM4, _, rfl, bz0, h⟩
      · have h := h.2 hc
        refine PW.iconst (pc := 30) dX8_isFull_30 (v := 1) (by decide) ?_
        refine PW.goto (pc := 31) dX8_isFull_31 (t := 35) (by decide) ?_
        exact PW.retI (pc := 35) dX8_isFull_35 hM4.1 rfl (bz_n bz1) ⟨hM4, _, rfl, bz1, h⟩
def w_X8_newName_15 : Nat → Int64 → Int32 → Int32 → pm → (Int64 → Int32 → pm → Prop) → (Int64 → pm → Prop) → Prop
  | 0, _, _, _, _, _, _ => False
  | n + 1, x1, x3, x4, M, k65, Q => vp_in x3 6 ∧ (((mI M 309 x3.toNatClampNeg) ≤ x4 → (k65 x1 x3 M)) ∧ (¬ (mI M 309 x3.toNatClampNeg) ≤ x4 → ((¬ (mI M 277 5) = 0 → (w_X8_newName_15 n x1 x3 (x4 + 1) M k65 Q)) ∧ ((mI M 277 5) = 0 → (vp_in ((8 * x3) + x4) 48 ∧ ((¬ (mJ M 310 (((8 * x3) + x4).toNatClampNeg)) = x1 → (w_X8_newName_15 n x1 x3 (x4 + 1) M k65 Q)) ∧ ((mJ M 310 (((8 * x3) + x4).toNatClampNeg)) = x1 → (w_X8_fail 3 (mI M 277 38) M (fun M6 => w_X8_newName_15 n x1 x3 (x4 + 1) M6 k65 Q)))))))))
set_option maxRecDepth 4000 in
theorem c_X8_newName_15 {k65 : Int64 → Int32 → pm → Prop} {Q : Int64 → pm → Prop} (hk65 : ∀ (x1 : Int64) (x3 : Int32) (M : pm), pG M → k65 x1 x3 M → PW mX8_newName 5 350 65 [.ref 277, .long x1, .null, .int x3, .null] [] M (qJ Q)) : ∀ (n : Nat) (x1 : Int64) (x3 : Int32) (x4 : Int32) (M : pm), pG M → w_X8_newName_15 n x1 x3 x4 M k65 Q → PW mX8_newName 5 350 15 [.ref 277, .long x1, .null, .int x3, .int x4] [] M (qJ Q) := by
  intro n
  induction n with
  | zero => intro x1 x3 x4 M hM h; exact h.elim
  | succ n ih =>
    intro x1 x3 x4 M hM h
    unfold w_X8_newName_15 at h
    refine PW.iload (pc := 15) dX8_newName_15 rfl ?_
    refine PW.aload_n (pc := 17) dX8_newName_17 rfl ?_
    refine PW.getR (pc := 18) dX8_newName_18 (r := 309) lf_X8_108 (ob hM.1 s_277 (by decide)) fx_8_40 (oR_8_40 hM s_277) (pS_ne s_309) ?_
    refine PW.iload_n (pc := 21) dX8_newName_21 rfl ?_
    obtain ⟨v4, h⟩ := h
    refine PW.iald (pc := 22) dX8_newName_22 (ar hM.1 s_309) (vpl n_309 v4) ?_
    refine PW.icmp_ge (pc := 23) dX8_newName_23 (t := 65) (by decide) (fun hc => ?_) (fun hc => ?_)
    · have h := h.1 hc
      exact PW.drop (hk65 _ _ _ hM h) ⟨rfl, rfl, rfl, trivial⟩
    · have h := h.2 hc
      refine PW.aload_n (pc := 26) dX8_newName_26 rfl ?_
      refine PW.getI (pc := 27) dX8_newName_27 lf_X8_249 (ob hM.1 s_277 (by decide)) fx_8_5 ?_
      refine PW.if_ne (pc := 30) dX8_newName_30 (t := 59) (by decide) (fun hc => ?_) (fun hc => ?_)
      · have h := h.1 hc
        refine PW.iinc (pc := 59) dX8_newName_59 (v := (x4 + 1)) (ls' := [.ref 277, .long x1, .null, .int x3, .int (x4 + 1)]) rfl rfl (by decide) rfl rfl ?_
        refine PW.goto (pc := 62) dX8_newName_62 (t := 15) (by decide) ?_
        exact PW.drop (ih _ _ _ _ hM h) ⟨rfl, rfl, rfl, rfl, trivial⟩
      · have h := h.2 hc
        refine PW.aload_n (pc := 33) dX8_newName_33 rfl ?_
        refine PW.getR (pc := 34) dX8_newName_34 (r := 310) lf_X8_111 (ob hM.1 s_277 (by decide)) fx_8_41 (oR_8_41 hM s_277) (pS_ne s_310) ?_
        refine PW.bipush (pc := 37) dX8_newName_37 (v := 8) (by decide) ?_
        refine PW.iload_n (pc := 39) dX8_newName_39 rfl ?_
        refine PW.imul (pc := 40) dX8_newName_40 ?_
        refine PW.iload (pc := 41) dX8_newName_41 rfl ?_
        refine PW.iadd (pc := 43) dX8_newName_43 ?_
        obtain ⟨v5, h⟩ := h
        refine PW.lald (pc := 44) dX8_newName_44 (ar hM.1 s_310) (vpl n_310 v5) ?_
        refine PW.lload_n (pc := 45) dX8_newName_45 rfl ?_
        refine PW.lcmp (pc := 46) dX8_newName_46 ?_
        refine PW.if_ne (pc := 47) dX8_newName_47 (t := 59) (by decide) (fun hc => ?_) (fun hc => ?_)
        · have h := h.1 (fun q => hc ((lg_cmp_eq _ _).mpr q))
          refine PW.iinc (pc := 59) dX8_newName_59 (v := (x4 + 1)) (ls' := [.ref 277, .long x1, .null, .int x3, .int (x4 + 1)]) rfl rfl (by decide) rfl rfl ?_
          refine PW.goto (pc := 62) dX8_newName_62 (t := 15) (by decide) ?_
          exact PW.drop (ih _ _ _ _ hM h) ⟨rfl, rfl, rfl, rfl, trivial⟩
        · have h := h.2 ((lg_cmp_eq _ _).mp hc)
          refine PW.aload_n (pc := 50) dX8_newName_50 rfl ?_
          refine PW.iconst (pc := 51) dX8_newName_51 (v := 3) (by decide) ?_
          refine PW.aload_n (pc := 52) dX8_newName_52 rfl ?_
          refine PW.getI (pc := 53) dX8_newName_53 lf_X8_297 (ob hM.1 s_277 (by decide)) fx_8_38 ?_
          refine PW.inv (m' := mX8_fail) (pc := 56) dX8_newName_56 lm_X8_279 me_X8_fail mi_X8_fail (ob hM.1 s_277 (by decide)) rfl (As := [.int 3, .int (mI M 277 38)]) (st := []) rfl (Nat.le_of_ble_eq_true rfl) (Nat.le_of_ble_eq_true rfl) (Nat.le_of_eq hM.1) (Nat.le_refl _) (PW.deep (by decide) (c_X8_fail  hM h)) ?_
          rintro _ M6 ⟨hM8, rfl, h⟩
          refine PW.iinc (pc := 59) dX8_newName_59 (v := (x4 + 1)) (ls' := [.ref 277, .long x1, .null, .int x3, .int (x4 + 1)]) rfl rfl (by decide) rfl rfl ?_
          refine PW.goto (pc := 62) dX8_newName_62 (t := 15) (by decide) ?_
          exact PW.drop (ih _ _ _ _ hM8 h) ⟨rfl, rfl, rfl, rfl, trivial⟩
def w_X8_newName_7 : Nat → Int64 → Int32 → pm → (Int64 → pm → Prop) → Prop
  | 0, _, _, _, _ => False
  | n + 1, x1, x3, M, Q => ((3 ≤ x3 → (Q x1 M)) ∧ (¬ 3 ≤ x3 → (∃ n9, w_X8_newName_15 n9 x1 x3 0 M (fun x1 x3 M10 => w_X8_newName_7 n x1 (x3 + 1) M10 Q) Q)))
set_option maxRecDepth 4000 in
theorem c_X8_newName_7  {Q : Int64 → pm → Prop}  : ∀ (n : Nat) (x1 : Int64) (x3 : Int32) (M : pm), pG M → w_X8_newName_7 n x1 x3 M  Q → PW mX8_newName 5 350 7 [.ref 277, .long x1, .null, .int x3, .null] [] M (qJ Q) := by
  intro n
  induction n with
  | zero => intro x1 x3 M hM h; exact h.elim
  | succ n ih =>
    intro x1 x3 M hM h
    unfold w_X8_newName_7 at h
    refine PW.iload_n (pc := 7) dX8_newName_7 rfl ?_
    refine PW.iconst (pc := 8) dX8_newName_8 (v := 3) (by decide) ?_
    refine PW.icmp_ge (pc := 9) dX8_newName_9 (t := 71) (by decide) (fun hc => ?_) (fun hc => ?_)
    · have h := h.1 hc
      refine PW.lload_n (pc := 71) dX8_newName_71 rfl ?_
      exact PW.retJ (pc := 72) dX8_newName_72 hM.1 rfl ⟨hM, _, rfl, h⟩
    · have h := h.2 hc
      refine PW.iconst (pc := 12) dX8_newName_12 (v := 0) (by decide) ?_
      refine PW.istore (pc := 13) dX8_newName_13 (ls' := [.ref 277, .long x1, .null, .int x3, .int 0]) (by decide) rfl rfl ?_
      obtain ⟨n9, h⟩ := h
      refine PW.drop (c_X8_newName_15 ?_ n9 _ _ _ _ hM h) ⟨rfl, rfl, rfl, rfl, trivial⟩
      · intro x1 x3 M10 hM h
        refine PW.iinc (pc := 65) dX8_newName_65 (v := (x3 + 1)) (ls' := [.ref 277, .long x1, .null, .int (x3 + 1), .null]) rfl rfl (by decide) rfl rfl ?_
        refine PW.goto (pc := 68) dX8_newName_68 (t := 7) (by decide) ?_
        exact PW.drop (ih _ _ _ hM h) ⟨rfl, rfl, rfl, trivial⟩
def w_X8_newName  (M : pm) (Q : Int64 → pm → Prop) : Prop := w_X8_name  M (fun y2 M1 => ∃ n11, w_X8_newName_7 n11 y2 0 M1  Q)
set_option maxRecDepth 4000 in
theorem c_X8_newName  {M : pm} {Q : Int64 → pm → Prop}  (hM : pG M) (h : w_X8_newName  M Q) : PW mX8_newName 5 350 0 (pfr mX8_newName.2.2.1 [.ref 277]) [] M (qJ Q) := by
  unfold w_X8_newName at h
  show PW mX8_newName 5 350 0 [.ref 277, .null, .null, .null, .null] [] M (qJ Q)
  refine PW.aload_n (pc := 0) dX8_newName_0 rfl ?_
  refine PW.inv (m' := mX8_name) (pc := 1) dX8_newName_1 lm_X8_307 me_X8_name mi_X8_name (ob hM.1 s_277 (by decide)) rfl (As := []) (st := []) rfl (Nat.le_of_ble_eq_true rfl) (Nat.le_of_ble_eq_true rfl) (Nat.le_of_eq hM.1) (Nat.le_refl _) (PW.deep (by decide) (c_X8_name  hM h)) ?_
  rintro _ M1 ⟨hM3, y2, rfl, h⟩
  refine PW.lstore_n (pc := 4) dX8_newName_4 (ls' := [.ref 277, .long y2, .null, .null, .null]) (by decide) rfl rfl ?_
  refine PW.iconst (pc := 5) dX8_newName_5 (v := 0) (by decide) ?_
  refine PW.istore_n (pc := 6) dX8_newName_6 (ls' := [.ref 277, .long y2, .null, .int 0, .null]) (by decide) rfl rfl ?_
  obtain ⟨n11, h⟩ := h
  refine PW.drop (c_X8_newName_7  n11 _ _ _ hM3 h) ⟨rfl, rfl, rfl, trivial⟩
def w_X8_songNamed_7 : Nat → Int64 → Int32 → pm → (Int32 → pm → Prop) → Prop
  | 0, _, _, _, _ => False
  | n + 1, x1, x3, M, Q => (((mI M 309 0) ≤ x3 → ((¬ (mI M 277 5) = 0 → (Q 0 M)) ∧ ((mI M 277 5) = 0 → (w_X8_fail 3 (mI M 277 38) M (fun M4 => Q 0 M4))))) ∧ (¬ (mI M 309 0) ≤ x3 → (vp_in x3 48 ∧ ((¬ (mJ M 310 x3.toNatClampNeg) = x1 → (w_X8_songNamed_7 n x1 (x3 + 1) M Q)) ∧ ((mJ M 310 x3.toNatClampNeg) = x1 → (Q x3 M))))))
set_option maxRecDepth 4000 in
theorem c_X8_songNamed_7  {Q : Int32 → pm → Prop}  : ∀ (n : Nat) (x1 : Int64) (x3 : Int32) (M : pm), pG M → w_X8_songNamed_7 n x1 x3 M  Q → PW mX8_songNamed 5 350 7 [.ref 277, .long x1, .null, .int x3] [] M (qI Q) := by
  intro n
  induction n with
  | zero => intro x1 x3 M hM h; exact h.elim
  | succ n ih =>
    intro x1 x3 M hM h
    unfold w_X8_songNamed_7 at h
    refine PW.iload_n (pc := 7) dX8_songNamed_7 rfl ?_
    refine PW.aload_n (pc := 8) dX8_songNamed_8 rfl ?_
    refine PW.getR (pc := 9) dX8_songNamed_9 (r := 309) lf_X8_108 (ob hM.1 s_277 (by decide)) fx_8_40 (oR_8_40 hM s_277) (pS_ne s_309) ?_
    refine PW.iconst (pc := 12) dX8_songNamed_12 (v := 0) (by decide) ?_
    refine PW.iald (pc := 13) dX8_songNamed_13 (ar hM.1 s_309) (vpl n_309 (vp_c (i := 0) (n := 6) (by decide))) ?_
    refine PW.icmp_ge (pc := 14) dX8_songNamed_14 (t := 36) (by decide) (fun hc => ?_) (fun hc => ?_)
    · have h := h.1 hc
      refine PW.aload_n (pc := 36) dX8_songNamed_36 rfl ?_
      refine PW.getI (pc := 37) dX8_songNamed_37 lf_X8_249 (ob hM.1 s_277 (by decide)) fx_8_5 ?_
      refine PW.if_ne (pc := 40) dX8_songNamed_40 (t := 52) (by decide) (fun hc => ?_) (fun hc => ?_)
      · have h := h.1 hc
        refine PW.iconst (pc := 52) dX8_songNamed_52 (v := 0) (by decide) ?_
        exact PW.retI (pc := 53) dX8_songNamed_53 hM.1 rfl rfl ⟨hM, _, rfl, h⟩
      · have h := h.2 hc
        refine PW.aload_n (pc := 43) dX8_songNamed_43 rfl ?_
        refine PW.iconst (pc := 44) dX8_songNamed_44 (v := 3) (by decide) ?_
        refine PW.aload_n (pc := 45) dX8_songNamed_45 rfl ?_
        refine PW.getI (pc := 46) dX8_songNamed_46 lf_X8_297 (ob hM.1 s_277 (by decide)) fx_8_38 ?_
        refine PW.inv (m' := mX8_fail) (pc := 49) dX8_songNamed_49 lm_X8_279 me_X8_fail mi_X8_fail (ob hM.1 s_277 (by decide)) rfl (As := [.int 3, .int (mI M 277 38)]) (st := []) rfl (Nat.le_of_ble_eq_true rfl) (Nat.le_of_ble_eq_true rfl) (Nat.le_of_eq hM.1) (Nat.le_refl _) (PW.deep (by decide) (c_X8_fail  hM h)) ?_
        rintro _ M4 ⟨hM6, rfl, h⟩
        refine PW.iconst (pc := 52) dX8_songNamed_52 (v := 0) (by decide) ?_
        exact PW.retI (pc := 53) dX8_songNamed_53 hM6.1 rfl rfl ⟨hM6, _, rfl, h⟩
    · have h := h.2 hc
      refine PW.aload_n (pc := 17) dX8_songNamed_17 rfl ?_
      refine PW.getR (pc := 18) dX8_songNamed_18 (r := 310) lf_X8_111 (ob hM.1 s_277 (by decide)) fx_8_41 (oR_8_41 hM s_277) (pS_ne s_310) ?_
      refine PW.iload_n (pc := 21) dX8_songNamed_21 rfl ?_
      obtain ⟨v7, h⟩ := h
      refine PW.lald (pc := 22) dX8_songNamed_22 (ar hM.1 s_310) (vpl n_310 v7) ?_
      refine PW.lload_n (pc := 23) dX8_songNamed_23 rfl ?_
      refine PW.lcmp (pc := 24) dX8_songNamed_24 ?_
      refine PW.if_ne (pc := 25) dX8_songNamed_25 (t := 30) (by decide) (fun hc => ?_) (fun hc => ?_)
      · have h := h.1 (fun q => hc ((lg_cmp_eq _ _).mpr q))
        refine PW.iinc (pc := 30) dX8_songNamed_30 (v := (x3 + 1)) (ls' := [.ref 277, .long x1, .null, .int (x3 + 1)]) rfl rfl (by decide) rfl rfl ?_
        refine PW.goto (pc := 33) dX8_songNamed_33 (t := 7) (by decide) ?_
        exact PW.drop (ih _ _ _ hM h) ⟨rfl, rfl, rfl, trivial⟩
      · have h := h.2 ((lg_cmp_eq _ _).mp hc)
        refine PW.iload_n (pc := 28) dX8_songNamed_28 rfl ?_
        exact PW.retI (pc := 29) dX8_songNamed_29 hM.1 rfl rfl ⟨hM, _, rfl, h⟩
def w_X8_songNamed  (M : pm) (Q : Int32 → pm → Prop) : Prop := w_X8_name  M (fun y2 M1 => ∃ n8, w_X8_songNamed_7 n8 y2 0 M1  Q)
set_option maxRecDepth 4000 in
theorem c_X8_songNamed  {M : pm} {Q : Int32 → pm → Prop}  (hM : pG M) (h : w_X8_songNamed  M Q) : PW mX8_songNamed 5 350 0 (pfr mX8_songNamed.2.2.1 [.ref 277]) [] M (qI Q) := by
  unfold w_X8_songNamed at h
  show PW mX8_songNamed 5 350 0 [.ref 277, .null, .null, .null] [] M (qI Q)
  refine PW.aload_n (pc := 0) dX8_songNamed_0 rfl ?_
  refine PW.inv (m' := mX8_name) (pc := 1) dX8_songNamed_1 lm_X8_307 me_X8_name mi_X8_name (ob hM.1 s_277 (by decide)) rfl (As := []) (st := []) rfl (Nat.le_of_ble_eq_true rfl) (Nat.le_of_ble_eq_true rfl) (Nat.le_of_eq hM.1) (Nat.le_refl _) (PW.deep (by decide) (c_X8_name  hM h)) ?_
  rintro _ M1 ⟨hM3, y2, rfl, h⟩
  refine PW.lstore_n (pc := 4) dX8_songNamed_4 (ls' := [.ref 277, .long y2, .null, .null]) (by decide) rfl rfl ?_
  refine PW.iconst (pc := 5) dX8_songNamed_5 (v := 0) (by decide) ?_
  refine PW.istore_n (pc := 6) dX8_songNamed_6 (ls' := [.ref 277, .long y2, .null, .int 0]) (by decide) rfl rfl ?_
  obtain ⟨n8, h⟩ := h
  refine PW.drop (c_X8_songNamed_7  n8 _ _ _ hM3 h) ⟨rfl, rfl, rfl, trivial⟩
def w_X8_adds (x1 : Int32) (x2 : Int64) (M : pm) (Q : Int32 → pm → Prop) : Prop := vp_in x1 6 ∧ (vp_in ((8 * x1) + (mI M 309 x1.toNatClampNeg)) 48 ∧ (vp_in x1 6 ∧ (vp_in x1 6 ∧ (vp_in x1 6 ∧ (Q ((mI (sI (sJ M 310 (((8 * x1) + (mI M 309 x1.toNatClampNeg)).toNatClampNeg) x2) 309 x1.toNatClampNeg ((mI M 309 x1.toNatClampNeg) + 1)) 309 x1.toNatClampNeg) - 1) (sI (sJ M 310 (((8 * x1) + (mI M 309 x1.toNatClampNeg)).toNatClampNeg) x2) 309 x1.toNatClampNeg ((mI M 309 x1.toNatClampNeg) + 1)))))))
set_option maxRecDepth 4000 in
theorem c_X8_adds {x1 : Int32} {x2 : Int64} {M : pm} {Q : Int32 → pm → Prop}  (hM : pG M) (h : w_X8_adds x1 x2 M Q) : PW mX8_adds 1 350 0 (pfr mX8_adds.2.2.1 [.ref 277, .int x1, .long x2]) [] M (qI Q) := by
  unfold w_X8_adds at h
  show PW mX8_adds 1 350 0 [.ref 277, .int x1, .long x2, .null] [] M (qI Q)
  refine PW.aload_n (pc := 0) dX8_adds_0 rfl ?_
  refine PW.getR (pc := 1) dX8_adds_1 (r := 310) lf_X8_111 (ob hM.1 s_277 (by decide)) fx_8_41 (oR_8_41 hM s_277) (pS_ne s_310) ?_
  refine PW.bipush (pc := 4) dX8_adds_4 (v := 8) (by decide) ?_
  refine PW.iload_n (pc := 6) dX8_adds_6 rfl ?_
  refine PW.imul (pc := 7) dX8_adds_7 ?_
  refine PW.aload_n (pc := 8) dX8_adds_8 rfl ?_
  refine PW.getR (pc := 9) dX8_adds_9 (r := 309) lf_X8_108 (ob hM.1 s_277 (by decide)) fx_8_40 (oR_8_40 hM s_277) (pS_ne s_309) ?_
  refine PW.iload_n (pc := 12) dX8_adds_12 rfl ?_
  obtain ⟨v1, h⟩ := h
  refine PW.iald (pc := 13) dX8_adds_13 (ar hM.1 s_309) (vpl n_309 v1) ?_
  refine PW.iadd (pc := 14) dX8_adds_14 ?_
  refine PW.lload_n (pc := 15) dX8_adds_15 rfl ?_
  obtain ⟨v2, h⟩ := h
  refine PW.last (pc := 16) dX8_adds_16 (ar hM.1 s_310) (vpl n_310 v2) ?_
  refine PW.aload_n (pc := 17) dX8_adds_17 rfl ?_
  refine PW.getR (pc := 18) dX8_adds_18 (r := 309) lf_X8_108 (ob hM.1 s_277 (by decide)) fx_8_40 (oR_8_40 (hM.same rfl rfl) s_277) (pS_ne s_309) ?_
  refine PW.iload_n (pc := 21) dX8_adds_21 rfl ?_
  refine PW.dup2IR (pc := 22) dX8_adds_22 ?_
  obtain ⟨v3, h⟩ := h
  refine PW.iald (pc := 23) dX8_adds_23 (ar hM.1 s_309) (vpl n_309 v3) ?_
  refine PW.iconst (pc := 24) dX8_adds_24 (v := 1) (by decide) ?_
  refine PW.iadd (pc := 25) dX8_adds_25 ?_
  obtain ⟨v4, h⟩ := h
  refine PW.iast (pc := 26) dX8_adds_26 (ar hM.1 s_309) (vpl n_309 v4) ?_
  refine PW.aload_n (pc := 27) dX8_adds_27 rfl ?_
  refine PW.getR (pc := 28) dX8_adds_28 (r := 309) lf_X8_108 (ob hM.1 s_277 (by decide)) fx_8_40 (oR_8_40 (hM.same rfl rfl) s_277) (pS_ne s_309) ?_
  refine PW.iload_n (pc := 31) dX8_adds_31 rfl ?_
  obtain ⟨v5, h⟩ := h
  refine PW.iald (pc := 32) dX8_adds_32 (ar hM.1 s_309) (vpl n_309 v5) ?_
  refine PW.iconst (pc := 33) dX8_adds_33 (v := 1) (by decide) ?_
  refine PW.isub (pc := 34) dX8_adds_34 ?_
  exact PW.retI (pc := 35) dX8_adds_35 hM.1 rfl rfl ⟨(hM.same rfl rfl), _, rfl, h⟩
def w_X8_hourTold  (M : pm) (Q : pm → Prop) : Prop := w_X8_asks 280 M (fun M1 => w_X8_number 1 60 M1 (fun y5 M4 => w_X8_asksSign 59 (sI M4 308 0 y5) (fun M7 => Q M7)))
set_option maxRecDepth 4000 in
theorem c_X8_hourTold  {M : pm} {Q : pm → Prop}  (hM : pG M) (h : w_X8_hourTold  M Q) : PW mX8_hourTold 5 350 0 (pfr mX8_hourTold.2.2.1 [.ref 277]) [] M (qV Q) := by
  unfold w_X8_hourTold at h
  show PW mX8_hourTold 5 350 0 [.ref 277] [] M (qV Q)
  refine PW.aload_n (pc := 0) dX8_hourTold_0 rfl ?_
  refine PW.aload_n (pc := 1) dX8_hourTold_1 rfl ?_
  refine PW.getR (pc := 2) dX8_hourTold_2 (r := 280) lf_X8_20 (ob hM.1 s_277 (by decide)) fx_8_10 (oR_8_10 hM s_277) (pS_ne s_280) ?_
  refine PW.inv (m' := mX8_asks) (pc := 5) dX8_hourTold_5 lm_X8_311 me_X8_asks mi_X8_asks (ob hM.1 s_277 (by decide)) rfl (As := [.ref 280]) (st := []) rfl (Nat.le_of_ble_eq_true rfl) (Nat.le_of_ble_eq_true rfl) (Nat.le_of_eq hM.1) (Nat.le_refl _) (PW.deep (by decide) (c_X8_asks s_280 hM h)) ?_
  rintro _ M1 ⟨hM3, rfl, h⟩
  refine PW.aload_n (pc := 8) dX8_hourTold_8 rfl ?_
  refine PW.getR (pc := 9) dX8_hourTold_9 (r := 308) lf_X8_105 (ob hM3.1 s_277 (by decide)) fx_8_39 (oR_8_39 hM3 s_277) (pS_ne s_308) ?_
  refine PW.iconst (pc := 12) dX8_hourTold_12 (v := 0) (by decide) ?_
  refine PW.aload_n (pc := 13) dX8_hourTold_13 rfl ?_
  refine PW.iconst (pc := 14) dX8_hourTold_14 (v := 1) (by decide) ?_
  refine PW.bipush (pc := 15) dX8_hourTold_15 (v := 60) (by decide) ?_
  refine PW.inv (m' := mX8_number) (pc := 17) dX8_hourTold_17 lm_X8_315 me_X8_number mi_X8_number (ob hM3.1 s_277 (by decide)) rfl (As := [.int 1, .int 60]) (st := [.int 0, .ref 308]) rfl (Nat.le_of_ble_eq_true rfl) (Nat.le_of_ble_eq_true rfl) (Nat.le_of_eq hM3.1) (Nat.le_refl _) (PW.deep (by decide) (c_X8_number  hM3 h)) ?_
  rintro _ M4 ⟨hM6, y5, rfl, h⟩
  refine PW.iast (pc := 20) dX8_hourTold_20 (ar hM6.1 s_308) (vpl n_308 (vp_c (i := 0) (n := 6) (by decide))) ?_
  refine PW.aload_n (pc := 21) dX8_hourTold_21 rfl ?_
  refine PW.bipush (pc := 22) dX8_hourTold_22 (v := 59) (by decide) ?_
  refine PW.inv (m' := mX8_asksSign) (pc := 24) dX8_hourTold_24 lm_X8_319 me_X8_asksSign mi_X8_asksSign (ob hM6.1 s_277 (by decide)) rfl (As := [.int 59]) (st := []) rfl (Nat.le_of_ble_eq_true rfl) (Nat.le_of_ble_eq_true rfl) (Nat.le_of_eq hM6.1) (Nat.le_refl _) (PW.deep (by decide) (c_X8_asksSign  (hM6.same rfl rfl) h)) ?_
  rintro _ M7 ⟨hM9, rfl, h⟩
  exact PW.ret0 (pc := 27) dX8_hourTold_27 hM9.1 rfl ⟨hM9, rfl, h⟩
def w_X8_songTold (x1 : Int32) (M : pm) (Q : pm → Prop) : Prop := w_X8_isFull 0 6 x1 M (fun y2 M1 => ((y2 = 0 → (w_X8_newName  M1 (fun y6 M5 => w_X8_asks 282 M5 (fun M8 => w_X8_number 1 60 M8 (fun y12 M11 => w_X8_asks 283 M11 (fun M14 => w_X8_number 0 9 M14 (fun y18 M17 => (((mI M17 277 5) = 0 → (w_X8_adds 0 y6 M17 (fun y21 M20 => vp_in (2 * y21) 24 ∧ (vp_in ((2 * y21) + 1) 24 ∧ (Q (sI (sI M20 311 ((2 * y21).toNatClampNeg) y12) 311 (((2 * y21) + 1).toNatClampNeg) y18)))))) ∧ (¬ (mI M17 277 5) = 0 → (Q M17)))))))))) ∧ (¬ y2 = 0 → (Q M1))))
set_option maxRecDepth 4000 in
theorem c_X8_songTold {x1 : Int32} {M : pm} {Q : pm → Prop}  (hM : pG M) (h : w_X8_songTold x1 M Q) : PW mX8_songTold 6 350 0 (pfr mX8_songTold.2.2.1 [.ref 277, .int x1]) [] M (qV Q) := by
  unfold w_X8_songTold at h
  show PW mX8_songTold 6 350 0 [.ref 277, .int x1, .null, .null, .null, .null, .null] [] M (qV Q)
  refine PW.aload_n (pc := 0) dX8_songTold_0 rfl ?_
  refine PW.iconst (pc := 1) dX8_songTold_1 (v := 0) (by decide) ?_
  refine PW.bipush (pc := 2) dX8_songTold_2 (v := 6) (by decide) ?_
  refine PW.iload_n (pc := 4) dX8_songTold_4 rfl ?_
  refine PW.inv (m' := mX8_isFull) (pc := 5) dX8_songTold_5 lm_X8_323 me_X8_isFull mi_X8_isFull (ob hM.1 s_277 (by decide)) rfl (As := [.int 0, .int 6, .int x1]) (st := []) rfl (Nat.le_of_ble_eq_true rfl) (Nat.le_of_ble_eq_true rfl) (Nat.le_of_eq hM.1) (Nat.le_refl _) (PW.deep (by decide) (c_X8_isFull  hM h)) ?_
  rintro _ M1 ⟨hM3, y2, rfl, z4, h⟩
  refine PW.if_eq (pc := 8) dX8_songTold_8 (t := 12) (by decide) (fun hc => ?_) (fun hc => ?_)
  · have h := h.1 hc
    refine PW.aload_n (pc := 12) dX8_songTold_12 rfl ?_
    refine PW.inv (m' := mX8_newName) (pc := 13) dX8_songTold_13 lm_X8_327 me_X8_newName mi_X8_newName (ob hM3.1 s_277 (by decide)) rfl (As := []) (st := []) rfl (Nat.le_of_ble_eq_true rfl) (Nat.le_of_ble_eq_true rfl) (Nat.le_of_eq hM3.1) (Nat.le_refl _) (PW.deep (by decide) (c_X8_newName  hM3 h)) ?_
    rintro _ M5 ⟨hM7, y6, rfl, h⟩
    refine PW.lstore_n (pc := 16) dX8_songTold_16 (ls' := [.ref 277, .int x1, .long y6, .null, .null, .null, .null]) (by decide) rfl rfl ?_
    refine PW.aload_n (pc := 17) dX8_songTold_17 rfl ?_
    refine PW.aload_n (pc := 18) dX8_songTold_18 rfl ?_
    refine PW.getR (pc := 19) dX8_songTold_19 (r := 282) lf_X8_27 (ob hM7.1 s_277 (by decide)) fx_8_12 (oR_8_12 hM7 s_277) (pS_ne s_282) ?_
    refine PW.inv (m' := mX8_asks) (pc := 22) dX8_songTold_22 lm_X8_311 me_X8_asks mi_X8_asks (ob hM7.1 s_277 (by decide)) rfl (As := [.ref 282]) (st := []) rfl (Nat.le_of_ble_eq_true rfl) (Nat.le_of_ble_eq_true rfl) (Nat.le_of_eq hM7.1) (Nat.le_refl _) (PW.deep (by decide) (c_X8_asks s_282 hM7 h)) ?_
    rintro _ M8 ⟨hM10, rfl, h⟩
    refine PW.aload_n (pc := 25) dX8_songTold_25 rfl ?_
    refine PW.iconst (pc := 26) dX8_songTold_26 (v := 1) (by decide) ?_
    refine PW.bipush (pc := 27) dX8_songTold_27 (v := 60) (by decide) ?_
    refine PW.inv (m' := mX8_number) (pc := 29) dX8_songTold_29 lm_X8_315 me_X8_number mi_X8_number (ob hM10.1 s_277 (by decide)) rfl (As := [.int 1, .int 60]) (st := []) rfl (Nat.le_of_ble_eq_true rfl) (Nat.le_of_ble_eq_true rfl) (Nat.le_of_eq hM10.1) (Nat.le_refl _) (PW.deep (by decide) (c_X8_number  hM10 h)) ?_
    rintro _ M11 ⟨hM13, y12, rfl, h⟩
    refine PW.istore (pc := 32) dX8_songTold_32 (ls' := [.ref 277, .int x1, .long y6, .null, .int y12, .null, .null]) (by decide) rfl rfl ?_
    refine PW.aload_n (pc := 34) dX8_songTold_34 rfl ?_
    refine PW.aload_n (pc := 35) dX8_songTold_35 rfl ?_
    refine PW.getR (pc := 36) dX8_songTold_36 (r := 283) lf_X8_30 (ob hM13.1 s_277 (by decide)) fx_8_13 (oR_8_13 hM13 s_277) (pS_ne s_283) ?_
    refine PW.inv (m' := mX8_asks) (pc := 39) dX8_songTold_39 lm_X8_311 me_X8_asks mi_X8_asks (ob hM13.1 s_277 (by decide)) rfl (As := [.ref 283]) (st := []) rfl (Nat.le_of_ble_eq_true rfl) (Nat.le_of_ble_eq_true rfl) (Nat.le_of_eq hM13.1) (Nat.le_refl _) (PW.deep (by decide) (c_X8_asks s_283 hM13 h)) ?_
    rintro _ M14 ⟨hM16, rfl, h⟩
    refine PW.aload_n (pc := 42) dX8_songTold_42 rfl ?_
    refine PW.iconst (pc := 43) dX8_songTold_43 (v := 0) (by decide) ?_
    refine PW.bipush (pc := 44) dX8_songTold_44 (v := 9) (by decide) ?_
    refine PW.inv (m' := mX8_number) (pc := 46) dX8_songTold_46 lm_X8_315 me_X8_number mi_X8_number (ob hM16.1 s_277 (by decide)) rfl (As := [.int 0, .int 9]) (st := []) rfl (Nat.le_of_ble_eq_true rfl) (Nat.le_of_ble_eq_true rfl) (Nat.le_of_eq hM16.1) (Nat.le_refl _) (PW.deep (by decide) (c_X8_number  hM16 h)) ?_
    rintro _ M17 ⟨hM19, y18, rfl, h⟩
    refine PW.istore (pc := 49) dX8_songTold_49 (ls' := [.ref 277, .int x1, .long y6, .null, .int y12, .int y18, .null]) (by decide) rfl rfl ?_
    refine PW.aload_n (pc := 51) dX8_songTold_51 rfl ?_
    refine PW.getI (pc := 52) dX8_songTold_52 lf_X8_249 (ob hM19.1 s_277 (by decide)) fx_8_5 ?_
    refine PW.if_eq (pc := 55) dX8_songTold_55 (t := 59) (by decide) (fun hc => ?_) (fun hc => ?_)
    · have h := h.1 hc
      refine PW.iconst (pc := 59) dX8_songTold_59 (v := 2) (by decide) ?_
      refine PW.aload_n (pc := 60) dX8_songTold_60 rfl ?_
      refine PW.iconst (pc := 61) dX8_songTold_61 (v := 0) (by decide) ?_
      refine PW.lload_n (pc := 62) dX8_songTold_62 rfl ?_
      refine PW.inv (m' := mX8_adds) (pc := 63) dX8_songTold_63 lm_X8_330 me_X8_adds mi_X8_adds (ob hM19.1 s_277 (by decide)) rfl (As := [.int 0, .long y6]) (st := [.int 2]) rfl (Nat.le_of_ble_eq_true rfl) (Nat.le_of_ble_eq_true rfl) (Nat.le_of_eq hM19.1) (Nat.le_refl _) (PW.deep (by decide) (c_X8_adds  hM19 h)) ?_
      rintro _ M20 ⟨hM22, y21, rfl, h⟩
      refine PW.imul (pc := 66) dX8_songTold_66 ?_
      refine PW.istore (pc := 67) dX8_songTold_67 (ls' := [.ref 277, .int x1, .long y6, .null, .int y12, .int y18, .int (2 * y21)]) (by decide) rfl rfl ?_
      refine PW.aload_n (pc := 69) dX8_songTold_69 rfl ?_
      refine PW.getR (pc := 70) dX8_songTold_70 (r := 311) lf_X8_115 (ob hM22.1 s_277 (by decide)) fx_8_42 (oR_8_42 hM22 s_277) (pS_ne s_311) ?_
      refine PW.iload (pc := 73) dX8_songTold_73 rfl ?_
      refine PW.iload (pc := 75) dX8_songTold_75 rfl ?_
      obtain ⟨v23, h⟩ := h
      refine PW.iast (pc := 77) dX8_songTold_77 (ar hM22.1 s_311) (vpl n_311 v23) ?_
      refine PW.aload_n (pc := 78) dX8_songTold_78 rfl ?_
      refine PW.getR (pc := 79) dX8_songTold_79 (r := 311) lf_X8_115 (ob hM22.1 s_277 (by decide)) fx_8_42 (oR_8_42 (hM22.same rfl rfl) s_277) (pS_ne s_311) ?_
      refine PW.iload (pc := 82) dX8_songTold_82 rfl ?_
      refine PW.iconst (pc := 84) dX8_songTold_84 (v := 1) (by decide) ?_
      refine PW.iadd (pc := 85) dX8_songTold_85 ?_
      refine PW.iload (pc := 86) dX8_songTold_86 rfl ?_
      obtain ⟨v24, h⟩ := h
      refine PW.iast (pc := 88) dX8_songTold_88 (ar hM22.1 s_311) (vpl n_311 v24) ?_
      exact PW.ret0 (pc := 89) dX8_songTold_89 hM22.1 rfl ⟨(hM22.same rfl rfl), rfl, h⟩
    · have h := h.2 hc
      exact PW.ret0 (pc := 58) dX8_songTold_58 hM19.1 rfl ⟨hM19, rfl, h⟩
  · have h := h.2 hc
    exact PW.ret0 (pc := 11) dX8_songTold_11 hM3.1 rfl ⟨hM3, rfl, h⟩
def w_X8_askerTold (x1 : Int32) (M : pm) (Q : pm → Prop) : Prop := w_X8_isFull 1 8 x1 M (fun y2 M1 => ((y2 = 0 → (w_X8_newName  M1 (fun y6 M5 => w_X8_asks 285 M5 (fun M8 => w_X8_songNamed  M8 (fun y12 M11 => w_X8_asks 286 M11 (fun M14 => w_X8_number 0 99 M14 (fun y18 M17 => w_X8_asks 287 M17 (fun M20 => w_X8_number 0 99 M20 (fun y24 M23 => (((mI M23 277 5) = 0 → (w_X8_adds 1 y6 M23 (fun y27 M26 => vp_in (3 * y27) 24 ∧ (vp_in ((3 * y27) + 1) 24 ∧ (vp_in ((3 * y27) + 2) 24 ∧ (Q (sI (sI (sI M26 312 ((3 * y27).toNatClampNeg) y12) 312 (((3 * y27) + 1).toNatClampNeg) y18) 312 (((3 * y27) + 2).toNatClampNeg) y24))))))) ∧ (¬ (mI M23 277 5) = 0 → (Q M23)))))))))))) ∧ (¬ y2 = 0 → (Q M1))))
set_option maxRecDepth 4000 in
theorem c_X8_askerTold {x1 : Int32} {M : pm} {Q : pm → Prop}  (hM : pG M) (h : w_X8_askerTold x1 M Q) : PW mX8_askerTold 6 350 0 (pfr mX8_askerTold.2.2.1 [.ref 277, .int x1]) [] M (qV Q) := by
  unfold w_X8_askerTold at h
  show PW mX8_askerTold 6 350 0 [.ref 277, .int x1, .null, .null, .null, .null, .null, .null] [] M (qV Q)
  refine PW.aload_n (pc := 0) dX8_askerTold_0 rfl ?_
  refine PW.iconst (pc := 1) dX8_askerTold_1 (v := 1) (by decide) ?_
  refine PW.bipush (pc := 2) dX8_askerTold_2 (v := 8) (by decide) ?_
  refine PW.iload_n (pc := 4) dX8_askerTold_4 rfl ?_
  refine PW.inv (m' := mX8_isFull) (pc := 5) dX8_askerTold_5 lm_X8_323 me_X8_isFull mi_X8_isFull (ob hM.1 s_277 (by decide)) rfl (As := [.int 1, .int 8, .int x1]) (st := []) rfl (Nat.le_of_ble_eq_true rfl) (Nat.le_of_ble_eq_true rfl) (Nat.le_of_eq hM.1) (Nat.le_refl _) (PW.deep (by decide) (c_X8_isFull  hM h)) ?_
  rintro _ M1 ⟨hM3, y2, rfl, z4, h⟩
  refine PW.if_eq (pc := 8) dX8_askerTold_8 (t := 12) (by decide) (fun hc => ?_) (fun hc => ?_)
  · have h := h.1 hc
    refine PW.aload_n (pc := 12) dX8_askerTold_12 rfl ?_
    refine PW.inv (m' := mX8_newName) (pc := 13) dX8_askerTold_13 lm_X8_327 me_X8_newName mi_X8_newName (ob hM3.1 s_277 (by decide)) rfl (As := []) (st := []) rfl (Nat.le_of_ble_eq_true rfl) (Nat.le_of_ble_eq_true rfl) (Nat.le_of_eq hM3.1) (Nat.le_refl _) (PW.deep (by decide) (c_X8_newName  hM3 h)) ?_
    rintro _ M5 ⟨hM7, y6, rfl, h⟩
    refine PW.lstore_n (pc := 16) dX8_askerTold_16 (ls' := [.ref 277, .int x1, .long y6, .null, .null, .null, .null, .null]) (by decide) rfl rfl ?_
    refine PW.aload_n (pc := 17) dX8_askerTold_17 rfl ?_
    refine PW.aload_n (pc := 18) dX8_askerTold_18 rfl ?_
    refine PW.getR (pc := 19) dX8_askerTold_19 (r := 285) lf_X8_36 (ob hM7.1 s_277 (by decide)) fx_8_15 (oR_8_15 hM7 s_277) (pS_ne s_285) ?_
    refine PW.inv (m' := mX8_asks) (pc := 22) dX8_askerTold_22 lm_X8_311 me_X8_asks mi_X8_asks (ob hM7.1 s_277 (by decide)) rfl (As := [.ref 285]) (st := []) rfl (Nat.le_of_ble_eq_true rfl) (Nat.le_of_ble_eq_true rfl) (Nat.le_of_eq hM7.1) (Nat.le_refl _) (PW.deep (by decide) (c_X8_asks s_285 hM7 h)) ?_
    rintro _ M8 ⟨hM10, rfl, h⟩
    refine PW.aload_n (pc := 25) dX8_askerTold_25 rfl ?_
    refine PW.inv (m' := mX8_songNamed) (pc := 26) dX8_askerTold_26 lm_X8_334 me_X8_songNamed mi_X8_songNamed (ob hM10.1 s_277 (by decide)) rfl (As := []) (st := []) rfl (Nat.le_of_ble_eq_true rfl) (Nat.le_of_ble_eq_true rfl) (Nat.le_of_eq hM10.1) (Nat.le_refl _) (PW.deep (by decide) (c_X8_songNamed  hM10 h)) ?_
    rintro _ M11 ⟨hM13, y12, rfl, h⟩
    refine PW.istore (pc := 29) dX8_askerTold_29 (ls' := [.ref 277, .int x1, .long y6, .null, .int y12, .null, .null, .null]) (by decide) rfl rfl ?_
    refine PW.aload_n (pc := 31) dX8_askerTold_31 rfl ?_
    refine PW.aload_n (pc := 32) dX8_askerTold_32 rfl ?_
    refine PW.getR (pc := 33) dX8_askerTold_33 (r := 286) lf_X8_39 (ob hM13.1 s_277 (by decide)) fx_8_16 (oR_8_16 hM13 s_277) (pS_ne s_286) ?_
    refine PW.inv (m' := mX8_asks) (pc := 36) dX8_askerTold_36 lm_X8_311 me_X8_asks mi_X8_asks (ob hM13.1 s_277 (by decide)) rfl (As := [.ref 286]) (st := []) rfl (Nat.le_of_ble_eq_true rfl) (Nat.le_of_ble_eq_true rfl) (Nat.le_of_eq hM13.1) (Nat.le_refl _) (PW.deep (by decide) (c_X8_asks s_286 hM13 h)) ?_
    rintro _ M14 ⟨hM16, rfl, h⟩
    refine PW.aload_n (pc := 39) dX8_askerTold_39 rfl ?_
    refine PW.iconst (pc := 40) dX8_askerTold_40 (v := 0) (by decide) ?_
    refine PW.bipush (pc := 41) dX8_askerTold_41 (v := 99) (by decide) ?_
    refine PW.inv (m' := mX8_number) (pc := 43) dX8_askerTold_43 lm_X8_315 me_X8_number mi_X8_number (ob hM16.1 s_277 (by decide)) rfl (As := [.int 0, .int 99]) (st := []) rfl (Nat.le_of_ble_eq_true rfl) (Nat.le_of_ble_eq_true rfl) (Nat.le_of_eq hM16.1) (Nat.le_refl _) (PW.deep (by decide) (c_X8_number  hM16 h)) ?_
    rintro _ M17 ⟨hM19, y18, rfl, h⟩
    refine PW.istore (pc := 46) dX8_askerTold_46 (ls' := [.ref 277, .int x1, .long y6, .null, .int y12, .int y18, .null, .null]) (by decide) rfl rfl ?_
    refine PW.aload_n (pc := 48) dX8_askerTold_48 rfl ?_
    refine PW.aload_n (pc := 49) dX8_askerTold_49 rfl ?_
    refine PW.getR (pc := 50) dX8_askerTold_50 (r := 287) lf_X8_42 (ob hM19.1 s_277 (by decide)) fx_8_17 (oR_8_17 hM19 s_277) (pS_ne s_287) ?_
    refine PW.inv (m' := mX8_asks) (pc := 53) dX8_askerTold_53 lm_X8_311 me_X8_asks mi_X8_asks (ob hM19.1 s_277 (by decide)) rfl (As := [.ref 287]) (st := []) rfl (Nat.le_of_ble_eq_true rfl) (Nat.le_of_ble_eq_true rfl) (Nat.le_of_eq hM19.1) (Nat.le_refl _) (PW.deep (by decide) (c_X8_asks s_287 hM19 h)) ?_
    rintro _ M20 ⟨hM22, rfl, h⟩
    refine PW.aload_n (pc := 56) dX8_askerTold_56 rfl ?_
    refine PW.iconst (pc := 57) dX8_askerTold_57 (v := 0) (by decide) ?_
    refine PW.bipush (pc := 58) dX8_askerTold_58 (v := 99) (by decide) ?_
    refine PW.inv (m' := mX8_number) (pc := 60) dX8_askerTold_60 lm_X8_315 me_X8_number mi_X8_number (ob hM22.1 s_277 (by decide)) rfl (As := [.int 0, .int 99]) (st := []) rfl (Nat.le_of_ble_eq_true rfl) (Nat.le_of_ble_eq_true rfl) (Nat.le_of_eq hM22.1) (Nat.le_refl _) (PW.deep (by decide) (c_X8_number  hM22 h)) ?_
    rintro _ M23 ⟨hM25, y24, rfl, h⟩
    refine PW.istore (pc := 63) dX8_askerTold_63 (ls' := [.ref 277, .int x1, .long y6, .null, .int y12, .int y18, .int y24, .null]) (by decide) rfl rfl ?_
    refine PW.aload_n (pc := 65) dX8_askerTold_65 rfl ?_
    refine PW.getI (pc := 66) dX8_askerTold_66 lf_X8_249 (ob hM25.1 s_277 (by decide)) fx_8_5 ?_
    refine PW.if_eq (pc := 69) dX8_askerTold_69 (t := 73) (by decide) (fun hc => ?_) (fun hc => ?_)
    · have h := h.1 hc
      refine PW.iconst (pc := 73) dX8_askerTold_73 (v := 3) (by decide) ?_
      refine PW.aload_n (pc := 74) dX8_askerTold_74 rfl ?_
      refine PW.iconst (pc := 75) dX8_askerTold_75 (v := 1) (by decide) ?_
      refine PW.lload_n (pc := 76) dX8_askerTold_76 rfl ?_
      refine PW.inv (m' := mX8_adds) (pc := 77) dX8_askerTold_77 lm_X8_330 me_X8_adds mi_X8_adds (ob hM25.1 s_277 (by decide)) rfl (As := [.int 1, .long y6]) (st := [.int 3]) rfl (Nat.le_of_ble_eq_true rfl) (Nat.le_of_ble_eq_true rfl) (Nat.le_of_eq hM25.1) (Nat.le_refl _) (PW.deep (by decide) (c_X8_adds  hM25 h)) ?_
      rintro _ M26 ⟨hM28, y27, rfl, h⟩
      refine PW.imul (pc := 80) dX8_askerTold_80 ?_
      refine PW.istore (pc := 81) dX8_askerTold_81 (ls' := [.ref 277, .int x1, .long y6, .null, .int y12, .int y18, .int y24, .int (3 * y27)]) (by decide) rfl rfl ?_
      refine PW.aload_n (pc := 83) dX8_askerTold_83 rfl ?_
      refine PW.getR (pc := 84) dX8_askerTold_84 (r := 312) lf_X8_118 (ob hM28.1 s_277 (by decide)) fx_8_43 (oR_8_43 hM28 s_277) (pS_ne s_312) ?_
      refine PW.iload (pc := 87) dX8_askerTold_87 rfl ?_
      refine PW.iload (pc := 89) dX8_askerTold_89 rfl ?_
      obtain ⟨v29, h⟩ := h
      refine PW.iast (pc := 91) dX8_askerTold_91 (ar hM28.1 s_312) (vpl n_312 v29) ?_
      refine PW.aload_n (pc := 92) dX8_askerTold_92 rfl ?_
      refine PW.getR (pc := 93) dX8_askerTold_93 (r := 312) lf_X8_118 (ob hM28.1 s_277 (by decide)) fx_8_43 (oR_8_43 (hM28.same rfl rfl) s_277) (pS_ne s_312) ?_
      refine PW.iload (pc := 96) dX8_askerTold_96 rfl ?_
      refine PW.iconst (pc := 98) dX8_askerTold_98 (v := 1) (by decide) ?_
      refine PW.iadd (pc := 99) dX8_askerTold_99 ?_
      refine PW.iload (pc := 100) dX8_askerTold_100 rfl ?_
      obtain ⟨v30, h⟩ := h
      refine PW.iast (pc := 102) dX8_askerTold_102 (ar hM28.1 s_312) (vpl n_312 v30) ?_
      refine PW.aload_n (pc := 103) dX8_askerTold_103 rfl ?_
      refine PW.getR (pc := 104) dX8_askerTold_104 (r := 312) lf_X8_118 (ob hM28.1 s_277 (by decide)) fx_8_43 (oR_8_43 (hM28.same rfl rfl) s_277) (pS_ne s_312) ?_
      refine PW.iload (pc := 107) dX8_askerTold_107 rfl ?_
      refine PW.iconst (pc := 109) dX8_askerTold_109 (v := 2) (by decide) ?_
      refine PW.iadd (pc := 110) dX8_askerTold_110 ?_
      refine PW.iload (pc := 111) dX8_askerTold_111 rfl ?_
      obtain ⟨v31, h⟩ := h
      refine PW.iast (pc := 113) dX8_askerTold_113 (ar hM28.1 s_312) (vpl n_312 v31) ?_
      exact PW.ret0 (pc := 114) dX8_askerTold_114 hM28.1 rfl ⟨(hM28.same rfl rfl), rfl, h⟩
    · have h := h.2 hc
      exact PW.ret0 (pc := 72) dX8_askerTold_72 hM25.1 rfl ⟨hM25, rfl, h⟩
  · have h := h.2 hc
    exact PW.ret0 (pc := 11) dX8_askerTold_11 hM3.1 rfl ⟨hM3, rfl, h⟩
def w_X8_earTold (x1 : Int32) (M : pm) (Q : pm → Prop) : Prop := w_X8_isFull 2 5 x1 M (fun y2 M1 => ((y2 = 0 → (w_X8_newName  M1 (fun y6 M5 => w_X8_asks 289 M5 (fun M8 => w_X8_number 0 9 M8 (fun y12 M11 => ((¬ (mI M11 277 5) = 0 → (Q M11)) ∧ ((mI M11 277 5) = 0 → (w_X8_adds 2 y6 M11 (fun y15 M14 => vp_in y15 10 ∧ (Q (sI M14 313 y15.toNatClampNeg y12))))))))))) ∧ (¬ y2 = 0 → (Q M1))))
set_option maxRecDepth 4000 in
theorem c_X8_earTold {x1 : Int32} {M : pm} {Q : pm → Prop}  (hM : pG M) (h : w_X8_earTold x1 M Q) : PW mX8_earTold 6 350 0 (pfr mX8_earTold.2.2.1 [.ref 277, .int x1]) [] M (qV Q) := by
  unfold w_X8_earTold at h
  show PW mX8_earTold 6 350 0 [.ref 277, .int x1, .null, .null, .null] [] M (qV Q)
  refine PW.aload_n (pc := 0) dX8_earTold_0 rfl ?_
  refine PW.iconst (pc := 1) dX8_earTold_1 (v := 2) (by decide) ?_
  refine PW.iconst (pc := 2) dX8_earTold_2 (v := 5) (by decide) ?_
  refine PW.iload_n (pc := 3) dX8_earTold_3 rfl ?_
  refine PW.inv (m' := mX8_isFull) (pc := 4) dX8_earTold_4 lm_X8_323 me_X8_isFull mi_X8_isFull (ob hM.1 s_277 (by decide)) rfl (As := [.int 2, .int 5, .int x1]) (st := []) rfl (Nat.le_of_ble_eq_true rfl) (Nat.le_of_ble_eq_true rfl) (Nat.le_of_eq hM.1) (Nat.le_refl _) (PW.deep (by decide) (c_X8_isFull  hM h)) ?_
  rintro _ M1 ⟨hM3, y2, rfl, z4, h⟩
  refine PW.if_eq (pc := 7) dX8_earTold_7 (t := 11) (by decide) (fun hc => ?_) (fun hc => ?_)
  · have h := h.1 hc
    refine PW.aload_n (pc := 11) dX8_earTold_11 rfl ?_
    refine PW.inv (m' := mX8_newName) (pc := 12) dX8_earTold_12 lm_X8_327 me_X8_newName mi_X8_newName (ob hM3.1 s_277 (by decide)) rfl (As := []) (st := []) rfl (Nat.le_of_ble_eq_true rfl) (Nat.le_of_ble_eq_true rfl) (Nat.le_of_eq hM3.1) (Nat.le_refl _) (PW.deep (by decide) (c_X8_newName  hM3 h)) ?_
    rintro _ M5 ⟨hM7, y6, rfl, h⟩
    refine PW.lstore_n (pc := 15) dX8_earTold_15 (ls' := [.ref 277, .int x1, .long y6, .null, .null]) (by decide) rfl rfl ?_
    refine PW.aload_n (pc := 16) dX8_earTold_16 rfl ?_
    refine PW.aload_n (pc := 17) dX8_earTold_17 rfl ?_
    refine PW.getR (pc := 18) dX8_earTold_18 (r := 289) lf_X8_48 (ob hM7.1 s_277 (by decide)) fx_8_19 (oR_8_19 hM7 s_277) (pS_ne s_289) ?_
    refine PW.inv (m' := mX8_asks) (pc := 21) dX8_earTold_21 lm_X8_311 me_X8_asks mi_X8_asks (ob hM7.1 s_277 (by decide)) rfl (As := [.ref 289]) (st := []) rfl (Nat.le_of_ble_eq_true rfl) (Nat.le_of_ble_eq_true rfl) (Nat.le_of_eq hM7.1) (Nat.le_refl _) (PW.deep (by decide) (c_X8_asks s_289 hM7 h)) ?_
    rintro _ M8 ⟨hM10, rfl, h⟩
    refine PW.aload_n (pc := 24) dX8_earTold_24 rfl ?_
    refine PW.iconst (pc := 25) dX8_earTold_25 (v := 0) (by decide) ?_
    refine PW.bipush (pc := 26) dX8_earTold_26 (v := 9) (by decide) ?_
    refine PW.inv (m' := mX8_number) (pc := 28) dX8_earTold_28 lm_X8_315 me_X8_number mi_X8_number (ob hM10.1 s_277 (by decide)) rfl (As := [.int 0, .int 9]) (st := []) rfl (Nat.le_of_ble_eq_true rfl) (Nat.le_of_ble_eq_true rfl) (Nat.le_of_eq hM10.1) (Nat.le_refl _) (PW.deep (by decide) (c_X8_number  hM10 h)) ?_
    rintro _ M11 ⟨hM13, y12, rfl, h⟩
    refine PW.istore (pc := 31) dX8_earTold_31 (ls' := [.ref 277, .int x1, .long y6, .null, .int y12]) (by decide) rfl rfl ?_
    refine PW.aload_n (pc := 33) dX8_earTold_33 rfl ?_
    refine PW.getI (pc := 34) dX8_earTold_34 lf_X8_249 (ob hM13.1 s_277 (by decide)) fx_8_5 ?_
    refine PW.if_ne (pc := 37) dX8_earTold_37 (t := 53) (by decide) (fun hc => ?_) (fun hc => ?_)
    · have h := h.1 hc
      exact PW.ret0 (pc := 53) dX8_earTold_53 hM13.1 rfl ⟨hM13, rfl, h⟩
    · have h := h.2 hc
      refine PW.aload_n (pc := 40) dX8_earTold_40 rfl ?_
      refine PW.getR (pc := 41) dX8_earTold_41 (r := 313) lf_X8_121 (ob hM13.1 s_277 (by decide)) fx_8_44 (oR_8_44 hM13 s_277) (pS_ne s_313) ?_
      refine PW.aload_n (pc := 44) dX8_earTold_44 rfl ?_
      refine PW.iconst (pc := 45) dX8_earTold_45 (v := 2) (by decide) ?_
      refine PW.lload_n (pc := 46) dX8_earTold_46 rfl ?_
      refine PW.inv (m' := mX8_adds) (pc := 47) dX8_earTold_47 lm_X8_330 me_X8_adds mi_X8_adds (ob hM13.1 s_277 (by decide)) rfl (As := [.int 2, .long y6]) (st := [.ref 313]) rfl (Nat.le_of_ble_eq_true rfl) (Nat.le_of_ble_eq_true rfl) (Nat.le_of_eq hM13.1) (Nat.le_refl _) (PW.deep (by decide) (c_X8_adds  hM13 h)) ?_
      rintro _ M14 ⟨hM16, y15, rfl, h⟩
      refine PW.iload (pc := 50) dX8_earTold_50 rfl ?_
      obtain ⟨v17, h⟩ := h
      refine PW.iast (pc := 52) dX8_earTold_52 (ar hM16.1 s_313) (vpl n_313 v17) ?_
      exact PW.ret0 (pc := 53) dX8_earTold_53 hM16.1 rfl ⟨(hM16.same rfl rfl), rfl, h⟩
  · have h := h.2 hc
    exact PW.ret0 (pc := 10) dX8_earTold_10 hM3.1 rfl ⟨hM3, rfl, h⟩
def w_X8_qOpens (x1 : Int32) (x2 : Int32) (M : pm) (Q : pm → Prop) : Prop := (((mI M 277 5) = 0 → ((¬ (mI M 277 99) = 6 → (vp_in (mI M 277 98) 1700 ∧ (Q (sI (sI (sI M 277 99 ((mI M 277 99) + 1)) 350 ((mI M 277 98).toNatClampNeg) x1) 277 98 ((mI M 277 98) + 1))))) ∧ ((mI M 277 99) = 6 → (w_X8_fail 4 x2 M (fun M2 => Q M2))))) ∧ (¬ (mI M 277 5) = 0 → (Q M)))
set_option maxRecDepth 4000 in
theorem c_X8_qOpens {x1 : Int32} {x2 : Int32} {M : pm} {Q : pm → Prop}  (hM : pG M) (h : w_X8_qOpens x1 x2 M Q) : PW mX8_qOpens 2 350 0 (pfr mX8_qOpens.2.2.1 [.ref 277, .int x1, .int x2]) [] M (qV Q) := by
  unfold w_X8_qOpens at h
  show PW mX8_qOpens 2 350 0 [.ref 277, .int x1, .int x2] [] M (qV Q)
  refine PW.aload_n (pc := 0) dX8_qOpens_0 rfl ?_
  refine PW.getI (pc := 1) dX8_qOpens_1 lf_X8_249 (ob hM.1 s_277 (by decide)) fx_8_5 ?_
  refine PW.if_eq (pc := 4) dX8_qOpens_4 (t := 8) (by decide) (fun hc => ?_) (fun hc => ?_)
  · have h := h.1 hc
    refine PW.aload_n (pc := 8) dX8_qOpens_8 rfl ?_
    refine PW.getI (pc := 9) dX8_qOpens_9 lf_X8_343 (ob hM.1 s_277 (by decide)) fx_8_99 ?_
    refine PW.bipush (pc := 12) dX8_qOpens_12 (v := 6) (by decide) ?_
    refine PW.icmp_ne (pc := 14) dX8_qOpens_14 (t := 24) (by decide) (fun hc => ?_) (fun hc => ?_)
    · have h := h.1 hc
      refine PW.aload_n (pc := 24) dX8_qOpens_24 rfl ?_
      refine PW.dupR (pc := 25) dX8_qOpens_25 ?_
      refine PW.getI (pc := 26) dX8_qOpens_26 lf_X8_343 (ob hM.1 s_277 (by decide)) fx_8_99 ?_
      refine PW.iconst (pc := 29) dX8_qOpens_29 (v := 1) (by decide) ?_
      refine PW.iadd (pc := 30) dX8_qOpens_30 ?_
      refine PW.putI (pc := 31) dX8_qOpens_31 lf_X8_343 (ob hM.1 s_277 (by decide)) fx_8_99 fw_8_99 rfl rfl ?_
      refine PW.aload_n (pc := 34) dX8_qOpens_34 rfl ?_
      refine PW.getR (pc := 35) dX8_qOpens_35 (r := 350) lf_X8_237 (ob hM.1 s_277 (by decide)) fx_8_97 (oR_8_97 (hM.same rfl rfl) s_277) (pS_ne s_350) ?_
      refine PW.aload_n (pc := 38) dX8_qOpens_38 rfl ?_
      refine PW.getI (pc := 39) dX8_qOpens_39 lf_X8_340 (ob hM.1 s_277 (by decide)) fx_8_98 ?_
      refine PW.iload_n (pc := 42) dX8_qOpens_42 rfl ?_
      obtain ⟨v1, h⟩ := h
      refine PW.iast (pc := 43) dX8_qOpens_43 (ar hM.1 s_350) (vpl n_350 v1) ?_
      refine PW.aload_n (pc := 44) dX8_qOpens_44 rfl ?_
      refine PW.dupR (pc := 45) dX8_qOpens_45 ?_
      refine PW.getI (pc := 46) dX8_qOpens_46 lf_X8_340 (ob hM.1 s_277 (by decide)) fx_8_98 ?_
      refine PW.iconst (pc := 49) dX8_qOpens_49 (v := 1) (by decide) ?_
      refine PW.iadd (pc := 50) dX8_qOpens_50 ?_
      refine PW.putI (pc := 51) dX8_qOpens_51 lf_X8_340 (ob hM.1 s_277 (by decide)) fx_8_98 fw_8_98 rfl rfl ?_
      exact PW.ret0 (pc := 54) dX8_qOpens_54 hM.1 rfl ⟨(hM.same rfl rfl), rfl, h⟩
    · have h := h.2 hc
      refine PW.aload_n (pc := 17) dX8_qOpens_17 rfl ?_
      refine PW.iconst (pc := 18) dX8_qOpens_18 (v := 4) (by decide) ?_
      refine PW.iload_n (pc := 19) dX8_qOpens_19 rfl ?_
      refine PW.inv (m' := mX8_fail) (pc := 20) dX8_qOpens_20 lm_X8_279 me_X8_fail mi_X8_fail (ob hM.1 s_277 (by decide)) rfl (As := [.int 4, .int x2]) (st := []) rfl (Nat.le_of_ble_eq_true rfl) (Nat.le_of_ble_eq_true rfl) (Nat.le_of_eq hM.1) (Nat.le_refl _) (PW.deep (by decide) (c_X8_fail  hM h)) ?_
      rintro _ M2 ⟨hM4, rfl, h⟩
      exact PW.ret0 (pc := 23) dX8_qOpens_23 hM4.1 rfl ⟨hM4, rfl, h⟩
  · have h := h.2 hc
    exact PW.ret0 (pc := 7) dX8_qOpens_7 hM.1 rfl ⟨hM, rfl, h⟩
def w_X8_qCode (x1 : Int32) (M : pm) (Q : pm → Prop) : Prop := vp_in (mI M 277 96) 1700 ∧ (Q (sI (sI M 349 ((mI M 277 96).toNatClampNeg) x1) 277 96 ((mI M 277 96) + 1)))
set_option maxRecDepth 4000 in
theorem c_X8_qCode {x1 : Int32} {M : pm} {Q : pm → Prop}  (hM : pG M) (h : w_X8_qCode x1 M Q) : PW mX8_qCode 1 350 0 (pfr mX8_qCode.2.2.1 [.ref 277, .int x1]) [] M (qV Q) := by
  unfold w_X8_qCode at h
  show PW mX8_qCode 1 350 0 [.ref 277, .int x1] [] M (qV Q)
  refine PW.aload_n (pc := 0) dX8_qCode_0 rfl ?_
  refine PW.getR (pc := 1) dX8_qCode_1 (r := 349) lf_X8_234 (ob hM.1 s_277 (by decide)) fx_8_95 (oR_8_95 hM s_277) (pS_ne s_349) ?_
  refine PW.aload_n (pc := 4) dX8_qCode_4 rfl ?_
  refine PW.getI (pc := 5) dX8_qCode_5 lf_X8_337 (ob hM.1 s_277 (by decide)) fx_8_96 ?_
  refine PW.iload_n (pc := 8) dX8_qCode_8 rfl ?_
  obtain ⟨v1, h⟩ := h
  refine PW.iast (pc := 9) dX8_qCode_9 (ar hM.1 s_349) (vpl n_349 v1) ?_
  refine PW.aload_n (pc := 10) dX8_qCode_10 rfl ?_
  refine PW.dupR (pc := 11) dX8_qCode_11 ?_
  refine PW.getI (pc := 12) dX8_qCode_12 lf_X8_337 (ob hM.1 s_277 (by decide)) fx_8_96 ?_
  refine PW.iconst (pc := 15) dX8_qCode_15 (v := 1) (by decide) ?_
  refine PW.iadd (pc := 16) dX8_qCode_16 ?_
  refine PW.putI (pc := 17) dX8_qCode_17 lf_X8_337 (ob hM.1 s_277 (by decide)) fx_8_96 fw_8_96 rfl rfl ?_
  exact PW.ret0 (pc := 20) dX8_qCode_20 hM.1 rfl ⟨(hM.same rfl rfl), rfl, h⟩
def w_X8_qWordHere  (M : pm) (Q : Int32 → pm → Prop) : Prop := w_X8_isHere 338 M (fun y2 M1 => ((y2 = 0 → (w_X8_isHere 339 M1 (fun y6 M5 => ((y6 = 0 → (w_X8_isHere 340 M5 (fun y10 M9 => ((y10 = 0 → (w_X8_isHere 341 M9 (fun y14 M13 => ((y14 = 0 → (w_X8_isHere 342 M13 (fun y18 M17 => ((y18 = 0 → (w_X8_isHere 343 M17 (fun y22 M21 => ((y22 = 0 → (w_X8_isHere 344 M21 (fun y26 M25 => ((y26 = 0 → (w_X8_isHere 345 M25 (fun y30 M29 => ((y30 = 0 → (w_X8_isHere 346 M29 (fun y34 M33 => ((y34 = 0 → (w_X8_isHere 347 M33 (fun y38 M37 => ((y38 = 0 → (w_X8_isHere 348 M37 (fun y42 M41 => ((y42 = 0 → (Q (-1) M41)) ∧ (¬ y42 = 0 → (Q 10 M41)))))) ∧ (¬ y38 = 0 → (Q 9 M37)))))) ∧ (¬ y34 = 0 → (Q 8 M33)))))) ∧ (¬ y30 = 0 → (Q 7 M29)))))) ∧ (¬ y26 = 0 → (Q 6 M25)))))) ∧ (¬ y22 = 0 → (Q 5 M21)))))) ∧ (¬ y18 = 0 → (Q 4 M17)))))) ∧ (¬ y14 = 0 → (Q 3 M13)))))) ∧ (¬ y10 = 0 → (Q 2 M9)))))) ∧ (¬ y6 = 0 → (Q 1 M5)))))) ∧ (¬ y2 = 0 → (Q 0 M1))))
set_option maxRecDepth 4000 in
theorem c_X8_qWordHere  {M : pm} {Q : Int32 → pm → Prop}  (hM : pG M) (h : w_X8_qWordHere  M Q) : PW mX8_qWordHere 3 350 0 (pfr mX8_qWordHere.2.2.1 [.ref 277]) [] M (qI Q) := by
  unfold w_X8_qWordHere at h
  show PW mX8_qWordHere 3 350 0 [.ref 277] [] M (qI Q)
  refine PW.aload_n (pc := 0) dX8_qWordHere_0 rfl ?_
  refine PW.aload_n (pc := 1) dX8_qWordHere_1 rfl ?_
  refine PW.getR (pc := 2) dX8_qWordHere_2 (r := 338) lf_X8_201 (ob hM.1 s_277 (by decide)) fx_8_84 (oR_8_84 hM s_277) (pS_ne s_338) ?_
  refine PW.inv (m' := mX8_isHere) (pc := 5) dX8_qWordHere_5 lm_X8_272 me_X8_isHere mi_X8_isHere (ob hM.1 s_277 (by decide)) rfl (As := [.ref 338]) (st := []) rfl (Nat.le_of_ble_eq_true rfl) (Nat.le_of_ble_eq_true rfl) (Nat.le_of_eq hM.1) (Nat.le_refl _) (PW.deep (by decide) (c_X8_isHere s_338 hM h)) ?_
  rintro _ M1 ⟨hM3, y2, rfl, z4, h⟩
  refine PW.if_eq (pc := 8) dX8_qWordHere_8 (t := 13) (by decide) (fun hc => ?_) (fun hc => ?_)
  · have h := h.1 hc
    refine PW.aload_n (pc := 13) dX8_qWordHere_13 rfl ?_
    refine PW.aload_n (pc := 14) dX8_qWordHere_14 rfl ?_
    refine PW.getR (pc := 15) dX8_qWordHere_15 (r := 339) lf_X8_204 (ob hM3.1 s_277 (by decide)) fx_8_85 (oR_8_85 hM3 s_277) (pS_ne s_339) ?_
    refine PW.inv (m' := mX8_isHere) (pc := 18) dX8_qWordHere_18 lm_X8_272 me_X8_isHere mi_X8_isHere (ob hM3.1 s_277 (by decide)) rfl (As := [.ref 339]) (st := []) rfl (Nat.le_of_ble_eq_true rfl) (Nat.le_of_ble_eq_true rfl) (Nat.le_of_eq hM3.1) (Nat.le_refl _) (PW.deep (by decide) (c_X8_isHere s_339 hM3 h)) ?_
    rintro _ M5 ⟨hM7, y6, rfl, z8, h⟩
    refine PW.if_eq (pc := 21) dX8_qWordHere_21 (t := 26) (by decide) (fun hc => ?_) (fun hc => ?_)
    · have h := h.1 hc
      refine PW.aload_n (pc := 26) dX8_qWordHere_26 rfl ?_
      refine PW.aload_n (pc := 27) dX8_qWordHere_27 rfl ?_
      refine PW.getR (pc := 28) dX8_qWordHere_28 (r := 340) lf_X8_207 (ob hM7.1 s_277 (by decide)) fx_8_86 (oR_8_86 hM7 s_277) (pS_ne s_340) ?_
      refine PW.inv (m' := mX8_isHere) (pc := 31) dX8_qWordHere_31 lm_X8_272 me_X8_isHere mi_X8_isHere (ob hM7.1 s_277 (by decide)) rfl (As := [.ref 340]) (st := []) rfl (Nat.le_of_ble_eq_true rfl) (Nat.le_of_ble_eq_true rfl) (Nat.le_of_eq hM7.1) (Nat.le_refl _) (PW.deep (by decide) (c_X8_isHere s_340 hM7 h)) ?_
      rintro _ M9 ⟨hM11, y10, rfl, z12, h⟩
      refine PW.if_eq (pc := 34) dX8_qWordHere_34 (t := 39) (by decide) (fun hc => ?_) (fun hc => ?_)
      · have h := h.1 hc
        refine PW.aload_n (pc := 39) dX8_qWordHere_39 rfl ?_
        refine PW.aload_n (pc := 40) dX8_qWordHere_40 rfl ?_
        refine PW.getR (pc := 41) dX8_qWordHere_41 (r := 341) lf_X8_210 (ob hM11.1 s_277 (by decide)) fx_8_87 (oR_8_87 hM11 s_277) (pS_ne s_341) ?_
        refine PW.inv (m' := mX8_isHere) (pc := 44) dX8_qWordHere_44 lm_X8_272 me_X8_isHere mi_X8_isHere (ob hM11.1 s_277 (by decide)) rfl (As := [.ref 341]) (st := []) rfl (Nat.le_of_ble_eq_true rfl) (Nat.le_of_ble_eq_true rfl) (Nat.le_of_eq hM11.1) (Nat.le_refl _) (PW.deep (by decide) (c_X8_isHere s_341 hM11 h)) ?_
        rintro _ M13 ⟨hM15, y14, rfl, z16, h⟩
        refine PW.if_eq (pc := 47) dX8_qWordHere_47 (t := 52) (by decide) (fun hc => ?_) (fun hc => ?_)
        · have h := h.1 hc
          refine PW.aload_n (pc := 52) dX8_qWordHere_52 rfl ?_
          refine PW.aload_n (pc := 53) dX8_qWordHere_53 rfl ?_
          refine PW.getR (pc := 54) dX8_qWordHere_54 (r := 342) lf_X8_213 (ob hM15.1 s_277 (by decide)) fx_8_88 (oR_8_88 hM15 s_277) (pS_ne s_342) ?_
          refine PW.inv (m' := mX8_isHere) (pc := 57) dX8_qWordHere_57 lm_X8_272 me_X8_isHere mi_X8_isHere (ob hM15.1 s_277 (by decide)) rfl (As := [.ref 342]) (st := []) rfl (Nat.le_of_ble_eq_true rfl) (Nat.le_of_ble_eq_true rfl) (Nat.le_of_eq hM15.1) (Nat.le_refl _) (PW.deep (by decide) (c_X8_isHere s_342 hM15 h)) ?_
          rintro _ M17 ⟨hM19, y18, rfl, z20, h⟩
          refine PW.if_eq (pc := 60) dX8_qWordHere_60 (t := 65) (by decide) (fun hc => ?_) (fun hc => ?_)
          · have h := h.1 hc
            refine PW.aload_n (pc := 65) dX8_qWordHere_65 rfl ?_
            refine PW.aload_n (pc := 66) dX8_qWordHere_66 rfl ?_
            refine PW.getR (pc := 67) dX8_qWordHere_67 (r := 343) lf_X8_216 (ob hM19.1 s_277 (by decide)) fx_8_89 (oR_8_89 hM19 s_277) (pS_ne s_343) ?_
            refine PW.inv (m' := mX8_isHere) (pc := 70) dX8_qWordHere_70 lm_X8_272 me_X8_isHere mi_X8_isHere (ob hM19.1 s_277 (by decide)) rfl (As := [.ref 343]) (st := []) rfl (Nat.le_of_ble_eq_true rfl) (Nat.le_of_ble_eq_true rfl) (Nat.le_of_eq hM19.1) (Nat.le_refl _) (PW.deep (by decide) (c_X8_isHere s_343 hM19 h)) ?_
            rintro _ M21 ⟨hM23, y22, rfl, z24, h⟩
            refine PW.if_eq (pc := 73) dX8_qWordHere_73 (t := 78) (by decide) (fun hc => ?_) (fun hc => ?_)
            · have h := h.1 hc
              refine PW.aload_n (pc := 78) dX8_qWordHere_78 rfl ?_
              refine PW.aload_n (pc := 79) dX8_qWordHere_79 rfl ?_
              refine PW.getR (pc := 80) dX8_qWordHere_80 (r := 344) lf_X8_219 (ob hM23.1 s_277 (by decide)) fx_8_90 (oR_8_90 hM23 s_277) (pS_ne s_344) ?_
              refine PW.inv (m' := mX8_isHere) (pc := 83) dX8_qWordHere_83 lm_X8_272 me_X8_isHere mi_X8_isHere (ob hM23.1 s_277 (by decide)) rfl (As := [.ref 344]) (st := []) rfl (Nat.le_of_ble_eq_true rfl) (Nat.le_of_ble_eq_true rfl) (Nat.le_of_eq hM23.1) (Nat.le_refl _) (PW.deep (by decide) (c_X8_isHere s_344 hM23 h)) ?_
              rintro _ M25 ⟨hM27, y26, rfl, z28, h⟩
              refine PW.if_eq (pc := 86) dX8_qWordHere_86 (t := 92) (by decide) (fun hc => ?_) (fun hc => ?_)
              · have h := h.1 hc
                refine PW.aload_n (pc := 92) dX8_qWordHere_92 rfl ?_
                refine PW.aload_n (pc := 93) dX8_qWordHere_93 rfl ?_
                refine PW.getR (pc := 94) dX8_qWordHere_94 (r := 345) lf_X8_222 (ob hM27.1 s_277 (by decide)) fx_8_91 (oR_8_91 hM27 s_277) (pS_ne s_345) ?_
                refine PW.inv (m' := mX8_isHere) (pc := 97) dX8_qWordHere_97 lm_X8_272 me_X8_isHere mi_X8_isHere (ob hM27.1 s_277 (by decide)) rfl (As := [.ref 345]) (st := []) rfl (Nat.le_of_ble_eq_true rfl) (Nat.le_of_ble_eq_true rfl) (Nat.le_of_eq hM27.1) (Nat.le_refl _) (PW.deep (by decide) (c_X8_isHere s_345 hM27 h)) ?_
                rintro _ M29 ⟨hM31, y30, rfl, z32, h⟩
                refine PW.if_eq (pc := 100) dX8_qWordHere_100 (t := 106) (by decide) (fun hc => ?_) (fun hc => ?_)
                · have h := h.1 hc
                  refine PW.aload_n (pc := 106) dX8_qWordHere_106 rfl ?_
                  refine PW.aload_n (pc := 107) dX8_qWordHere_107 rfl ?_
                  refine PW.getR (pc := 108) dX8_qWordHere_108 (r := 346) lf_X8_225 (ob hM31.1 s_277 (by decide)) fx_8_92 (oR_8_92 hM31 s_277) (pS_ne s_346) ?_
                  refine PW.inv (m' := mX8_isHere) (pc := 111) dX8_qWordHere_111 lm_X8_272 me_X8_isHere mi_X8_isHere (ob hM31.1 s_277 (by decide)) rfl (As := [.ref 346]) (st := []) rfl (Nat.le_of_ble_eq_true rfl) (Nat.le_of_ble_eq_true rfl) (Nat.le_of_eq hM31.1) (Nat.le_refl _) (PW.deep (by decide) (c_X8_isHere s_346 hM31 h)) ?_
                  rintro _ M33 ⟨hM35, y34, rfl, z36, h⟩
                  refine PW.if_eq (pc := 114) dX8_qWordHere_114 (t := 120) (by decide) (fun hc => ?_) (fun hc => ?_)
                  · have h := h.1 hc
                    refine PW.aload_n (pc := 120) dX8_qWordHere_120 rfl ?_
                    refine PW.aload_n (pc := 121) dX8_qWordHere_121 rfl ?_
                    refine PW.getR (pc := 122) dX8_qWordHere_122 (r := 347) lf_X8_228 (ob hM35.1 s_277 (by decide)) fx_8_93 (oR_8_93 hM35 s_277) (pS_ne s_347) ?_
                    refine PW.inv (m' := mX8_isHere) (pc := 125) dX8_qWordHere_125 lm_X8_272 me_X8_isHere mi_X8_isHere (ob hM35.1 s_277 (by decide)) rfl (As := [.ref 347]) (st := []) rfl (Nat.le_of_ble_eq_true rfl) (Nat.le_of_ble_eq_true rfl) (Nat.le_of_eq hM35.1) (Nat.le_refl _) (PW.deep (by decide) (c_X8_isHere s_347 hM35 h)) ?_
                    rintro _ M37 ⟨hM39, y38, rfl, z40, h⟩
                    refine PW.if_eq (pc := 128) dX8_qWordHere_128 (t := 134) (by decide) (fun hc => ?_) (fun hc => ?_)
                    · have h := h.1 hc
                      refine PW.aload_n (pc := 134) dX8_qWordHere_134 rfl ?_
                      refine PW.aload_n (pc := 135) dX8_qWordHere_135 rfl ?_
                      refine PW.getR (pc := 136) dX8_qWordHere_136 (r := 348) lf_X8_231 (ob hM39.1 s_277 (by decide)) fx_8_94 (oR_8_94 hM39 s_277) (pS_ne s_348) ?_
                      refine PW.inv (m' := mX8_isHere) (pc := 139) dX8_qWordHere_139 lm_X8_272 me_X8_isHere mi_X8_isHere (ob hM39.1 s_277 (by decide)) rfl (As := [.ref 348]) (st := []) rfl (Nat.le_of_ble_eq_true rfl) (Nat.le_of_ble_eq_true rfl) (Nat.le_of_eq hM39.1) (Nat.le_refl _) (PW.deep (by decide) (c_X8_isHere s_348 hM39 h)) ?_
                      rintro _ M41 ⟨hM43, y42, rfl, z44, h⟩
                      refine PW.if_eq (pc := 142) dX8_qWordHere_142 (t := 148) (by decide) (fun hc => ?_) (fun hc => ?_)
                      · have h := h.1 hc
                        refine PW.iconst (pc := 148) dX8_qWordHere_148 (v := (-1)) (by decide) ?_
                        exact PW.retI (pc := 149) dX8_qWordHere_149 hM43.1 rfl rfl ⟨hM43, _, rfl, h⟩
                      · have h := h.2 hc
                        refine PW.bipush (pc := 145) dX8_qWordHere_145 (v := 10) (by decide) ?_
                        exact PW.retI (pc := 147) dX8_qWordHere_147 hM43.1 rfl rfl ⟨hM43, _, rfl, h⟩
                    · have h := h.2 hc
                      refine PW.bipush (pc := 131) dX8_qWordHere_131 (v := 9) (by decide) ?_
                      exact PW.retI (pc := 133) dX8_qWordHere_133 hM39.1 rfl rfl ⟨hM39, _, rfl, h⟩
                  · have h := h.2 hc
                    refine PW.bipush (pc := 117) dX8_qWordHere_117 (v := 8) (by decide) ?_
                    exact PW.retI (pc := 119) dX8_qWordHere_119 hM35.1 rfl rfl ⟨hM35, _, rfl, h⟩
                · have h := h.2 hc
                  refine PW.bipush (pc := 103) dX8_qWordHere_103 (v := 7) (by decide) ?_
                  exact PW.retI (pc := 105) dX8_qWordHere_105 hM31.1 rfl rfl ⟨hM31, _, rfl, h⟩
              · have h := h.2 hc
                refine PW.bipush (pc := 89) dX8_qWordHere_89 (v := 6) (by decide) ?_
                exact PW.retI (pc := 91) dX8_qWordHere_91 hM27.1 rfl rfl ⟨hM27, _, rfl, h⟩
            · have h := h.2 hc
              refine PW.iconst (pc := 76) dX8_qWordHere_76 (v := 5) (by decide) ?_
              exact PW.retI (pc := 77) dX8_qWordHere_77 hM23.1 rfl rfl ⟨hM23, _, rfl, h⟩
          · have h := h.2 hc
            refine PW.iconst (pc := 63) dX8_qWordHere_63 (v := 4) (by decide) ?_
            exact PW.retI (pc := 64) dX8_qWordHere_64 hM19.1 rfl rfl ⟨hM19, _, rfl, h⟩
        · have h := h.2 hc
          refine PW.iconst (pc := 50) dX8_qWordHere_50 (v := 3) (by decide) ?_
          exact PW.retI (pc := 51) dX8_qWordHere_51 hM15.1 rfl rfl ⟨hM15, _, rfl, h⟩
      · have h := h.2 hc
        refine PW.iconst (pc := 37) dX8_qWordHere_37 (v := 2) (by decide) ?_
        exact PW.retI (pc := 38) dX8_qWordHere_38 hM11.1 rfl rfl ⟨hM11, _, rfl, h⟩
    · have h := h.2 hc
      refine PW.iconst (pc := 24) dX8_qWordHere_24 (v := 1) (by decide) ?_
      exact PW.retI (pc := 25) dX8_qWordHere_25 hM7.1 rfl rfl ⟨hM7, _, rfl, h⟩
  · have h := h.2 hc
    refine PW.iconst (pc := 11) dX8_qWordHere_11 (v := 0) (by decide) ?_
    exact PW.retI (pc := 12) dX8_qWordHere_12 hM3.1 rfl rfl ⟨hM3, _, rfl, h⟩
def w_X8_qWordOf (x1 : Int32) (x2 : Int32) (M : pm) (Q : Int32 → pm → Prop) : Prop := w_X8_qWordHere  M (fun y2 M1 => ((y2 < x1 → (Q (-1) M1)) ∧ (¬ y2 < x1 → ((x2 ≤ y2 → (Q (-1) M1)) ∧ (¬ x2 ≤ y2 → (w_X8_isAllowed y2 M1 (fun y5 M4 => ((y5 = 0 → (Q (-1) M4)) ∧ (¬ y5 = 0 → (Q y2 M4))))))))))
set_option maxRecDepth 4000 in
theorem c_X8_qWordOf {x1 : Int32} {x2 : Int32} {M : pm} {Q : Int32 → pm → Prop}  (hM : pG M) (h : w_X8_qWordOf x1 x2 M Q) : PW mX8_qWordOf 4 350 0 (pfr mX8_qWordOf.2.2.1 [.ref 277, .int x1, .int x2]) [] M (qI Q) := by
  unfold w_X8_qWordOf at h
  show PW mX8_qWordOf 4 350 0 [.ref 277, .int x1, .int x2, .null] [] M (qI Q)
  refine PW.aload_n (pc := 0) dX8_qWordOf_0 rfl ?_
  refine PW.inv (m' := mX8_qWordHere) (pc := 1) dX8_qWordOf_1 lm_X8_592 me_X8_qWordHere mi_X8_qWordHere (ob hM.1 s_277 (by decide)) rfl (As := []) (st := []) rfl (Nat.le_of_ble_eq_true rfl) (Nat.le_of_ble_eq_true rfl) (Nat.le_of_eq hM.1) (Nat.le_refl _) (PW.deep (by decide) (c_X8_qWordHere  hM h)) ?_
  rintro _ M1 ⟨hM3, y2, rfl, h⟩
  refine PW.istore_n (pc := 4) dX8_qWordOf_4 (ls' := [.ref 277, .int x1, .int x2, .int y2]) (by decide) rfl rfl ?_
  refine PW.iload_n (pc := 5) dX8_qWordOf_5 rfl ?_
  refine PW.iload_n (pc := 6) dX8_qWordOf_6 rfl ?_
  refine PW.icmp_lt (pc := 7) dX8_qWordOf_7 (t := 27) (by decide) (fun hc => ?_) (fun hc => ?_)
  · have h := h.1 hc
    refine PW.iconst (pc := 27) dX8_qWordOf_27 (v := (-1)) (by decide) ?_
    exact PW.retI (pc := 28) dX8_qWordOf_28 hM3.1 rfl rfl ⟨hM3, _, rfl, h⟩
  · have h := h.2 hc
    refine PW.iload_n (pc := 10) dX8_qWordOf_10 rfl ?_
    refine PW.iload_n (pc := 11) dX8_qWordOf_11 rfl ?_
    refine PW.icmp_ge (pc := 12) dX8_qWordOf_12 (t := 27) (by decide) (fun hc => ?_) (fun hc => ?_)
    · have h := h.1 hc
      refine PW.iconst (pc := 27) dX8_qWordOf_27 (v := (-1)) (by decide) ?_
      exact PW.retI (pc := 28) dX8_qWordOf_28 hM3.1 rfl rfl ⟨hM3, _, rfl, h⟩
    · have h := h.2 hc
      refine PW.aload_n (pc := 15) dX8_qWordOf_15 rfl ?_
      refine PW.iload_n (pc := 16) dX8_qWordOf_16 rfl ?_
      refine PW.inv (m' := mX8_isAllowed) (pc := 17) dX8_qWordOf_17 lm_X8_595 me_X8_isAllowed mi_X8_isAllowed (ob hM3.1 s_277 (by decide)) rfl (As := [.int y2]) (st := []) rfl (Nat.le_of_ble_eq_true rfl) (Nat.le_of_ble_eq_true rfl) (Nat.le_of_eq hM3.1) (Nat.le_refl _) (PW.deep (by decide) (c_X8_isAllowed  hM3 h)) ?_
      rintro _ M4 ⟨hM6, y5, rfl, z7, h⟩
      refine PW.if_eq (pc := 20) dX8_qWordOf_20 (t := 27) (by decide) (fun hc => ?_) (fun hc => ?_)
      · have h := h.1 hc
        refine PW.iconst (pc := 27) dX8_qWordOf_27 (v := (-1)) (by decide) ?_
        exact PW.retI (pc := 28) dX8_qWordOf_28 hM6.1 rfl rfl ⟨hM6, _, rfl, h⟩
      · have h := h.2 hc
        refine PW.iload_n (pc := 23) dX8_qWordOf_23 rfl ?_
        refine PW.goto (pc := 24) dX8_qWordOf_24 (t := 28) (by decide) ?_
        exact PW.retI (pc := 28) dX8_qWordOf_28 hM6.1 rfl rfl ⟨hM6, _, rfl, h⟩
