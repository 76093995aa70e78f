/-! methods, walked by program: w_ what must hold before, c_ its proof -/
def w_X8_name_58 : Nat → Int64 → pm → (Int64 → pm → Prop) → Prop
  | 0, _, _, _ => False
  | n + 1, x1, M, Q => (((mI M 277 3) ≤ (mI M 277 2) → (Q x1 (sI M 277 4 (mI M 277 2)))) ∧ (¬ (mI M 277 3) ≤ (mI M 277 2) → (vp_in (mI M 277 2) 1600 ∧ (w_X8_isLetter (mI M 278 ((mI M 277 2).toNatClampNeg)) M (fun y15 M14 => ((y15 = 0 → (Q x1 (sI M14 277 4 (mI M14 277 2)))) ∧ (¬ y15 = 0 → ((¬ ((mI M14 277 2) - (mI M14 277 38)) = 6 → (vp_in (mI M14 277 2) 1600 ∧ (w_X8_name_58 n (((((27 : Int64) * x1) + (Int32.toInt64 (mI M14 278 ((mI M14 277 2).toNatClampNeg)))) - (97 : Int64)) + (1 : Int64)) (sI M14 277 2 ((mI M14 277 2) + 1)) Q))) ∧ (((mI M14 277 2) - (mI M14 277 38)) = 6 → (w_X8_fail 1 (mI M14 277 2) M14 (fun M18 => Q (0 : Int64) M18)))))))))))
set_option maxRecDepth 4000 in
theorem c_X8_name_58  {Q : Int64 → pm → Prop}  : ∀ (n : Nat) (x1 : Int64) (M : pm), pG M → w_X8_name_58 n x1 M  Q → PW mX8_name 4 350 58 [.ref 277, .long x1, .null] [] M (qJ Q) := by
  intro n
  induction n with
  | zero => intro x1 M hM h; exact h.elim
  | succ n ih =>
    intro x1 M hM h
    unfold w_X8_name_58 at h
    refine PW.aload_n (pc := 58) dX8_name_58 rfl ?_
    refine PW.getI (pc := 59) dX8_name_59 lf_X8_255 (ob hM.1 s_277 (by decide)) fx_8_2 ?_
    refine PW.aload_n (pc := 62) dX8_name_62 rfl ?_
    refine PW.getI (pc := 63) dX8_name_63 lf_X8_258 (ob hM.1 s_277 (by decide)) fx_8_3 ?_
    refine PW.icmp_ge (pc := 66) dX8_name_66 (t := 145) (by decide) (fun hc => ?_) (fun hc => ?_)
    · have h := h.1 hc
      refine PW.aload_n (pc := 145) dX8_name_145 rfl ?_
      refine PW.aload_n (pc := 146) dX8_name_146 rfl ?_
      refine PW.getI (pc := 147) dX8_name_147 lf_X8_255 (ob hM.1 s_277 (by decide)) fx_8_2 ?_
      refine PW.putI (pc := 150) dX8_name_150 lf_X8_269 (ob hM.1 s_277 (by decide)) fx_8_4 fw_8_4 rfl rfl ?_
      refine PW.lload_n (pc := 153) dX8_name_153 rfl ?_
      exact PW.retJ (pc := 154) dX8_name_154 hM.1 rfl ⟨(hM.same rfl rfl), _, rfl, h⟩
    · have h := h.2 hc
      refine PW.aload_n (pc := 69) dX8_name_69 rfl ?_
      refine PW.getR (pc := 70) dX8_name_70 (r := 278) lf_X8_7 (ob hM.1 s_277 (by decide)) fx_8_0 (oR_8_0 hM s_277) (pS_ne s_278) ?_
      refine PW.aload_n (pc := 73) dX8_name_73 rfl ?_
      refine PW.getI (pc := 74) dX8_name_74 lf_X8_255 (ob hM.1 s_277 (by decide)) fx_8_2 ?_
      obtain ⟨v13, h⟩ := h
      refine PW.iald (pc := 77) dX8_name_77 (ar hM.1 s_278) (vpl n_278 v13) ?_
      refine PW.ins (m' := mX8_isLetter) (pc := 78) dX8_name_78 lm_X8_265 me_X8_isLetter ms_X8_isLetter (As := [.int (mI M 278 ((mI M 277 2).toNatClampNeg))]) (st := []) rfl (Nat.le_of_ble_eq_true rfl) (Nat.le_of_ble_eq_true rfl) (Nat.le_of_eq hM.1) (Nat.le_refl _) (PW.deep (by decide) (c_X8_isLetter  hM h)) ?_
      rintro _ M14 ⟨hM, y15, rfl, z16, h⟩
      refine PW.if_eq (pc := 81) dX8_name_81 (t := 145) (by decide) (fun hc => ?_) (fun hc => ?_)
      · have h := h.1 hc
        refine PW.aload_n (pc := 145) dX8_name_145 rfl ?_
        refine PW.aload_n (pc := 146) dX8_name_146 rfl ?_
        refine PW.getI (pc := 147) dX8_name_147 lf_X8_255 (ob hM.1 s_277 (by decide)) fx_8_2 ?_
        refine PW.putI (pc := 150) dX8_name_150 lf_X8_269 (ob hM.1 s_277 (by decide)) fx_8_4 fw_8_4 rfl rfl ?_
        refine PW.lload_n (pc := 153) dX8_name_153 rfl ?_
        exact PW.retJ (pc := 154) dX8_name_154 hM.1 rfl ⟨(hM.same rfl rfl), _, rfl, h⟩
      · have h := h.2 hc
        refine PW.aload_n (pc := 84) dX8_name_84 rfl ?_
        refine PW.getI (pc := 85) dX8_name_85 lf_X8_255 (ob hM.1 s_277 (by decide)) fx_8_2 ?_
        refine PW.aload_n (pc := 88) dX8_name_88 rfl ?_
        refine PW.getI (pc := 89) dX8_name_89 lf_X8_297 (ob hM.1 s_277 (by decide)) fx_8_38 ?_
        refine PW.isub (pc := 92) dX8_name_92 ?_
        refine PW.bipush (pc := 93) dX8_name_93 (v := 6) (by decide) ?_
        refine PW.icmp_ne (pc := 95) dX8_name_95 (t := 109) (by decide) (fun hc => ?_) (fun hc => ?_)
        · have h := h.1 hc
          refine PW.ldc2 (pc := 109) dX8_name_109 lk_X8_300 ?_
          refine PW.lload_n (pc := 112) dX8_name_112 rfl ?_
          refine PW.lmul (pc := 113) dX8_name_113 ?_
          refine PW.aload_n (pc := 114) dX8_name_114 rfl ?_
          refine PW.getR (pc := 115) dX8_name_115 (r := 278) lf_X8_7 (ob hM.1 s_277 (by decide)) fx_8_0 (oR_8_0 hM s_277) (pS_ne s_278) ?_
          refine PW.aload_n (pc := 118) dX8_name_118 rfl ?_
          refine PW.getI (pc := 119) dX8_name_119 lf_X8_255 (ob hM.1 s_277 (by decide)) fx_8_2 ?_
          obtain ⟨v17, h⟩ := h
          refine PW.iald (pc := 122) dX8_name_122 (ar hM.1 s_278) (vpl n_278 v17) ?_
          refine PW.i2l (pc := 123) dX8_name_123 ?_
          refine PW.ladd (pc := 124) dX8_name_124 ?_
          refine PW.ldc2 (pc := 125) dX8_name_125 lk_X8_302 ?_
          refine PW.lsub (pc := 128) dX8_name_128 ?_
          refine PW.lconst (pc := 129) dX8_name_129 (v := 1) (by decide) ?_
          refine PW.ladd (pc := 130) dX8_name_130 ?_
          refine PW.lstore_n (pc := 131) dX8_name_131 (ls' := [.ref 277, .long (((((27 : Int64) * x1) + (Int32.toInt64 (mI M14 278 ((mI M14 277 2).toNatClampNeg)))) - (97 : Int64)) + (1 : Int64)), .null]) (by decide) rfl rfl ?_
          refine PW.aload_n (pc := 132) dX8_name_132 rfl ?_
          refine PW.dupR (pc := 133) dX8_name_133 ?_
          refine PW.getI (pc := 134) dX8_name_134 lf_X8_255 (ob hM.1 s_277 (by decide)) fx_8_2 ?_
          refine PW.iconst (pc := 137) dX8_name_137 (v := 1) (by decide) ?_
          refine PW.iadd (pc := 138) dX8_name_138 ?_
          refine PW.putI (pc := 139) dX8_name_139 lf_X8_255 (ob hM.1 s_277 (by decide)) fx_8_2 fw_8_2 rfl rfl ?_
          refine PW.goto (pc := 142) dX8_name_142 (t := 58) (by decide) ?_
          exact PW.drop (ih _ _ (hM.same rfl rfl) h) ⟨rfl, rfl, trivial⟩
        · have h := h.2 hc
          refine PW.aload_n (pc := 98) dX8_name_98 rfl ?_
          refine PW.iconst (pc := 99) dX8_name_99 (v := 1) (by decide) ?_
          refine PW.aload_n (pc := 100) dX8_name_100 rfl ?_
          refine PW.getI (pc := 101) dX8_name_101 lf_X8_255 (ob hM.1 s_277 (by decide)) fx_8_2 ?_
          refine PW.inv (m' := mX8_fail) (pc := 104) dX8_name_104 lm_X8_279 me_X8_fail mi_X8_fail (ob hM.1 s_277 (by decide)) rfl (As := [.int 1, .int (mI M14 277 2)]) (st := []) rfl (Nat.le_of_ble_eq_true rfl) (Nat.le_of_ble_eq_true rfl) (Nat.le_of_eq hM.1) (Nat.le_refl _) (PW.deep (by decide) (c_X8_fail  hM h)) ?_
          rintro _ M18 ⟨hM, rfl, h⟩
          refine PW.lconst (pc := 107) dX8_name_107 (v := 0) (by decide) ?_
          exact PW.retJ (pc := 108) dX8_name_108 hM.1 rfl ⟨hM, _, rfl, h⟩
def w_X8_name  (M : pm) (Q : Int64 → pm → Prop) : Prop := (((mI M 277 5) = 0 → (w_X8_look  M (fun y2 M1 => w_X8_isLetter y2 M1 (fun y4 M3 => ((y4 = 0 → (w_X8_fail 1 (mI M3 277 2) M3 (fun M6 => Q (0 : Int64) M6))) ∧ (¬ y4 = 0 → (((mI M3 277 2) = (mI M3 277 4) → (w_X8_fail 1 (mI M3 277 2) M3 (fun M8 => Q (0 : Int64) M8))) ∧ (¬ (mI M3 277 2) = (mI M3 277 4) → (w_X8_isOwnHere  M3 (fun y11 M10 => ((y11 = 0 → (∃ n20, w_X8_name_58 n20 (0 : Int64) (sI M10 277 38 (mI M10 277 2))  Q)) ∧ (¬ y11 = 0 → (w_X8_fail 1 (mI M10 277 2) M10 (fun M21 => Q (0 : Int64) M21)))))))))))))) ∧ (¬ (mI M 277 5) = 0 → (Q (0 : Int64) M)))
set_option maxRecDepth 4000 in
theorem c_X8_name  {M : pm} {Q : Int64 → pm → Prop}  (hM : pG M) (h : w_X8_name  M Q) : PW mX8_name 4 350 0 (pfr mX8_name.2.2.1 [.ref 277]) [] M (qJ Q) := by
  unfold w_X8_name at h
  show PW mX8_name 4 350 0 [.ref 277, .null, .null] [] M (qJ Q)
  refine PW.aload_n (pc := 0) dX8_name_0 rfl ?_
  refine PW.getI (pc := 1) dX8_name_1 lf_X8_249 (ob hM.1 s_277 (by decide)) fx_8_5 ?_
  refine PW.if_eq (pc := 4) dX8_name_4 (t := 9) (by decide) (fun hc => ?_) (fun hc => ?_)
  · have h := h.1 hc
    refine PW.aload_n (pc := 9) dX8_name_9 rfl ?_
    refine PW.inv (m' := mX8_look) (pc := 10) dX8_name_10 lm_X8_261 me_X8_look mi_X8_look (ob hM.1 s_277 (by decide)) rfl (As := []) (st := []) rfl (Nat.le_of_ble_eq_true rfl) (Nat.le_of_ble_eq_true rfl) (Nat.le_of_eq hM.1) (Nat.le_refl _) (PW.deep (by decide) (c_X8_look  hM h)) ?_
    rintro _ M1 ⟨hM, y2, rfl, h⟩
    refine PW.ins (m' := mX8_isLetter) (pc := 13) dX8_name_13 lm_X8_265 me_X8_isLetter ms_X8_isLetter (As := [.int y2]) (st := []) rfl (Nat.le_of_ble_eq_true rfl) (Nat.le_of_ble_eq_true rfl) (Nat.le_of_eq hM.1) (Nat.le_refl _) (PW.deep (by decide) (c_X8_isLetter  hM h)) ?_
    rintro _ M3 ⟨hM, y4, rfl, z5, h⟩
    refine PW.if_eq (pc := 16) dX8_name_16 (t := 37) (by decide) (fun hc => ?_) (fun hc => ?_)
    · have h := h.1 hc
      refine PW.aload_n (pc := 37) dX8_name_37 rfl ?_
      refine PW.iconst (pc := 38) dX8_name_38 (v := 1) (by decide) ?_
      refine PW.aload_n (pc := 39) dX8_name_39 rfl ?_
      refine PW.getI (pc := 40) dX8_name_40 lf_X8_255 (ob hM.1 s_277 (by decide)) fx_8_2 ?_
      refine PW.inv (m' := mX8_fail) (pc := 43) dX8_name_43 lm_X8_279 me_X8_fail mi_X8_fail (ob hM.1 s_277 (by decide)) rfl (As := [.int 1, .int (mI M3 277 2)]) (st := []) rfl (Nat.le_of_ble_eq_true rfl) (Nat.le_of_ble_eq_true rfl) (Nat.le_of_eq hM.1) (Nat.le_refl _) (PW.deep (by decide) (c_X8_fail  hM h)) ?_
      rintro _ M6 ⟨hM, rfl, h⟩
      refine PW.lconst (pc := 46) dX8_name_46 (v := 0) (by decide) ?_
      exact PW.retJ (pc := 47) dX8_name_47 hM.1 rfl ⟨hM, _, rfl, h⟩
    · have h := h.2 hc
      refine PW.aload_n (pc := 19) dX8_name_19 rfl ?_
      refine PW.getI (pc := 20) dX8_name_20 lf_X8_255 (ob hM.1 s_277 (by decide)) fx_8_2 ?_
      refine PW.aload_n (pc := 23) dX8_name_23 rfl ?_
      refine PW.getI (pc := 24) dX8_name_24 lf_X8_269 (ob hM.1 s_277 (by decide)) fx_8_4 ?_
      refine PW.icmp_eq (pc := 27) dX8_name_27 (t := 37) (by decide) (fun hc => ?_) (fun hc => ?_)
      · have h := h.1 hc
        refine PW.aload_n (pc := 37) dX8_name_37 rfl ?_
        refine PW.iconst (pc := 38) dX8_name_38 (v := 1) (by decide) ?_
        refine PW.aload_n (pc := 39) dX8_name_39 rfl ?_
        refine PW.getI (pc := 40) dX8_name_40 lf_X8_255 (ob hM.1 s_277 (by decide)) fx_8_2 ?_
        refine PW.inv (m' := mX8_fail) (pc := 43) dX8_name_43 lm_X8_279 me_X8_fail mi_X8_fail (ob hM.1 s_277 (by decide)) rfl (As := [.int 1, .int (mI M3 277 2)]) (st := []) rfl (Nat.le_of_ble_eq_true rfl) (Nat.le_of_ble_eq_true rfl) (Nat.le_of_eq hM.1) (Nat.le_refl _) (PW.deep (by decide) (c_X8_fail  hM h)) ?_
        rintro _ M8 ⟨hM, rfl, h⟩
        refine PW.lconst (pc := 46) dX8_name_46 (v := 0) (by decide) ?_
        exact PW.retJ (pc := 47) dX8_name_47 hM.1 rfl ⟨hM, _, rfl, h⟩
      · have h := h.2 hc
        refine PW.aload_n (pc := 30) dX8_name_30 rfl ?_
        refine PW.inv (m' := mX8_isOwnHere) (pc := 31) dX8_name_31 lm_X8_293 me_X8_isOwnHere mi_X8_isOwnHere (ob hM.1 s_277 (by decide)) rfl (As := []) (st := []) rfl (Nat.le_of_ble_eq_true rfl) (Nat.le_of_ble_eq_true rfl) (Nat.le_of_eq hM.1) (Nat.le_refl _) (PW.deep (by decide) (c_X8_isOwnHere  hM h)) ?_
        rintro _ M10 ⟨hM, y11, rfl, z12, h⟩
        refine PW.if_eq (pc := 34) dX8_name_34 (t := 48) (by decide) (fun hc => ?_) (fun hc => ?_)
        · have h := h.1 hc
          refine PW.aload_n (pc := 48) dX8_name_48 rfl ?_
          refine PW.aload_n (pc := 49) dX8_name_49 rfl ?_
          refine PW.getI (pc := 50) dX8_name_50 lf_X8_255 (ob hM.1 s_277 (by decide)) fx_8_2 ?_
          refine PW.putI (pc := 53) dX8_name_53 lf_X8_297 (ob hM.1 s_277 (by decide)) fx_8_38 fw_8_38 rfl rfl ?_
          refine PW.lconst (pc := 56) dX8_name_56 (v := 0) (by decide) ?_
          refine PW.lstore_n (pc := 57) dX8_name_57 (ls' := [.ref 277, .long (0 : Int64), .null]) (by decide) rfl rfl ?_
          obtain ⟨n20, h⟩ := h
          refine PW.drop (c_X8_name_58  n20 _ _ (hM.same rfl rfl) h) ⟨rfl, rfl, trivial⟩
        · have h := h.2 hc
          refine PW.aload_n (pc := 37) dX8_name_37 rfl ?_
          refine PW.iconst (pc := 38) dX8_name_38 (v := 1) (by decide) ?_
          refine PW.aload_n (pc := 39) dX8_name_39 rfl ?_
          refine PW.getI (pc := 40) dX8_name_40 lf_X8_255 (ob hM.1 s_277 (by decide)) fx_8_2 ?_
          refine PW.inv (m' := mX8_fail) (pc := 43) dX8_name_43 lm_X8_279 me_X8_fail mi_X8_fail (ob hM.1 s_277 (by decide)) rfl (As := [.int 1, .int (mI M10 277 2)]) (st := []) rfl (Nat.le_of_ble_eq_true rfl) (Nat.le_of_ble_eq_true rfl) (Nat.le_of_eq hM.1) (Nat.le_refl _) (PW.deep (by decide) (c_X8_fail  hM h)) ?_
          rintro _ M21 ⟨hM, rfl, h⟩
          refine PW.lconst (pc := 46) dX8_name_46 (v := 0) (by decide) ?_
          exact PW.retJ (pc := 47) dX8_name_47 hM.1 rfl ⟨hM, _, rfl, h⟩
  · have h := h.2 hc
    refine PW.lconst (pc := 7) dX8_name_7 (v := 0) (by decide) ?_
    exact PW.retJ (pc := 8) dX8_name_8 hM.1 rfl ⟨hM, _, rfl, h⟩
def w_X8_isAllowed (x1 : Int32) (M : pm) (Q : Int32 → pm → Prop) : Prop := (((mI M 277 51) = 2 → (Q 1 M)) ∧ (¬ (mI M 277 51) = 2 → ((¬ (mI M 277 51) = 0 → ((7 ≤ x1 → (Q 0 M)) ∧ (¬ 7 ≤ x1 → (Q 1 M)))) ∧ ((mI M 277 51) = 0 → ((5 ≤ x1 → (Q 0 M)) ∧ (¬ 5 ≤ x1 → (Q 1 M)))))))
set_option maxRecDepth 4000 in
theorem c_X8_isAllowed {x1 : Int32} {M : pm} {Q : Int32 → pm → Prop}  (hM : pG M) (h : w_X8_isAllowed x1 M Q) : PW mX8_isAllowed 1 350 0 (pfr mX8_isAllowed.2.2.1 [.ref 277, .int x1]) [] M (qZ Q) := by
  unfold w_X8_isAllowed at h
  show PW mX8_isAllowed 1 350 0 [.ref 277, .int x1] [] M (qZ Q)
  refine PW.aload_n (pc := 0) dX8_isAllowed_0 rfl ?_
  refine PW.getI (pc := 1) dX8_isAllowed_1 lf_X8_304 (ob hM.1 s_277 (by decide)) fx_8_51 ?_
  refine PW.iconst (pc := 4) dX8_isAllowed_4 (v := 2) (by decide) ?_
  refine PW.icmp_eq (pc := 5) dX8_isAllowed_5 (t := 25) (by decide) (fun hc => ?_) (fun hc => ?_)
  · have h := h.1 hc
    refine PW.iconst (pc := 25) dX8_isAllowed_25 (v := 1) (by decide) ?_
    refine PW.goto (pc := 26) dX8_isAllowed_26 (t := 30) (by decide) ?_
    exact PW.retI (pc := 30) dX8_isAllowed_30 hM.1 rfl (bz_n bz1) ⟨hM, _, rfl, bz1, h⟩
  · have h := h.2 hc
    refine PW.iload_n (pc := 8) dX8_isAllowed_8 rfl ?_
    refine PW.aload_n (pc := 9) dX8_isAllowed_9 rfl ?_
    refine PW.getI (pc := 10) dX8_isAllowed_10 lf_X8_304 (ob hM.1 s_277 (by decide)) fx_8_51 ?_
    refine PW.if_ne (pc := 13) dX8_isAllowed_13 (t := 20) (by decide) (fun hc => ?_) (fun hc => ?_)
    · have h := h.1 hc
      refine PW.bipush (pc := 20) dX8_isAllowed_20 (v := 7) (by decide) ?_
      refine PW.icmp_ge (pc := 22) dX8_isAllowed_22 (t := 29) (by decide) (fun hc => ?_) (fun hc => ?_)
      · have h := h.1 hc
        refine PW.iconst (pc := 29) dX8_isAllowed_29 (v := 0) (by decide) ?_
        exact PW.retI (pc := 30) dX8_isAllowed_30 hM.1 rfl (bz_n bz0) ⟨hM, _, rfl, bz0, h⟩
      · have h := h.2 hc
        refine PW.iconst (pc := 25) dX8_isAllowed_25 (v := 1) (by decide) ?_
        refine PW.goto (pc := 26) dX8_isAllowed_26 (t := 30) (by decide) ?_
        exact PW.retI (pc := 30) dX8_isAllowed_30 hM.1 rfl (bz_n bz1) ⟨hM, _, rfl, bz1, h⟩
    · have h := h.2 hc
      refine PW.iconst (pc := 16) dX8_isAllowed_16 (v := 5) (by decide) ?_
      refine PW.goto (pc := 17) dX8_isAllowed_17 (t := 22) (by decide) ?_
      refine PW.icmp_ge (pc := 22) dX8_isAllowed_22 (t := 29) (by decide) (fun hc => ?_) (fun hc => ?_)
      · have h := h.1 hc
        refine PW.iconst (pc := 29) dX8_isAllowed_29 (v := 0) (by decide) ?_
        exact PW.retI (pc := 30) dX8_isAllowed_30 hM.1 rfl (bz_n bz0) ⟨hM, _, rfl, bz0, h⟩
      · have h := h.2 hc
        refine PW.iconst (pc := 25) dX8_isAllowed_25 (v := 1) (by decide) ?_
        refine PW.goto (pc := 26) dX8_isAllowed_26 (t := 30) (by decide) ?_
        exact PW.retI (pc := 30) dX8_isAllowed_30 hM.1 rfl (bz_n bz1) ⟨hM, _, rfl, bz1, h⟩
def w_X8_isFull (x1 : Int32) (x2 : Int32) (x3 : Int32) (M : pm) (Q : Int32 → pm → Prop) : Prop := ((¬ (mI M 277 5) = 0 → (((mI M 277 5) = 0 → (Q 0 M)) ∧ (¬ (mI M 277 5) = 0 → (Q 1 M)))) ∧ ((mI M 277 5) = 0 → (vp_in x1 6 ∧ ((¬ (mI M 309 x1.toNatClampNeg) = x2 → (((mI M 277 5) = 0 → (Q 0 M)) ∧ (¬ (mI M 277 5) = 0 → (Q 1 M)))) ∧ ((mI M 309 x1.toNatClampNeg) = x2 → (w_X8_fail 5 x3 M (fun M2 => (((mI M2 277 5) = 0 → (Q 0 M2)) ∧ (¬ (mI M2 277 5) = 0 → (Q 1 M2))))))))))
set_option maxRecDepth 4000 in
theorem c_X8_isFull {x1 : Int32} {x2 : Int32} {x3 : Int32} {M : pm} {Q : Int32 → pm → Prop}  (hM : pG M) (h : w_X8_isFull x1 x2 x3 M Q) : PW mX8_isFull 2 350 0 (pfr mX8_isFull.2.2.1 [.ref 277, .int x1, .int x2, .int x3]) [] M (qZ Q) := by
  unfold w_X8_isFull at h
  show PW mX8_isFull 2 350 0 [.ref 277, .int x1, .int x2, .int x3] [] M (qZ Q)
  refine PW.aload_n (pc := 0) dX8_isFull_0 rfl ?_
  refine PW.getI (pc := 1) dX8_isFull_1 lf_X8_249 (ob hM.1 s_277 (by decide)) fx_8_5 ?_
  refine PW.if_ne (pc := 4) dX8_isFull_4 (t := 23) (by decide) (fun hc => ?_) (fun hc => ?_)
  · have h := h.1 hc
    refine PW.aload_n (pc := 23) dX8_isFull_23 rfl ?_
    refine PW.getI (pc := 24) dX8_isFull_24 lf_X8_249 (ob hM.1 s_277 (by decide)) fx_8_5 ?_
    refine PW.if_eq (pc := 27) dX8_isFull_27 (t := 34) (by decide) (fun hc => ?_) (fun hc => ?_)
    · have h := h.1 hc
      refine PW.iconst (pc := 34) dX8_isFull_34 (v := 0) (by decide) ?_
      exact PW.retI (pc := 35) dX8_isFull_35 hM.1 rfl (bz_n bz0) ⟨hM, _, rfl, bz0, h⟩
    · have h := h.2 hc
      refine PW.iconst (pc := 30) dX8_isFull_30 (v := 1) (by decide) ?_
      refine PW.goto (pc := 31) dX8_isFull_31 (t := 35) (by decide) ?_
      exact PW.retI (pc := 35) dX8_isFull_35 hM.1 rfl (bz_n bz1) ⟨hM, _, rfl, bz1, h⟩
  · have h := h.2 hc
    refine PW.aload_n (pc := 7) dX8_isFull_7 rfl ?_
    refine PW.getR (pc := 8) dX8_isFull_8 (r := 309) lf_X8_108 (ob hM.1 s_277 (by decide)) fx_8_40 (oR_8_40 hM s_277) (pS_ne s_309) ?_
    refine PW.iload_n (pc := 11) dX8_isFull_11 rfl ?_
    obtain ⟨v1, h⟩ := h
    refine PW.iald (pc := 12) dX8_isFull_12 (ar hM.1 s_309) (vpl n_309 v1) ?_
    refine PW.iload_n (pc := 13) dX8_isFull_13 rfl ?_
    refine PW.icmp_ne (pc := 14) dX8_isFull_14 (t := 23) (by decide) (fun hc => ?_) (fun hc => ?_)
    · have h := h.1 hc
      refine PW.aload_n (pc := 23) dX8_isFull_23 rfl ?_
      refine PW.getI (pc := 24) dX8_isFull_24 lf_X8_249 (ob hM.1 s_277 (by decide)) fx_8_5 ?_
      refine PW.if_eq (pc := 27) dX8_isFull_27 (t := 34) (by decide) (fun hc => ?_) (fun hc => ?_)
      · have h := h.1 hc
        refine PW.iconst (pc := 34) dX8_isFull_34 (v := 0) (by decide) ?_
        exact PW.retI (pc := 35) dX8_isFull_35 hM.1 rfl (bz_n bz0) ⟨hM, _, rfl, bz0, h⟩
      · have h := h.2 hc
        refine PW.iconst (pc := 30) dX8_isFull_30 (v := 1) (by decide) ?_
        refine PW.goto (pc := 31) dX8_isFull_31 (t := 35) (by decide) ?_
        exact PW.retI (pc := 35) dX8_isFull_35 hM.1 rfl (bz_n bz1) ⟨hM, _, rfl, bz1, h⟩
    · have h := h.2 hc
      refine PW.aload_n (pc := 17) dX8_isFull_17 rfl ?_
      refine PW.iconst (pc := 18) dX8_isFull_18 (v := 5) (by decide) ?_
      refine PW.iload_n (pc := 19) dX8_isFull_19 rfl ?_
      refine PW.inv (m' := mX8_fail) (pc := 20) dX8_isFull_20 lm_X8_279 me_X8_fail mi_X8_fail (ob hM.1 s_277 (by decide)) rfl (As := [.int 5, .int x3]) (st := []) rfl (Nat.le_of_ble_eq_true rfl) (Nat.le_of_ble_eq_true rfl) (Nat.le_of_eq hM.1) (Nat.le_refl _) (PW.deep (by decide) (c_X8_fail  hM h)) ?_
      rintro _ M2 ⟨hM, rfl, h⟩
      refine PW.aload_n (pc := 23) dX8_isFull_23 rfl ?_
      refine PW.getI (pc := 24) dX8_isFull_24 lf_X8_249 (ob hM.1 s_277 (by decide)) fx_8_5 ?_
      refine PW.if_eq (pc := 27) dX8_isFull_27 (t := 34) (by decide) (fun hc => ?_) (fun hc => ?_)
      · have h := h.1 hc
        refine PW.iconst (pc := 34) dX8_isFull_34 (v := 0) (by decide) ?_
        exact PW.retI (pc := 35) dX8_isFull_35 hM.1 rfl (bz_n bz0) ⟨hM, _, rfl, bz0, h⟩
      · have h := h.2 hc
        refine PW.iconst (pc := 30) dX8_isFull_30 (v := 1) (by decide) ?_
        refine PW.goto (pc := 31) dX8_isFull_31 (t := 35) (by decide) ?_
        exact PW.retI (pc := 35) dX8_isFull_35 hM.1 rfl (bz_n bz1) ⟨hM, _, rfl, bz1, h⟩
def w_X8_newName_15 : Nat → Int64 → Int32 → Int32 → pm → (Int64 → Int32 → pm → Prop) → (Int64 → pm → Prop) → Prop
  | 0, _, _, _, _, _, _ => False
  | n + 1, x1, x3, x4, M, k65, Q => vp_in x3 6 ∧ (((mI M 309 x3.toNatClampNeg) ≤ x4 → (k65 x1 x3 M)) ∧ (¬ (mI M 309 x3.toNatClampNeg) ≤ x4 → ((¬ (mI M 277 5) = 0 → (w_X8_newName_15 n x1 x3 (x4 + 1) M k65 Q)) ∧ ((mI M 277 5) = 0 → (vp_in ((8 * x3) + x4) 48 ∧ ((¬ (mJ M 310 (((8 * x3) + x4).toNatClampNeg)) = x1 → (w_X8_newName_15 n x1 x3 (x4 + 1) M k65 Q)) ∧ ((mJ M 310 (((8 * x3) + x4).toNatClampNeg)) = x1 → (w_X8_fail 3 (mI M 277 38) M (fun M5 => w_X8_newName_15 n x1 x3 (x4 + 1) M5 k65 Q)))))))))
set_option maxRecDepth 4000 in
theorem c_X8_newName_15 {k65 : Int64 → Int32 → pm → Prop} {Q : Int64 → pm → Prop} (hk65 : ∀ (x1 : Int64) (x3 : Int32) (M : pm), pG M → k65 x1 x3 M → PW mX8_newName 5 350 65 [.ref 277, .long x1, .null, .int x3, .null] [] M (qJ Q)) : ∀ (n : Nat) (x1 : Int64) (x3 : Int32) (x4 : Int32) (M : pm), pG M → w_X8_newName_15 n x1 x3 x4 M k65 Q → PW mX8_newName 5 350 15 [.ref 277, .long x1, .null, .int x3, .int x4] [] M (qJ Q) := by
  intro n
  induction n with
  | zero => intro x1 x3 x4 M hM h; exact h.elim
  | succ n ih =>
    intro x1 x3 x4 M hM h
    unfold w_X8_newName_15 at h
    refine PW.iload (pc := 15) dX8_newName_15 rfl ?_
    refine PW.aload_n (pc := 17) dX8_newName_17 rfl ?_
    refine PW.getR (pc := 18) dX8_newName_18 (r := 309) lf_X8_108 (ob hM.1 s_277 (by decide)) fx_8_40 (oR_8_40 hM s_277) (pS_ne s_309) ?_
    refine PW.iload_n (pc := 21) dX8_newName_21 rfl ?_
    obtain ⟨v3, h⟩ := h
    refine PW.iald (pc := 22) dX8_newName_22 (ar hM.1 s_309) (vpl n_309 v3) ?_
    refine PW.icmp_ge (pc := 23) dX8_newName_23 (t := 65) (by decide) (fun hc => ?_) (fun hc => ?_)
    · have h := h.1 hc
      exact PW.drop (hk65 _ _ _ hM h) ⟨rfl, rfl, rfl, trivial⟩
    · have h := h.2 hc
      refine PW.aload_n (pc := 26) dX8_newName_26 rfl ?_
      refine PW.getI (pc := 27) dX8_newName_27 lf_X8_249 (ob hM.1 s_277 (by decide)) fx_8_5 ?_
      refine PW.if_ne (pc := 30) dX8_newName_30 (t := 59) (by decide) (fun hc => ?_) (fun hc => ?_)
      · have h := h.1 hc
        refine PW.iinc (pc := 59) dX8_newName_59 (v := (x4 + 1)) (ls' := [.ref 277, .long x1, .null, .int x3, .int (x4 + 1)]) rfl rfl (by decide) rfl rfl ?_
        refine PW.goto (pc := 62) dX8_newName_62 (t := 15) (by decide) ?_
        exact PW.drop (ih _ _ _ _ hM h) ⟨rfl, rfl, rfl, rfl, trivial⟩
      · have h := h.2 hc
        refine PW.aload_n (pc := 33) dX8_newName_33 rfl ?_
        refine PW.getR (pc := 34) dX8_newName_34 (r := 310) lf_X8_111 (ob hM.1 s_277 (by decide)) fx_8_41 (oR_8_41 hM s_277) (pS_ne s_310) ?_
        refine PW.bipush (pc := 37) dX8_newName_37 (v := 8) (by decide) ?_
        refine PW.iload_n (pc := 39) dX8_newName_39 rfl ?_
        refine PW.imul (pc := 40) dX8_newName_40 ?_
        refine PW.iload (pc := 41) dX8_newName_41 rfl ?_
        refine PW.iadd (pc := 43) dX8_newName_43 ?_
        obtain ⟨v4, h⟩ := h
        refine PW.lald (pc := 44) dX8_newName_44 (ar hM.1 s_310) (vpl n_310 v4) ?_
        refine PW.lload_n (pc := 45) dX8_newName_45 rfl ?_
        refine PW.lcmp (pc := 46) dX8_newName_46 ?_
        refine PW.if_ne (pc := 47) dX8_newName_47 (t := 59) (by decide) (fun hc => ?_) (fun hc => ?_)
        · have h := h.1 (fun q => hc ((lg_cmp_eq _ _).mpr q))
          refine PW.iinc (pc := 59) dX8_newName_59 (v := (x4 + 1)) (ls' := [.ref 277, .long x1, .null, .int x3, .int (x4 + 1)]) rfl rfl (by decide) rfl rfl ?_
          refine PW.goto (pc := 62) dX8_newName_62 (t := 15) (by decide) ?_
          exact PW.drop (ih _ _ _ _ hM h) ⟨rfl, rfl, rfl, rfl, trivial⟩
        · have h := h.2 ((lg_cmp_eq _ _).mp hc)
          refine PW.aload_n (pc := 50) dX8_newName_50 rfl ?_
          refine PW.iconst (pc := 51) dX8_newName_51 (v := 3) (by decide) ?_
          refine PW.aload_n (pc := 52) dX8_newName_52 rfl ?_
          refine PW.getI (pc := 53) dX8_newName_53 lf_X8_297 (ob hM.1 s_277 (by decide)) fx_8_38 ?_
          refine PW.inv (m' := mX8_fail) (pc := 56) dX8_newName_56 lm_X8_279 me_X8_fail mi_X8_fail (ob hM.1 s_277 (by decide)) rfl (As := [.int 3, .int (mI M 277 38)]) (st := []) rfl (Nat.le_of_ble_eq_true rfl) (Nat.le_of_ble_eq_true rfl) (Nat.le_of_eq hM.1) (Nat.le_refl _) (PW.deep (by decide) (c_X8_fail  hM h)) ?_
          rintro _ M5 ⟨hM, rfl, h⟩
          refine PW.iinc (pc := 59) dX8_newName_59 (v := (x4 + 1)) (ls' := [.ref 277, .long x1, .null, .int x3, .int (x4 + 1)]) rfl rfl (by decide) rfl rfl ?_
          refine PW.goto (pc := 62) dX8_newName_62 (t := 15) (by decide) ?_
          exact PW.drop (ih _ _ _ _ hM h) ⟨rfl, rfl, rfl, rfl, trivial⟩
def w_X8_newName_7 : Nat → Int64 → Int32 → pm → (Int64 → pm → Prop) → Prop
  | 0, _, _, _, _ => False
  | n + 1, x1, x3, M, Q => ((3 ≤ x3 → (Q x1 M)) ∧ (¬ 3 ≤ x3 → (∃ n7, w_X8_newName_15 n7 x1 x3 0 M (fun x1 x3 M8 => w_X8_newName_7 n x1 (x3 + 1) M8 Q) Q)))
set_option maxRecDepth 4000 in
theorem c_X8_newName_7  {Q : Int64 → pm → Prop}  : ∀ (n : Nat) (x1 : Int64) (x3 : Int32) (M : pm), pG M → w_X8_newName_7 n x1 x3 M  Q → PW mX8_newName 5 350 7 [.ref 277, .long x1, .null, .int x3, .null] [] M (qJ Q) := by
  intro n
  induction n with
  | zero => intro x1 x3 M hM h; exact h.elim
  | succ n ih =>
    intro x1 x3 M hM h
    unfold w_X8_newName_7 at h
    refine PW.iload_n (pc := 7) dX8_newName_7 rfl ?_
    refine PW.iconst (pc := 8) dX8_newName_8 (v := 3) (by decide) ?_
    refine PW.icmp_ge (pc := 9) dX8_newName_9 (t := 71) (by decide) (fun hc => ?_) (fun hc => ?_)
    · have h := h.1 hc
      refine PW.lload_n (pc := 71) dX8_newName_71 rfl ?_
      exact PW.retJ (pc := 72) dX8_newName_72 hM.1 rfl ⟨hM, _, rfl, h⟩
    · have h := h.2 hc
      refine PW.iconst (pc := 12) dX8_newName_12 (v := 0) (by decide) ?_
      refine PW.istore (pc := 13) dX8_newName_13 (ls' := [.ref 277, .long x1, .null, .int x3, .int 0]) (by decide) rfl rfl ?_
      obtain ⟨n7, h⟩ := h
      refine PW.drop (c_X8_newName_15 ?_ n7 _ _ _ _ hM h) ⟨rfl, rfl, rfl, rfl, trivial⟩
      · intro x1 x3 M8 hM h
        refine PW.iinc (pc := 65) dX8_newName_65 (v := (x3 + 1)) (ls' := [.ref 277, .long x1, .null, .int (x3 + 1), .null]) rfl rfl (by decide) rfl rfl ?_
        refine PW.goto (pc := 68) dX8_newName_68 (t := 7) (by decide) ?_
        exact PW.drop (ih _ _ _ hM h) ⟨rfl, rfl, rfl, trivial⟩
def w_X8_newName  (M : pm) (Q : Int64 → pm → Prop) : Prop := w_X8_name  M (fun y2 M1 => ∃ n9, w_X8_newName_7 n9 y2 0 M1  Q)
set_option maxRecDepth 4000 in
theorem c_X8_newName  {M : pm} {Q : Int64 → pm → Prop}  (hM : pG M) (h : w_X8_newName  M Q) : PW mX8_newName 5 350 0 (pfr mX8_newName.2.2.1 [.ref 277]) [] M (qJ Q) := by
  unfold w_X8_newName at h
  show PW mX8_newName 5 350 0 [.ref 277, .null, .null, .null, .null] [] M (qJ Q)
  refine PW.aload_n (pc := 0) dX8_newName_0 rfl ?_
  refine PW.inv (m' := mX8_name) (pc := 1) dX8_newName_1 lm_X8_307 me_X8_name mi_X8_name (ob hM.1 s_277 (by decide)) rfl (As := []) (st := []) rfl (Nat.le_of_ble_eq_true rfl) (Nat.le_of_ble_eq_true rfl) (Nat.le_of_eq hM.1) (Nat.le_refl _) (PW.deep (by decide) (c_X8_name  hM h)) ?_
  rintro _ M1 ⟨hM, y2, rfl, h⟩
  refine PW.lstore_n (pc := 4) dX8_newName_4 (ls' := [.ref 277, .long y2, .null, .null, .null]) (by decide) rfl rfl ?_
  refine PW.iconst (pc := 5) dX8_newName_5 (v := 0) (by decide) ?_
  refine PW.istore_n (pc := 6) dX8_newName_6 (ls' := [.ref 277, .long y2, .null, .int 0, .null]) (by decide) rfl rfl ?_
  obtain ⟨n9, h⟩ := h
  refine PW.drop (c_X8_newName_7  n9 _ _ _ hM h) ⟨rfl, rfl, rfl, trivial⟩
def w_X8_songNamed_7 : Nat → Int64 → Int32 → pm → (Int32 → pm → Prop) → Prop
  | 0, _, _, _, _ => False
  | n + 1, x1, x3, M, Q => (((mI M 309 0) ≤ x3 → ((¬ (mI M 277 5) = 0 → (Q 0 M)) ∧ ((mI M 277 5) = 0 → (w_X8_fail 3 (mI M 277 38) M (fun M3 => Q 0 M3))))) ∧ (¬ (mI M 309 0) ≤ x3 → (vp_in x3 48 ∧ ((¬ (mJ M 310 x3.toNatClampNeg) = x1 → (w_X8_songNamed_7 n x1 (x3 + 1) M Q)) ∧ ((mJ M 310 x3.toNatClampNeg) = x1 → (Q x3 M))))))
set_option maxRecDepth 4000 in
theorem c_X8_songNamed_7  {Q : Int32 → pm → Prop}  : ∀ (n : Nat) (x1 : Int64) (x3 : Int32) (M : pm), pG M → w_X8_songNamed_7 n x1 x3 M  Q → PW mX8_songNamed 5 350 7 [.ref 277, .long x1, .null, .int x3] [] M (qI Q) := by
  intro n
  induction n with
  | zero => intro x1 x3 M hM h; exact h.elim
  | succ n ih =>
    intro x1 x3 M hM h
    unfold w_X8_songNamed_7 at h
    refine PW.iload_n (pc := 7) dX8_songNamed_7 rfl ?_
    refine PW.aload_n (pc := 8) dX8_songNamed_8 rfl ?_
    refine PW.getR (pc := 9) dX8_songNamed_9 (r := 309) lf_X8_108 (ob hM.1 s_277 (by decide)) fx_8_40 (oR_8_40 hM s_277) (pS_ne s_309) ?_
    refine PW.iconst (pc := 12) dX8_songNamed_12 (v := 0) (by decide) ?_
    refine PW.iald (pc := 13) dX8_songNamed_13 (ar hM.1 s_309) (vpl n_309 (vp_c (i := 0) (n := 6) (by decide))) ?_
    refine PW.icmp_ge (pc := 14) dX8_songNamed_14 (t := 36) (by decide) (fun hc => ?_) (fun hc => ?_)
    · have h := h.1 hc
      refine PW.aload_n (pc := 36) dX8_songNamed_36 rfl ?_
      refine PW.getI (pc := 37) dX8_songNamed_37 lf_X8_249 (ob hM.1 s_277 (by decide)) fx_8_5 ?_
      refine PW.if_ne (pc := 40) dX8_songNamed_40 (t := 52) (by decide) (fun hc => ?_) (fun hc => ?_)
      · have h := h.1 hc
        refine PW.iconst (pc := 52) dX8_songNamed_52 (v := 0) (by decide) ?_
        exact PW.retI (pc := 53) dX8_songNamed_53 hM.1 rfl rfl ⟨hM, _, rfl, h⟩
      · have h := h.2 hc
        refine PW.aload_n (pc := 43) dX8_songNamed_43 rfl ?_
        refine PW.iconst (pc := 44) dX8_songNamed_44 (v := 3) (by decide) ?_
        refine PW.aload_n (pc := 45) dX8_songNamed_45 rfl ?_
        refine PW.getI (pc := 46) dX8_songNamed_46 lf_X8_297 (ob hM.1 s_277 (by decide)) fx_8_38 ?_
        refine PW.inv (m' := mX8_fail) (pc := 49) dX8_songNamed_49 lm_X8_279 me_X8_fail mi_X8_fail (ob hM.1 s_277 (by decide)) rfl (As := [.int 3, .int (mI M 277 38)]) (st := []) rfl (Nat.le_of_ble_eq_true rfl) (Nat.le_of_ble_eq_true rfl) (Nat.le_of_eq hM.1) (Nat.le_refl _) (PW.deep (by decide) (c_X8_fail  hM h)) ?_
        rintro _ M3 ⟨hM, rfl, h⟩
        refine PW.iconst (pc := 52) dX8_songNamed_52 (v := 0) (by decide) ?_
        exact PW.retI (pc := 53) dX8_songNamed_53 hM.1 rfl rfl ⟨hM, _, rfl, h⟩
    · have h := h.2 hc
      refine PW.aload_n (pc := 17) dX8_songNamed_17 rfl ?_
      refine PW.getR (pc := 18) dX8_songNamed_18 (r := 310) lf_X8_111 (ob hM.1 s_277 (by decide)) fx_8_41 (oR_8_41 hM s_277) (pS_ne s_310) ?_
      refine PW.iload_n (pc := 21) dX8_songNamed_21 rfl ?_
      obtain ⟨v5, h⟩ := h
      refine PW.lald (pc := 22) dX8_songNamed_22 (ar hM.1 s_310) (vpl n_310 v5) ?_
      refine PW.lload_n (pc := 23) dX8_songNamed_23 rfl ?_
      refine PW.lcmp (pc := 24) dX8_songNamed_24 ?_
      refine PW.if_ne (pc := 25) dX8_songNamed_25 (t := 30) (by decide) (fun hc => ?_) (fun hc => ?_)
      · have h := h.1 (fun q => hc ((lg_cmp_eq _ _).mpr q))
        refine PW.iinc (pc := 30) dX8_songNamed_30 (v := (x3 + 1)) (ls' := [.ref 277, .long x1, .null, .int (x3 + 1)]) rfl rfl (by decide) rfl rfl ?_
        refine PW.goto (pc := 33) dX8_songNamed_33 (t := 7) (by decide) ?_
        exact PW.drop (ih _ _ _ hM h) ⟨rfl, rfl, rfl, trivial⟩
      · have h := h.2 ((lg_cmp_eq _ _).mp hc)
        refine PW.iload_n (pc := 28) dX8_songNamed_28 rfl ?_
        exact PW.retI (pc := 29) dX8_songNamed_29 hM.1 rfl rfl ⟨hM, _, rfl, h⟩
def w_X8_songNamed  (M : pm) (Q : Int32 → pm → Prop) : Prop := w_X8_name  M (fun y2 M1 => ∃ n6, w_X8_songNamed_7 n6 y2 0 M1  Q)
set_option maxRecDepth 4000 in
theorem c_X8_songNamed  {M : pm} {Q : Int32 → pm → Prop}  (hM : pG M) (h : w_X8_songNamed  M Q) : PW mX8_songNamed 5 350 0 (pfr mX8_songNamed.2.2.1 [.ref 277]) [] M (qI Q) := by
  unfold w_X8_songNamed at h
  show PW mX8_songNamed 5 350 0 [.ref 277, .null, .null, .null] [] M (qI Q)
  refine PW.aload_n (pc := 0) dX8_songNamed_0 rfl ?_
  refine PW.inv (m' := mX8_name) (pc := 1) dX8_songNamed_1 lm_X8_307 me_X8_name mi_X8_name (ob hM.1 s_277 (by decide)) rfl (As := []) (st := []) rfl (Nat.le_of_ble_eq_true rfl) (Nat.le_of_ble_eq_true rfl) (Nat.le_of_eq hM.1) (Nat.le_refl _) (PW.deep (by decide) (c_X8_name  hM h)) ?_
  rintro _ M1 ⟨hM, y2, rfl, h⟩
  refine PW.lstore_n (pc := 4) dX8_songNamed_4 (ls' := [.ref 277, .long y2, .null, .null]) (by decide) rfl rfl ?_
  refine PW.iconst (pc := 5) dX8_songNamed_5 (v := 0) (by decide) ?_
  refine PW.istore_n (pc := 6) dX8_songNamed_6 (ls' := [.ref 277, .long y2, .null, .int 0]) (by decide) rfl rfl ?_
  obtain ⟨n6, h⟩ := h
  refine PW.drop (c_X8_songNamed_7  n6 _ _ _ hM h) ⟨rfl, rfl, rfl, trivial⟩
def w_X8_adds (x1 : Int32) (x2 : Int64) (M : pm) (Q : Int32 → pm → Prop) : Prop := vp_in x1 6 ∧ (vp_in ((8 * x1) + (mI M 309 x1.toNatClampNeg)) 48 ∧ (vp_in x1 6 ∧ (vp_in x1 6 ∧ (vp_in x1 6 ∧ (Q ((mI (sI (sJ M 310 (((8 * x1) + (mI M 309 x1.toNatClampNeg)).toNatClampNeg) x2) 309 x1.toNatClampNeg ((mI M 309 x1.toNatClampNeg) + 1)) 309 x1.toNatClampNeg) - 1) (sI (sJ M 310 (((8 * x1) + (mI M 309 x1.toNatClampNeg)).toNatClampNeg) x2) 309 x1.toNatClampNeg ((mI M 309 x1.toNatClampNeg) + 1)))))))
set_option maxRecDepth 4000 in
theorem c_X8_adds {x1 : Int32} {x2 : Int64} {M : pm} {Q : Int32 → pm → Prop}  (hM : pG M) (h : w_X8_adds x1 x2 M Q) : PW mX8_adds 1 350 0 (pfr mX8_adds.2.2.1 [.ref 277, .int x1, .long x2]) [] M (qI Q) := by
  unfold w_X8_adds at h
  show PW mX8_adds 1 350 0 [.ref 277, .int x1, .long x2, .null] [] M (qI Q)
  refine PW.aload_n (pc := 0) dX8_adds_0 rfl ?_
  refine PW.getR (pc := 1) dX8_adds_1 (r := 310) lf_X8_111 (ob hM.1 s_277 (by decide)) fx_8_41 (oR_8_41 hM s_277) (pS_ne s_310) ?_
  refine PW.bipush (pc := 4) dX8_adds_4 (v := 8) (by decide) ?_
  refine PW.iload_n (pc := 6) dX8_adds_6 rfl ?_
  refine PW.imul (pc := 7) dX8_adds_7 ?_
  refine PW.aload_n (pc := 8) dX8_adds_8 rfl ?_
  refine PW.getR (pc := 9) dX8_adds_9 (r := 309) lf_X8_108 (ob hM.1 s_277 (by decide)) fx_8_40 (oR_8_40 hM s_277) (pS_ne s_309) ?_
  refine PW.iload_n (pc := 12) dX8_adds_12 rfl ?_
  obtain ⟨v1, h⟩ := h
  refine PW.iald (pc := 13) dX8_adds_13 (ar hM.1 s_309) (vpl n_309 v1) ?_
  refine PW.iadd (pc := 14) dX8_adds_14 ?_
  refine PW.lload_n (pc := 15) dX8_adds_15 rfl ?_
  obtain ⟨v2, h⟩ := h
  refine PW.last (pc := 16) dX8_adds_16 (ar hM.1 s_310) (vpl n_310 v2) ?_
  refine PW.aload_n (pc := 17) dX8_adds_17 rfl ?_
  refine PW.getR (pc := 18) dX8_adds_18 (r := 309) lf_X8_108 (ob hM.1 s_277 (by decide)) fx_8_40 (oR_8_40 (hM.same rfl rfl) s_277) (pS_ne s_309) ?_
  refine PW.iload_n (pc := 21) dX8_adds_21 rfl ?_
  refine PW.dup2IR (pc := 22) dX8_adds_22 ?_
  obtain ⟨v3, h⟩ := h
  refine PW.iald (pc := 23) dX8_adds_23 (ar hM.1 s_309) (vpl n_309 v3) ?_
  refine PW.iconst (pc := 24) dX8_adds_24 (v := 1) (by decide) ?_
  refine PW.iadd (pc := 25) dX8_adds_25 ?_
  obtain ⟨v4, h⟩ := h
  refine PW.iast (pc := 26) dX8_adds_26 (ar hM.1 s_309) (vpl n_309 v4) ?_
  refine PW.aload_n (pc := 27) dX8_adds_27 rfl ?_
  refine PW.getR (pc := 28) dX8_adds_28 (r := 309) lf_X8_108 (ob hM.1 s_277 (by decide)) fx_8_40 (oR_8_40 (hM.same rfl rfl) s_277) (pS_ne s_309) ?_
  refine PW.iload_n (pc := 31) dX8_adds_31 rfl ?_
  obtain ⟨v5, h⟩ := h
  refine PW.iald (pc := 32) dX8_adds_32 (ar hM.1 s_309) (vpl n_309 v5) ?_
  refine PW.iconst (pc := 33) dX8_adds_33 (v := 1) (by decide) ?_
  refine PW.isub (pc := 34) dX8_adds_34 ?_
  exact PW.retI (pc := 35) dX8_adds_35 hM.1 rfl rfl ⟨(hM.same rfl rfl), _, rfl, h⟩
def w_X8_hourTold  (M : pm) (Q : pm → Prop) : Prop := w_X8_asks 280 M (fun M1 => w_X8_number 1 60 M1 (fun y4 M3 => w_X8_asksSign 59 (sI M3 308 0 y4) (fun M5 => Q M5)))
set_option maxRecDepth 4000 in
theorem c_X8_hourTold  {M : pm} {Q : pm → Prop}  (hM : pG M) (h : w_X8_hourTold  M Q) : PW mX8_hourTold 5 350 0 (pfr mX8_hourTold.2.2.1 [.ref 277]) [] M (qV Q) := by
  unfold w_X8_hourTold at h
  show PW mX8_hourTold 5 350 0 [.ref 277] [] M (qV Q)
  refine PW.aload_n (pc := 0) dX8_hourTold_0 rfl ?_
  refine PW.aload_n (pc := 1) dX8_hourTold_1 rfl ?_
  refine PW.getR (pc := 2) dX8_hourTold_2 (r := 280) lf_X8_20 (ob hM.1 s_277 (by decide)) fx_8_10 (oR_8_10 hM s_277) (pS_ne s_280) ?_
  refine PW.inv (m' := mX8_asks) (pc := 5) dX8_hourTold_5 lm_X8_311 me_X8_asks mi_X8_asks (ob hM.1 s_277 (by decide)) rfl (As := [.ref 280]) (st := []) rfl (Nat.le_of_ble_eq_true rfl) (Nat.le_of_ble_eq_true rfl) (Nat.le_of_eq hM.1) (Nat.le_refl _) (PW.deep (by decide) (c_X8_asks s_280 hM h)) ?_
  rintro _ M1 ⟨hM, rfl, h⟩
  refine PW.aload_n (pc := 8) dX8_hourTold_8 rfl ?_
  refine PW.getR (pc := 9) dX8_hourTold_9 (r := 308) lf_X8_105 (ob hM.1 s_277 (by decide)) fx_8_39 (oR_8_39 hM s_277) (pS_ne s_308) ?_
  refine PW.iconst (pc := 12) dX8_hourTold_12 (v := 0) (by decide) ?_
  refine PW.aload_n (pc := 13) dX8_hourTold_13 rfl ?_
  refine PW.iconst (pc := 14) dX8_hourTold_14 (v := 1) (by decide) ?_
  refine PW.bipush (pc := 15) dX8_hourTold_15 (v := 60) (by decide) ?_
  refine PW.inv (m' := mX8_number) (pc := 17) dX8_hourTold_17 lm_X8_315 me_X8_number mi_X8_number (ob hM.1 s_277 (by decide)) rfl (As := [.int 1, .int 60]) (st := [.int 0, .ref 308]) rfl (Nat.le_of_ble_eq_true rfl) (Nat.le_of_ble_eq_true rfl) (Nat.le_of_eq hM.1) (Nat.le_refl _) (PW.deep (by decide) (c_X8_number  hM h)) ?_
  rintro _ M3 ⟨hM, y4, rfl, h⟩
  refine PW.iast (pc := 20) dX8_hourTold_20 (ar hM.1 s_308) (vpl n_308 (vp_c (i := 0) (n := 6) (by decide))) ?_
  refine PW.aload_n (pc := 21) dX8_hourTold_21 rfl ?_
  refine PW.bipush (pc := 22) dX8_hourTold_22 (v := 59) (by decide) ?_
  refine PW.inv (m' := mX8_asksSign) (pc := 24) dX8_hourTold_24 lm_X8_319 me_X8_asksSign mi_X8_asksSign (ob hM.1 s_277 (by decide)) rfl (As := [.int 59]) (st := []) rfl (Nat.le_of_ble_eq_true rfl) (Nat.le_of_ble_eq_true rfl) (Nat.le_of_eq hM.1) (Nat.le_refl _) (PW.deep (by decide) (c_X8_asksSign  (hM.same rfl rfl) h)) ?_
  rintro _ M5 ⟨hM, rfl, h⟩
  exact PW.ret0 (pc := 27) dX8_hourTold_27 hM.1 rfl ⟨hM, rfl, h⟩
def w_X8_songTold (x1 : Int32) (M : pm) (Q : pm → Prop) : Prop := w_X8_isFull 0 6 x1 M (fun y2 M1 => ((y2 = 0 → (w_X8_newName  M1 (fun y5 M4 => w_X8_asks 282 M4 (fun M6 => w_X8_number 1 60 M6 (fun y9 M8 => w_X8_asks 283 M8 (fun M10 => w_X8_number 0 9 M10 (fun y13 M12 => (((mI M12 277 5) = 0 → (w_X8_adds 0 y5 M12 (fun y15 M14 => vp_in (2 * y15) 24 ∧ (vp_in ((2 * y15) + 1) 24 ∧ (Q (sI (sI M14 311 ((2 * y15).toNatClampNeg) y9) 311 (((2 * y15) + 1).toNatClampNeg) y13)))))) ∧ (¬ (mI M12 277 5) = 0 → (Q M12)))))))))) ∧ (¬ y2 = 0 → (Q M1))))
set_option maxRecDepth 4000 in
theorem c_X8_songTold {x1 : Int32} {M : pm} {Q : pm → Prop}  (hM : pG M) (h : w_X8_songTold x1 M Q) : PW mX8_songTold 6 350 0 (pfr mX8_songTold.2.2.1 [.ref 277, .int x1]) [] M (qV Q) := by
  unfold w_X8_songTold at h
  show PW mX8_songTold 6 350 0 [.ref 277, .int x1, .null, .null, .null, .null, .null] [] M (qV Q)
  refine PW.aload_n (pc := 0) dX8_songTold_0 rfl ?_
  refine PW.iconst (pc := 1) dX8_songTold_1 (v := 0) (by decide) ?_
  refine PW.bipush (pc := 2) dX8_songTold_2 (v := 6) (by decide) ?_
  refine PW.iload_n (pc := 4) dX8_songTold_4 rfl ?_
  refine PW.inv (m' := mX8_isFull) (pc := 5) dX8_songTold_5 lm_X8_323 me_X8_isFull mi_X8_isFull (ob hM.1 s_277 (by decide)) rfl (As := [.int 0, .int 6, .int x1]) (st := []) rfl (Nat.le_of_ble_eq_true rfl) (Nat.le_of_ble_eq_true rfl) (Nat.le_of_eq hM.1) (Nat.le_refl _) (PW.deep (by decide) (c_X8_isFull  hM h)) ?_
  rintro _ M1 ⟨hM, y2, rfl, z3, h⟩
  refine PW.if_eq (pc := 8) dX8_songTold_8 (t := 12) (by decide) (fun hc => ?_) (fun hc => ?_)
  · have h := h.1 hc
    refine PW.aload_n (pc := 12) dX8_songTold_12 rfl ?_
    refine PW.inv (m' := mX8_newName) (pc := 13) dX8_songTold_13 lm_X8_327 me_X8_newName mi_X8_newName (ob hM.1 s_277 (by decide)) rfl (As := []) (st := []) rfl (Nat.le_of_ble_eq_true rfl) (Nat.le_of_ble_eq_true rfl) (Nat.le_of_eq hM.1) (Nat.le_refl _) (PW.deep (by decide) (c_X8_newName  hM h)) ?_
    rintro _ M4 ⟨hM, y5, rfl, h⟩
    refine PW.lstore_n (pc := 16) dX8_songTold_16 (ls' := [.ref 277, .int x1, .long y5, .null, .null, .null, .null]) (by decide) rfl rfl ?_
    refine PW.aload_n (pc := 17) dX8_songTold_17 rfl ?_
    refine PW.aload_n (pc := 18) dX8_songTold_18 rfl ?_
    refine PW.getR (pc := 19) dX8_songTold_19 (r := 282) lf_X8_27 (ob hM.1 s_277 (by decide)) fx_8_12 (oR_8_12 hM s_277) (pS_ne s_282) ?_
    refine PW.inv (m' := mX8_asks) (pc := 22) dX8_songTold_22 lm_X8_311 me_X8_asks mi_X8_asks (ob hM.1 s_277 (by decide)) rfl (As := [.ref 282]) (st := []) rfl (Nat.le_of_ble_eq_true rfl) (Nat.le_of_ble_eq_true rfl) (Nat.le_of_eq hM.1) (Nat.le_refl _) (PW.deep (by decide) (c_X8_asks s_282 hM h)) ?_
    rintro _ M6 ⟨hM, rfl, h⟩
    refine PW.aload_n (pc := 25) dX8_songTold_25 rfl ?_
    refine PW.iconst (pc := 26) dX8_songTold_26 (v := 1) (by decide) ?_
    refine PW.bipush (pc := 27) dX8_songTold_27 (v := 60) (by decide) ?_
    refine PW.inv (m' := mX8_number) (pc := 29) dX8_songTold_29 lm_X8_315 me_X8_number mi_X8_number (ob hM.1 s_277 (by decide)) rfl (As := [.int 1, .int 60]) (st := []) rfl (Nat.le_of_ble_eq_true rfl) (Nat.le_of_ble_eq_true rfl) (Nat.le_of_eq hM.1) (Nat.le_refl _) (PW.deep (by decide) (c_X8_number  hM h)) ?_
    rintro _ M8 ⟨hM, y9, rfl, h⟩
    refine PW.istore (pc := 32) dX8_songTold_32 (ls' := [.ref 277, .int x1, .long y5, .null, .int y9, .null, .null]) (by decide) rfl rfl ?_
    refine PW.aload_n (pc := 34) dX8_songTold_34 rfl ?_
    refine PW.aload_n (pc := 35) dX8_songTold_35 rfl ?_
    refine PW.getR (pc := 36) dX8_songTold_36 (r := 283) lf_X8_30 (ob hM.1 s_277 (by decide)) fx_8_13 (oR_8_13 hM s_277) (pS_ne s_283) ?_
    refine PW.inv (m' := mX8_asks) (pc := 39) dX8_songTold_39 lm_X8_311 me_X8_asks mi_X8_asks (ob hM.1 s_277 (by decide)) rfl (As := [.ref 283]) (st := []) rfl (Nat.le_of_ble_eq_true rfl) (Nat.le_of_ble_eq_true rfl) (Nat.le_of_eq hM.1) (Nat.le_refl _) (PW.deep (by decide) (c_X8_asks s_283 hM h)) ?_
    rintro _ M10 ⟨hM, rfl, h⟩
    refine PW.aload_n (pc := 42) dX8_songTold_42 rfl ?_
    refine PW.iconst (pc := 43) dX8_songTold_43 (v := 0) (by decide) ?_
    refine PW.bipush (pc := 44) dX8_songTold_44 (v := 9) (by decide) ?_
    refine PW.inv (m' := mX8_number) (pc := 46) dX8_songTold_46 lm_X8_315 me_X8_number mi_X8_number (ob hM.1 s_277 (by decide)) rfl (As := [.int 0, .int 9]) (st := []) rfl (Nat.le_of_ble_eq_true rfl) (Nat.le_of_ble_eq_true rfl) (Nat.le_of_eq hM.1) (Nat.le_refl _) (PW.deep (by decide) (c_X8_number  hM h)) ?_
    rintro _ M12 ⟨hM, y13, rfl, h⟩
    refine PW.istore (pc := 49) dX8_songTold_49 (ls' := [.ref 277, .int x1, .long y5, .null, .int y9, .int y13, .null]) (by decide) rfl rfl ?_
    refine PW.aload_n (pc := 51) dX8_songTold_51 rfl ?_
    refine PW.getI (pc := 52) dX8_songTold_52 lf_X8_249 (ob hM.1 s_277 (by decide)) fx_8_5 ?_
    refine PW.if_eq (pc := 55) dX8_songTold_55 (t := 59) (by decide) (fun hc => ?_) (fun hc => ?_)
    · have h := h.1 hc
      refine PW.iconst (pc := 59) dX8_songTold_59 (v := 2) (by decide) ?_
      refine PW.aload_n (pc := 60) dX8_songTold_60 rfl ?_
      refine PW.iconst (pc := 61) dX8_songTold_61 (v := 0) (by decide) ?_
      refine PW.lload_n (pc := 62) dX8_songTold_62 rfl ?_
      refine PW.inv (m' := mX8_adds) (pc := 63) dX8_songTold_63 lm_X8_330 me_X8_adds mi_X8_adds (ob hM.1 s_277 (by decide)) rfl (As := [.int 0, .long y5]) (st := [.int 2]) rfl (Nat.le_of_ble_eq_true rfl) (Nat.le_of_ble_eq_true rfl) (Nat.le_of_eq hM.1) (Nat.le_refl _) (PW.deep (by decide) (c_X8_adds  hM h)) ?_
      rintro _ M14 ⟨hM, y15, rfl, h⟩
      refine PW.imul (pc := 66) dX8_songTold_66 ?_
      refine PW.istore (pc := 67) dX8_songTold_67 (ls' := [.ref 277, .int x1, .long y5, .null, .int y9, .int y13, .int (2 * y15)]) (by decide) rfl rfl ?_
      refine PW.aload_n (pc := 69) dX8_songTold_69 rfl ?_
      refine PW.getR (pc := 70) dX8_songTold_70 (r := 311) lf_X8_115 (ob hM.1 s_277 (by decide)) fx_8_42 (oR_8_42 hM s_277) (pS_ne s_311) ?_
      refine PW.iload (pc := 73) dX8_songTold_73 rfl ?_
      refine PW.iload (pc := 75) dX8_songTold_75 rfl ?_
      obtain ⟨v16, h⟩ := h
      refine PW.iast (pc := 77) dX8_songTold_77 (ar hM.1 s_311) (vpl n_311 v16) ?_
      refine PW.aload_n (pc := 78) dX8_songTold_78 rfl ?_
      refine PW.getR (pc := 79) dX8_songTold_79 (r := 311) lf_X8_115 (ob hM.1 s_277 (by decide)) fx_8_42 (oR_8_42 (hM.same rfl rfl) s_277) (pS_ne s_311) ?_
      refine PW.iload (pc := 82) dX8_songTold_82 rfl ?_
      refine PW.iconst (pc := 84) dX8_songTold_84 (v := 1) (by decide) ?_
      refine PW.iadd (pc := 85) dX8_songTold_85 ?_
      refine PW.iload (pc := 86) dX8_songTold_86 rfl ?_
      obtain ⟨v17, h⟩ := h
      refine PW.iast (pc := 88) dX8_songTold_88 (ar hM.1 s_311) (vpl n_311 v17) ?_
      exact PW.ret0 (pc := 89) dX8_songTold_89 hM.1 rfl ⟨(hM.same rfl rfl), rfl, h⟩
    · have h := h.2 hc
      exact PW.ret0 (pc := 58) dX8_songTold_58 hM.1 rfl ⟨hM, rfl, h⟩
  · have h := h.2 hc
    exact PW.ret0 (pc := 11) dX8_songTold_11 hM.1 rfl ⟨hM, rfl, h⟩
def w_X8_askerTold (x1 : Int32) (M : pm) (Q : pm → Prop) : Prop := w_X8_isFull 1 8 x1 M (fun y2 M1 => ((y2 = 0 → (w_X8_newName  M1 (fun y5 M4 => w_X8_asks 285 M4 (fun M6 => w_X8_songNamed  M6 (fun y9 M8 => w_X8_asks 286 M8 (fun M10 => w_X8_number 0 99 M10 (fun y13 M12 => w_X8_asks 287 M12 (fun M14 => w_X8_number 0 99 M14 (fun y17 M16 => (((mI M16 277 5) = 0 → (w_X8_adds 1 y5 M16 (fun y19 M18 => vp_in (3 * y19) 24 ∧ (vp_in ((3 * y19) + 1) 24 ∧ (vp_in ((3 * y19) + 2) 24 ∧ (Q (sI (sI (sI M18 312 ((3 * y19).toNatClampNeg) y9) 312 (((3 * y19) + 1).toNatClampNeg) y13) 312 (((3 * y19) + 2).toNatClampNeg) y17))))))) ∧ (¬ (mI M16 277 5) = 0 → (Q M16)))))))))))) ∧ (¬ y2 = 0 → (Q M1))))
set_option maxRecDepth 4000 in
theorem c_X8_askerTold {x1 : Int32} {M : pm} {Q : pm → Prop}  (hM : pG M) (h : w_X8_askerTold x1 M Q) : PW mX8_askerTold 6 350 0 (pfr mX8_askerTold.2.2.1 [.ref 277, .int x1]) [] M (qV Q) := by
  unfold w_X8_askerTold at h
  show PW mX8_askerTold 6 350 0 [.ref 277, .int x1, .null, .null, .null, .null, .null, .null] [] M (qV Q)
  refine PW.aload_n (pc := 0) dX8_askerTold_0 rfl ?_
  refine PW.iconst (pc := 1) dX8_askerTold_1 (v := 1) (by decide) ?_
  refine PW.bipush (pc := 2) dX8_askerTold_2 (v := 8) (by decide) ?_
  refine PW.iload_n (pc := 4) dX8_askerTold_4 rfl ?_
  refine PW.inv (m' := mX8_isFull) (pc := 5) dX8_askerTold_5 lm_X8_323 me_X8_isFull mi_X8_isFull (ob hM.1 s_277 (by decide)) rfl (As := [.int 1, .int 8, .int x1]) (st := []) rfl (Nat.le_of_ble_eq_true rfl) (Nat.le_of_ble_eq_true rfl) (Nat.le_of_eq hM.1) (Nat.le_refl _) (PW.deep (by decide) (c_X8_isFull  hM h)) ?_
  rintro _ M1 ⟨hM, y2, rfl, z3, h⟩
  refine PW.if_eq (pc := 8) dX8_askerTold_8 (t := 12) (by decide) (fun hc => ?_) (fun hc => ?_)
  · have h := h.1 hc
    refine PW.aload_n (pc := 12) dX8_askerTold_12 rfl ?_
    refine PW.inv (m' := mX8_newName) (pc := 13) dX8_askerTold_13 lm_X8_327 me_X8_newName mi_X8_newName (ob hM.1 s_277 (by decide)) rfl (As := []) (st := []) rfl (Nat.le_of_ble_eq_true rfl) (Nat.le_of_ble_eq_true rfl) (Nat.le_of_eq hM.1) (Nat.le_refl _) (PW.deep (by decide) (c_X8_newName  hM h)) ?_
    rintro _ M4 ⟨hM, y5, rfl, h⟩
    refine PW.lstore_n (pc := 16) dX8_askerTold_16 (ls' := [.ref 277, .int x1, .long y5, .null, .null, .null, .null, .null]) (by decide) rfl rfl ?_
    refine PW.aload_n (pc := 17) dX8_askerTold_17 rfl ?_
    refine PW.aload_n (pc := 18) dX8_askerTold_18 rfl ?_
    refine PW.getR (pc := 19) dX8_askerTold_19 (r := 285) lf_X8_36 (ob hM.1 s_277 (by decide)) fx_8_15 (oR_8_15 hM s_277) (pS_ne s_285) ?_
    refine PW.inv (m' := mX8_asks) (pc := 22) dX8_askerTold_22 lm_X8_311 me_X8_asks mi_X8_asks (ob hM.1 s_277 (by decide)) rfl (As := [.ref 285]) (st := []) rfl (Nat.le_of_ble_eq_true rfl) (Nat.le_of_ble_eq_true rfl) (Nat.le_of_eq hM.1) (Nat.le_refl _) (PW.deep (by decide) (c_X8_asks s_285 hM h)) ?_
    rintro _ M6 ⟨hM, rfl, h⟩
    refine PW.aload_n (pc := 25) dX8_askerTold_25 rfl ?_
    refine PW.inv (m' := mX8_songNamed) (pc := 26) dX8_askerTold_26 lm_X8_334 me_X8_songNamed mi_X8_songNamed (ob hM.1 s_277 (by decide)) rfl (As := []) (st := []) rfl (Nat.le_of_ble_eq_true rfl) (Nat.le_of_ble_eq_true rfl) (Nat.le_of_eq hM.1) (Nat.le_refl _) (PW.deep (by decide) (c_X8_songNamed  hM h)) ?_
    rintro _ M8 ⟨hM, y9, rfl, h⟩
    refine PW.istore (pc := 29) dX8_askerTold_29 (ls' := [.ref 277, .int x1, .long y5, .null, .int y9, .null, .null, .null]) (by decide) rfl rfl ?_
    refine PW.aload_n (pc := 31) dX8_askerTold_31 rfl ?_
    refine PW.aload_n (pc := 32) dX8_askerTold_32 rfl ?_
    refine PW.getR (pc := 33) dX8_askerTold_33 (r := 286) lf_X8_39 (ob hM.1 s_277 (by decide)) fx_8_16 (oR_8_16 hM s_277) (pS_ne s_286) ?_
    refine PW.inv (m' := mX8_asks) (pc := 36) dX8_askerTold_36 lm_X8_311 me_X8_asks mi_X8_asks (ob hM.1 s_277 (by decide)) rfl (As := [.ref 286]) (st := []) rfl (Nat.le_of_ble_eq_true rfl) (Nat.le_of_ble_eq_true rfl) (Nat.le_of_eq hM.1) (Nat.le_refl _) (PW.deep (by decide) (c_X8_asks s_286 hM h)) ?_
    rintro _ M10 ⟨hM, rfl, h⟩
    refine PW.aload_n (pc := 39) dX8_askerTold_39 rfl ?_
    refine PW.iconst (pc := 40) dX8_askerTold_40 (v := 0) (by decide) ?_
    refine PW.bipush (pc := 41) dX8_askerTold_41 (v := 99) (by decide) ?_
    refine PW.inv (m' := mX8_number) (pc := 43) dX8_askerTold_43 lm_X8_315 me_X8_number mi_X8_number (ob hM.1 s_277 (by decide)) rfl (As := [.int 0, .int 99]) (st := []) rfl (Nat.le_of_ble_eq_true rfl) (Nat.le_of_ble_eq_true rfl) (Nat.le_of_eq hM.1) (Nat.le_refl _) (PW.deep (by decide) (c_X8_number  hM h)) ?_
    rintro _ M12 ⟨hM, y13, rfl, h⟩
    refine PW.istore (pc := 46) dX8_askerTold_46 (ls' := [.ref 277, .int x1, .long y5, .null, .int y9, .int y13, .null, .null]) (by decide) rfl rfl ?_
    refine PW.aload_n (pc := 48) dX8_askerTold_48 rfl ?_
    refine PW.aload_n (pc := 49) dX8_askerTold_49 rfl ?_
    refine PW.getR (pc := 50) dX8_askerTold_50 (r := 287) lf_X8_42 (ob hM.1 s_277 (by decide)) fx_8_17 (oR_8_17 hM s_277) (pS_ne s_287) ?_
    refine PW.inv (m' := mX8_asks) (pc := 53) dX8_askerTold_53 lm_X8_311 me_X8_asks mi_X8_asks (ob hM.1 s_277 (by decide)) rfl (As := [.ref 287]) (st := []) rfl (Nat.le_of_ble_eq_true rfl) (Nat.le_of_ble_eq_true rfl) (Nat.le_of_eq hM.1) (Nat.le_refl _) (PW.deep (by decide) (c_X8_asks s_287 hM h)) ?_
    rintro _ M14 ⟨hM, rfl, h⟩
    refine PW.aload_n (pc := 56) dX8_askerTold_56 rfl ?_
    refine PW.iconst (pc := 57) dX8_askerTold_57 (v := 0) (by decide) ?_
    refine PW.bipush (pc := 58) dX8_askerTold_58 (v := 99) (by decide) ?_
    refine PW.inv (m' := mX8_number) (pc := 60) dX8_askerTold_60 lm_X8_315 me_X8_number mi_X8_number (ob hM.1 s_277 (by decide)) rfl (As := [.int 0, .int 99]) (st := []) rfl (Nat.le_of_ble_eq_true rfl) (Nat.le_of_ble_eq_true rfl) (Nat.le_of_eq hM.1) (Nat.le_refl _) (PW.deep (by decide) (c_X8_number  hM h)) ?_
    rintro _ M16 ⟨hM, y17, rfl, h⟩
    refine PW.istore (pc := 63) dX8_askerTold_63 (ls' := [.ref 277, .int x1, .long y5, .null, .int y9, .int y13, .int y17, .null]) (by decide) rfl rfl ?_
    refine PW.aload_n (pc := 65) dX8_askerTold_65 rfl ?_
    refine PW.getI (pc := 66) dX8_askerTold_66 lf_X8_249 (ob hM.1 s_277 (by decide)) fx_8_5 ?_
    refine PW.if_eq (pc := 69) dX8_askerTold_69 (t := 73) (by decide) (fun hc => ?_) (fun hc => ?_)
    · have h := h.1 hc
      refine PW.iconst (pc := 73) dX8_askerTold_73 (v := 3) (by decide) ?_
      refine PW.aload_n (pc := 74) dX8_askerTold_74 rfl ?_
      refine PW.iconst (pc := 75) dX8_askerTold_75 (v := 1) (by decide) ?_
      refine PW.lload_n (pc := 76) dX8_askerTold_76 rfl ?_
      refine PW.inv (m' := mX8_adds) (pc := 77) dX8_askerTold_77 lm_X8_330 me_X8_adds mi_X8_adds (ob hM.1 s_277 (by decide)) rfl (As := [.int 1, .long y5]) (st := [.int 3]) rfl (Nat.le_of_ble_eq_true rfl) (Nat.le_of_ble_eq_true rfl) (Nat.le_of_eq hM.1) (Nat.le_refl _) (PW.deep (by decide) (c_X8_adds  hM h)) ?_
      rintro _ M18 ⟨hM, y19, rfl, h⟩
      refine PW.imul (pc := 80) dX8_askerTold_80 ?_
      refine PW.istore (pc := 81) dX8_askerTold_81 (ls' := [.ref 277, .int x1, .long y5, .null, .int y9, .int y13, .int y17, .int (3 * y19)]) (by decide) rfl rfl ?_
      refine PW.aload_n (pc := 83) dX8_askerTold_83 rfl ?_
      refine PW.getR (pc := 84) dX8_askerTold_84 (r := 312) lf_X8_118 (ob hM.1 s_277 (by decide)) fx_8_43 (oR_8_43 hM s_277) (pS_ne s_312) ?_
      refine PW.iload (pc := 87) dX8_askerTold_87 rfl ?_
      refine PW.iload (pc := 89) dX8_askerTold_89 rfl ?_
      obtain ⟨v20, h⟩ := h
      refine PW.iast (pc := 91) dX8_askerTold_91 (ar hM.1 s_312) (vpl n_312 v20) ?_
      refine PW.aload_n (pc := 92) dX8_askerTold_92 rfl ?_
      refine PW.getR (pc := 93) dX8_askerTold_93 (r := 312) lf_X8_118 (ob hM.1 s_277 (by decide)) fx_8_43 (oR_8_43 (hM.same rfl rfl) s_277) (pS_ne s_312) ?_
      refine PW.iload (pc := 96) dX8_askerTold_96 rfl ?_
      refine PW.iconst (pc := 98) dX8_askerTold_98 (v := 1) (by decide) ?_
      refine PW.iadd (pc := 99) dX8_askerTold_99 ?_
      refine PW.iload (pc := 100) dX8_askerTold_100 rfl ?_
      obtain ⟨v21, h⟩ := h
      refine PW.iast (pc := 102) dX8_askerTold_102 (ar hM.1 s_312) (vpl n_312 v21) ?_
      refine PW.aload_n (pc := 103) dX8_askerTold_103 rfl ?_
      refine PW.getR (pc := 104) dX8_askerTold_104 (r := 312) lf_X8_118 (ob hM.1 s_277 (by decide)) fx_8_43 (oR_8_43 (hM.same rfl rfl) s_277) (pS_ne s_312) ?_
      refine PW.iload (pc := 107) dX8_askerTold_107 rfl ?_
      refine PW.iconst (pc := 109) dX8_askerTold_109 (v := 2) (by decide) ?_
      refine PW.iadd (pc := 110) dX8_askerTold_110 ?_
      refine PW.iload (pc := 111) dX8_askerTold_111 rfl ?_
      obtain ⟨v22, h⟩ := h
      refine PW.iast (pc := 113) dX8_askerTold_113 (ar hM.1 s_312) (vpl n_312 v22) ?_
      exact PW.ret0 (pc := 114) dX8_askerTold_114 hM.1 rfl ⟨(hM.same rfl rfl), rfl, h⟩
    · have h := h.2 hc
      exact PW.ret0 (pc := 72) dX8_askerTold_72 hM.1 rfl ⟨hM, rfl, h⟩
  · have h := h.2 hc
    exact PW.ret0 (pc := 11) dX8_askerTold_11 hM.1 rfl ⟨hM, rfl, h⟩
def w_X8_earTold (x1 : Int32) (M : pm) (Q : pm → Prop) : Prop := w_X8_isFull 2 5 x1 M (fun y2 M1 => ((y2 = 0 → (w_X8_newName  M1 (fun y5 M4 => w_X8_asks 289 M4 (fun M6 => w_X8_number 0 9 M6 (fun y9 M8 => ((¬ (mI M8 277 5) = 0 → (Q M8)) ∧ ((mI M8 277 5) = 0 → (w_X8_adds 2 y5 M8 (fun y11 M10 => vp_in y11 10 ∧ (Q (sI M10 313 y11.toNatClampNeg y9))))))))))) ∧ (¬ y2 = 0 → (Q M1))))
set_option maxRecDepth 4000 in
theorem c_X8_earTold {x1 : Int32} {M : pm} {Q : pm → Prop}  (hM : pG M) (h : w_X8_earTold x1 M Q) : PW mX8_earTold 6 350 0 (pfr mX8_earTold.2.2.1 [.ref 277, .int x1]) [] M (qV Q) := by
  unfold w_X8_earTold at h
  show PW mX8_earTold 6 350 0 [.ref 277, .int x1, .null, .null, .null] [] M (qV Q)
  refine PW.aload_n (pc := 0) dX8_earTold_0 rfl ?_
  refine PW.iconst (pc := 1) dX8_earTold_1 (v := 2) (by decide) ?_
  refine PW.iconst (pc := 2) dX8_earTold_2 (v := 5) (by decide) ?_
  refine PW.iload_n (pc := 3) dX8_earTold_3 rfl ?_
  refine PW.inv (m' := mX8_isFull) (pc := 4) dX8_earTold_4 lm_X8_323 me_X8_isFull mi_X8_isFull (ob hM.1 s_277 (by decide)) rfl (As := [.int 2, .int 5, .int x1]) (st := []) rfl (Nat.le_of_ble_eq_true rfl) (Nat.le_of_ble_eq_true rfl) (Nat.le_of_eq hM.1) (Nat.le_refl _) (PW.deep (by decide) (c_X8_isFull  hM h)) ?_
  rintro _ M1 ⟨hM, y2, rfl, z3, h⟩
  refine PW.if_eq (pc := 7) dX8_earTold_7 (t := 11) (by decide) (fun hc => ?_) (fun hc => ?_)
  · have h := h.1 hc
    refine PW.aload_n (pc := 11) dX8_earTold_11 rfl ?_
    refine PW.inv (m' := mX8_newName) (pc := 12) dX8_earTold_12 lm_X8_327 me_X8_newName mi_X8_newName (ob hM.1 s_277 (by decide)) rfl (As := []) (st := []) rfl (Nat.le_of_ble_eq_true rfl) (Nat.le_of_ble_eq_true rfl) (Nat.le_of_eq hM.1) (Nat.le_refl _) (PW.deep (by decide) (c_X8_newName  hM h)) ?_
    rintro _ M4 ⟨hM, y5, rfl, h⟩
    refine PW.lstore_n (pc := 15) dX8_earTold_15 (ls' := [.ref 277, .int x1, .long y5, .null, .null]) (by decide) rfl rfl ?_
    refine PW.aload_n (pc := 16) dX8_earTold_16 rfl ?_
    refine PW.aload_n (pc := 17) dX8_earTold_17 rfl ?_
    refine PW.getR (pc := 18) dX8_earTold_18 (r := 289) lf_X8_48 (ob hM.1 s_277 (by decide)) fx_8_19 (oR_8_19 hM s_277) (pS_ne s_289) ?_
    refine PW.inv (m' := mX8_asks) (pc := 21) dX8_earTold_21 lm_X8_311 me_X8_asks mi_X8_asks (ob hM.1 s_277 (by decide)) rfl (As := [.ref 289]) (st := []) rfl (Nat.le_of_ble_eq_true rfl) (Nat.le_of_ble_eq_true rfl) (Nat.le_of_eq hM.1) (Nat.le_refl _) (PW.deep (by decide) (c_X8_asks s_289 hM h)) ?_
    rintro _ M6 ⟨hM, rfl, h⟩
    refine PW.aload_n (pc := 24) dX8_earTold_24 rfl ?_
    refine PW.iconst (pc := 25) dX8_earTold_25 (v := 0) (by decide) ?_
    refine PW.bipush (pc := 26) dX8_earTold_26 (v := 9) (by decide) ?_
    refine PW.inv (m' := mX8_number) (pc := 28) dX8_earTold_28 lm_X8_315 me_X8_number mi_X8_number (ob hM.1 s_277 (by decide)) rfl (As := [.int 0, .int 9]) (st := []) rfl (Nat.le_of_ble_eq_true rfl) (Nat.le_of_ble_eq_true rfl) (Nat.le_of_eq hM.1) (Nat.le_refl _) (PW.deep (by decide) (c_X8_number  hM h)) ?_
    rintro _ M8 ⟨hM, y9, rfl, h⟩
    refine PW.istore (pc := 31) dX8_earTold_31 (ls' := [.ref 277, .int x1, .long y5, .null, .int y9]) (by decide) rfl rfl ?_
    refine PW.aload_n (pc := 33) dX8_earTold_33 rfl ?_
    refine PW.getI (pc := 34) dX8_earTold_34 lf_X8_249 (ob hM.1 s_277 (by decide)) fx_8_5 ?_
    refine PW.if_ne (pc := 37) dX8_earTold_37 (t := 53) (by decide) (fun hc => ?_) (fun hc => ?_)
    · have h := h.1 hc
      exact PW.ret0 (pc := 53) dX8_earTold_53 hM.1 rfl ⟨hM, rfl, h⟩
    · have h := h.2 hc
      refine PW.aload_n (pc := 40) dX8_earTold_40 rfl ?_
      refine PW.getR (pc := 41) dX8_earTold_41 (r := 313) lf_X8_121 (ob hM.1 s_277 (by decide)) fx_8_44 (oR_8_44 hM s_277) (pS_ne s_313) ?_
      refine PW.aload_n (pc := 44) dX8_earTold_44 rfl ?_
      refine PW.iconst (pc := 45) dX8_earTold_45 (v := 2) (by decide) ?_
      refine PW.lload_n (pc := 46) dX8_earTold_46 rfl ?_
      refine PW.inv (m' := mX8_adds) (pc := 47) dX8_earTold_47 lm_X8_330 me_X8_adds mi_X8_adds (ob hM.1 s_277 (by decide)) rfl (As := [.int 2, .long y5]) (st := [.ref 313]) rfl (Nat.le_of_ble_eq_true rfl) (Nat.le_of_ble_eq_true rfl) (Nat.le_of_eq hM.1) (Nat.le_refl _) (PW.deep (by decide) (c_X8_adds  hM h)) ?_
      rintro _ M10 ⟨hM, y11, rfl, h⟩
      refine PW.iload (pc := 50) dX8_earTold_50 rfl ?_
      obtain ⟨v12, h⟩ := h
      refine PW.iast (pc := 52) dX8_earTold_52 (ar hM.1 s_313) (vpl n_313 v12) ?_
      exact PW.ret0 (pc := 53) dX8_earTold_53 hM.1 rfl ⟨(hM.same rfl rfl), rfl, h⟩
  · have h := h.2 hc
    exact PW.ret0 (pc := 10) dX8_earTold_10 hM.1 rfl ⟨hM, rfl, h⟩
def w_X8_qOpens (x1 : Int32) (x2 : Int32) (M : pm) (Q : pm → Prop) : Prop := (((mI M 277 5) = 0 → ((¬ (mI M 277 99) = 6 → (vp_in (mI M 277 98) 1700 ∧ (Q (sI (sI (sI M 277 99 ((mI M 277 99) + 1)) 350 ((mI M 277 98).toNatClampNeg) x1) 277 98 ((mI M 277 98) + 1))))) ∧ ((mI M 277 99) = 6 → (w_X8_fail 4 x2 M (fun M2 => Q M2))))) ∧ (¬ (mI M 277 5) = 0 → (Q M)))
set_option maxRecDepth 4000 in
theorem c_X8_qOpens {x1 : Int32} {x2 : Int32} {M : pm} {Q : pm → Prop}  (hM : pG M) (h : w_X8_qOpens x1 x2 M Q) : PW mX8_qOpens 2 350 0 (pfr mX8_qOpens.2.2.1 [.ref 277, .int x1, .int x2]) [] M (qV Q) := by
  unfold w_X8_qOpens at h
  show PW mX8_qOpens 2 350 0 [.ref 277, .int x1, .int x2] [] M (qV Q)
  refine PW.aload_n (pc := 0) dX8_qOpens_0 rfl ?_
  refine PW.getI (pc := 1) dX8_qOpens_1 lf_X8_249 (ob hM.1 s_277 (by decide)) fx_8_5 ?_
  refine PW.if_eq (pc := 4) dX8_qOpens_4 (t := 8) (by decide) (fun hc => ?_) (fun hc => ?_)
  · have h := h.1 hc
    refine PW.aload_n (pc := 8) dX8_qOpens_8 rfl ?_
    refine PW.getI (pc := 9) dX8_qOpens_9 lf_X8_343 (ob hM.1 s_277 (by decide)) fx_8_99 ?_
    refine PW.bipush (pc := 12) dX8_qOpens_12 (v := 6) (by decide) ?_
    refine PW.icmp_ne (pc := 14) dX8_qOpens_14 (t := 24) (by decide) (fun hc => ?_) (fun hc => ?_)
    · have h := h.1 hc
      refine PW.aload_n (pc := 24) dX8_qOpens_24 rfl ?_
      refine PW.dupR (pc := 25) dX8_qOpens_25 ?_
      refine PW.getI (pc := 26) dX8_qOpens_26 lf_X8_343 (ob hM.1 s_277 (by decide)) fx_8_99 ?_
      refine PW.iconst (pc := 29) dX8_qOpens_29 (v := 1) (by decide) ?_
      refine PW.iadd (pc := 30) dX8_qOpens_30 ?_
      refine PW.putI (pc := 31) dX8_qOpens_31 lf_X8_343 (ob hM.1 s_277 (by decide)) fx_8_99 fw_8_99 rfl rfl ?_
      refine PW.aload_n (pc := 34) dX8_qOpens_34 rfl ?_
      refine PW.getR (pc := 35) dX8_qOpens_35 (r := 350) lf_X8_237 (ob hM.1 s_277 (by decide)) fx_8_97 (oR_8_97 (hM.same rfl rfl) s_277) (pS_ne s_350) ?_
      refine PW.aload_n (pc := 38) dX8_qOpens_38 rfl ?_
      refine PW.getI (pc := 39) dX8_qOpens_39 lf_X8_340 (ob hM.1 s_277 (by decide)) fx_8_98 ?_
      refine PW.iload_n (pc := 42) dX8_qOpens_42 rfl ?_
      obtain ⟨v1, h⟩ := h
      refine PW.iast (pc := 43) dX8_qOpens_43 (ar hM.1 s_350) (vpl n_350 v1) ?_
      refine PW.aload_n (pc := 44) dX8_qOpens_44 rfl ?_
      refine PW.dupR (pc := 45) dX8_qOpens_45 ?_
      refine PW.getI (pc := 46) dX8_qOpens_46 lf_X8_340 (ob hM.1 s_277 (by decide)) fx_8_98 ?_
      refine PW.iconst (pc := 49) dX8_qOpens_49 (v := 1) (by decide) ?_
      refine PW.iadd (pc := 50) dX8_qOpens_50 ?_
      refine PW.putI (pc := 51) dX8_qOpens_51 lf_X8_340 (ob hM.1 s_277 (by decide)) fx_8_98 fw_8_98 rfl rfl ?_
      exact PW.ret0 (pc := 54) dX8_qOpens_54 hM.1 rfl ⟨(hM.same rfl rfl), rfl, h⟩
    · have h := h.2 hc
      refine PW.aload_n (pc := 17) dX8_qOpens_17 rfl ?_
      refine PW.iconst (pc := 18) dX8_qOpens_18 (v := 4) (by decide) ?_
      refine PW.iload_n (pc := 19) dX8_qOpens_19 rfl ?_
      refine PW.inv (m' := mX8_fail) (pc := 20) dX8_qOpens_20 lm_X8_279 me_X8_fail mi_X8_fail (ob hM.1 s_277 (by decide)) rfl (As := [.int 4, .int x2]) (st := []) rfl (Nat.le_of_ble_eq_true rfl) (Nat.le_of_ble_eq_true rfl) (Nat.le_of_eq hM.1) (Nat.le_refl _) (PW.deep (by decide) (c_X8_fail  hM h)) ?_
      rintro _ M2 ⟨hM, rfl, h⟩
      exact PW.ret0 (pc := 23) dX8_qOpens_23 hM.1 rfl ⟨hM, rfl, h⟩
  · have h := h.2 hc
    exact PW.ret0 (pc := 7) dX8_qOpens_7 hM.1 rfl ⟨hM, rfl, h⟩
def w_X8_qCode (x1 : Int32) (M : pm) (Q : pm → Prop) : Prop := vp_in (mI M 277 96) 1700 ∧ (Q (sI (sI M 349 ((mI M 277 96).toNatClampNeg) x1) 277 96 ((mI M 277 96) + 1)))
set_option maxRecDepth 4000 in
theorem c_X8_qCode {x1 : Int32} {M : pm} {Q : pm → Prop}  (hM : pG M) (h : w_X8_qCode x1 M Q) : PW mX8_qCode 1 350 0 (pfr mX8_qCode.2.2.1 [.ref 277, .int x1]) [] M (qV Q) := by
  unfold w_X8_qCode at h
  show PW mX8_qCode 1 350 0 [.ref 277, .int x1] [] M (qV Q)
  refine PW.aload_n (pc := 0) dX8_qCode_0 rfl ?_
  refine PW.getR (pc := 1) dX8_qCode_1 (r := 349) lf_X8_234 (ob hM.1 s_277 (by decide)) fx_8_95 (oR_8_95 hM s_277) (pS_ne s_349) ?_
  refine PW.aload_n (pc := 4) dX8_qCode_4 rfl ?_
  refine PW.getI (pc := 5) dX8_qCode_5 lf_X8_337 (ob hM.1 s_277 (by decide)) fx_8_96 ?_
  refine PW.iload_n (pc := 8) dX8_qCode_8 rfl ?_
  obtain ⟨v1, h⟩ := h
  refine PW.iast (pc := 9) dX8_qCode_9 (ar hM.1 s_349) (vpl n_349 v1) ?_
  refine PW.aload_n (pc := 10) dX8_qCode_10 rfl ?_
  refine PW.dupR (pc := 11) dX8_qCode_11 ?_
  refine PW.getI (pc := 12) dX8_qCode_12 lf_X8_337 (ob hM.1 s_277 (by decide)) fx_8_96 ?_
  refine PW.iconst (pc := 15) dX8_qCode_15 (v := 1) (by decide) ?_
  refine PW.iadd (pc := 16) dX8_qCode_16 ?_
  refine PW.putI (pc := 17) dX8_qCode_17 lf_X8_337 (ob hM.1 s_277 (by decide)) fx_8_96 fw_8_96 rfl rfl ?_
  exact PW.ret0 (pc := 20) dX8_qCode_20 hM.1 rfl ⟨(hM.same rfl rfl), rfl, h⟩
def w_X8_qWordHere  (M : pm) (Q : Int32 → pm → Prop) : Prop := w_X8_isHere 338 M (fun y2 M1 => ((y2 = 0 → (w_X8_isHere 339 M1 (fun y5 M4 => ((y5 = 0 → (w_X8_isHere 340 M4 (fun y8 M7 => ((y8 = 0 → (w_X8_isHere 341 M7 (fun y11 M10 => ((y11 = 0 → (w_X8_isHere 342 M10 (fun y14 M13 => ((y14 = 0 → (w_X8_isHere 343 M13 (fun y17 M16 => ((y17 = 0 → (w_X8_isHere 344 M16 (fun y20 M19 => ((y20 = 0 → (w_X8_isHere 345 M19 (fun y23 M22 => ((y23 = 0 → (w_X8_isHere 346 M22 (fun y26 M25 => ((y26 = 0 → (w_X8_isHere 347 M25 (fun y29 M28 => ((y29 = 0 → (w_X8_isHere 348 M28 (fun y32 M31 => ((y32 = 0 → (Q (-1) M31)) ∧ (¬ y32 = 0 → (Q 10 M31)))))) ∧ (¬ y29 = 0 → (Q 9 M28)))))) ∧ (¬ y26 = 0 → (Q 8 M25)))))) ∧ (¬ y23 = 0 → (Q 7 M22)))))) ∧ (¬ y20 = 0 → (Q 6 M19)))))) ∧ (¬ y17 = 0 → (Q 5 M16)))))) ∧ (¬ y14 = 0 → (Q 4 M13)))))) ∧ (¬ y11 = 0 → (Q 3 M10)))))) ∧ (¬ y8 = 0 → (Q 2 M7)))))) ∧ (¬ y5 = 0 → (Q 1 M4)))))) ∧ (¬ y2 = 0 → (Q 0 M1))))
set_option maxRecDepth 4000 in
theorem c_X8_qWordHere  {M : pm} {Q : Int32 → pm → Prop}  (hM : pG M) (h : w_X8_qWordHere  M Q) : PW mX8_qWordHere 3 350 0 (pfr mX8_qWordHere.2.2.1 [.ref 277]) [] M (qI Q) := by
  unfold w_X8_qWordHere at h
  show PW mX8_qWordHere 3 350 0 [.ref 277] [] M (qI Q)
  refine PW.aload_n (pc := 0) dX8_qWordHere_0 rfl ?_
  refine PW.aload_n (pc := 1) dX8_qWordHere_1 rfl ?_
  refine PW.getR (pc := 2) dX8_qWordHere_2 (r := 338) lf_X8_201 (ob hM.1 s_277 (by decide)) fx_8_84 (oR_8_84 hM s_277) (pS_ne s_338) ?_
  refine PW.inv (m' := mX8_isHere) (pc := 5) dX8_qWordHere_5 lm_X8_272 me_X8_isHere mi_X8_isHere (ob hM.1 s_277 (by decide)) rfl (As := [.ref 338]) (st := []) rfl (Nat.le_of_ble_eq_true rfl) (Nat.le_of_ble_eq_true rfl) (Nat.le_of_eq hM.1) (Nat.le_refl _) (PW.deep (by decide) (c_X8_isHere s_338 hM h)) ?_
  rintro _ M1 ⟨hM, y2, rfl, z3, h⟩
  refine PW.if_eq (pc := 8) dX8_qWordHere_8 (t := 13) (by decide) (fun hc => ?_) (fun hc => ?_)
  · have h := h.1 hc
    refine PW.aload_n (pc := 13) dX8_qWordHere_13 rfl ?_
    refine PW.aload_n (pc := 14) dX8_qWordHere_14 rfl ?_
    refine PW.getR (pc := 15) dX8_qWordHere_15 (r := 339) lf_X8_204 (ob hM.1 s_277 (by decide)) fx_8_85 (oR_8_85 hM s_277) (pS_ne s_339) ?_
    refine PW.inv (m' := mX8_isHere) (pc := 18) dX8_qWordHere_18 lm_X8_272 me_X8_isHere mi_X8_isHere (ob hM.1 s_277 (by decide)) rfl (As := [.ref 339]) (st := []) rfl (Nat.le_of_ble_eq_true rfl) (Nat.le_of_ble_eq_true rfl) (Nat.le_of_eq hM.1) (Nat.le_refl _) (PW.deep (by decide) (c_X8_isHere s_339 hM h)) ?_
    rintro _ M4 ⟨hM, y5, rfl, z6, h⟩
    refine PW.if_eq (pc := 21) dX8_qWordHere_21 (t := 26) (by decide) (fun hc => ?_) (fun hc => ?_)
    · have h := h.1 hc
      refine PW.aload_n (pc := 26) dX8_qWordHere_26 rfl ?_
      refine PW.aload_n (pc := 27) dX8_qWordHere_27 rfl ?_
      refine PW.getR (pc := 28) dX8_qWordHere_28 (r := 340) lf_X8_207 (ob hM.1 s_277 (by decide)) fx_8_86 (oR_8_86 hM s_277) (pS_ne s_340) ?_
      refine PW.inv (m' := mX8_isHere) (pc := 31) dX8_qWordHere_31 lm_X8_272 me_X8_isHere mi_X8_isHere (ob hM.1 s_277 (by decide)) rfl (As := [.ref 340]) (st := []) rfl (Nat.le_of_ble_eq_true rfl) (Nat.le_of_ble_eq_true rfl) (Nat.le_of_eq hM.1) (Nat.le_refl _) (PW.deep (by decide) (c_X8_isHere s_340 hM h)) ?_
      rintro _ M7 ⟨hM, y8, rfl, z9, h⟩
      refine PW.if_eq (pc := 34) dX8_qWordHere_34 (t := 39) (by decide) (fun hc => ?_) (fun hc => ?_)
      · have h := h.1 hc
        refine PW.aload_n (pc := 39) dX8_qWordHere_39 rfl ?_
        refine PW.aload_n (pc := 40) dX8_qWordHere_40 rfl ?_
        refine PW.getR (pc := 41) dX8_qWordHere_41 (r := 341) lf_X8_210 (ob hM.1 s_277 (by decide)) fx_8_87 (oR_8_87 hM s_277) (pS_ne s_341) ?_
        refine PW.inv (m' := mX8_isHere) (pc := 44) dX8_qWordHere_44 lm_X8_272 me_X8_isHere mi_X8_isHere (ob hM.1 s_277 (by decide)) rfl (As := [.ref 341]) (st := []) rfl (Nat.le_of_ble_eq_true rfl) (Nat.le_of_ble_eq_true rfl) (Nat.le_of_eq hM.1) (Nat.le_refl _) (PW.deep (by decide) (c_X8_isHere s_341 hM h)) ?_
        rintro _ M10 ⟨hM, y11, rfl, z12, h⟩
        refine PW.if_eq (pc := 47) dX8_qWordHere_47 (t := 52) (by decide) (fun hc => ?_) (fun hc => ?_)
        · have h := h.1 hc
          refine PW.aload_n (pc := 52) dX8_qWordHere_52 rfl ?_
          refine PW.aload_n (pc := 53) dX8_qWordHere_53 rfl ?_
          refine PW.getR (pc := 54) dX8_qWordHere_54 (r := 342) lf_X8_213 (ob hM.1 s_277 (by decide)) fx_8_88 (oR_8_88 hM s_277) (pS_ne s_342) ?_
          refine PW.inv (m' := mX8_isHere) (pc := 57) dX8_qWordHere_57 lm_X8_272 me_X8_isHere mi_X8_isHere (ob hM.1 s_277 (by decide)) rfl (As := [.ref 342]) (st := []) rfl (Nat.le_of_ble_eq_true rfl) (Nat.le_of_ble_eq_true rfl) (Nat.le_of_eq hM.1) (Nat.le_refl _) (PW.deep (by decide) (c_X8_isHere s_342 hM h)) ?_
          rintro _ M13 ⟨hM, y14, rfl, z15, h⟩
          refine PW.if_eq (pc := 60) dX8_qWordHere_60 (t := 65) (by decide) (fun hc => ?_) (fun hc => ?_)
          · have h := h.1 hc
            refine PW.aload_n (pc := 65) dX8_qWordHere_65 rfl ?_
            refine PW.aload_n (pc := 66) dX8_qWordHere_66 rfl ?_
            refine PW.getR (pc := 67) dX8_qWordHere_67 (r := 343) lf_X8_216 (ob hM.1 s_277 (by decide)) fx_8_89 (oR_8_89 hM s_277) (pS_ne s_343) ?_
            refine PW.inv (m' := mX8_isHere) (pc := 70) dX8_qWordHere_70 lm_X8_272 me_X8_isHere mi_X8_isHere (ob hM.1 s_277 (by decide)) rfl (As := [.ref 343]) (st := []) rfl (Nat.le_of_ble_eq_true rfl) (Nat.le_of_ble_eq_true rfl) (Nat.le_of_eq hM.1) (Nat.le_refl _) (PW.deep (by decide) (c_X8_isHere s_343 hM h)) ?_
            rintro _ M16 ⟨hM, y17, rfl, z18, h⟩
            refine PW.if_eq (pc := 73) dX8_qWordHere_73 (t := 78) (by decide) (fun hc => ?_) (fun hc => ?_)
            · have h := h.1 hc
              refine PW.aload_n (pc := 78) dX8_qWordHere_78 rfl ?_
              refine PW.aload_n (pc := 79) dX8_qWordHere_79 rfl ?_
              refine PW.getR (pc := 80) dX8_qWordHere_80 (r := 344) lf_X8_219 (ob hM.1 s_277 (by decide)) fx_8_90 (oR_8_90 hM s_277) (pS_ne s_344) ?_
              refine PW.inv (m' := mX8_isHere) (pc := 83) dX8_qWordHere_83 lm_X8_272 me_X8_isHere mi_X8_isHere (ob hM.1 s_277 (by decide)) rfl (As := [.ref 344]) (st := []) rfl (Nat.le_of_ble_eq_true rfl) (Nat.le_of_ble_eq_true rfl) (Nat.le_of_eq hM.1) (Nat.le_refl _) (PW.deep (by decide) (c_X8_isHere s_344 hM h)) ?_
              rintro _ M19 ⟨hM, y20, rfl, z21, h⟩
              refine PW.if_eq (pc := 86) dX8_qWordHere_86 (t := 92) (by decide) (fun hc => ?_) (fun hc => ?_)
              · have h := h.1 hc
                refine PW.aload_n (pc := 92) dX8_qWordHere_92 rfl ?_
                refine PW.aload_n (pc := 93) dX8_qWordHere_93 rfl ?_
                refine PW.getR (pc := 94) dX8_qWordHere_94 (r := 345) lf_X8_222 (ob hM.1 s_277 (by decide)) fx_8_91 (oR_8_91 hM s_277) (pS_ne s_345) ?_
                refine PW.inv (m' := mX8_isHere) (pc := 97) dX8_qWordHere_97 lm_X8_272 me_X8_isHere mi_X8_isHere (ob hM.1 s_277 (by decide)) rfl (As := [.ref 345]) (st := []) rfl (Nat.le_of_ble_eq_true rfl) (Nat.le_of_ble_eq_true rfl) (Nat.le_of_eq hM.1) (Nat.le_refl _) (PW.deep (by decide) (c_X8_isHere s_345 hM h)) ?_
                rintro _ M22 ⟨hM, y23, rfl, z24, h⟩
                refine PW.if_eq (pc := 100) dX8_qWordHere_100 (t := 106) (by decide) (fun hc => ?_) (fun hc => ?_)
                · have h := h.1 hc
                  refine PW.aload_n (pc := 106) dX8_qWordHere_106 rfl ?_
                  refine PW.aload_n (pc := 107) dX8_qWordHere_107 rfl ?_
                  refine PW.getR (pc := 108) dX8_qWordHere_108 (r := 346) lf_X8_225 (ob hM.1 s_277 (by decide)) fx_8_92 (oR_8_92 hM s_277) (pS_ne s_346) ?_
                  refine PW.inv (m' := mX8_isHere) (pc := 111) dX8_qWordHere_111 lm_X8_272 me_X8_isHere mi_X8_isHere (ob hM.1 s_277 (by decide)) rfl (As := [.ref 346]) (st := []) rfl (Nat.le_of_ble_eq_true rfl) (Nat.le_of_ble_eq_true rfl) (Nat.le_of_eq hM.1) (Nat.le_refl _) (PW.deep (by decide) (c_X8_isHere s_346 hM h)) ?_
                  rintro _ M25 ⟨hM, y26, rfl, z27, h⟩
                  refine PW.if_eq (pc := 114) dX8_qWordHere_114 (t := 120) (by decide) (fun hc => ?_) (fun hc => ?_)
                  · have h := h.1 hc
                    refine PW.aload_n (pc := 120) dX8_qWordHere_120 rfl ?_
                    refine PW.aload_n (pc := 121) dX8_qWordHere_121 rfl ?_
                    refine PW.getR (pc := 122) dX8_qWordHere_122 (r := 347) lf_X8_228 (ob hM.1 s_277 (by decide)) fx_8_93 (oR_8_93 hM s_277) (pS_ne s_347) ?_
                    refine PW.inv (m' := mX8_isHere) (pc := 125) dX8_qWordHere_125 lm_X8_272 me_X8_isHere mi_X8_isHere (ob hM.1 s_277 (by decide)) rfl (As := [.ref 347]) (st := []) rfl (Nat.le_of_ble_eq_true rfl) (Nat.le_of_ble_eq_true rfl) (Nat.le_of_eq hM.1) (Nat.le_refl _) (PW.deep (by decide) (c_X8_isHere s_347 hM h)) ?_
                    rintro _ M28 ⟨hM, y29, rfl, z30, h⟩
                    refine PW.if_eq (pc := 128) dX8_qWordHere_128 (t := 134) (by decide) (fun hc => ?_) (fun hc => ?_)
                    · have h := h.1 hc
                      refine PW.aload_n (pc := 134) dX8_qWordHere_134 rfl ?_
                      refine PW.aload_n (pc := 135) dX8_qWordHere_135 rfl ?_
                      refine PW.getR (pc := 136) dX8_qWordHere_136 (r := 348) lf_X8_231 (ob hM.1 s_277 (by decide)) fx_8_94 (oR_8_94 hM s_277) (pS_ne s_348) ?_
                      refine PW.inv (m' := mX8_isHere) (pc := 139) dX8_qWordHere_139 lm_X8_272 me_X8_isHere mi_X8_isHere (ob hM.1 s_277 (by decide)) rfl (As := [.ref 348]) (st := []) rfl (Nat.le_of_ble_eq_true rfl) (Nat.le_of_ble_eq_true rfl) (Nat.le_of_eq hM.1) (Nat.le_refl _) (PW.deep (by decide) (c_X8_isHere s_348 hM h)) ?_
                      rintro _ M31 ⟨hM, y32, rfl, z33, h⟩
                      refine PW.if_eq (pc := 142) dX8_qWordHere_142 (t := 148) (by decide) (fun hc => ?_) (fun hc => ?_)
                      · have h := h.1 hc
                        refine PW.iconst (pc := 148) dX8_qWordHere_148 (v := (-1)) (by decide) ?_
                        exact PW.retI (pc := 149) dX8_qWordHere_149 hM.1 rfl rfl ⟨hM, _, rfl, h⟩
                      · have h := h.2 hc
                        refine PW.bipush (pc := 145) dX8_qWordHere_145 (v := 10) (by decide) ?_
                        exact PW.retI (pc := 147) dX8_qWordHere_147 hM.1 rfl rfl ⟨hM, _, rfl, h⟩
                    · have h := h.2 hc
                      refine PW.bipush (pc := 131) dX8_qWordHere_131 (v := 9) (by decide) ?_
                      exact PW.retI (pc := 133) dX8_qWordHere_133 hM.1 rfl rfl ⟨hM, _, rfl, h⟩
                  · have h := h.2 hc
                    refine PW.bipush (pc := 117) dX8_qWordHere_117 (v := 8) (by decide) ?_
                    exact PW.retI (pc := 119) dX8_qWordHere_119 hM.1 rfl rfl ⟨hM, _, rfl, h⟩
                · have h := h.2 hc
                  refine PW.bipush (pc := 103) dX8_qWordHere_103 (v := 7) (by decide) ?_
                  exact PW.retI (pc := 105) dX8_qWordHere_105 hM.1 rfl rfl ⟨hM, _, rfl, h⟩
              · have h := h.2 hc
                refine PW.bipush (pc := 89) dX8_qWordHere_89 (v := 6) (by decide) ?_
                exact PW.retI (pc := 91) dX8_qWordHere_91 hM.1 rfl rfl ⟨hM, _, rfl, h⟩
            · have h := h.2 hc
              refine PW.iconst (pc := 76) dX8_qWordHere_76 (v := 5) (by decide) ?_
              exact PW.retI (pc := 77) dX8_qWordHere_77 hM.1 rfl rfl ⟨hM, _, rfl, h⟩
          · have h := h.2 hc
            refine PW.iconst (pc := 63) dX8_qWordHere_63 (v := 4) (by decide) ?_
            exact PW.retI (pc := 64) dX8_qWordHere_64 hM.1 rfl rfl ⟨hM, _, rfl, h⟩
        · have h := h.2 hc
          refine PW.iconst (pc := 50) dX8_qWordHere_50 (v := 3) (by decide) ?_
          exact PW.retI (pc := 51) dX8_qWordHere_51 hM.1 rfl rfl ⟨hM, _, rfl, h⟩
      · have h := h.2 hc
        refine PW.iconst (pc := 37) dX8_qWordHere_37 (v := 2) (by decide) ?_
        exact PW.retI (pc := 38) dX8_qWordHere_38 hM.1 rfl rfl ⟨hM, _, rfl, h⟩
    · have h := h.2 hc
      refine PW.iconst (pc := 24) dX8_qWordHere_24 (v := 1) (by decide) ?_
      exact PW.retI (pc := 25) dX8_qWordHere_25 hM.1 rfl rfl ⟨hM, _, rfl, h⟩
  · have h := h.2 hc
    refine PW.iconst (pc := 11) dX8_qWordHere_11 (v := 0) (by decide) ?_
    exact PW.retI (pc := 12) dX8_qWordHere_12 hM.1 rfl rfl ⟨hM, _, rfl, h⟩
def w_X8_qWordOf (x1 : Int32) (x2 : Int32) (M : pm) (Q : Int32 → pm → Prop) : Prop := w_X8_qWordHere  M (fun y2 M1 => ((y2 < x1 → (Q (-1) M1)) ∧ (¬ y2 < x1 → ((x2 ≤ y2 → (Q (-1) M1)) ∧ (¬ x2 ≤ y2 → (w_X8_isAllowed y2 M1 (fun y4 M3 => ((y4 = 0 → (Q (-1) M3)) ∧ (¬ y4 = 0 → (Q y2 M3))))))))))
set_option maxRecDepth 4000 in
theorem c_X8_qWordOf {x1 : Int32} {x2 : Int32} {M : pm} {Q : Int32 → pm → Prop}  (hM : pG M) (h : w_X8_qWordOf x1 x2 M Q) : PW mX8_qWordOf 4 350 0 (pfr mX8_qWordOf.2.2.1 [.ref 277, .int x1, .int x2]) [] M (qI Q) := by
  unfold w_X8_qWordOf at h
  show PW mX8_qWordOf 4 350 0 [.ref 277, .int x1, .int x2, .null] [] M (qI Q)
  refine PW.aload_n (pc := 0) dX8_qWordOf_0 rfl ?_
  refine PW.inv (m' := mX8_qWordHere) (pc := 1) dX8_qWordOf_1 lm_X8_592 me_X8_qWordHere mi_X8_qWordHere (ob hM.1 s_277 (by decide)) rfl (As := []) (st := []) rfl (Nat.le_of_ble_eq_true rfl) (Nat.le_of_ble_eq_true rfl) (Nat.le_of_eq hM.1) (Nat.le_refl _) (PW.deep (by decide) (c_X8_qWordHere  hM h)) ?_
  rintro _ M1 ⟨hM, y2, rfl, h⟩
  refine PW.istore_n (pc := 4) dX8_qWordOf_4 (ls' := [.ref 277, .int x1, .int x2, .int y2]) (by decide) rfl rfl ?_
  refine PW.iload_n (pc := 5) dX8_qWordOf_5 rfl ?_
  refine PW.iload_n (pc := 6) dX8_qWordOf_6 rfl ?_
  refine PW.icmp_lt (pc := 7) dX8_qWordOf_7 (t := 27) (by decide) (fun hc => ?_) (fun hc => ?_)
  · have h := h.1 hc
    refine PW.iconst (pc := 27) dX8_qWordOf_27 (v := (-1)) (by decide) ?_
    exact PW.retI (pc := 28) dX8_qWordOf_28 hM.1 rfl rfl ⟨hM, _, rfl, h⟩
  · have h := h.2 hc
    refine PW.iload_n (pc := 10) dX8_qWordOf_10 rfl ?_
    refine PW.iload_n (pc := 11) dX8_qWordOf_11 rfl ?_
    refine PW.icmp_ge (pc := 12) dX8_qWordOf_12 (t := 27) (by decide) (fun hc => ?_) (fun hc => ?_)
    · have h := h.1 hc
      refine PW.iconst (pc := 27) dX8_qWordOf_27 (v := (-1)) (by decide) ?_
      exact PW.retI (pc := 28) dX8_qWordOf_28 hM.1 rfl rfl ⟨hM, _, rfl, h⟩
    · have h := h.2 hc
      refine PW.aload_n (pc := 15) dX8_qWordOf_15 rfl ?_
      refine PW.iload_n (pc := 16) dX8_qWordOf_16 rfl ?_
      refine PW.inv (m' := mX8_isAllowed) (pc := 17) dX8_qWordOf_17 lm_X8_595 me_X8_isAllowed mi_X8_isAllowed (ob hM.1 s_277 (by decide)) rfl (As := [.int y2]) (st := []) rfl (Nat.le_of_ble_eq_true rfl) (Nat.le_of_ble_eq_true rfl) (Nat.le_of_eq hM.1) (Nat.le_refl _) (PW.deep (by decide) (c_X8_isAllowed  hM h)) ?_
      rintro _ M3 ⟨hM, y4, rfl, z5, h⟩
      refine PW.if_eq (pc := 20) dX8_qWordOf_20 (t := 27) (by decide) (fun hc => ?_) (fun hc => ?_)
      · have h := h.1 hc
        refine PW.iconst (pc := 27) dX8_qWordOf_27 (v := (-1)) (by decide) ?_
        exact PW.retI (pc := 28) dX8_qWordOf_28 hM.1 rfl rfl ⟨hM, _, rfl, h⟩
      · have h := h.2 hc
        refine PW.iload_n (pc := 23) dX8_qWordOf_23 rfl ?_
        refine PW.goto (pc := 24) dX8_qWordOf_24 (t := 28) (by decide) ?_
        exact PW.retI (pc := 28) dX8_qWordOf_28 hM.1 rfl rfl ⟨hM, _, rfl, h⟩
def w_X8_qAsksWord (x1 : Int32) (M : pm) (Q : pm → Prop) : Prop := ((x1 = 0 → (w_X8_asks 338 M (fun M1 => Q M1))) ∧ (x1 = 1 → (w_X8_asks 339 M (fun M3 => Q M3))) ∧ (x1 = 2 → (w_X8_asks 340 M (fun M5 => Q M5))) ∧ (x1 = 3 → (w_X8_asks 341 M (fun M7 => Q M7))) ∧ (x1 = 4 → (w_X8_asks 342 M (fun M9 => Q M9))) ∧ (x1 = 5 → (w_X8_asks 343 M (fun M11 => Q M11))) ∧ (x1 = 6 → (w_X8_asks 344 M (fun M13 => Q M13))) ∧ (x1 = 7 → (w_X8_asks 345 M (fun M15 => Q M15))) ∧ (x1 = 8 → (w_X8_asks 346 M (fun M17 => Q M17))) ∧ (x1 = 9 → (w_X8_asks 347 M (fun M19 => Q M19))) ∧ (¬ x1 = 0 → ¬ x1 = 1 → ¬ x1 = 2 → ¬ x1 = 3 → ¬ x1 = 4 → ¬ x1 = 5 → ¬ x1 = 6 → ¬ x1 = 7 → ¬ x1 = 8 → ¬ x1 = 9 → (w_X8_asks 348 M (fun M21 => Q M21))))
set_option maxRecDepth 4000 in
theorem c_X8_qAsksWord {x1 : Int32} {M : pm} {Q : pm → Prop}  (hM : pG M) (h : w_X8_qAsksWord x1 M Q) : PW mX8_qAsksWord 5 350 0 (pfr mX8_qAsksWord.2.2.1 [.ref 277, .int x1]) [] M (qV Q) := by
  unfold w_X8_qAsksWord at h
  show PW mX8_qAsksWord 5 350 0 [.ref 277, .int x1] [] M (qV Q)
  refine PW.iload_n (pc := 0) dX8_qAsksWord_0 rfl ?_
  by_cases q0 : x1 = 0
  · have h := h.1 q0
    refine PW.tabIn (pc := 1) dX8_qAsksWord_1 (by rw [q0]; decide) (by rw [q0]; decide) (off := 55) (by rw [q0]; decide) (t := 56) (by decide) ?_
    refine PW.aload_n (pc := 56) dX8_qAsksWord_56 rfl ?_
    refine PW.aload_n (pc := 57) dX8_qAsksWord_57 rfl ?_
    refine PW.getR (pc := 58) dX8_qAsksWord_58 (r := 338) lf_X8_201 (ob hM.1 s_277 (by decide)) fx_8_84 (oR_8_84 hM s_277) (pS_ne s_338) ?_
    refine PW.inv (m' := mX8_asks) (pc := 61) dX8_qAsksWord_61 lm_X8_311 me_X8_asks mi_X8_asks (ob hM.1 s_277 (by decide)) rfl (As := [.ref 338]) (st := []) rfl (Nat.le_of_ble_eq_true rfl) (Nat.le_of_ble_eq_true rfl) (Nat.le_of_eq hM.1) (Nat.le_refl _) (PW.deep (by decide) (c_X8_asks s_338 hM h)) ?_
    rintro _ M1 ⟨hM, rfl, h⟩
    refine PW.goto (pc := 64) dX8_qAsksWord_64 (t := 174) (by decide) ?_
    exact PW.ret0 (pc := 174) dX8_qAsksWord_174 hM.1 rfl ⟨hM, rfl, h⟩
  by_cases q1 : x1 = 1
  · have h := h.2.1 q1
    refine PW.tabIn (pc := 1) dX8_qAsksWord_1 (by rw [q1]; decide) (by rw [q1]; decide) (off := 66) (by rw [q1]; decide) (t := 67) (by decide) ?_
    refine PW.aload_n (pc := 67) dX8_qAsksWord_67 rfl ?_
    refine PW.aload_n (pc := 68) dX8_qAsksWord_68 rfl ?_
    refine PW.getR (pc := 69) dX8_qAsksWord_69 (r := 339) lf_X8_204 (ob hM.1 s_277 (by decide)) fx_8_85 (oR_8_85 hM s_277) (pS_ne s_339) ?_
    refine PW.inv (m' := mX8_asks) (pc := 72) dX8_qAsksWord_72 lm_X8_311 me_X8_asks mi_X8_asks (ob hM.1 s_277 (by decide)) rfl (As := [.ref 339]) (st := []) rfl (Nat.le_of_ble_eq_true rfl) (Nat.le_of_ble_eq_true rfl) (Nat.le_of_eq hM.1) (Nat.le_refl _) (PW.deep (by decide) (c_X8_asks s_339 hM h)) ?_
    rintro _ M3 ⟨hM, rfl, h⟩
    refine PW.goto (pc := 75) dX8_qAsksWord_75 (t := 174) (by decide) ?_
    exact PW.ret0 (pc := 174) dX8_qAsksWord_174 hM.1 rfl ⟨hM, rfl, h⟩
  by_cases q2 : x1 = 2
  · have h := h.2.2.1 q2
    refine PW.tabIn (pc := 1) dX8_qAsksWord_1 (by rw [q2]; decide) (by rw [q2]; decide) (off := 77) (by rw [q2]; decide) (t := 78) (by decide) ?_
    refine PW.aload_n (pc := 78) dX8_qAsksWord_78 rfl ?_
    refine PW.aload_n (pc := 79) dX8_qAsksWord_79 rfl ?_
    refine PW.getR (pc := 80) dX8_qAsksWord_80 (r := 340) lf_X8_207 (ob hM.1 s_277 (by decide)) fx_8_86 (oR_8_86 hM s_277) (pS_ne s_340) ?_
    refine PW.inv (m' := mX8_asks) (pc := 83) dX8_qAsksWord_83 lm_X8_311 me_X8_asks mi_X8_asks (ob hM.1 s_277 (by decide)) rfl (As := [.ref 340]) (st := []) rfl (Nat.le_of_ble_eq_true rfl) (Nat.le_of_ble_eq_true rfl) (Nat.le_of_eq hM.1) (Nat.le_refl _) (PW.deep (by decide) (c_X8_asks s_340 hM h)) ?_
    rintro _ M5 ⟨hM, rfl, h⟩
    refine PW.goto (pc := 86) dX8_qAsksWord_86 (t := 174) (by decide) ?_
    exact PW.ret0 (pc := 174) dX8_qAsksWord_174 hM.1 rfl ⟨hM, rfl, h⟩
  by_cases q3 : x1 = 3
  · have h := h.2.2.2.1 q3
    refine PW.tabIn (pc := 1) dX8_qAsksWord_1 (by rw [q3]; decide) (by rw [q3]; decide) (off := 88) (by rw [q3]; decide) (t := 89) (by decide) ?_
    refine PW.aload_n (pc := 89) dX8_qAsksWord_89 rfl ?_
    refine PW.aload_n (pc := 90) dX8_qAsksWord_90 rfl ?_
    refine PW.getR (pc := 91) dX8_qAsksWord_91 (r := 341) lf_X8_210 (ob hM.1 s_277 (by decide)) fx_8_87 (oR_8_87 hM s_277) (pS_ne s_341) ?_
    refine PW.inv (m' := mX8_asks) (pc := 94) dX8_qAsksWord_94 lm_X8_311 me_X8_asks mi_X8_asks (ob hM.1 s_277 (by decide)) rfl (As := [.ref 341]) (st := []) rfl (Nat.le_of_ble_eq_true rfl) (Nat.le_of_ble_eq_true rfl) (Nat.le_of_eq hM.1) (Nat.le_refl _) (PW.deep (by decide) (c_X8_asks s_341 hM h)) ?_
    rintro _ M7 ⟨hM, rfl, h⟩
    refine PW.goto (pc := 97) dX8_qAsksWord_97 (t := 174) (by decide) ?_
    exact PW.ret0 (pc := 174) dX8_qAsksWord_174 hM.1 rfl ⟨hM, rfl, h⟩
  by_cases q4 : x1 = 4
  · have h := h.2.2.2.2.1 q4
    refine PW.tabIn (pc := 1) dX8_qAsksWord_1 (by rw [q4]; decide) (by rw [q4]; decide) (off := 99) (by rw [q4]; decide) (t := 100) (by decide) ?_
    refine PW.aload_n (pc := 100) dX8_qAsksWord_100 rfl ?_
    refine PW.aload_n (pc := 101) dX8_qAsksWord_101 rfl ?_
    refine PW.getR (pc := 102) dX8_qAsksWord_102 (r := 342) lf_X8_213 (ob hM.1 s_277 (by decide)) fx_8_88 (oR_8_88 hM s_277) (pS_ne s_342) ?_
    refine PW.inv (m' := mX8_asks) (pc := 105) dX8_qAsksWord_105 lm_X8_311 me_X8_asks mi_X8_asks (ob hM.1 s_277 (by decide)) rfl (As := [.ref 342]) (st := []) rfl (Nat.le_of_ble_eq_true rfl) (Nat.le_of_ble_eq_true rfl) (Nat.le_of_eq hM.1) (Nat.le_refl _) (PW.deep (by decide) (c_X8_asks s_342 hM h)) ?_
    rintro _ M9 ⟨hM, rfl, h⟩
    refine PW.goto (pc := 108) dX8_qAsksWord_108 (t := 174) (by decide) ?_
    exact PW.ret0 (pc := 174) dX8_qAsksWord_174 hM.1 rfl ⟨hM, rfl, h⟩
  by_cases q5 : x1 = 5
  · have h := h.2.2.2.2.2.1 q5
    refine PW.tabIn (pc := 1) dX8_qAsksWord_1 (by rw [q5]; decide) (by rw [q5]; decide) (off := 110) (by rw [q5]; decide) (t := 111) (by decide) ?_
    refine PW.aload_n (pc := 111) dX8_qAsksWord_111 rfl ?_
    refine PW.aload_n (pc := 112) dX8_qAsksWord_112 rfl ?_
    refine PW.getR (pc := 113) dX8_qAsksWord_113 (r := 343) lf_X8_216 (ob hM.1 s_277 (by decide)) fx_8_89 (oR_8_89 hM s_277) (pS_ne s_343) ?_
    refine PW.inv (m' := mX8_asks) (pc := 116) dX8_qAsksWord_116 lm_X8_311 me_X8_asks mi_X8_asks (ob hM.1 s_277 (by decide)) rfl (As := [.ref 343]) (st := []) rfl (Nat.le_of_ble_eq_true rfl) (Nat.le_of_ble_eq_true rfl) (Nat.le_of_eq hM.1) (Nat.le_refl _) (PW.deep (by decide) (c_X8_asks s_343 hM h)) ?_
    rintro _ M11 ⟨hM, rfl, h⟩
    refine PW.goto (pc := 119) dX8_qAsksWord_119 (t := 174) (by decide) ?_
    exact PW.ret0 (pc := 174) dX8_qAsksWord_174 hM.1 rfl ⟨hM, rfl, h⟩
  by_cases q6 : x1 = 6
  · have h := h.2.2.2.2.2.2.1 q6
    refine PW.tabIn (pc := 1) dX8_qAsksWord_1 (by rw [q6]; decide) (by rw [q6]; decide) (off := 121) (by rw [q6]; decide) (t := 122) (by decide) ?_
    refine PW.aload_n (pc := 122) dX8_qAsksWord_122 rfl ?_
    refine PW.aload_n (pc := 123) dX8_qAsksWord_123 rfl ?_
    refine PW.getR (pc := 124) dX8_qAsksWord_124 (r := 344) lf_X8_219 (ob hM.1 s_277 (by decide)) fx_8_90 (oR_8_90 hM s_277) (pS_ne s_344) ?_
    refine PW.inv (m' := mX8_asks) (pc := 127) dX8_qAsksWord_127 lm_X8_311 me_X8_asks mi_X8_asks (ob hM.1 s_277 (by decide)) rfl (As := [.ref 344]) (st := []) rfl (Nat.le_of_ble_eq_true rfl) (Nat.le_of_ble_eq_true rfl) (Nat.le_of_eq hM.1) (Nat.le_refl _) (PW.deep (by decide) (c_X8_asks s_344 hM h)) ?_
    rintro _ M13 ⟨hM, rfl, h⟩
    refine PW.goto (pc := 130) dX8_qAsksWord_130 (t := 174) (by decide) ?_
    exact PW.ret0 (pc := 174) dX8_qAsksWord_174 hM.1 rfl ⟨hM, rfl, h⟩
  by_cases q7 : x1 = 7
  · have h := h.2.2.2.2.2.2.2.1 q7
    refine PW.tabIn (pc := 1) dX8_qAsksWord_1 (by rw [q7]; decide) (by rw [q7]; decide) (off := 132) (by rw [q7]; decide) (t := 133) (by decide) ?_
    refine PW.aload_n (pc := 133) dX8_qAsksWord_133 rfl ?_
    refine PW.aload_n (pc := 134) dX8_qAsksWord_134 rfl ?_
    refine PW.getR (pc := 135) dX8_qAsksWord_135 (r := 345) lf_X8_222 (ob hM.1 s_277 (by decide)) fx_8_91 (oR_8_91 hM s_277) (pS_ne s_345) ?_
    refine PW.inv (m' := mX8_asks) (pc := 138) dX8_qAsksWord_138 lm_X8_311 me_X8_asks mi_X8_asks (ob hM.1 s_277 (by decide)) rfl (As := [.ref 345]) (st := []) rfl (Nat.le_of_ble_eq_true rfl) (Nat.le_of_ble_eq_true rfl) (Nat.le_of_eq hM.1) (Nat.le_refl _) (PW.deep (by decide) (c_X8_asks s_345 hM h)) ?_
    rintro _ M15 ⟨hM, rfl, h⟩
    refine PW.goto (pc := 141) dX8_qAsksWord_141 (t := 174) (by decide) ?_
    exact PW.ret0 (pc := 174) dX8_qAsksWord_174 hM.1 rfl ⟨hM, rfl, h⟩
  by_cases q8 : x1 = 8
  · have h := h.2.2.2.2.2.2.2.2.1 q8
    refine PW.tabIn (pc := 1) dX8_qAsksWord_1 (by rw [q8]; decide) (by rw [q8]; decide) (off := 143) (by rw [q8]; decide) (t := 144) (by decide) ?_
    refine PW.aload_n (pc := 144) dX8_qAsksWord_144 rfl ?_
    refine PW.aload_n (pc := 145) dX8_qAsksWord_145 rfl ?_
    refine PW.getR (pc := 146) dX8_qAsksWord_146 (r := 346) lf_X8_225 (ob hM.1 s_277 (by decide)) fx_8_92 (oR_8_92 hM s_277) (pS_ne s_346) ?_
    refine PW.inv (m' := mX8_asks) (pc := 149) dX8_qAsksWord_149 lm_X8_311 me_X8_asks mi_X8_asks (ob hM.1 s_277 (by decide)) rfl (As := [.ref 346]) (st := []) rfl (Nat.le_of_ble_eq_true rfl) (Nat.le_of_ble_eq_true rfl) (Nat.le_of_eq hM.1) (Nat.le_refl _) (PW.deep (by decide) (c_X8_asks s_346 hM h)) ?_
    rintro _ M17 ⟨hM, rfl, h⟩
    refine PW.goto (pc := 152) dX8_qAsksWord_152 (t := 174) (by decide) ?_
    exact PW.ret0 (pc := 174) dX8_qAsksWord_174 hM.1 rfl ⟨hM, rfl, h⟩
  by_cases q9 : x1 = 9
  · have h := h.2.2.2.2.2.2.2.2.2.1 q9
    refine PW.tabIn (pc := 1) dX8_qAsksWord_1 (by rw [q9]; decide) (by rw [q9]; decide) (off := 154) (by rw [q9]; decide) (t := 155) (by decide) ?_
    refine PW.aload_n (pc := 155) dX8_qAsksWord_155 rfl ?_
    refine PW.aload_n (pc := 156) dX8_qAsksWord_156 rfl ?_
    refine PW.getR (pc := 157) dX8_qAsksWord_157 (r := 347) lf_X8_228 (ob hM.1 s_277 (by decide)) fx_8_93 (oR_8_93 hM s_277) (pS_ne s_347) ?_
    refine PW.inv (m' := mX8_asks) (pc := 160) dX8_qAsksWord_160 lm_X8_311 me_X8_asks mi_X8_asks (ob hM.1 s_277 (by decide)) rfl (As := [.ref 347]) (st := []) rfl (Nat.le_of_ble_eq_true rfl) (Nat.le_of_ble_eq_true rfl) (Nat.le_of_eq hM.1) (Nat.le_refl _) (PW.deep (by decide) (c_X8_asks s_347 hM h)) ?_
    rintro _ M19 ⟨hM, rfl, h⟩
    refine PW.goto (pc := 163) dX8_qAsksWord_163 (t := 174) (by decide) ?_
    exact PW.ret0 (pc := 174) dX8_qAsksWord_174 hM.1 rfl ⟨hM, rfl, h⟩
  have h := h.2.2.2.2.2.2.2.2.2.2 q0 q1 q2 q3 q4 q5 q6 q7 q8 q9
  refine PW.tabOut (pc := 1) dX8_qAsksWord_1 (tab_out (fun c h1 h2 => ?_)) (t := 166) (by decide) ?_
  · rcases (by omega : c = 0 ∨ c = 1 ∨ c = 2 ∨ c = 3 ∨ c = 4 ∨ c = 5 ∨ c = 6 ∨ c = 7 ∨ c = 8 ∨ c = 9) with rfl | rfl | rfl | rfl | rfl | rfl | rfl | rfl | rfl | rfl <;> assumption
  · skip
    refine PW.aload_n (pc := 166) dX8_qAsksWord_166 rfl ?_
    refine PW.aload_n (pc := 167) dX8_qAsksWord_167 rfl ?_
    refine PW.getR (pc := 168) dX8_qAsksWord_168 (r := 348) lf_X8_231 (ob hM.1 s_277 (by decide)) fx_8_94 (oR_8_94 hM s_277) (pS_ne s_348) ?_
    refine PW.inv (m' := mX8_asks) (pc := 171) dX8_qAsksWord_171 lm_X8_311 me_X8_asks mi_X8_asks (ob hM.1 s_277 (by decide)) rfl (As := [.ref 348]) (st := []) rfl (Nat.le_of_ble_eq_true rfl) (Nat.le_of_ble_eq_true rfl) (Nat.le_of_eq hM.1) (Nat.le_refl _) (PW.deep (by decide) (c_X8_asks s_348 hM h)) ?_
    rintro _ M21 ⟨hM, rfl, h⟩
    exact PW.ret0 (pc := 174) dX8_qAsksWord_174 hM.1 rfl ⟨hM, rfl, h⟩
