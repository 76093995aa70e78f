/-! methods, walked by program: w_ what must hold before, c_ its proof -/
def w_X8_qAsksWord (x1 : Int32) (M : pm) (Q : pm → Prop) : Prop := ((x1 = 0 → (w_X8_asks 338 M (fun M1 => Q M1))) ∧ (x1 = 1 → (w_X8_asks 339 M (fun M4 => Q M4))) ∧ (x1 = 2 → (w_X8_asks 340 M (fun M7 => Q M7))) ∧ (x1 = 3 → (w_X8_asks 341 M (fun M10 => Q M10))) ∧ (x1 = 4 → (w_X8_asks 342 M (fun M13 => Q M13))) ∧ (x1 = 5 → (w_X8_asks 343 M (fun M16 => Q M16))) ∧ (x1 = 6 → (w_X8_asks 344 M (fun M19 => Q M19))) ∧ (x1 = 7 → (w_X8_asks 345 M (fun M22 => Q M22))) ∧ (x1 = 8 → (w_X8_asks 346 M (fun M25 => Q M25))) ∧ (x1 = 9 → (w_X8_asks 347 M (fun M28 => Q M28))) ∧ (¬ x1 = 0 → ¬ x1 = 1 → ¬ x1 = 2 → ¬ x1 = 3 → ¬ x1 = 4 → ¬ x1 = 5 → ¬ x1 = 6 → ¬ x1 = 7 → ¬ x1 = 8 → ¬ x1 = 9 → (w_X8_asks 348 M (fun M31 => Q M31))))
set_option maxRecDepth 4000 in
theorem c_X8_qAsksWord {x1 : Int32} {M : pm} {Q : pm → Prop}  (hM : pG M) (h : w_X8_qAsksWord x1 M Q) : PW mX8_qAsksWord 5 350 0 (pfr mX8_qAsksWord.2.2.1 [.ref 277, .int x1]) [] M (qV Q) := by
  unfold w_X8_qAsksWord at h
  show PW mX8_qAsksWord 5 350 0 [.ref 277, .int x1] [] M (qV Q)
  refine PW.iload_n (pc := 0) dX8_qAsksWord_0 rfl ?_
  by_cases q0 : x1 = 0
  · have h := h.1 q0
    refine PW.tabIn (pc := 1) dX8_qAsksWord_1 (by rw [q0]; decide) (by rw [q0]; decide) (off := 55) (by rw [q0]; decide) (t := 56) (by decide) ?_
    refine PW.aload_n (pc := 56) dX8_qAsksWord_56 rfl ?_
    refine PW.aload_n (pc := 57) dX8_qAsksWord_57 rfl ?_
    refine PW.getR (pc := 58) dX8_qAsksWord_58 (r := 338) lf_X8_201 (ob hM.1 s_277 (by decide)) fx_8_84 (oR_8_84 hM s_277) (pS_ne s_338) ?_
    refine PW.inv (m' := mX8_asks) (pc := 61) dX8_qAsksWord_61 lm_X8_311 me_X8_asks mi_X8_asks (ob hM.1 s_277 (by decide)) rfl (As := [.ref 338]) (st := []) rfl (Nat.le_of_ble_eq_true rfl) (Nat.le_of_ble_eq_true rfl) (Nat.le_of_eq hM.1) (Nat.le_refl _) (PW.deep (by decide) (c_X8_asks s_338 hM h)) ?_
    rintro _ M1 ⟨hM3, rfl, h⟩
    refine PW.goto (pc := 64) dX8_qAsksWord_64 (t := 174) (by decide) ?_
    exact PW.ret0 (pc := 174) dX8_qAsksWord_174 hM3.1 rfl ⟨hM3, rfl, h⟩
  by_cases q1 : x1 = 1
  · have h := h.2.1 q1
    refine PW.tabIn (pc := 1) dX8_qAsksWord_1 (by rw [q1]; decide) (by rw [q1]; decide) (off := 66) (by rw [q1]; decide) (t := 67) (by decide) ?_
    refine PW.aload_n (pc := 67) dX8_qAsksWord_67 rfl ?_
    refine PW.aload_n (pc := 68) dX8_qAsksWord_68 rfl ?_
    refine PW.getR (pc := 69) dX8_qAsksWord_69 (r := 339) lf_X8_204 (ob hM.1 s_277 (by decide)) fx_8_85 (oR_8_85 hM s_277) (pS_ne s_339) ?_
    refine PW.inv (m' := mX8_asks) (pc := 72) dX8_qAsksWord_72 lm_X8_311 me_X8_asks mi_X8_asks (ob hM.1 s_277 (by decide)) rfl (As := [.ref 339]) (st := []) rfl (Nat.le_of_ble_eq_true rfl) (Nat.le_of_ble_eq_true rfl) (Nat.le_of_eq hM.1) (Nat.le_refl _) (PW.deep (by decide) (c_X8_asks s_339 hM h)) ?_
    rintro _ M4 ⟨hM6, rfl, h⟩
    refine PW.goto (pc := 75) dX8_qAsksWord_75 (t := 174) (by decide) ?_
    exact PW.ret0 (pc := 174) dX8_qAsksWord_174 hM6.1 rfl ⟨hM6, rfl, h⟩
  by_cases q2 : x1 = 2
  · have h := h.2.2.1 q2
    refine PW.tabIn (pc := 1) dX8_qAsksWord_1 (by rw [q2]; decide) (by rw [q2]; decide) (off := 77) (by rw [q2]; decide) (t := 78) (by decide) ?_
    refine PW.aload_n (pc := 78) dX8_qAsksWord_78 rfl ?_
    refine PW.aload_n (pc := 79) dX8_qAsksWord_79 rfl ?_
    refine PW.getR (pc := 80) dX8_qAsksWord_80 (r := 340) lf_X8_207 (ob hM.1 s_277 (by decide)) fx_8_86 (oR_8_86 hM s_277) (pS_ne s_340) ?_
    refine PW.inv (m' := mX8_asks) (pc := 83) dX8_qAsksWord_83 lm_X8_311 me_X8_asks mi_X8_asks (ob hM.1 s_277 (by decide)) rfl (As := [.ref 340]) (st := []) rfl (Nat.le_of_ble_eq_true rfl) (Nat.le_of_ble_eq_true rfl) (Nat.le_of_eq hM.1) (Nat.le_refl _) (PW.deep (by decide) (c_X8_asks s_340 hM h)) ?_
    rintro _ M7 ⟨hM9, rfl, h⟩
    refine PW.goto (pc := 86) dX8_qAsksWord_86 (t := 174) (by decide) ?_
    exact PW.ret0 (pc := 174) dX8_qAsksWord_174 hM9.1 rfl ⟨hM9, rfl, h⟩
  by_cases q3 : x1 = 3
  · have h := h.2.2.2.1 q3
    refine PW.tabIn (pc := 1) dX8_qAsksWord_1 (by rw [q3]; decide) (by rw [q3]; decide) (off := 88) (by rw [q3]; decide) (t := 89) (by decide) ?_
    refine PW.aload_n (pc := 89) dX8_qAsksWord_89 rfl ?_
    refine PW.aload_n (pc := 90) dX8_qAsksWord_90 rfl ?_
    refine PW.getR (pc := 91) dX8_qAsksWord_91 (r := 341) lf_X8_210 (ob hM.1 s_277 (by decide)) fx_8_87 (oR_8_87 hM s_277) (pS_ne s_341) ?_
    refine PW.inv (m' := mX8_asks) (pc := 94) dX8_qAsksWord_94 lm_X8_311 me_X8_asks mi_X8_asks (ob hM.1 s_277 (by decide)) rfl (As := [.ref 341]) (st := []) rfl (Nat.le_of_ble_eq_true rfl) (Nat.le_of_ble_eq_true rfl) (Nat.le_of_eq hM.1) (Nat.le_refl _) (PW.deep (by decide) (c_X8_asks s_341 hM h)) ?_
    rintro _ M10 ⟨hM12, rfl, h⟩
    refine PW.goto (pc := 97) dX8_qAsksWord_97 (t := 174) (by decide) ?_
    exact PW.ret0 (pc := 174) dX8_qAsksWord_174 hM12.1 rfl ⟨hM12, rfl, h⟩
  by_cases q4 : x1 = 4
  · have h := h.2.2.2.2.1 q4
    refine PW.tabIn (pc := 1) dX8_qAsksWord_1 (by rw [q4]; decide) (by rw [q4]; decide) (off := 99) (by rw [q4]; decide) (t := 100) (by decide) ?_
    refine PW.aload_n (pc := 100) dX8_qAsksWord_100 rfl ?_
    refine PW.aload_n (pc := 101) dX8_qAsksWord_101 rfl ?_
    refine PW.getR (pc := 102) dX8_qAsksWord_102 (r := 342) lf_X8_213 (ob hM.1 s_277 (by decide)) fx_8_88 (oR_8_88 hM s_277) (pS_ne s_342) ?_
    refine PW.inv (m' := mX8_asks) (pc := 105) dX8_qAsksWord_105 lm_X8_311 me_X8_asks mi_X8_asks (ob hM.1 s_277 (by decide)) rfl (As := [.ref 342]) (st := []) rfl (Nat.le_of_ble_eq_true rfl) (Nat.le_of_ble_eq_true rfl) (Nat.le_of_eq hM.1) (Nat.le_refl _) (PW.deep (by decide) (c_X8_asks s_342 hM h)) ?_
    rintro _ M13 ⟨hM15, rfl, h⟩
    refine PW.goto (pc := 108) dX8_qAsksWord_108 (t := 174) (by decide) ?_
    exact PW.ret0 (pc := 174) dX8_qAsksWord_174 hM15.1 rfl ⟨hM15, rfl, h⟩
  by_cases q5 : x1 = 5
  · have h := h.2.2.2.2.2.1 q5
    refine PW.tabIn (pc := 1) dX8_qAsksWord_1 (by rw [q5]; decide) (by rw [q5]; decide) (off := 110) (by rw [q5]; decide) (t := 111) (by decide) ?_
    refine PW.aload_n (pc := 111) dX8_qAsksWord_111 rfl ?_
    refine PW.aload_n (pc := 112) dX8_qAsksWord_112 rfl ?_
    refine PW.getR (pc := 113) dX8_qAsksWord_113 (r := 343) lf_X8_216 (ob hM.1 s_277 (by decide)) fx_8_89 (oR_8_89 hM s_277) (pS_ne s_343) ?_
    refine PW.inv (m' := mX8_asks) (pc := 116) dX8_qAsksWord_116 lm_X8_311 me_X8_asks mi_X8_asks (ob hM.1 s_277 (by decide)) rfl (As := [.ref 343]) (st := []) rfl (Nat.le_of_ble_eq_true rfl) (Nat.le_of_ble_eq_true rfl) (Nat.le_of_eq hM.1) (Nat.le_refl _) (PW.deep (by decide) (c_X8_asks s_343 hM h)) ?_
    rintro _ M16 ⟨hM18, rfl, h⟩
    refine PW.goto (pc := 119) dX8_qAsksWord_119 (t := 174) (by decide) ?_
    exact PW.ret0 (pc := 174) dX8_qAsksWord_174 hM18.1 rfl ⟨hM18, rfl, h⟩
  by_cases q6 : x1 = 6
  · have h := h.2.2.2.2.2.2.1 q6
    refine PW.tabIn (pc := 1) dX8_qAsksWord_1 (by rw [q6]; decide) (by rw [q6]; decide) (off := 121) (by rw [q6]; decide) (t := 122) (by decide) ?_
    refine PW.aload_n (pc := 122) dX8_qAsksWord_122 rfl ?_
    refine PW.aload_n (pc := 123) dX8_qAsksWord_123 rfl ?_
    refine PW.getR (pc := 124) dX8_qAsksWord_124 (r := 344) lf_X8_219 (ob hM.1 s_277 (by decide)) fx_8_90 (oR_8_90 hM s_277) (pS_ne s_344) ?_
    refine PW.inv (m' := mX8_asks) (pc := 127) dX8_qAsksWord_127 lm_X8_311 me_X8_asks mi_X8_asks (ob hM.1 s_277 (by decide)) rfl (As := [.ref 344]) (st := []) rfl (Nat.le_of_ble_eq_true rfl) (Nat.le_of_ble_eq_true rfl) (Nat.le_of_eq hM.1) (Nat.le_refl _) (PW.deep (by decide) (c_X8_asks s_344 hM h)) ?_
    rintro _ M19 ⟨hM21, rfl, h⟩
    refine PW.goto (pc := 130) dX8_qAsksWord_130 (t := 174) (by decide) ?_
    exact PW.ret0 (pc := 174) dX8_qAsksWord_174 hM21.1 rfl ⟨hM21, rfl, h⟩
  by_cases q7 : x1 = 7
  · have h := h.2.2.2.2.2.2.2.1 q7
    refine PW.tabIn (pc := 1) dX8_qAsksWord_1 (by rw [q7]; decide) (by rw [q7]; decide) (off := 132) (by rw [q7]; decide) (t := 133) (by decide) ?_
    refine PW.aload_n (pc := 133) dX8_qAsksWord_133 rfl ?_
    refine PW.aload_n (pc := 134) dX8_qAsksWord_134 rfl ?_
    refine PW.getR (pc := 135) dX8_qAsksWord_135 (r := 345) lf_X8_222 (ob hM.1 s_277 (by decide)) fx_8_91 (oR_8_91 hM s_277) (pS_ne s_345) ?_
    refine PW.inv (m' := mX8_asks) (pc := 138) dX8_qAsksWord_138 lm_X8_311 me_X8_asks mi_X8_asks (ob hM.1 s_277 (by decide)) rfl (As := [.ref 345]) (st := []) rfl (Nat.le_of_ble_eq_true rfl) (Nat.le_of_ble_eq_true rfl) (Nat.le_of_eq hM.1) (Nat.le_refl _) (PW.deep (by decide) (c_X8_asks s_345 hM h)) ?_
    rintro _ M22 ⟨hM24, rfl, h⟩
    refine PW.goto (pc := 141) dX8_qAsksWord_141 (t := 174) (by decide) ?_
    exact PW.ret0 (pc := 174) dX8_qAsksWord_174 hM24.1 rfl ⟨hM24, rfl, h⟩
  by_cases q8 : x1 = 8
  · have h := h.2.2.2.2.2.2.2.2.1 q8
    refine PW.tabIn (pc := 1) dX8_qAsksWord_1 (by rw [q8]; decide) (by rw [q8]; decide) (off := 143) (by rw [q8]; decide) (t := 144) (by decide) ?_
    refine PW.aload_n (pc := 144) dX8_qAsksWord_144 rfl ?_
    refine PW.aload_n (pc := 145) dX8_qAsksWord_145 rfl ?_
    refine PW.getR (pc := 146) dX8_qAsksWord_146 (r := 346) lf_X8_225 (ob hM.1 s_277 (by decide)) fx_8_92 (oR_8_92 hM s_277) (pS_ne s_346) ?_
    refine PW.inv (m' := mX8_asks) (pc := 149) dX8_qAsksWord_149 lm_X8_311 me_X8_asks mi_X8_asks (ob hM.1 s_277 (by decide)) rfl (As := [.ref 346]) (st := []) rfl (Nat.le_of_ble_eq_true rfl) (Nat.le_of_ble_eq_true rfl) (Nat.le_of_eq hM.1) (Nat.le_refl _) (PW.deep (by decide) (c_X8_asks s_346 hM h)) ?_
    rintro _ M25 ⟨hM27, rfl, h⟩
    refine PW.goto (pc := 152) dX8_qAsksWord_152 (t := 174) (by decide) ?_
    exact PW.ret0 (pc := 174) dX8_qAsksWord_174 hM27.1 rfl ⟨hM27, rfl, h⟩
  by_cases q9 : x1 = 9
  · have h := h.2.2.2.2.2.2.2.2.2.1 q9
    refine PW.tabIn (pc := 1) dX8_qAsksWord_1 (by rw [q9]; decide) (by rw [q9]; decide) (off := 154) (by rw [q9]; decide) (t := 155) (by decide) ?_
    refine PW.aload_n (pc := 155) dX8_qAsksWord_155 rfl ?_
    refine PW.aload_n (pc := 156) dX8_qAsksWord_156 rfl ?_
    refine PW.getR (pc := 157) dX8_qAsksWord_157 (r := 347) lf_X8_228 (ob hM.1 s_277 (by decide)) fx_8_93 (oR_8_93 hM s_277) (pS_ne s_347) ?_
    refine PW.inv (m' := mX8_asks) (pc := 160) dX8_qAsksWord_160 lm_X8_311 me_X8_asks mi_X8_asks (ob hM.1 s_277 (by decide)) rfl (As := [.ref 347]) (st := []) rfl (Nat.le_of_ble_eq_true rfl) (Nat.le_of_ble_eq_true rfl) (Nat.le_of_eq hM.1) (Nat.le_refl _) (PW.deep (by decide) (c_X8_asks s_347 hM h)) ?_
    rintro _ M28 ⟨hM30, rfl, h⟩
    refine PW.goto (pc := 163) dX8_qAsksWord_163 (t := 174) (by decide) ?_
    exact PW.ret0 (pc := 174) dX8_qAsksWord_174 hM30.1 rfl ⟨hM30, rfl, h⟩
  have h := h.2.2.2.2.2.2.2.2.2.2 q0 q1 q2 q3 q4 q5 q6 q7 q8 q9
  refine PW.tabOut (pc := 1) dX8_qAsksWord_1 (tab_out (fun c h1 h2 => ?_)) (t := 166) (by decide) ?_
  · rcases (by omega : c = 0 ∨ c = 1 ∨ c = 2 ∨ c = 3 ∨ c = 4 ∨ c = 5 ∨ c = 6 ∨ c = 7 ∨ c = 8 ∨ c = 9) with rfl | rfl | rfl | rfl | rfl | rfl | rfl | rfl | rfl | rfl <;> assumption
  · skip
    refine PW.aload_n (pc := 166) dX8_qAsksWord_166 rfl ?_
    refine PW.aload_n (pc := 167) dX8_qAsksWord_167 rfl ?_
    refine PW.getR (pc := 168) dX8_qAsksWord_168 (r := 348) lf_X8_231 (ob hM.1 s_277 (by decide)) fx_8_94 (oR_8_94 hM s_277) (pS_ne s_348) ?_
    refine PW.inv (m' := mX8_asks) (pc := 171) dX8_qAsksWord_171 lm_X8_311 me_X8_asks mi_X8_asks (ob hM.1 s_277 (by decide)) rfl (As := [.ref 348]) (st := []) rfl (Nat.le_of_ble_eq_true rfl) (Nat.le_of_ble_eq_true rfl) (Nat.le_of_eq hM.1) (Nat.le_refl _) (PW.deep (by decide) (c_X8_asks s_348 hM h)) ?_
    rintro _ M31 ⟨hM33, rfl, h⟩
    exact PW.ret0 (pc := 174) dX8_qAsksWord_174 hM33.1 rfl ⟨hM33, rfl, h⟩
def w_X8_qDrops  (M : pm) (Q : pm → Prop) : Prop := vp_in ((mI M 277 98) - 1) 1700 ∧ (w_X8_qCode (mI M 350 (((mI M 277 98) - 1).toNatClampNeg)) (sI M 277 98 ((mI M 277 98) - 1)) (fun M2 => Q M2))
set_option maxRecDepth 4000 in
theorem c_X8_qDrops  {M : pm} {Q : pm → Prop}  (hM : pG M) (h : w_X8_qDrops  M Q) : PW mX8_qDrops 2 350 0 (pfr mX8_qDrops.2.2.1 [.ref 277]) [] M (qV Q) := by
  unfold w_X8_qDrops at h
  show PW mX8_qDrops 2 350 0 [.ref 277] [] M (qV Q)
  refine PW.aload_n (pc := 0) dX8_qDrops_0 rfl ?_
  refine PW.dupR (pc := 1) dX8_qDrops_1 ?_
  refine PW.getI (pc := 2) dX8_qDrops_2 lf_X8_340 (ob hM.1 s_277 (by decide)) fx_8_98 ?_
  refine PW.iconst (pc := 5) dX8_qDrops_5 (v := 1) (by decide) ?_
  refine PW.isub (pc := 6) dX8_qDrops_6 ?_
  refine PW.putI (pc := 7) dX8_qDrops_7 lf_X8_340 (ob hM.1 s_277 (by decide)) fx_8_98 fw_8_98 rfl rfl ?_
  refine PW.aload_n (pc := 10) dX8_qDrops_10 rfl ?_
  refine PW.aload_n (pc := 11) dX8_qDrops_11 rfl ?_
  refine PW.getR (pc := 12) dX8_qDrops_12 (r := 350) lf_X8_237 (ob hM.1 s_277 (by decide)) fx_8_97 (oR_8_97 (hM.same rfl rfl) s_277) (pS_ne s_350) ?_
  refine PW.aload_n (pc := 15) dX8_qDrops_15 rfl ?_
  refine PW.getI (pc := 16) dX8_qDrops_16 lf_X8_340 (ob hM.1 s_277 (by decide)) fx_8_98 ?_
  obtain ⟨v1, h⟩ := h
  refine PW.iald (pc := 19) dX8_qDrops_19 (ar hM.1 s_350) (vpl n_350 v1) ?_
  refine PW.inv (m' := mX8_qCode) (pc := 20) dX8_qDrops_20 lm_X8_583 me_X8_qCode mi_X8_qCode (ob hM.1 s_277 (by decide)) rfl (As := [.int (mI M 350 (((mI M 277 98) - 1).toNatClampNeg))]) (st := []) rfl (Nat.le_of_ble_eq_true rfl) (Nat.le_of_ble_eq_true rfl) (Nat.le_of_eq hM.1) (Nat.le_refl _) (PW.deep (by decide) (c_X8_qCode  (hM.same rfl rfl) h)) ?_
  rintro _ M2 ⟨hM4, rfl, h⟩
  exact PW.ret0 (pc := 23) dX8_qDrops_23 hM4.1 rfl ⟨hM4, rfl, h⟩
def w_X8_qEndsPart_0 : Nat → pm → (pm → Prop) → Prop
  | 0, _, _ => False
  | n + 1, M, Q => ((¬ (mI M 277 5) = 0 → (Q M)) ∧ ((mI M 277 5) = 0 → (((mI M 277 98) ≤ (mI M 277 100) → (Q M)) ∧ (¬ (mI M 277 98) ≤ (mI M 277 100) → (vp_in ((mI M 277 98) - 1) 1700 ∧ (((mI M 350 (((mI M 277 98) - 1).toNatClampNeg)) < 60 → (Q M)) ∧ (¬ (mI M 350 (((mI M 277 98) - 1).toNatClampNeg)) < 60 → (w_X8_qDrops  (sI M 277 99 ((mI M 277 99) - 1)) (fun M2 => w_X8_qEndsPart_0 n M2 Q)))))))))
set_option maxRecDepth 4000 in
theorem c_X8_qEndsPart_0  {Q : pm → Prop}  : ∀ (n : Nat)  (M : pm), pG M → w_X8_qEndsPart_0 n  M  Q → PW mX8_qEndsPart 3 350 0 [.ref 277] [] M (qV Q) := by
  intro n
  induction n with
  | zero => intro M hM h; exact h.elim
  | succ n ih =>
    intro M hM h
    unfold w_X8_qEndsPart_0 at h
    refine PW.aload_n (pc := 0) dX8_qEndsPart_0 rfl ?_
    refine PW.getI (pc := 1) dX8_qEndsPart_1 lf_X8_249 (ob hM.1 s_277 (by decide)) fx_8_5 ?_
    refine PW.if_ne (pc := 4) dX8_qEndsPart_4 (t := 51) (by decide) (fun hc => ?_) (fun hc => ?_)
    · have h := h.1 hc
      exact PW.ret0 (pc := 51) dX8_qEndsPart_51 hM.1 rfl ⟨hM, rfl, h⟩
    · have h := h.2 hc
      refine PW.aload_n (pc := 7) dX8_qEndsPart_7 rfl ?_
      refine PW.getI (pc := 8) dX8_qEndsPart_8 lf_X8_340 (ob hM.1 s_277 (by decide)) fx_8_98 ?_
      refine PW.aload_n (pc := 11) dX8_qEndsPart_11 rfl ?_
      refine PW.getI (pc := 12) dX8_qEndsPart_12 lf_X8_346 (ob hM.1 s_277 (by decide)) fx_8_100 ?_
      refine PW.icmp_le (pc := 15) dX8_qEndsPart_15 (t := 51) (by decide) (fun hc => ?_) (fun hc => ?_)
      · have h := h.1 hc
        exact PW.ret0 (pc := 51) dX8_qEndsPart_51 hM.1 rfl ⟨hM, rfl, h⟩
      · have h := h.2 hc
        refine PW.aload_n (pc := 18) dX8_qEndsPart_18 rfl ?_
        refine PW.getR (pc := 19) dX8_qEndsPart_19 (r := 350) lf_X8_237 (ob hM.1 s_277 (by decide)) fx_8_97 (oR_8_97 hM s_277) (pS_ne s_350) ?_
        refine PW.aload_n (pc := 22) dX8_qEndsPart_22 rfl ?_
        refine PW.getI (pc := 23) dX8_qEndsPart_23 lf_X8_340 (ob hM.1 s_277 (by decide)) fx_8_98 ?_
        refine PW.iconst (pc := 26) dX8_qEndsPart_26 (v := 1) (by decide) ?_
        refine PW.isub (pc := 27) dX8_qEndsPart_27 ?_
        obtain ⟨v1, h⟩ := h
        refine PW.iald (pc := 28) dX8_qEndsPart_28 (ar hM.1 s_350) (vpl n_350 v1) ?_
        refine PW.bipush (pc := 29) dX8_qEndsPart_29 (v := 60) (by decide) ?_
        refine PW.icmp_lt (pc := 31) dX8_qEndsPart_31 (t := 51) (by decide) (fun hc => ?_) (fun hc => ?_)
        · have h := h.1 hc
          exact PW.ret0 (pc := 51) dX8_qEndsPart_51 hM.1 rfl ⟨hM, rfl, h⟩
        · have h := h.2 hc
          refine PW.aload_n (pc := 34) dX8_qEndsPart_34 rfl ?_
          refine PW.dupR (pc := 35) dX8_qEndsPart_35 ?_
          refine PW.getI (pc := 36) dX8_qEndsPart_36 lf_X8_343 (ob hM.1 s_277 (by decide)) fx_8_99 ?_
          refine PW.iconst (pc := 39) dX8_qEndsPart_39 (v := 1) (by decide) ?_
          refine PW.isub (pc := 40) dX8_qEndsPart_40 ?_
          refine PW.putI (pc := 41) dX8_qEndsPart_41 lf_X8_343 (ob hM.1 s_277 (by decide)) fx_8_99 fw_8_99 rfl rfl ?_
          refine PW.aload_n (pc := 44) dX8_qEndsPart_44 rfl ?_
          refine PW.inv (m' := mX8_qDrops) (pc := 45) dX8_qEndsPart_45 lm_X8_589 me_X8_qDrops mi_X8_qDrops (ob hM.1 s_277 (by decide)) rfl (As := []) (st := []) rfl (Nat.le_of_ble_eq_true rfl) (Nat.le_of_ble_eq_true rfl) (Nat.le_of_eq hM.1) (Nat.le_refl _) (PW.deep (by decide) (c_X8_qDrops  (hM.same rfl rfl) h)) ?_
          rintro _ M2 ⟨hM4, rfl, h⟩
          refine PW.goto (pc := 48) dX8_qEndsPart_48 (t := 0) (by decide) ?_
          exact PW.drop (ih _ hM4 h) ⟨rfl, trivial⟩
def w_X8_qEndsPart  (M : pm) (Q : pm → Prop) : Prop := ∃ n5, w_X8_qEndsPart_0 n5  M  Q
set_option maxRecDepth 4000 in
theorem c_X8_qEndsPart  {M : pm} {Q : pm → Prop}  (hM : pG M) (h : w_X8_qEndsPart  M Q) : PW mX8_qEndsPart 3 350 0 (pfr mX8_qEndsPart.2.2.1 [.ref 277]) [] M (qV Q) := by
  unfold w_X8_qEndsPart at h
  show PW mX8_qEndsPart 3 350 0 [.ref 277] [] M (qV Q)
  obtain ⟨n5, h⟩ := h
  refine PW.drop (c_X8_qEndsPart_0  n5 _ hM h) ⟨rfl, trivial⟩
def w_X8_qPartTold_118  (x1 : Int32) (x4 : Int32) (t0 : Int32) (M : pm) (r : Int32 → pm → Prop) (k186 : pm → Prop) (Q : pm → Prop) : Prop := ((t0 = (-1) → (w_X8_asksSign 40 M (fun M18 => r x1 M18))) ∧ (¬ t0 = (-1) → ((x4 = 0 → (w_X8_qOpens 22 t0 M (fun M21 => w_X8_asksSign 40 M21 (fun M24 => r x1 M24)))) ∧ (¬ x4 = 0 → (w_X8_qOpens 21 t0 M (fun M27 => w_X8_asksSign 40 M27 (fun M30 => r x1 M30)))))))
set_option maxRecDepth 4000 in
theorem c_X8_qPartTold_118 {r : Int32 → pm → Prop} {k186 : pm → Prop} {Q : pm → Prop} (hr : ∀ (x1 : Int32) (M : pm), pG M → r x1 M → PW mX8_qPartTold 6 350 2 [.ref 277, .int x1, .null, .null, .null, .null] [] M (qV Q)) (hk186 : ∀  (M : pm), pG M → k186  M → PW mX8_qPartTold 6 350 186 [.ref 277, .null, .null, .null, .null, .null] [] M (qV Q)) : ∀ (x1 : Int32) (x4 : Int32) (t0 : Int32) (M : pm), pG M → w_X8_qPartTold_118 x1 x4 t0 M r k186 Q → PW mX8_qPartTold 6 350 118 [.ref 277, .int x1, .null, .null, .int x4, .null] [.int t0] M (qV Q) := by
  intro x1 x4 t0 M hM h
  unfold w_X8_qPartTold_118 at h
  refine PW.istore (pc := 118) dX8_qPartTold_118 (ls' := [.ref 277, .int x1, .null, .null, .int x4, .int t0]) (by decide) rfl rfl ?_
  refine PW.iload (pc := 120) dX8_qPartTold_120 rfl ?_
  refine PW.iconst (pc := 122) dX8_qPartTold_122 (v := (-1)) (by decide) ?_
  refine PW.icmp_eq (pc := 123) dX8_qPartTold_123 (t := 144) (by decide) (fun hc => ?_) (fun hc => ?_)
  · have h := h.1 hc
    refine PW.aload_n (pc := 144) dX8_qPartTold_144 rfl ?_
    refine PW.bipush (pc := 145) dX8_qPartTold_145 (v := 40) (by decide) ?_
    refine PW.inv (m' := mX8_asksSign) (pc := 147) dX8_qPartTold_147 lm_X8_319 me_X8_asksSign mi_X8_asksSign (ob hM.1 s_277 (by decide)) rfl (As := [.int 40]) (st := []) rfl (Nat.le_of_ble_eq_true rfl) (Nat.le_of_ble_eq_true rfl) (Nat.le_of_eq hM.1) (Nat.le_refl _) (PW.deep (by decide) (c_X8_asksSign  hM h)) ?_
    rintro _ M18 ⟨hM20, rfl, h⟩
    refine PW.goto (pc := 150) dX8_qPartTold_150 (t := 183) (by decide) ?_
    refine PW.goto (pc := 183) dX8_qPartTold_183 (t := 2) (by decide) ?_
    exact PW.drop (hr _ _ hM20 h) ⟨rfl, rfl, trivial⟩
  · have h := h.2 hc
    refine PW.aload_n (pc := 126) dX8_qPartTold_126 rfl ?_
    refine PW.iload (pc := 127) dX8_qPartTold_127 rfl ?_
    refine PW.if_eq (pc := 129) dX8_qPartTold_129 (t := 137) (by decide) (fun hc => ?_) (fun hc => ?_)
    · have h := h.1 hc
      refine PW.bipush (pc := 137) dX8_qPartTold_137 (v := 22) (by decide) ?_
      refine PW.iload (pc := 139) dX8_qPartTold_139 rfl ?_
      refine PW.inv (m' := mX8_qOpens) (pc := 141) dX8_qPartTold_141 lm_X8_601 me_X8_qOpens mi_X8_qOpens (ob hM.1 s_277 (by decide)) rfl (As := [.int 22, .int t0]) (st := []) rfl (Nat.le_of_ble_eq_true rfl) (Nat.le_of_ble_eq_true rfl) (Nat.le_of_eq hM.1) (Nat.le_refl _) (PW.deep (by decide) (c_X8_qOpens  hM h)) ?_
      rintro _ M21 ⟨hM23, rfl, h⟩
      refine PW.aload_n (pc := 144) dX8_qPartTold_144 rfl ?_
      refine PW.bipush (pc := 145) dX8_qPartTold_145 (v := 40) (by decide) ?_
      refine PW.inv (m' := mX8_asksSign) (pc := 147) dX8_qPartTold_147 lm_X8_319 me_X8_asksSign mi_X8_asksSign (ob hM23.1 s_277 (by decide)) rfl (As := [.int 40]) (st := []) rfl (Nat.le_of_ble_eq_true rfl) (Nat.le_of_ble_eq_true rfl) (Nat.le_of_eq hM23.1) (Nat.le_refl _) (PW.deep (by decide) (c_X8_asksSign  hM23 h)) ?_
      rintro _ M24 ⟨hM26, rfl, h⟩
      refine PW.goto (pc := 150) dX8_qPartTold_150 (t := 183) (by decide) ?_
      refine PW.goto (pc := 183) dX8_qPartTold_183 (t := 2) (by decide) ?_
      exact PW.drop (hr _ _ hM26 h) ⟨rfl, rfl, trivial⟩
    · have h := h.2 hc
      refine PW.bipush (pc := 132) dX8_qPartTold_132 (v := 21) (by decide) ?_
      refine PW.goto (pc := 134) dX8_qPartTold_134 (t := 139) (by decide) ?_
      refine PW.iload (pc := 139) dX8_qPartTold_139 rfl ?_
      refine PW.inv (m' := mX8_qOpens) (pc := 141) dX8_qPartTold_141 lm_X8_601 me_X8_qOpens mi_X8_qOpens (ob hM.1 s_277 (by decide)) rfl (As := [.int 21, .int t0]) (st := []) rfl (Nat.le_of_ble_eq_true rfl) (Nat.le_of_ble_eq_true rfl) (Nat.le_of_eq hM.1) (Nat.le_refl _) (PW.deep (by decide) (c_X8_qOpens  hM h)) ?_
      rintro _ M27 ⟨hM29, rfl, h⟩
      refine PW.aload_n (pc := 144) dX8_qPartTold_144 rfl ?_
      refine PW.bipush (pc := 145) dX8_qPartTold_145 (v := 40) (by decide) ?_
      refine PW.inv (m' := mX8_asksSign) (pc := 147) dX8_qPartTold_147 lm_X8_319 me_X8_asksSign mi_X8_asksSign (ob hM29.1 s_277 (by decide)) rfl (As := [.int 40]) (st := []) rfl (Nat.le_of_ble_eq_true rfl) (Nat.le_of_ble_eq_true rfl) (Nat.le_of_eq hM29.1) (Nat.le_refl _) (PW.deep (by decide) (c_X8_asksSign  hM29 h)) ?_
      rintro _ M30 ⟨hM32, rfl, h⟩
      refine PW.goto (pc := 150) dX8_qPartTold_150 (t := 183) (by decide) ?_
      refine PW.goto (pc := 183) dX8_qPartTold_183 (t := 2) (by decide) ?_
      exact PW.drop (hr _ _ hM32 h) ⟨rfl, rfl, trivial⟩
def w_X8_qPartTold_78  (x1 : Int32) (M : pm) (r : Int32 → pm → Prop) (k186 : pm → Prop) (Q : pm → Prop) : Prop := w_X8_takes 336 M (fun y12 M11 => ((¬ y12 = 0 → (w_X8_look  M11 (fun y16 M15 => ((¬ y16 = 40 → (w_X8_qPartTold_118 x1 y12 (-1) M15 r k186 Q)) ∧ (y16 = 40 → (w_X8_qPartTold_118 x1 y12 (mI M15 277 2) M15 r k186 Q)))))) ∧ (y12 = 0 → (w_X8_asks 337 M11 (fun M33 => w_X8_look  M33 (fun y37 M36 => ((¬ y37 = 40 → (w_X8_qPartTold_118 x1 y12 (-1) M36 r k186 Q)) ∧ (y37 = 40 → (w_X8_qPartTold_118 x1 y12 (mI M36 277 2) M36 r k186 Q)))))))))
set_option maxRecDepth 4000 in
theorem c_X8_qPartTold_78 {r : Int32 → pm → Prop} {k186 : pm → Prop} {Q : pm → Prop} (hr : ∀ (x1 : Int32) (M : pm), pG M → r x1 M → PW mX8_qPartTold 6 350 2 [.ref 277, .int x1, .null, .null, .null, .null] [] M (qV Q)) (hk186 : ∀  (M : pm), pG M → k186  M → PW mX8_qPartTold 6 350 186 [.ref 277, .null, .null, .null, .null, .null] [] M (qV Q)) : ∀ (x1 : Int32) (M : pm), pG M → w_X8_qPartTold_78 x1 M r k186 Q → PW mX8_qPartTold 6 350 78 [.ref 277, .int x1, .null, .null, .null, .null] [] M (qV Q) := by
  intro x1 M hM h
  unfold w_X8_qPartTold_78 at h
  refine PW.aload_n (pc := 78) dX8_qPartTold_78 rfl ?_
  refine PW.aload_n (pc := 79) dX8_qPartTold_79 rfl ?_
  refine PW.getR (pc := 80) dX8_qPartTold_80 (r := 336) lf_X8_195 (ob hM.1 s_277 (by decide)) fx_8_82 (oR_8_82 hM s_277) (pS_ne s_336) ?_
  refine PW.inv (m' := mX8_takes) (pc := 83) dX8_qPartTold_83 lm_X8_276 me_X8_takes mi_X8_takes (ob hM.1 s_277 (by decide)) rfl (As := [.ref 336]) (st := []) rfl (Nat.le_of_ble_eq_true rfl) (Nat.le_of_ble_eq_true rfl) (Nat.le_of_eq hM.1) (Nat.le_refl _) (PW.deep (by decide) (c_X8_takes s_336 hM h)) ?_
  rintro _ M11 ⟨hM13, y12, rfl, z14, h⟩
  refine PW.istore (pc := 86) dX8_qPartTold_86 (ls' := [.ref 277, .int x1, .null, .null, .int y12, .null]) (by decide) rfl rfl ?_
  refine PW.iload (pc := 88) dX8_qPartTold_88 rfl ?_
  refine PW.if_ne (pc := 90) dX8_qPartTold_90 (t := 101) (by decide) (fun hc => ?_) (fun hc => ?_)
  · have h := h.1 hc
    refine PW.aload_n (pc := 101) dX8_qPartTold_101 rfl ?_
    refine PW.inv (m' := mX8_look) (pc := 102) dX8_qPartTold_102 lm_X8_261 me_X8_look mi_X8_look (ob hM13.1 s_277 (by decide)) rfl (As := []) (st := []) rfl (Nat.le_of_ble_eq_true rfl) (Nat.le_of_ble_eq_true rfl) (Nat.le_of_eq hM13.1) (Nat.le_refl _) (PW.deep (by decide) (c_X8_look  hM13 h)) ?_
    rintro _ M15 ⟨hM17, y16, rfl, h⟩
    refine PW.bipush (pc := 105) dX8_qPartTold_105 (v := 40) (by decide) ?_
    refine PW.icmp_ne (pc := 107) dX8_qPartTold_107 (t := 117) (by decide) (fun hc => ?_) (fun hc => ?_)
    · have h := h.1 hc
      refine PW.iconst (pc := 117) dX8_qPartTold_117 (v := (-1)) (by decide) ?_
      exact PW.drop (c_X8_qPartTold_118 hr hk186 _ _ _ _ hM17 h) ⟨rfl, rfl, rfl, trivial⟩
    · have h := h.2 hc
      refine PW.aload_n (pc := 110) dX8_qPartTold_110 rfl ?_
      refine PW.getI (pc := 111) dX8_qPartTold_111 lf_X8_255 (ob hM17.1 s_277 (by decide)) fx_8_2 ?_
      refine PW.goto (pc := 114) dX8_qPartTold_114 (t := 118) (by decide) ?_
      exact PW.drop (c_X8_qPartTold_118 hr hk186 _ _ _ _ hM17 h) ⟨rfl, rfl, rfl, trivial⟩
  · have h := h.2 hc
    refine PW.aload_n (pc := 93) dX8_qPartTold_93 rfl ?_
    refine PW.aload_n (pc := 94) dX8_qPartTold_94 rfl ?_
    refine PW.getR (pc := 95) dX8_qPartTold_95 (r := 337) lf_X8_198 (ob hM13.1 s_277 (by decide)) fx_8_83 (oR_8_83 hM13 s_277) (pS_ne s_337) ?_
    refine PW.inv (m' := mX8_asks) (pc := 98) dX8_qPartTold_98 lm_X8_311 me_X8_asks mi_X8_asks (ob hM13.1 s_277 (by decide)) rfl (As := [.ref 337]) (st := []) rfl (Nat.le_of_ble_eq_true rfl) (Nat.le_of_ble_eq_true rfl) (Nat.le_of_eq hM13.1) (Nat.le_refl _) (PW.deep (by decide) (c_X8_asks s_337 hM13 h)) ?_
    rintro _ M33 ⟨hM35, rfl, h⟩
    refine PW.aload_n (pc := 101) dX8_qPartTold_101 rfl ?_
    refine PW.inv (m' := mX8_look) (pc := 102) dX8_qPartTold_102 lm_X8_261 me_X8_look mi_X8_look (ob hM35.1 s_277 (by decide)) rfl (As := []) (st := []) rfl (Nat.le_of_ble_eq_true rfl) (Nat.le_of_ble_eq_true rfl) (Nat.le_of_eq hM35.1) (Nat.le_refl _) (PW.deep (by decide) (c_X8_look  hM35 h)) ?_
    rintro _ M36 ⟨hM38, y37, rfl, h⟩
    refine PW.bipush (pc := 105) dX8_qPartTold_105 (v := 40) (by decide) ?_
    refine PW.icmp_ne (pc := 107) dX8_qPartTold_107 (t := 117) (by decide) (fun hc => ?_) (fun hc => ?_)
    · have h := h.1 hc
      refine PW.iconst (pc := 117) dX8_qPartTold_117 (v := (-1)) (by decide) ?_
      exact PW.drop (c_X8_qPartTold_118 hr hk186 _ _ _ _ hM38 h) ⟨rfl, rfl, rfl, trivial⟩
    · have h := h.2 hc
      refine PW.aload_n (pc := 110) dX8_qPartTold_110 rfl ?_
      refine PW.getI (pc := 111) dX8_qPartTold_111 lf_X8_255 (ob hM38.1 s_277 (by decide)) fx_8_2 ?_
      refine PW.goto (pc := 114) dX8_qPartTold_114 (t := 118) (by decide) ?_
      exact PW.drop (c_X8_qPartTold_118 hr hk186 _ _ _ _ hM38 h) ⟨rfl, rfl, rfl, trivial⟩
def w_X8_qPartTold_2 : Nat → Int32 → pm → (pm → Prop) → (pm → Prop) → Prop
  | 0, _, _, _, _ => False
  | n + 1, x1, M, k186, Q => ((x1 = 0 → (k186  M)) ∧ (¬ x1 = 0 → ((¬ (mI M 277 5) = 0 → (k186  M)) ∧ ((mI M 277 5) = 0 → (w_X8_look  M (fun y2 M1 => w_X8_qWordOf 10 11 M1 (fun y5 M4 => ((¬ y2 = 40 → (w_X8_isHere 336 M4 (fun y8 M7 => ((¬ y8 = 0 → (w_X8_qPartTold_78 x1 M7 (fun x1 M => w_X8_qPartTold_2 n x1 M k186 Q) k186 Q)) ∧ (y8 = 0 → (w_X8_isHere 337 M7 (fun y40 M39 => ((y40 = 0 → ((y5 = (-1) → (w_X8_qPartTold_2 n 0 M39 k186 Q)) ∧ (¬ y5 = (-1) → (w_X8_qOpens ((60 + y5) - 10) (mI M39 277 2) M39 (fun M43 => w_X8_qAsksWord y5 M43 (fun M46 => w_X8_qPartTold_2 n x1 M46 k186 Q)))))) ∧ (¬ y40 = 0 → (w_X8_qPartTold_78 x1 M39 (fun x1 M => w_X8_qPartTold_2 n x1 M k186 Q) k186 Q)))))))))) ∧ (y2 = 40 → (w_X8_qOpens 20 (mI M4 277 2) M4 (fun M49 => w_X8_qPartTold_2 n x1 (sI M49 277 2 ((mI M49 277 2) + 1)) k186 Q)))))))))))
set_option maxRecDepth 4000 in
theorem c_X8_qPartTold_2 {k186 : pm → Prop} {Q : pm → Prop} (hk186 : ∀  (M : pm), pG M → k186  M → PW mX8_qPartTold 6 350 186 [.ref 277, .null, .null, .null, .null, .null] [] M (qV Q)) : ∀ (n : Nat) (x1 : Int32) (M : pm), pG M → w_X8_qPartTold_2 n x1 M k186 Q → PW mX8_qPartTold 6 350 2 [.ref 277, .int x1, .null, .null, .null, .null] [] M (qV Q) := by
  intro n
  induction n with
  | zero => intro x1 M hM h; exact h.elim
  | succ n ih =>
    intro x1 M hM h
    unfold w_X8_qPartTold_2 at h
    refine PW.iload_n (pc := 2) dX8_qPartTold_2 rfl ?_
    refine PW.if_eq (pc := 3) dX8_qPartTold_3 (t := 186) (by decide) (fun hc => ?_) (fun hc => ?_)
    · have h := h.1 hc
      exact PW.drop (hk186 _ hM h) ⟨rfl, trivial⟩
    · have h := h.2 hc
      refine PW.aload_n (pc := 6) dX8_qPartTold_6 rfl ?_
      refine PW.getI (pc := 7) dX8_qPartTold_7 lf_X8_249 (ob hM.1 s_277 (by decide)) fx_8_5 ?_
      refine PW.if_ne (pc := 10) dX8_qPartTold_10 (t := 186) (by decide) (fun hc => ?_) (fun hc => ?_)
      · have h := h.1 hc
        exact PW.drop (hk186 _ hM h) ⟨rfl, trivial⟩
      · have h := h.2 hc
        refine PW.aload_n (pc := 13) dX8_qPartTold_13 rfl ?_
        refine PW.inv (m' := mX8_look) (pc := 14) dX8_qPartTold_14 lm_X8_261 me_X8_look mi_X8_look (ob hM.1 s_277 (by decide)) rfl (As := []) (st := []) rfl (Nat.le_of_ble_eq_true rfl) (Nat.le_of_ble_eq_true rfl) (Nat.le_of_eq hM.1) (Nat.le_refl _) (PW.deep (by decide) (c_X8_look  hM h)) ?_
        rintro _ M1 ⟨hM3, y2, rfl, h⟩
        refine PW.istore_n (pc := 17) dX8_qPartTold_17 (ls' := [.ref 277, .int x1, .int y2, .null, .null, .null]) (by decide) rfl rfl ?_
        refine PW.aload_n (pc := 18) dX8_qPartTold_18 rfl ?_
        refine PW.bipush (pc := 19) dX8_qPartTold_19 (v := 10) (by decide) ?_
        refine PW.bipush (pc := 21) dX8_qPartTold_21 (v := 11) (by decide) ?_
        refine PW.inv (m' := mX8_qWordOf) (pc := 23) dX8_qPartTold_23 lm_X8_598 me_X8_qWordOf mi_X8_qWordOf (ob hM3.1 s_277 (by decide)) rfl (As := [.int 10, .int 11]) (st := []) rfl (Nat.le_of_ble_eq_true rfl) (Nat.le_of_ble_eq_true rfl) (Nat.le_of_eq hM3.1) (Nat.le_refl _) (PW.deep (by decide) (c_X8_qWordOf  hM3 h)) ?_
        rintro _ M4 ⟨hM6, y5, rfl, h⟩
        refine PW.istore_n (pc := 26) dX8_qPartTold_26 (ls' := [.ref 277, .int x1, .int y2, .int y5, .null, .null]) (by decide) rfl rfl ?_
        refine PW.iload_n (pc := 27) dX8_qPartTold_27 rfl ?_
        refine PW.bipush (pc := 28) dX8_qPartTold_28 (v := 40) (by decide) ?_
        refine PW.icmp_ne (pc := 30) dX8_qPartTold_30 (t := 56) (by decide) (fun hc => ?_) (fun hc => ?_)
        · have h := h.1 hc
          refine PW.aload_n (pc := 56) dX8_qPartTold_56 rfl ?_
          refine PW.aload_n (pc := 57) dX8_qPartTold_57 rfl ?_
          refine PW.getR (pc := 58) dX8_qPartTold_58 (r := 336) lf_X8_195 (ob hM6.1 s_277 (by decide)) fx_8_82 (oR_8_82 hM6 s_277) (pS_ne s_336) ?_
          refine PW.inv (m' := mX8_isHere) (pc := 61) dX8_qPartTold_61 lm_X8_272 me_X8_isHere mi_X8_isHere (ob hM6.1 s_277 (by decide)) rfl (As := [.ref 336]) (st := []) rfl (Nat.le_of_ble_eq_true rfl) (Nat.le_of_ble_eq_true rfl) (Nat.le_of_eq hM6.1) (Nat.le_refl _) (PW.deep (by decide) (c_X8_isHere s_336 hM6 h)) ?_
          rintro _ M7 ⟨hM9, y8, rfl, z10, h⟩
          refine PW.if_ne (pc := 64) dX8_qPartTold_64 (t := 78) (by decide) (fun hc => ?_) (fun hc => ?_)
          · have h := h.1 hc
            exact PW.drop (c_X8_qPartTold_78 ih hk186 _ _ hM9 h) ⟨rfl, rfl, trivial⟩
          · have h := h.2 hc
            refine PW.aload_n (pc := 67) dX8_qPartTold_67 rfl ?_
            refine PW.aload_n (pc := 68) dX8_qPartTold_68 rfl ?_
            refine PW.getR (pc := 69) dX8_qPartTold_69 (r := 337) lf_X8_198 (ob hM9.1 s_277 (by decide)) fx_8_83 (oR_8_83 hM9 s_277) (pS_ne s_337) ?_
            refine PW.inv (m' := mX8_isHere) (pc := 72) dX8_qPartTold_72 lm_X8_272 me_X8_isHere mi_X8_isHere (ob hM9.1 s_277 (by decide)) rfl (As := [.ref 337]) (st := []) rfl (Nat.le_of_ble_eq_true rfl) (Nat.le_of_ble_eq_true rfl) (Nat.le_of_eq hM9.1) (Nat.le_refl _) (PW.deep (by decide) (c_X8_isHere s_337 hM9 h)) ?_
            rintro _ M39 ⟨hM41, y40, rfl, z42, h⟩
            refine PW.if_eq (pc := 75) dX8_qPartTold_75 (t := 153) (by decide) (fun hc => ?_) (fun hc => ?_)
            · have h := h.1 hc
              refine PW.iload_n (pc := 153) dX8_qPartTold_153 rfl ?_
              refine PW.iconst (pc := 154) dX8_qPartTold_154 (v := (-1)) (by decide) ?_
              refine PW.icmp_eq (pc := 155) dX8_qPartTold_155 (t := 181) (by decide) (fun hc => ?_) (fun hc => ?_)
              · have h := h.1 hc
                refine PW.iconst (pc := 181) dX8_qPartTold_181 (v := 0) (by decide) ?_
                refine PW.istore_n (pc := 182) dX8_qPartTold_182 (ls' := [.ref 277, .int 0, .int y2, .int y5, .null, .null]) (by decide) rfl rfl ?_
                refine PW.goto (pc := 183) dX8_qPartTold_183 (t := 2) (by decide) ?_
                exact PW.drop (ih _ _ hM41 h) ⟨rfl, rfl, trivial⟩
              · have h := h.2 hc
                refine PW.aload_n (pc := 158) dX8_qPartTold_158 rfl ?_
                refine PW.bipush (pc := 159) dX8_qPartTold_159 (v := 60) (by decide) ?_
                refine PW.iload_n (pc := 161) dX8_qPartTold_161 rfl ?_
                refine PW.iadd (pc := 162) dX8_qPartTold_162 ?_
                refine PW.bipush (pc := 163) dX8_qPartTold_163 (v := 10) (by decide) ?_
                refine PW.isub (pc := 165) dX8_qPartTold_165 ?_
                refine PW.aload_n (pc := 166) dX8_qPartTold_166 rfl ?_
                refine PW.getI (pc := 167) dX8_qPartTold_167 lf_X8_255 (ob hM41.1 s_277 (by decide)) fx_8_2 ?_
                refine PW.inv (m' := mX8_qOpens) (pc := 170) dX8_qPartTold_170 lm_X8_601 me_X8_qOpens mi_X8_qOpens (ob hM41.1 s_277 (by decide)) rfl (As := [.int ((60 + y5) - 10), .int (mI M39 277 2)]) (st := []) rfl (Nat.le_of_ble_eq_true rfl) (Nat.le_of_ble_eq_true rfl) (Nat.le_of_eq hM41.1) (Nat.le_refl _) (PW.deep (by decide) (c_X8_qOpens  hM41 h)) ?_
                rintro _ M43 ⟨hM45, rfl, h⟩
                refine PW.aload_n (pc := 173) dX8_qPartTold_173 rfl ?_
                refine PW.iload_n (pc := 174) dX8_qPartTold_174 rfl ?_
                refine PW.inv (m' := mX8_qAsksWord) (pc := 175) dX8_qPartTold_175 lm_X8_604 me_X8_qAsksWord mi_X8_qAsksWord (ob hM45.1 s_277 (by decide)) rfl (As := [.int y5]) (st := []) rfl (Nat.le_of_ble_eq_true rfl) (Nat.le_of_ble_eq_true rfl) (Nat.le_of_eq hM45.1) (Nat.le_refl _) (PW.deep (by decide) (c_X8_qAsksWord  hM45 h)) ?_
                rintro _ M46 ⟨hM48, rfl, h⟩
                refine PW.goto (pc := 178) dX8_qPartTold_178 (t := 183) (by decide) ?_
                refine PW.goto (pc := 183) dX8_qPartTold_183 (t := 2) (by decide) ?_
                exact PW.drop (ih _ _ hM48 h) ⟨rfl, rfl, trivial⟩
            · have h := h.2 hc
              exact PW.drop (c_X8_qPartTold_78 ih hk186 _ _ hM41 h) ⟨rfl, rfl, trivial⟩
        · have h := h.2 hc
          refine PW.aload_n (pc := 33) dX8_qPartTold_33 rfl ?_
          refine PW.bipush (pc := 34) dX8_qPartTold_34 (v := 20) (by decide) ?_
          refine PW.aload_n (pc := 36) dX8_qPartTold_36 rfl ?_
          refine PW.getI (pc := 37) dX8_qPartTold_37 lf_X8_255 (ob hM6.1 s_277 (by decide)) fx_8_2 ?_
          refine PW.inv (m' := mX8_qOpens) (pc := 40) dX8_qPartTold_40 lm_X8_601 me_X8_qOpens mi_X8_qOpens (ob hM6.1 s_277 (by decide)) rfl (As := [.int 20, .int (mI M4 277 2)]) (st := []) rfl (Nat.le_of_ble_eq_true rfl) (Nat.le_of_ble_eq_true rfl) (Nat.le_of_eq hM6.1) (Nat.le_refl _) (PW.deep (by decide) (c_X8_qOpens  hM6 h)) ?_
          rintro _ M49 ⟨hM51, rfl, h⟩
          refine PW.aload_n (pc := 43) dX8_qPartTold_43 rfl ?_
          refine PW.dupR (pc := 44) dX8_qPartTold_44 ?_
          refine PW.getI (pc := 45) dX8_qPartTold_45 lf_X8_255 (ob hM51.1 s_277 (by decide)) fx_8_2 ?_
          refine PW.iconst (pc := 48) dX8_qPartTold_48 (v := 1) (by decide) ?_
          refine PW.iadd (pc := 49) dX8_qPartTold_49 ?_
          refine PW.putI (pc := 50) dX8_qPartTold_50 lf_X8_255 (ob hM51.1 s_277 (by decide)) fx_8_2 fw_8_2 rfl rfl ?_
          refine PW.goto (pc := 53) dX8_qPartTold_53 (t := 183) (by decide) ?_
          refine PW.goto (pc := 183) dX8_qPartTold_183 (t := 2) (by decide) ?_
          exact PW.drop (ih _ _ (hM51.same rfl rfl) h) ⟨rfl, rfl, trivial⟩
def w_X8_qPartTold_212  (x2 : Int32) (M : pm)  (Q : pm → Prop) : Prop := ((x2 = (-1) → (w_X8_number 0 9999 M (fun y58 M57 => w_X8_qCode (1000 + y58) M57 (fun M60 => w_X8_qEndsPart  M60 (fun M63 => Q M63))))) ∧ (¬ x2 = (-1) → (w_X8_qCode (40 + x2) M (fun M66 => w_X8_qEndsPart  M66 (fun M69 => Q M69)))))
set_option maxRecDepth 4000 in
theorem c_X8_qPartTold_212  {Q : pm → Prop}  : ∀ (x2 : Int32) (M : pm), pG M → w_X8_qPartTold_212 x2 M  Q → PW mX8_qPartTold 6 350 212 [.ref 277, .null, .int x2, .null, .null, .null] [] M (qV Q) := by
  intro x2 M hM h
  unfold w_X8_qPartTold_212 at h
  refine PW.aload_n (pc := 212) dX8_qPartTold_212 rfl ?_
  refine PW.iload_n (pc := 213) dX8_qPartTold_213 rfl ?_
  refine PW.iconst (pc := 214) dX8_qPartTold_214 (v := (-1)) (by decide) ?_
  refine PW.icmp_eq (pc := 215) dX8_qPartTold_215 (t := 225) (by decide) (fun hc => ?_) (fun hc => ?_)
  · have h := h.1 hc
    refine PW.sipush (pc := 225) dX8_qPartTold_225 (v := 1000) (by decide) ?_
    refine PW.aload_n (pc := 228) dX8_qPartTold_228 rfl ?_
    refine PW.iconst (pc := 229) dX8_qPartTold_229 (v := 0) (by decide) ?_
    refine PW.sipush (pc := 230) dX8_qPartTold_230 (v := 9999) (by decide) ?_
    refine PW.inv (m' := mX8_number) (pc := 233) dX8_qPartTold_233 lm_X8_315 me_X8_number mi_X8_number (ob hM.1 s_277 (by decide)) rfl (As := [.int 0, .int 9999]) (st := [.int 1000, .ref 277]) rfl (Nat.le_of_ble_eq_true rfl) (Nat.le_of_ble_eq_true rfl) (Nat.le_of_eq hM.1) (Nat.le_refl _) (PW.deep (by decide) (c_X8_number  hM h)) ?_
    rintro _ M57 ⟨hM59, y58, rfl, h⟩
    refine PW.iadd (pc := 236) dX8_qPartTold_236 ?_
    refine PW.inv (m' := mX8_qCode) (pc := 237) dX8_qPartTold_237 lm_X8_583 me_X8_qCode mi_X8_qCode (ob hM59.1 s_277 (by decide)) rfl (As := [.int (1000 + y58)]) (st := []) rfl (Nat.le_of_ble_eq_true rfl) (Nat.le_of_ble_eq_true rfl) (Nat.le_of_eq hM59.1) (Nat.le_refl _) (PW.deep (by decide) (c_X8_qCode  hM59 h)) ?_
    rintro _ M60 ⟨hM62, rfl, h⟩
    refine PW.aload_n (pc := 240) dX8_qPartTold_240 rfl ?_
    refine PW.inv (m' := mX8_qEndsPart) (pc := 241) dX8_qPartTold_241 lm_X8_607 me_X8_qEndsPart mi_X8_qEndsPart (ob hM62.1 s_277 (by decide)) rfl (As := []) (st := []) rfl (Nat.le_of_ble_eq_true rfl) (Nat.le_of_ble_eq_true rfl) (Nat.le_of_eq hM62.1) (Nat.le_refl _) (PW.deep (by decide) (c_X8_qEndsPart  hM62 h)) ?_
    rintro _ M63 ⟨hM65, rfl, h⟩
    exact PW.ret0 (pc := 244) dX8_qPartTold_244 hM65.1 rfl ⟨hM65, rfl, h⟩
  · have h := h.2 hc
    refine PW.bipush (pc := 218) dX8_qPartTold_218 (v := 40) (by decide) ?_
    refine PW.iload_n (pc := 220) dX8_qPartTold_220 rfl ?_
    refine PW.iadd (pc := 221) dX8_qPartTold_221 ?_
    refine PW.goto (pc := 222) dX8_qPartTold_222 (t := 237) (by decide) ?_
    refine PW.inv (m' := mX8_qCode) (pc := 237) dX8_qPartTold_237 lm_X8_583 me_X8_qCode mi_X8_qCode (ob hM.1 s_277 (by decide)) rfl (As := [.int (40 + x2)]) (st := []) rfl (Nat.le_of_ble_eq_true rfl) (Nat.le_of_ble_eq_true rfl) (Nat.le_of_eq hM.1) (Nat.le_refl _) (PW.deep (by decide) (c_X8_qCode  hM h)) ?_
    rintro _ M66 ⟨hM68, rfl, h⟩
    refine PW.aload_n (pc := 240) dX8_qPartTold_240 rfl ?_
    refine PW.inv (m' := mX8_qEndsPart) (pc := 241) dX8_qPartTold_241 lm_X8_607 me_X8_qEndsPart mi_X8_qEndsPart (ob hM68.1 s_277 (by decide)) rfl (As := []) (st := []) rfl (Nat.le_of_ble_eq_true rfl) (Nat.le_of_ble_eq_true rfl) (Nat.le_of_eq hM68.1) (Nat.le_refl _) (PW.deep (by decide) (c_X8_qEndsPart  hM68 h)) ?_
    rintro _ M69 ⟨hM71, rfl, h⟩
    exact PW.ret0 (pc := 244) dX8_qPartTold_244 hM71.1 rfl ⟨hM71, rfl, h⟩
def w_X8_qPartTold_186   (M : pm)  (Q : pm → Prop) : Prop := (((mI M 277 5) = 0 → (w_X8_qWordOf 0 10 M (fun y55 M54 => ((y55 = (-1) → (w_X8_qPartTold_212 y55 M54  Q)) ∧ (¬ y55 = (-1) → (w_X8_qAsksWord y55 M54 (fun M72 => w_X8_qPartTold_212 y55 M72  Q))))))) ∧ (¬ (mI M 277 5) = 0 → (Q M)))
set_option maxRecDepth 4000 in
theorem c_X8_qPartTold_186  {Q : pm → Prop}  : ∀  (M : pm), pG M → w_X8_qPartTold_186  M  Q → PW mX8_qPartTold 6 350 186 [.ref 277, .null, .null, .null, .null, .null] [] M (qV Q) := by
  intro M hM h
  unfold w_X8_qPartTold_186 at h
  refine PW.aload_n (pc := 186) dX8_qPartTold_186 rfl ?_
  refine PW.getI (pc := 187) dX8_qPartTold_187 lf_X8_249 (ob hM.1 s_277 (by decide)) fx_8_5 ?_
  refine PW.if_eq (pc := 190) dX8_qPartTold_190 (t := 194) (by decide) (fun hc => ?_) (fun hc => ?_)
  · have h := h.1 hc
    refine PW.aload_n (pc := 194) dX8_qPartTold_194 rfl ?_
    refine PW.iconst (pc := 195) dX8_qPartTold_195 (v := 0) (by decide) ?_
    refine PW.bipush (pc := 196) dX8_qPartTold_196 (v := 10) (by decide) ?_
    refine PW.inv (m' := mX8_qWordOf) (pc := 198) dX8_qPartTold_198 lm_X8_598 me_X8_qWordOf mi_X8_qWordOf (ob hM.1 s_277 (by decide)) rfl (As := [.int 0, .int 10]) (st := []) rfl (Nat.le_of_ble_eq_true rfl) (Nat.le_of_ble_eq_true rfl) (Nat.le_of_eq hM.1) (Nat.le_refl _) (PW.deep (by decide) (c_X8_qWordOf  hM h)) ?_
    rintro _ M54 ⟨hM56, y55, rfl, h⟩
    refine PW.istore_n (pc := 201) dX8_qPartTold_201 (ls' := [.ref 277, .null, .int y55, .null, .null, .null]) (by decide) rfl rfl ?_
    refine PW.iload_n (pc := 202) dX8_qPartTold_202 rfl ?_
    refine PW.iconst (pc := 203) dX8_qPartTold_203 (v := (-1)) (by decide) ?_
    refine PW.icmp_eq (pc := 204) dX8_qPartTold_204 (t := 212) (by decide) (fun hc => ?_) (fun hc => ?_)
    · have h := h.1 hc
      exact PW.drop (c_X8_qPartTold_212  _ _ hM56 h) ⟨rfl, rfl, trivial⟩
    · have h := h.2 hc
      refine PW.aload_n (pc := 207) dX8_qPartTold_207 rfl ?_
      refine PW.iload_n (pc := 208) dX8_qPartTold_208 rfl ?_
      refine PW.inv (m' := mX8_qAsksWord) (pc := 209) dX8_qPartTold_209 lm_X8_604 me_X8_qAsksWord mi_X8_qAsksWord (ob hM56.1 s_277 (by decide)) rfl (As := [.int y55]) (st := []) rfl (Nat.le_of_ble_eq_true rfl) (Nat.le_of_ble_eq_true rfl) (Nat.le_of_eq hM56.1) (Nat.le_refl _) (PW.deep (by decide) (c_X8_qAsksWord  hM56 h)) ?_
      rintro _ M72 ⟨hM74, rfl, h⟩
      exact PW.drop (c_X8_qPartTold_212  _ _ hM74 h) ⟨rfl, rfl, trivial⟩
  · have h := h.2 hc
    exact PW.ret0 (pc := 193) dX8_qPartTold_193 hM.1 rfl ⟨hM, rfl, h⟩
def w_X8_qPartTold  (M : pm) (Q : pm → Prop) : Prop := ∃ n52, w_X8_qPartTold_2 n52 1 M (fun M53 => w_X8_qPartTold_186  M53  Q) Q
set_option maxRecDepth 4000 in
theorem c_X8_qPartTold  {M : pm} {Q : pm → Prop}  (hM : pG M) (h : w_X8_qPartTold  M Q) : PW mX8_qPartTold 6 350 0 (pfr mX8_qPartTold.2.2.1 [.ref 277]) [] M (qV Q) := by
  unfold w_X8_qPartTold at h
  show PW mX8_qPartTold 6 350 0 [.ref 277, .null, .null, .null, .null, .null] [] M (qV Q)
  refine PW.iconst (pc := 0) dX8_qPartTold_0 (v := 1) (by decide) ?_
  refine PW.istore_n (pc := 1) dX8_qPartTold_1 (ls' := [.ref 277, .int 1, .null, .null, .null, .null]) (by decide) rfl rfl ?_
  obtain ⟨n52, h⟩ := h
  refine PW.drop (c_X8_qPartTold_2 ?_ n52 _ _ hM h) ⟨rfl, rfl, trivial⟩
  · intro M53 hM h
    exact PW.drop (c_X8_qPartTold_186  _ hM h) ⟨rfl, trivial⟩
def w_X8_qIsBracket (x0 : Int32) (M : pm) (Q : Int32 → pm → Prop) : Prop := ((x0 < 20 → (Q 0 M)) ∧ (¬ x0 < 20 → ((24 < x0 → (Q 0 M)) ∧ (¬ 24 < x0 → (Q 1 M)))))
set_option maxRecDepth 4000 in
theorem c_X8_qIsBracket {x0 : Int32} {M : pm} {Q : Int32 → pm → Prop}  (hM : pG M) (h : w_X8_qIsBracket x0 M Q) : PW mX8_qIsBracket 1 350 0 (pfr mX8_qIsBracket.2.2.1 [.int x0]) [] M (qZ Q) := by
  unfold w_X8_qIsBracket at h
  show PW mX8_qIsBracket 1 350 0 [.int x0] [] M (qZ Q)
  refine PW.iload_n (pc := 0) dX8_qIsBracket_0 rfl ?_
  refine PW.bipush (pc := 1) dX8_qIsBracket_1 (v := 20) (by decide) ?_
  refine PW.icmp_lt (pc := 3) dX8_qIsBracket_3 (t := 16) (by decide) (fun hc => ?_) (fun hc => ?_)
  · have h := h.1 hc
    refine PW.iconst (pc := 16) dX8_qIsBracket_16 (v := 0) (by decide) ?_
    exact PW.retI (pc := 17) dX8_qIsBracket_17 hM.1 rfl (bz_n bz0) ⟨hM, _, rfl, bz0, h⟩
  · have h := h.2 hc
    refine PW.iload_n (pc := 6) dX8_qIsBracket_6 rfl ?_
    refine PW.bipush (pc := 7) dX8_qIsBracket_7 (v := 24) (by decide) ?_
    refine PW.icmp_gt (pc := 9) dX8_qIsBracket_9 (t := 16) (by decide) (fun hc => ?_) (fun hc => ?_)
    · have h := h.1 hc
      refine PW.iconst (pc := 16) dX8_qIsBracket_16 (v := 0) (by decide) ?_
      exact PW.retI (pc := 17) dX8_qIsBracket_17 hM.1 rfl (bz_n bz0) ⟨hM, _, rfl, bz0, h⟩
    · have h := h.2 hc
      refine PW.iconst (pc := 12) dX8_qIsBracket_12 (v := 1) (by decide) ?_
      refine PW.goto (pc := 13) dX8_qIsBracket_13 (t := 17) (by decide) ?_
      exact PW.retI (pc := 17) dX8_qIsBracket_17 hM.1 rfl (bz_n bz1) ⟨hM, _, rfl, bz1, h⟩
def w_X8_qBracket_7 : Nat → Int32 → pm → (Int32 → pm → Prop) → Prop
  | 0, _, _, _ => False
  | n + 1, x1, M, Q => ((x1 < (mI M 277 100) → ((x1 < (mI M 277 100) → (Q (-1) M)) ∧ (¬ x1 < (mI M 277 100) → (vp_in x1 1700 ∧ (Q (mI M 350 x1.toNatClampNeg) M))))) ∧ (¬ x1 < (mI M 277 100) → (vp_in x1 1700 ∧ (w_X8_qIsBracket (mI M 350 x1.toNatClampNeg) M (fun y4 M3 => ((¬ y4 = 0 → ((x1 < (mI M3 277 100) → (Q (-1) M3)) ∧ (¬ x1 < (mI M3 277 100) → (vp_in x1 1700 ∧ (Q (mI M3 350 x1.toNatClampNeg) M3))))) ∧ (y4 = 0 → (w_X8_qBracket_7 n (x1 + (-1)) M3 Q))))))))
set_option maxRecDepth 4000 in
theorem c_X8_qBracket_7  {Q : Int32 → pm → Prop}  : ∀ (n : Nat) (x1 : Int32) (M : pm), pG M → w_X8_qBracket_7 n x1 M  Q → PW mX8_qBracket 2 350 7 [.ref 277, .int x1] [] M (qI Q) := by
  intro n
  induction n with
  | zero => intro x1 M hM h; exact h.elim
  | succ n ih =>
    intro x1 M hM h
    unfold w_X8_qBracket_7 at h
    refine PW.iload_n (pc := 7) dX8_qBracket_7 rfl ?_
    refine PW.aload_n (pc := 8) dX8_qBracket_8 rfl ?_
    refine PW.getI (pc := 9) dX8_qBracket_9 lf_X8_346 (ob hM.1 s_277 (by decide)) fx_8_100 ?_
    refine PW.icmp_lt (pc := 12) dX8_qBracket_12 (t := 33) (by decide) (fun hc => ?_) (fun hc => ?_)
    · have h := h.1 hc
      refine PW.iload_n (pc := 33) dX8_qBracket_33 rfl ?_
      refine PW.aload_n (pc := 34) dX8_qBracket_34 rfl ?_
      refine PW.getI (pc := 35) dX8_qBracket_35 lf_X8_346 (ob hM.1 s_277 (by decide)) fx_8_100 ?_
      refine PW.icmp_lt (pc := 38) dX8_qBracket_38 (t := 50) (by decide) (fun hc => ?_) (fun hc => ?_)
      · have h := h.1 hc
        refine PW.iconst (pc := 50) dX8_qBracket_50 (v := (-1)) (by decide) ?_
        exact PW.retI (pc := 51) dX8_qBracket_51 hM.1 rfl rfl ⟨hM, _, rfl, h⟩
      · have h := h.2 hc
        refine PW.aload_n (pc := 41) dX8_qBracket_41 rfl ?_
        refine PW.getR (pc := 42) dX8_qBracket_42 (r := 350) lf_X8_237 (ob hM.1 s_277 (by decide)) fx_8_97 (oR_8_97 hM s_277) (pS_ne s_350) ?_
        refine PW.iload_n (pc := 45) dX8_qBracket_45 rfl ?_
        obtain ⟨v1, h⟩ := h
        refine PW.iald (pc := 46) dX8_qBracket_46 (ar hM.1 s_350) (vpl n_350 v1) ?_
        refine PW.goto (pc := 47) dX8_qBracket_47 (t := 51) (by decide) ?_
        exact PW.retI (pc := 51) dX8_qBracket_51 hM.1 rfl rfl ⟨hM, _, rfl, h⟩
    · have h := h.2 hc
      refine PW.aload_n (pc := 15) dX8_qBracket_15 rfl ?_
      refine PW.getR (pc := 16) dX8_qBracket_16 (r := 350) lf_X8_237 (ob hM.1 s_277 (by decide)) fx_8_97 (oR_8_97 hM s_277) (pS_ne s_350) ?_
      refine PW.iload_n (pc := 19) dX8_qBracket_19 rfl ?_
      obtain ⟨v2, h⟩ := h
      refine PW.iald (pc := 20) dX8_qBracket_20 (ar hM.1 s_350) (vpl n_350 v2) ?_
      refine PW.ins (m' := mX8_qIsBracket) (pc := 21) dX8_qBracket_21 lm_X8_586 me_X8_qIsBracket ms_X8_qIsBracket (As := [.int (mI M 350 x1.toNatClampNeg)]) (st := []) rfl (Nat.le_of_ble_eq_true rfl) (Nat.le_of_ble_eq_true rfl) (Nat.le_of_eq hM.1) (Nat.le_refl _) (PW.deep (by decide) (c_X8_qIsBracket  hM h)) ?_
      rintro _ M3 ⟨hM5, y4, rfl, z6, h⟩
      refine PW.if_ne (pc := 24) dX8_qBracket_24 (t := 33) (by decide) (fun hc => ?_) (fun hc => ?_)
      · have h := h.1 hc
        refine PW.iload_n (pc := 33) dX8_qBracket_33 rfl ?_
        refine PW.aload_n (pc := 34) dX8_qBracket_34 rfl ?_
        refine PW.getI (pc := 35) dX8_qBracket_35 lf_X8_346 (ob hM5.1 s_277 (by decide)) fx_8_100 ?_
        refine PW.icmp_lt (pc := 38) dX8_qBracket_38 (t := 50) (by decide) (fun hc => ?_) (fun hc => ?_)
        · have h := h.1 hc
          refine PW.iconst (pc := 50) dX8_qBracket_50 (v := (-1)) (by decide) ?_
          exact PW.retI (pc := 51) dX8_qBracket_51 hM5.1 rfl rfl ⟨hM5, _, rfl, h⟩
        · have h := h.2 hc
          refine PW.aload_n (pc := 41) dX8_qBracket_41 rfl ?_
          refine PW.getR (pc := 42) dX8_qBracket_42 (r := 350) lf_X8_237 (ob hM5.1 s_277 (by decide)) fx_8_97 (oR_8_97 hM5 s_277) (pS_ne s_350) ?_
          refine PW.iload_n (pc := 45) dX8_qBracket_45 rfl ?_
          obtain ⟨v7, h⟩ := h
          refine PW.iald (pc := 46) dX8_qBracket_46 (ar hM5.1 s_350) (vpl n_350 v7) ?_
          refine PW.goto (pc := 47) dX8_qBracket_47 (t := 51) (by decide) ?_
          exact PW.retI (pc := 51) dX8_qBracket_51 hM5.1 rfl rfl ⟨hM5, _, rfl, h⟩
      · have h := h.2 hc
        refine PW.iinc (pc := 27) dX8_qBracket_27 (v := (x1 + (-1))) (ls' := [.ref 277, .int (x1 + (-1))]) rfl rfl (by decide) rfl rfl ?_
        refine PW.goto (pc := 30) dX8_qBracket_30 (t := 7) (by decide) ?_
        exact PW.drop (ih _ _ hM5 h) ⟨rfl, rfl, trivial⟩
def w_X8_qBracket  (M : pm) (Q : Int32 → pm → Prop) : Prop := ∃ n8, w_X8_qBracket_7 n8 ((mI M 277 98) - 1) M  Q
set_option maxRecDepth 4000 in
theorem c_X8_qBracket  {M : pm} {Q : Int32 → pm → Prop}  (hM : pG M) (h : w_X8_qBracket  M Q) : PW mX8_qBracket 2 350 0 (pfr mX8_qBracket.2.2.1 [.ref 277]) [] M (qI Q) := by
  unfold w_X8_qBracket at h
  show PW mX8_qBracket 2 350 0 [.ref 277, .null] [] M (qI Q)
  refine PW.aload_n (pc := 0) dX8_qBracket_0 rfl ?_
  refine PW.getI (pc := 1) dX8_qBracket_1 lf_X8_340 (ob hM.1 s_277 (by decide)) fx_8_98 ?_
  refine PW.iconst (pc := 4) dX8_qBracket_4 (v := 1) (by decide) ?_
  refine PW.isub (pc := 5) dX8_qBracket_5 ?_
  refine PW.istore_n (pc := 6) dX8_qBracket_6 (ls' := [.ref 277, .int ((mI M 277 98) - 1)]) (by decide) rfl rfl ?_
  obtain ⟨n8, h⟩ := h
  refine PW.drop (c_X8_qBracket_7  n8 _ _ hM h) ⟨rfl, rfl, trivial⟩
def w_X8_qDropsToBracket_0 : Nat → pm → (pm → Prop) → Prop
  | 0, _, _ => False
  | n + 1, M, Q => (((mI M 277 98) ≤ (mI M 277 100) → (Q M)) ∧ (¬ (mI M 277 98) ≤ (mI M 277 100) → (vp_in ((mI M 277 98) - 1) 1700 ∧ (w_X8_qIsBracket (mI M 350 (((mI M 277 98) - 1).toNatClampNeg)) M (fun y3 M2 => ((¬ y3 = 0 → (Q M2)) ∧ (y3 = 0 → (w_X8_qDrops  M2 (fun M6 => w_X8_qDropsToBracket_0 n M6 Q)))))))))
set_option maxRecDepth 4000 in
theorem c_X8_qDropsToBracket_0  {Q : pm → Prop}  : ∀ (n : Nat)  (M : pm), pG M → w_X8_qDropsToBracket_0 n  M  Q → PW mX8_qDropsToBracket 3 350 0 [.ref 277] [] M (qV Q) := by
  intro n
  induction n with
  | zero => intro M hM h; exact h.elim
  | succ n ih =>
    intro M hM h
    unfold w_X8_qDropsToBracket_0 at h
    refine PW.aload_n (pc := 0) dX8_qDropsToBracket_0 rfl ?_
    refine PW.getI (pc := 1) dX8_qDropsToBracket_1 lf_X8_340 (ob hM.1 s_277 (by decide)) fx_8_98 ?_
    refine PW.aload_n (pc := 4) dX8_qDropsToBracket_4 rfl ?_
    refine PW.getI (pc := 5) dX8_qDropsToBracket_5 lf_X8_346 (ob hM.1 s_277 (by decide)) fx_8_100 ?_
    refine PW.icmp_le (pc := 8) dX8_qDropsToBracket_8 (t := 35) (by decide) (fun hc => ?_) (fun hc => ?_)
    · have h := h.1 hc
      exact PW.ret0 (pc := 35) dX8_qDropsToBracket_35 hM.1 rfl ⟨hM, rfl, h⟩
    · have h := h.2 hc
      refine PW.aload_n (pc := 11) dX8_qDropsToBracket_11 rfl ?_
      refine PW.getR (pc := 12) dX8_qDropsToBracket_12 (r := 350) lf_X8_237 (ob hM.1 s_277 (by decide)) fx_8_97 (oR_8_97 hM s_277) (pS_ne s_350) ?_
      refine PW.aload_n (pc := 15) dX8_qDropsToBracket_15 rfl ?_
      refine PW.getI (pc := 16) dX8_qDropsToBracket_16 lf_X8_340 (ob hM.1 s_277 (by decide)) fx_8_98 ?_
      refine PW.iconst (pc := 19) dX8_qDropsToBracket_19 (v := 1) (by decide) ?_
      refine PW.isub (pc := 20) dX8_qDropsToBracket_20 ?_
      obtain ⟨v1, h⟩ := h
      refine PW.iald (pc := 21) dX8_qDropsToBracket_21 (ar hM.1 s_350) (vpl n_350 v1) ?_
      refine PW.ins (m' := mX8_qIsBracket) (pc := 22) dX8_qDropsToBracket_22 lm_X8_586 me_X8_qIsBracket ms_X8_qIsBracket (As := [.int (mI M 350 (((mI M 277 98) - 1).toNatClampNeg))]) (st := []) rfl (Nat.le_of_ble_eq_true rfl) (Nat.le_of_ble_eq_true rfl) (Nat.le_of_eq hM.1) (Nat.le_refl _) (PW.deep (by decide) (c_X8_qIsBracket  hM h)) ?_
      rintro _ M2 ⟨hM4, y3, rfl, z5, h⟩
      refine PW.if_ne (pc := 25) dX8_qDropsToBracket_25 (t := 35) (by decide) (fun hc => ?_) (fun hc => ?_)
      · have h := h.1 hc
        exact PW.ret0 (pc := 35) dX8_qDropsToBracket_35 hM4.1 rfl ⟨hM4, rfl, h⟩
      · have h := h.2 hc
        refine PW.aload_n (pc := 28) dX8_qDropsToBracket_28 rfl ?_
        refine PW.inv (m' := mX8_qDrops) (pc := 29) dX8_qDropsToBracket_29 lm_X8_589 me_X8_qDrops mi_X8_qDrops (ob hM4.1 s_277 (by decide)) rfl (As := []) (st := []) rfl (Nat.le_of_ble_eq_true rfl) (Nat.le_of_ble_eq_true rfl) (Nat.le_of_eq hM4.1) (Nat.le_refl _) (PW.deep (by decide) (c_X8_qDrops  hM4 h)) ?_
        rintro _ M6 ⟨hM8, rfl, h⟩
        refine PW.goto (pc := 32) dX8_qDropsToBracket_32 (t := 0) (by decide) ?_
        exact PW.drop (ih _ hM8 h) ⟨rfl, trivial⟩
def w_X8_qDropsToBracket  (M : pm) (Q : pm → Prop) : Prop := ∃ n9, w_X8_qDropsToBracket_0 n9  M  Q
set_option maxRecDepth 4000 in
theorem c_X8_qDropsToBracket  {M : pm} {Q : pm → Prop}  (hM : pG M) (h : w_X8_qDropsToBracket  M Q) : PW mX8_qDropsToBracket 3 350 0 (pfr mX8_qDropsToBracket.2.2.1 [.ref 277]) [] M (qV Q) := by
  unfold w_X8_qDropsToBracket at h
  show PW mX8_qDropsToBracket 3 350 0 [.ref 277] [] M (qV Q)
  obtain ⟨n9, h⟩ := h
  refine PW.drop (c_X8_qDropsToBracket_0  n9 _ hM h) ⟨rfl, trivial⟩
def w_X8_qIsOn (x1 : Int32) (M : pm) (Q : Int32 → pm → Prop) : Prop := (((mI M 277 98) ≤ 0 → (Q 0 M)) ∧ (¬ (mI M 277 98) ≤ 0 → (vp_in ((mI M 277 98) - 1) 1700 ∧ ((¬ (mI M 350 (((mI M 277 98) - 1).toNatClampNeg)) = x1 → (Q 0 M)) ∧ ((mI M 350 (((mI M 277 98) - 1).toNatClampNeg)) = x1 → (Q 1 M))))))
set_option maxRecDepth 4000 in
theorem c_X8_qIsOn {x1 : Int32} {M : pm} {Q : Int32 → pm → Prop}  (hM : pG M) (h : w_X8_qIsOn x1 M Q) : PW mX8_qIsOn 1 350 0 (pfr mX8_qIsOn.2.2.1 [.ref 277, .int x1]) [] M (qZ Q) := by
  unfold w_X8_qIsOn at h
  show PW mX8_qIsOn 1 350 0 [.ref 277, .int x1] [] M (qZ Q)
  refine PW.aload_n (pc := 0) dX8_qIsOn_0 rfl ?_
  refine PW.getI (pc := 1) dX8_qIsOn_1 lf_X8_340 (ob hM.1 s_277 (by decide)) fx_8_98 ?_
  refine PW.if_le (pc := 4) dX8_qIsOn_4 (t := 26) (by decide) (fun hc => ?_) (fun hc => ?_)
  · have h := h.1 hc
    refine PW.iconst (pc := 26) dX8_qIsOn_26 (v := 0) (by decide) ?_
    exact PW.retI (pc := 27) dX8_qIsOn_27 hM.1 rfl (bz_n bz0) ⟨hM, _, rfl, bz0, h⟩
  · have h := h.2 hc
    refine PW.aload_n (pc := 7) dX8_qIsOn_7 rfl ?_
    refine PW.getR (pc := 8) dX8_qIsOn_8 (r := 350) lf_X8_237 (ob hM.1 s_277 (by decide)) fx_8_97 (oR_8_97 hM s_277) (pS_ne s_350) ?_
    refine PW.aload_n (pc := 11) dX8_qIsOn_11 rfl ?_
    refine PW.getI (pc := 12) dX8_qIsOn_12 lf_X8_340 (ob hM.1 s_277 (by decide)) fx_8_98 ?_
    refine PW.iconst (pc := 15) dX8_qIsOn_15 (v := 1) (by decide) ?_
    refine PW.isub (pc := 16) dX8_qIsOn_16 ?_
    obtain ⟨v1, h⟩ := h
    refine PW.iald (pc := 17) dX8_qIsOn_17 (ar hM.1 s_350) (vpl n_350 v1) ?_
    refine PW.iload_n (pc := 18) dX8_qIsOn_18 rfl ?_
    refine PW.icmp_ne (pc := 19) dX8_qIsOn_19 (t := 26) (by decide) (fun hc => ?_) (fun hc => ?_)
    · have h := h.1 hc
      refine PW.iconst (pc := 26) dX8_qIsOn_26 (v := 0) (by decide) ?_
      exact PW.retI (pc := 27) dX8_qIsOn_27 hM.1 rfl (bz_n bz0) ⟨hM, _, rfl, bz0, h⟩
    · have h := h.2 hc
      refine PW.iconst (pc := 22) dX8_qIsOn_22 (v := 1) (by decide) ?_
      refine PW.goto (pc := 23) dX8_qIsOn_23 (t := 27) (by decide) ?_
      exact PW.retI (pc := 27) dX8_qIsOn_27 hM.1 rfl (bz_n bz1) ⟨hM, _, rfl, bz1, h⟩
