/-! methods, walked by program: w_ what must hold before, c_ its proof -/
def w_X8_statementTold  (M : pm) (Q : pm → Prop) : Prop := ((¬ (mI M 277 49) = 80 → (w_X8_takes 281 M (fun y2 M1 => ((y2 = 0 → (w_X8_takes 284 M1 (fun y5 M4 => ((y5 = 0 → (w_X8_takes 288 M4 (fun y8 M7 => ((y8 = 0 → (w_X8_takes 290 M7 (fun y11 M10 => ((y11 = 0 → (w_X8_takes 291 M10 (fun y14 M13 => ((y14 = 0 → (w_X8_takes 292 M13 (fun y17 M16 => ((y17 = 0 → (w_X8_takes 293 M16 (fun y20 M19 => ((y20 = 0 → (w_X8_asks 294 M19 (fun M22 => w_X8_number 0 100 M22 (fun y25 M24 => w_X8_asksSign 59 (sI M24 308 2 y25) (fun M26 => Q (sI M26 277 49 ((mI M26 277 49) + 1))))))) ∧ (¬ y20 = 0 → (w_X8_number 0 999 M19 (fun y29 M28 => w_X8_asksSign 59 (sI M28 308 1 y29) (fun M30 => Q (sI M30 277 49 ((mI M30 277 49) + 1)))))))))) ∧ (¬ y17 = 0 → (w_X8_codesTold 2 (mI M 277 2) M16 (fun M32 => w_X8_asksSign 59 M32 (fun M34 => Q (sI M34 277 49 ((mI M34 277 49) + 1)))))))))) ∧ (¬ y14 = 0 → (w_X8_codesTold 1 (mI M 277 2) M13 (fun M36 => w_X8_asksSign 59 M36 (fun M38 => Q (sI M38 277 49 ((mI M38 277 49) + 1)))))))))) ∧ (¬ y11 = 0 → (w_X8_codesTold 0 (mI M 277 2) M10 (fun M40 => w_X8_asksSign 59 M40 (fun M42 => Q (sI M42 277 49 ((mI M42 277 49) + 1)))))))))) ∧ (¬ y8 = 0 → (w_X8_earTold (mI M 277 2) M7 (fun M44 => w_X8_asksSign 59 M44 (fun M46 => Q (sI M46 277 49 ((mI M46 277 49) + 1)))))))))) ∧ (¬ y5 = 0 → (w_X8_askerTold (mI M 277 2) M4 (fun M48 => w_X8_asksSign 59 M48 (fun M50 => Q (sI M50 277 49 ((mI M50 277 49) + 1)))))))))) ∧ (¬ y2 = 0 → (w_X8_songTold (mI M 277 2) M1 (fun M52 => w_X8_asksSign 59 M52 (fun M54 => Q (sI M54 277 49 ((mI M54 277 49) + 1)))))))))) ∧ ((mI M 277 49) = 80 → (w_X8_fail 5 (mI M 277 2) M (fun M56 => Q M56))))
set_option maxRecDepth 4000 in
theorem c_X8_statementTold  {M : pm} {Q : pm → Prop}  (hM : pG M) (h : w_X8_statementTold  M Q) : PW mX8_statementTold 11 350 0 (pfr mX8_statementTold.2.2.1 [.ref 277]) [] M (qV Q) := by
  unfold w_X8_statementTold at h
  show PW mX8_statementTold 11 350 0 [.ref 277, .null] [] M (qV Q)
  refine PW.aload_n (pc := 0) dX8_statementTold_0 rfl ?_
  refine PW.getI (pc := 1) dX8_statementTold_1 lf_X8_255 (ob hM.1 s_277 (by decide)) fx_8_2 ?_
  refine PW.istore_n (pc := 4) dX8_statementTold_4 (ls' := [.ref 277, .int (mI M 277 2)]) (by decide) rfl rfl ?_
  refine PW.aload_n (pc := 5) dX8_statementTold_5 rfl ?_
  refine PW.getI (pc := 6) dX8_statementTold_6 lf_X8_358 (ob hM.1 s_277 (by decide)) fx_8_49 ?_
  refine PW.bipush (pc := 9) dX8_statementTold_9 (v := 80) (by decide) ?_
  refine PW.icmp_ne (pc := 11) dX8_statementTold_11 (t := 21) (by decide) (fun hc => ?_) (fun hc => ?_)
  · have h := h.1 hc
    refine PW.aload_n (pc := 21) dX8_statementTold_21 rfl ?_
    refine PW.aload_n (pc := 22) dX8_statementTold_22 rfl ?_
    refine PW.getR (pc := 23) dX8_statementTold_23 (r := 281) lf_X8_24 (ob hM.1 s_277 (by decide)) fx_8_11 (oR_8_11 hM s_277) (pS_ne s_281) ?_
    refine PW.inv (m' := mX8_takes) (pc := 26) dX8_statementTold_26 lm_X8_276 me_X8_takes mi_X8_takes (ob hM.1 s_277 (by decide)) rfl (As := [.ref 281]) (st := []) rfl (Nat.le_of_ble_eq_true rfl) (Nat.le_of_ble_eq_true rfl) (Nat.le_of_eq hM.1) (Nat.le_refl _) (PW.deep (by decide) (c_X8_takes s_281 hM h)) ?_
    rintro _ M1 ⟨hM, y2, rfl, z3, h⟩
    refine PW.if_eq (pc := 29) dX8_statementTold_29 (t := 40) (by decide) (fun hc => ?_) (fun hc => ?_)
    · have h := h.1 hc
      refine PW.aload_n (pc := 40) dX8_statementTold_40 rfl ?_
      refine PW.aload_n (pc := 41) dX8_statementTold_41 rfl ?_
      refine PW.getR (pc := 42) dX8_statementTold_42 (r := 284) lf_X8_33 (ob hM.1 s_277 (by decide)) fx_8_14 (oR_8_14 hM s_277) (pS_ne s_284) ?_
      refine PW.inv (m' := mX8_takes) (pc := 45) dX8_statementTold_45 lm_X8_276 me_X8_takes mi_X8_takes (ob hM.1 s_277 (by decide)) rfl (As := [.ref 284]) (st := []) rfl (Nat.le_of_ble_eq_true rfl) (Nat.le_of_ble_eq_true rfl) (Nat.le_of_eq hM.1) (Nat.le_refl _) (PW.deep (by decide) (c_X8_takes s_284 hM h)) ?_
      rintro _ M4 ⟨hM, y5, rfl, z6, h⟩
      refine PW.if_eq (pc := 48) dX8_statementTold_48 (t := 59) (by decide) (fun hc => ?_) (fun hc => ?_)
      · have h := h.1 hc
        refine PW.aload_n (pc := 59) dX8_statementTold_59 rfl ?_
        refine PW.aload_n (pc := 60) dX8_statementTold_60 rfl ?_
        refine PW.getR (pc := 61) dX8_statementTold_61 (r := 288) lf_X8_45 (ob hM.1 s_277 (by decide)) fx_8_18 (oR_8_18 hM s_277) (pS_ne s_288) ?_
        refine PW.inv (m' := mX8_takes) (pc := 64) dX8_statementTold_64 lm_X8_276 me_X8_takes mi_X8_takes (ob hM.1 s_277 (by decide)) rfl (As := [.ref 288]) (st := []) rfl (Nat.le_of_ble_eq_true rfl) (Nat.le_of_ble_eq_true rfl) (Nat.le_of_eq hM.1) (Nat.le_refl _) (PW.deep (by decide) (c_X8_takes s_288 hM h)) ?_
        rintro _ M7 ⟨hM, y8, rfl, z9, h⟩
        refine PW.if_eq (pc := 67) dX8_statementTold_67 (t := 78) (by decide) (fun hc => ?_) (fun hc => ?_)
        · have h := h.1 hc
          refine PW.aload_n (pc := 78) dX8_statementTold_78 rfl ?_
          refine PW.aload_n (pc := 79) dX8_statementTold_79 rfl ?_
          refine PW.getR (pc := 80) dX8_statementTold_80 (r := 290) lf_X8_51 (ob hM.1 s_277 (by decide)) fx_8_20 (oR_8_20 hM s_277) (pS_ne s_290) ?_
          refine PW.inv (m' := mX8_takes) (pc := 83) dX8_statementTold_83 lm_X8_276 me_X8_takes mi_X8_takes (ob hM.1 s_277 (by decide)) rfl (As := [.ref 290]) (st := []) rfl (Nat.le_of_ble_eq_true rfl) (Nat.le_of_ble_eq_true rfl) (Nat.le_of_eq hM.1) (Nat.le_refl _) (PW.deep (by decide) (c_X8_takes s_290 hM h)) ?_
          rintro _ M10 ⟨hM, y11, rfl, z12, h⟩
          refine PW.if_eq (pc := 86) dX8_statementTold_86 (t := 98) (by decide) (fun hc => ?_) (fun hc => ?_)
          · have h := h.1 hc
            refine PW.aload_n (pc := 98) dX8_statementTold_98 rfl ?_
            refine PW.aload_n (pc := 99) dX8_statementTold_99 rfl ?_
            refine PW.getR (pc := 100) dX8_statementTold_100 (r := 291) lf_X8_54 (ob hM.1 s_277 (by decide)) fx_8_21 (oR_8_21 hM s_277) (pS_ne s_291) ?_
            refine PW.inv (m' := mX8_takes) (pc := 103) dX8_statementTold_103 lm_X8_276 me_X8_takes mi_X8_takes (ob hM.1 s_277 (by decide)) rfl (As := [.ref 291]) (st := []) rfl (Nat.le_of_ble_eq_true rfl) (Nat.le_of_ble_eq_true rfl) (Nat.le_of_eq hM.1) (Nat.le_refl _) (PW.deep (by decide) (c_X8_takes s_291 hM h)) ?_
            rintro _ M13 ⟨hM, y14, rfl, z15, h⟩
            refine PW.if_eq (pc := 106) dX8_statementTold_106 (t := 118) (by decide) (fun hc => ?_) (fun hc => ?_)
            · have h := h.1 hc
              refine PW.aload_n (pc := 118) dX8_statementTold_118 rfl ?_
              refine PW.aload_n (pc := 119) dX8_statementTold_119 rfl ?_
              refine PW.getR (pc := 120) dX8_statementTold_120 (r := 292) lf_X8_57 (ob hM.1 s_277 (by decide)) fx_8_22 (oR_8_22 hM s_277) (pS_ne s_292) ?_
              refine PW.inv (m' := mX8_takes) (pc := 123) dX8_statementTold_123 lm_X8_276 me_X8_takes mi_X8_takes (ob hM.1 s_277 (by decide)) rfl (As := [.ref 292]) (st := []) rfl (Nat.le_of_ble_eq_true rfl) (Nat.le_of_ble_eq_true rfl) (Nat.le_of_eq hM.1) (Nat.le_refl _) (PW.deep (by decide) (c_X8_takes s_292 hM h)) ?_
              rintro _ M16 ⟨hM, y17, rfl, z18, h⟩
              refine PW.if_eq (pc := 126) dX8_statementTold_126 (t := 138) (by decide) (fun hc => ?_) (fun hc => ?_)
              · have h := h.1 hc
                refine PW.aload_n (pc := 138) dX8_statementTold_138 rfl ?_
                refine PW.aload_n (pc := 139) dX8_statementTold_139 rfl ?_
                refine PW.getR (pc := 140) dX8_statementTold_140 (r := 293) lf_X8_60 (ob hM.1 s_277 (by decide)) fx_8_23 (oR_8_23 hM s_277) (pS_ne s_293) ?_
                refine PW.inv (m' := mX8_takes) (pc := 143) dX8_statementTold_143 lm_X8_276 me_X8_takes mi_X8_takes (ob hM.1 s_277 (by decide)) rfl (As := [.ref 293]) (st := []) rfl (Nat.le_of_ble_eq_true rfl) (Nat.le_of_ble_eq_true rfl) (Nat.le_of_eq hM.1) (Nat.le_refl _) (PW.deep (by decide) (c_X8_takes s_293 hM h)) ?_
                rintro _ M19 ⟨hM, y20, rfl, z21, h⟩
                refine PW.if_eq (pc := 146) dX8_statementTold_146 (t := 166) (by decide) (fun hc => ?_) (fun hc => ?_)
                · have h := h.1 hc
                  refine PW.aload_n (pc := 166) dX8_statementTold_166 rfl ?_
                  refine PW.aload_n (pc := 167) dX8_statementTold_167 rfl ?_
                  refine PW.getR (pc := 168) dX8_statementTold_168 (r := 294) lf_X8_63 (ob hM.1 s_277 (by decide)) fx_8_24 (oR_8_24 hM s_277) (pS_ne s_294) ?_
                  refine PW.inv (m' := mX8_asks) (pc := 171) dX8_statementTold_171 lm_X8_311 me_X8_asks mi_X8_asks (ob hM.1 s_277 (by decide)) rfl (As := [.ref 294]) (st := []) rfl (Nat.le_of_ble_eq_true rfl) (Nat.le_of_ble_eq_true rfl) (Nat.le_of_eq hM.1) (Nat.le_refl _) (PW.deep (by decide) (c_X8_asks s_294 hM h)) ?_
                  rintro _ M22 ⟨hM, rfl, h⟩
                  refine PW.aload_n (pc := 174) dX8_statementTold_174 rfl ?_
                  refine PW.getR (pc := 175) dX8_statementTold_175 (r := 308) lf_X8_105 (ob hM.1 s_277 (by decide)) fx_8_39 (oR_8_39 hM s_277) (pS_ne s_308) ?_
                  refine PW.iconst (pc := 178) dX8_statementTold_178 (v := 2) (by decide) ?_
                  refine PW.aload_n (pc := 179) dX8_statementTold_179 rfl ?_
                  refine PW.iconst (pc := 180) dX8_statementTold_180 (v := 0) (by decide) ?_
                  refine PW.bipush (pc := 181) dX8_statementTold_181 (v := 100) (by decide) ?_
                  refine PW.inv (m' := mX8_number) (pc := 183) dX8_statementTold_183 lm_X8_315 me_X8_number mi_X8_number (ob hM.1 s_277 (by decide)) rfl (As := [.int 0, .int 100]) (st := [.int 2, .ref 308]) rfl (Nat.le_of_ble_eq_true rfl) (Nat.le_of_ble_eq_true rfl) (Nat.le_of_eq hM.1) (Nat.le_refl _) (PW.deep (by decide) (c_X8_number  hM h)) ?_
                  rintro _ M24 ⟨hM, y25, rfl, h⟩
                  refine PW.iast (pc := 186) dX8_statementTold_186 (ar hM.1 s_308) (vpl n_308 (vp_c (i := 2) (n := 6) (by decide))) ?_
                  refine PW.aload_n (pc := 187) dX8_statementTold_187 rfl ?_
                  refine PW.bipush (pc := 188) dX8_statementTold_188 (v := 59) (by decide) ?_
                  refine PW.inv (m' := mX8_asksSign) (pc := 190) dX8_statementTold_190 lm_X8_319 me_X8_asksSign mi_X8_asksSign (ob hM.1 s_277 (by decide)) rfl (As := [.int 59]) (st := []) rfl (Nat.le_of_ble_eq_true rfl) (Nat.le_of_ble_eq_true rfl) (Nat.le_of_eq hM.1) (Nat.le_refl _) (PW.deep (by decide) (c_X8_asksSign  (hM.same rfl rfl) h)) ?_
                  rintro _ M26 ⟨hM, rfl, h⟩
                  refine PW.aload_n (pc := 193) dX8_statementTold_193 rfl ?_
                  refine PW.dupR (pc := 194) dX8_statementTold_194 ?_
                  refine PW.getI (pc := 195) dX8_statementTold_195 lf_X8_358 (ob hM.1 s_277 (by decide)) fx_8_49 ?_
                  refine PW.iconst (pc := 198) dX8_statementTold_198 (v := 1) (by decide) ?_
                  refine PW.iadd (pc := 199) dX8_statementTold_199 ?_
                  refine PW.putI (pc := 200) dX8_statementTold_200 lf_X8_358 (ob hM.1 s_277 (by decide)) fx_8_49 fw_8_49 rfl rfl ?_
                  exact PW.ret0 (pc := 203) dX8_statementTold_203 hM.1 rfl ⟨(hM.same rfl rfl), rfl, h⟩
                · have h := h.2 hc
                  refine PW.aload_n (pc := 149) dX8_statementTold_149 rfl ?_
                  refine PW.getR (pc := 150) dX8_statementTold_150 (r := 308) lf_X8_105 (ob hM.1 s_277 (by decide)) fx_8_39 (oR_8_39 hM s_277) (pS_ne s_308) ?_
                  refine PW.iconst (pc := 153) dX8_statementTold_153 (v := 1) (by decide) ?_
                  refine PW.aload_n (pc := 154) dX8_statementTold_154 rfl ?_
                  refine PW.iconst (pc := 155) dX8_statementTold_155 (v := 0) (by decide) ?_
                  refine PW.sipush (pc := 156) dX8_statementTold_156 (v := 999) (by decide) ?_
                  refine PW.inv (m' := mX8_number) (pc := 159) dX8_statementTold_159 lm_X8_315 me_X8_number mi_X8_number (ob hM.1 s_277 (by decide)) rfl (As := [.int 0, .int 999]) (st := [.int 1, .ref 308]) rfl (Nat.le_of_ble_eq_true rfl) (Nat.le_of_ble_eq_true rfl) (Nat.le_of_eq hM.1) (Nat.le_refl _) (PW.deep (by decide) (c_X8_number  hM h)) ?_
                  rintro _ M28 ⟨hM, y29, rfl, h⟩
                  refine PW.iast (pc := 162) dX8_statementTold_162 (ar hM.1 s_308) (vpl n_308 (vp_c (i := 1) (n := 6) (by decide))) ?_
                  refine PW.goto (pc := 163) dX8_statementTold_163 (t := 187) (by decide) ?_
                  refine PW.aload_n (pc := 187) dX8_statementTold_187 rfl ?_
                  refine PW.bipush (pc := 188) dX8_statementTold_188 (v := 59) (by decide) ?_
                  refine PW.inv (m' := mX8_asksSign) (pc := 190) dX8_statementTold_190 lm_X8_319 me_X8_asksSign mi_X8_asksSign (ob hM.1 s_277 (by decide)) rfl (As := [.int 59]) (st := []) rfl (Nat.le_of_ble_eq_true rfl) (Nat.le_of_ble_eq_true rfl) (Nat.le_of_eq hM.1) (Nat.le_refl _) (PW.deep (by decide) (c_X8_asksSign  (hM.same rfl rfl) h)) ?_
                  rintro _ M30 ⟨hM, rfl, h⟩
                  refine PW.aload_n (pc := 193) dX8_statementTold_193 rfl ?_
                  refine PW.dupR (pc := 194) dX8_statementTold_194 ?_
                  refine PW.getI (pc := 195) dX8_statementTold_195 lf_X8_358 (ob hM.1 s_277 (by decide)) fx_8_49 ?_
                  refine PW.iconst (pc := 198) dX8_statementTold_198 (v := 1) (by decide) ?_
                  refine PW.iadd (pc := 199) dX8_statementTold_199 ?_
                  refine PW.putI (pc := 200) dX8_statementTold_200 lf_X8_358 (ob hM.1 s_277 (by decide)) fx_8_49 fw_8_49 rfl rfl ?_
                  exact PW.ret0 (pc := 203) dX8_statementTold_203 hM.1 rfl ⟨(hM.same rfl rfl), rfl, h⟩
              · have h := h.2 hc
                refine PW.aload_n (pc := 129) dX8_statementTold_129 rfl ?_
                refine PW.iconst (pc := 130) dX8_statementTold_130 (v := 2) (by decide) ?_
                refine PW.iload_n (pc := 131) dX8_statementTold_131 rfl ?_
                refine PW.inv (m' := mX8_codesTold) (pc := 132) dX8_statementTold_132 lm_X8_370 me_X8_codesTold mi_X8_codesTold (ob hM.1 s_277 (by decide)) rfl (As := [.int 2, .int (mI M 277 2)]) (st := []) rfl (Nat.le_of_ble_eq_true rfl) (Nat.le_of_ble_eq_true rfl) (Nat.le_of_eq hM.1) (Nat.le_refl _) (PW.deep (by decide) (c_X8_codesTold  hM h)) ?_
                rintro _ M32 ⟨hM, rfl, h⟩
                refine PW.goto (pc := 135) dX8_statementTold_135 (t := 187) (by decide) ?_
                refine PW.aload_n (pc := 187) dX8_statementTold_187 rfl ?_
                refine PW.bipush (pc := 188) dX8_statementTold_188 (v := 59) (by decide) ?_
                refine PW.inv (m' := mX8_asksSign) (pc := 190) dX8_statementTold_190 lm_X8_319 me_X8_asksSign mi_X8_asksSign (ob hM.1 s_277 (by decide)) rfl (As := [.int 59]) (st := []) rfl (Nat.le_of_ble_eq_true rfl) (Nat.le_of_ble_eq_true rfl) (Nat.le_of_eq hM.1) (Nat.le_refl _) (PW.deep (by decide) (c_X8_asksSign  hM h)) ?_
                rintro _ M34 ⟨hM, rfl, h⟩
                refine PW.aload_n (pc := 193) dX8_statementTold_193 rfl ?_
                refine PW.dupR (pc := 194) dX8_statementTold_194 ?_
                refine PW.getI (pc := 195) dX8_statementTold_195 lf_X8_358 (ob hM.1 s_277 (by decide)) fx_8_49 ?_
                refine PW.iconst (pc := 198) dX8_statementTold_198 (v := 1) (by decide) ?_
                refine PW.iadd (pc := 199) dX8_statementTold_199 ?_
                refine PW.putI (pc := 200) dX8_statementTold_200 lf_X8_358 (ob hM.1 s_277 (by decide)) fx_8_49 fw_8_49 rfl rfl ?_
                exact PW.ret0 (pc := 203) dX8_statementTold_203 hM.1 rfl ⟨(hM.same rfl rfl), rfl, h⟩
            · have h := h.2 hc
              refine PW.aload_n (pc := 109) dX8_statementTold_109 rfl ?_
              refine PW.iconst (pc := 110) dX8_statementTold_110 (v := 1) (by decide) ?_
              refine PW.iload_n (pc := 111) dX8_statementTold_111 rfl ?_
              refine PW.inv (m' := mX8_codesTold) (pc := 112) dX8_statementTold_112 lm_X8_370 me_X8_codesTold mi_X8_codesTold (ob hM.1 s_277 (by decide)) rfl (As := [.int 1, .int (mI M 277 2)]) (st := []) rfl (Nat.le_of_ble_eq_true rfl) (Nat.le_of_ble_eq_true rfl) (Nat.le_of_eq hM.1) (Nat.le_refl _) (PW.deep (by decide) (c_X8_codesTold  hM h)) ?_
              rintro _ M36 ⟨hM, rfl, h⟩
              refine PW.goto (pc := 115) dX8_statementTold_115 (t := 187) (by decide) ?_
              refine PW.aload_n (pc := 187) dX8_statementTold_187 rfl ?_
              refine PW.bipush (pc := 188) dX8_statementTold_188 (v := 59) (by decide) ?_
              refine PW.inv (m' := mX8_asksSign) (pc := 190) dX8_statementTold_190 lm_X8_319 me_X8_asksSign mi_X8_asksSign (ob hM.1 s_277 (by decide)) rfl (As := [.int 59]) (st := []) rfl (Nat.le_of_ble_eq_true rfl) (Nat.le_of_ble_eq_true rfl) (Nat.le_of_eq hM.1) (Nat.le_refl _) (PW.deep (by decide) (c_X8_asksSign  hM h)) ?_
              rintro _ M38 ⟨hM, rfl, h⟩
              refine PW.aload_n (pc := 193) dX8_statementTold_193 rfl ?_
              refine PW.dupR (pc := 194) dX8_statementTold_194 ?_
              refine PW.getI (pc := 195) dX8_statementTold_195 lf_X8_358 (ob hM.1 s_277 (by decide)) fx_8_49 ?_
              refine PW.iconst (pc := 198) dX8_statementTold_198 (v := 1) (by decide) ?_
              refine PW.iadd (pc := 199) dX8_statementTold_199 ?_
              refine PW.putI (pc := 200) dX8_statementTold_200 lf_X8_358 (ob hM.1 s_277 (by decide)) fx_8_49 fw_8_49 rfl rfl ?_
              exact PW.ret0 (pc := 203) dX8_statementTold_203 hM.1 rfl ⟨(hM.same rfl rfl), rfl, h⟩
          · have h := h.2 hc
            refine PW.aload_n (pc := 89) dX8_statementTold_89 rfl ?_
            refine PW.iconst (pc := 90) dX8_statementTold_90 (v := 0) (by decide) ?_
            refine PW.iload_n (pc := 91) dX8_statementTold_91 rfl ?_
            refine PW.inv (m' := mX8_codesTold) (pc := 92) dX8_statementTold_92 lm_X8_370 me_X8_codesTold mi_X8_codesTold (ob hM.1 s_277 (by decide)) rfl (As := [.int 0, .int (mI M 277 2)]) (st := []) rfl (Nat.le_of_ble_eq_true rfl) (Nat.le_of_ble_eq_true rfl) (Nat.le_of_eq hM.1) (Nat.le_refl _) (PW.deep (by decide) (c_X8_codesTold  hM h)) ?_
            rintro _ M40 ⟨hM, rfl, h⟩
            refine PW.goto (pc := 95) dX8_statementTold_95 (t := 187) (by decide) ?_
            refine PW.aload_n (pc := 187) dX8_statementTold_187 rfl ?_
            refine PW.bipush (pc := 188) dX8_statementTold_188 (v := 59) (by decide) ?_
            refine PW.inv (m' := mX8_asksSign) (pc := 190) dX8_statementTold_190 lm_X8_319 me_X8_asksSign mi_X8_asksSign (ob hM.1 s_277 (by decide)) rfl (As := [.int 59]) (st := []) rfl (Nat.le_of_ble_eq_true rfl) (Nat.le_of_ble_eq_true rfl) (Nat.le_of_eq hM.1) (Nat.le_refl _) (PW.deep (by decide) (c_X8_asksSign  hM h)) ?_
            rintro _ M42 ⟨hM, rfl, h⟩
            refine PW.aload_n (pc := 193) dX8_statementTold_193 rfl ?_
            refine PW.dupR (pc := 194) dX8_statementTold_194 ?_
            refine PW.getI (pc := 195) dX8_statementTold_195 lf_X8_358 (ob hM.1 s_277 (by decide)) fx_8_49 ?_
            refine PW.iconst (pc := 198) dX8_statementTold_198 (v := 1) (by decide) ?_
            refine PW.iadd (pc := 199) dX8_statementTold_199 ?_
            refine PW.putI (pc := 200) dX8_statementTold_200 lf_X8_358 (ob hM.1 s_277 (by decide)) fx_8_49 fw_8_49 rfl rfl ?_
            exact PW.ret0 (pc := 203) dX8_statementTold_203 hM.1 rfl ⟨(hM.same rfl rfl), rfl, h⟩
        · have h := h.2 hc
          refine PW.aload_n (pc := 70) dX8_statementTold_70 rfl ?_
          refine PW.iload_n (pc := 71) dX8_statementTold_71 rfl ?_
          refine PW.inv (m' := mX8_earTold) (pc := 72) dX8_statementTold_72 lm_X8_367 me_X8_earTold mi_X8_earTold (ob hM.1 s_277 (by decide)) rfl (As := [.int (mI M 277 2)]) (st := []) rfl (Nat.le_of_ble_eq_true rfl) (Nat.le_of_ble_eq_true rfl) (Nat.le_of_eq hM.1) (Nat.le_refl _) (PW.deep (by decide) (c_X8_earTold  hM h)) ?_
          rintro _ M44 ⟨hM, rfl, h⟩
          refine PW.goto (pc := 75) dX8_statementTold_75 (t := 187) (by decide) ?_
          refine PW.aload_n (pc := 187) dX8_statementTold_187 rfl ?_
          refine PW.bipush (pc := 188) dX8_statementTold_188 (v := 59) (by decide) ?_
          refine PW.inv (m' := mX8_asksSign) (pc := 190) dX8_statementTold_190 lm_X8_319 me_X8_asksSign mi_X8_asksSign (ob hM.1 s_277 (by decide)) rfl (As := [.int 59]) (st := []) rfl (Nat.le_of_ble_eq_true rfl) (Nat.le_of_ble_eq_true rfl) (Nat.le_of_eq hM.1) (Nat.le_refl _) (PW.deep (by decide) (c_X8_asksSign  hM h)) ?_
          rintro _ M46 ⟨hM, rfl, h⟩
          refine PW.aload_n (pc := 193) dX8_statementTold_193 rfl ?_
          refine PW.dupR (pc := 194) dX8_statementTold_194 ?_
          refine PW.getI (pc := 195) dX8_statementTold_195 lf_X8_358 (ob hM.1 s_277 (by decide)) fx_8_49 ?_
          refine PW.iconst (pc := 198) dX8_statementTold_198 (v := 1) (by decide) ?_
          refine PW.iadd (pc := 199) dX8_statementTold_199 ?_
          refine PW.putI (pc := 200) dX8_statementTold_200 lf_X8_358 (ob hM.1 s_277 (by decide)) fx_8_49 fw_8_49 rfl rfl ?_
          exact PW.ret0 (pc := 203) dX8_statementTold_203 hM.1 rfl ⟨(hM.same rfl rfl), rfl, h⟩
      · have h := h.2 hc
        refine PW.aload_n (pc := 51) dX8_statementTold_51 rfl ?_
        refine PW.iload_n (pc := 52) dX8_statementTold_52 rfl ?_
        refine PW.inv (m' := mX8_askerTold) (pc := 53) dX8_statementTold_53 lm_X8_364 me_X8_askerTold mi_X8_askerTold (ob hM.1 s_277 (by decide)) rfl (As := [.int (mI M 277 2)]) (st := []) rfl (Nat.le_of_ble_eq_true rfl) (Nat.le_of_ble_eq_true rfl) (Nat.le_of_eq hM.1) (Nat.le_refl _) (PW.deep (by decide) (c_X8_askerTold  hM h)) ?_
        rintro _ M48 ⟨hM, rfl, h⟩
        refine PW.goto (pc := 56) dX8_statementTold_56 (t := 187) (by decide) ?_
        refine PW.aload_n (pc := 187) dX8_statementTold_187 rfl ?_
        refine PW.bipush (pc := 188) dX8_statementTold_188 (v := 59) (by decide) ?_
        refine PW.inv (m' := mX8_asksSign) (pc := 190) dX8_statementTold_190 lm_X8_319 me_X8_asksSign mi_X8_asksSign (ob hM.1 s_277 (by decide)) rfl (As := [.int 59]) (st := []) rfl (Nat.le_of_ble_eq_true rfl) (Nat.le_of_ble_eq_true rfl) (Nat.le_of_eq hM.1) (Nat.le_refl _) (PW.deep (by decide) (c_X8_asksSign  hM h)) ?_
        rintro _ M50 ⟨hM, rfl, h⟩
        refine PW.aload_n (pc := 193) dX8_statementTold_193 rfl ?_
        refine PW.dupR (pc := 194) dX8_statementTold_194 ?_
        refine PW.getI (pc := 195) dX8_statementTold_195 lf_X8_358 (ob hM.1 s_277 (by decide)) fx_8_49 ?_
        refine PW.iconst (pc := 198) dX8_statementTold_198 (v := 1) (by decide) ?_
        refine PW.iadd (pc := 199) dX8_statementTold_199 ?_
        refine PW.putI (pc := 200) dX8_statementTold_200 lf_X8_358 (ob hM.1 s_277 (by decide)) fx_8_49 fw_8_49 rfl rfl ?_
        exact PW.ret0 (pc := 203) dX8_statementTold_203 hM.1 rfl ⟨(hM.same rfl rfl), rfl, h⟩
    · have h := h.2 hc
      refine PW.aload_n (pc := 32) dX8_statementTold_32 rfl ?_
      refine PW.iload_n (pc := 33) dX8_statementTold_33 rfl ?_
      refine PW.inv (m' := mX8_songTold) (pc := 34) dX8_statementTold_34 lm_X8_361 me_X8_songTold mi_X8_songTold (ob hM.1 s_277 (by decide)) rfl (As := [.int (mI M 277 2)]) (st := []) rfl (Nat.le_of_ble_eq_true rfl) (Nat.le_of_ble_eq_true rfl) (Nat.le_of_eq hM.1) (Nat.le_refl _) (PW.deep (by decide) (c_X8_songTold  hM h)) ?_
      rintro _ M52 ⟨hM, rfl, h⟩
      refine PW.goto (pc := 37) dX8_statementTold_37 (t := 187) (by decide) ?_
      refine PW.aload_n (pc := 187) dX8_statementTold_187 rfl ?_
      refine PW.bipush (pc := 188) dX8_statementTold_188 (v := 59) (by decide) ?_
      refine PW.inv (m' := mX8_asksSign) (pc := 190) dX8_statementTold_190 lm_X8_319 me_X8_asksSign mi_X8_asksSign (ob hM.1 s_277 (by decide)) rfl (As := [.int 59]) (st := []) rfl (Nat.le_of_ble_eq_true rfl) (Nat.le_of_ble_eq_true rfl) (Nat.le_of_eq hM.1) (Nat.le_refl _) (PW.deep (by decide) (c_X8_asksSign  hM h)) ?_
      rintro _ M54 ⟨hM, rfl, h⟩
      refine PW.aload_n (pc := 193) dX8_statementTold_193 rfl ?_
      refine PW.dupR (pc := 194) dX8_statementTold_194 ?_
      refine PW.getI (pc := 195) dX8_statementTold_195 lf_X8_358 (ob hM.1 s_277 (by decide)) fx_8_49 ?_
      refine PW.iconst (pc := 198) dX8_statementTold_198 (v := 1) (by decide) ?_
      refine PW.iadd (pc := 199) dX8_statementTold_199 ?_
      refine PW.putI (pc := 200) dX8_statementTold_200 lf_X8_358 (ob hM.1 s_277 (by decide)) fx_8_49 fw_8_49 rfl rfl ?_
      exact PW.ret0 (pc := 203) dX8_statementTold_203 hM.1 rfl ⟨(hM.same rfl rfl), rfl, h⟩
  · have h := h.2 hc
    refine PW.aload_n (pc := 14) dX8_statementTold_14 rfl ?_
    refine PW.iconst (pc := 15) dX8_statementTold_15 (v := 5) (by decide) ?_
    refine PW.iload_n (pc := 16) dX8_statementTold_16 rfl ?_
    refine PW.inv (m' := mX8_fail) (pc := 17) dX8_statementTold_17 lm_X8_279 me_X8_fail mi_X8_fail (ob hM.1 s_277 (by decide)) rfl (As := [.int 5, .int (mI M 277 2)]) (st := []) rfl (Nat.le_of_ble_eq_true rfl) (Nat.le_of_ble_eq_true rfl) (Nat.le_of_eq hM.1) (Nat.le_refl _) (PW.deep (by decide) (c_X8_fail  hM h)) ?_
    rintro _ M56 ⟨hM, rfl, h⟩
    exact PW.ret0 (pc := 20) dX8_statementTold_20 hM.1 rfl ⟨hM, rfl, h⟩
def w_X8_stands_7 : Nat → Int32 → pm → (pm → Prop) → (pm → Prop) → Prop
  | 0, _, _, _, _ => False
  | n + 1, x1, M, k74, Q => ((3 ≤ x1 → (k74  M)) ∧ (¬ 3 ≤ x1 → (vp_in x1 6 ∧ (vp_in (3 + x1) 6 ∧ (vp_in x1 6 ∧ (vp_in (3 + x1) 6 ∧ (vp_in x1 6 ∧ (vp_in (3 + x1) 6 ∧ (vp_in x1 6 ∧ (vp_in (3 + x1) 6 ∧ (w_X8_stands_7 n (x1 + 1) (sI (sI (sI (sI M 308 ((3 + x1).toNatClampNeg) (mI M 308 x1.toNatClampNeg)) 309 ((3 + x1).toNatClampNeg) (mI M 309 x1.toNatClampNeg)) 314 ((3 + x1).toNatClampNeg) (mI M 314 x1.toNatClampNeg)) 315 ((3 + x1).toNatClampNeg) (mI M 315 x1.toNatClampNeg)) k74 Q)))))))))))
set_option maxRecDepth 4000 in
theorem c_X8_stands_7 {k74 : pm → Prop} {Q : pm → Prop} (hk74 : ∀  (M : pm), pG M → k74  M → PW mX8_stands 1 350 74 [.ref 277, .null, .null] [] M (qV Q)) : ∀ (n : Nat) (x1 : Int32) (M : pm), pG M → w_X8_stands_7 n x1 M k74 Q → PW mX8_stands 1 350 7 [.ref 277, .int x1, .null] [] M (qV Q) := by
  intro n
  induction n with
  | zero => intro x1 M hM h; exact h.elim
  | succ n ih =>
    intro x1 M hM h
    unfold w_X8_stands_7 at h
    refine PW.iload_n (pc := 7) dX8_stands_7 rfl ?_
    refine PW.iconst (pc := 8) dX8_stands_8 (v := 3) (by decide) ?_
    refine PW.icmp_ge (pc := 9) dX8_stands_9 (t := 74) (by decide) (fun hc => ?_) (fun hc => ?_)
    · have h := h.1 hc
      exact PW.drop (hk74 _ hM h) ⟨rfl, trivial⟩
    · have h := h.2 hc
      refine PW.aload_n (pc := 12) dX8_stands_12 rfl ?_
      refine PW.getR (pc := 13) dX8_stands_13 (r := 308) lf_X8_105 (ob hM.1 s_277 (by decide)) fx_8_39 (oR_8_39 hM s_277) (pS_ne s_308) ?_
      refine PW.iconst (pc := 16) dX8_stands_16 (v := 3) (by decide) ?_
      refine PW.iload_n (pc := 17) dX8_stands_17 rfl ?_
      refine PW.iadd (pc := 18) dX8_stands_18 ?_
      refine PW.aload_n (pc := 19) dX8_stands_19 rfl ?_
      refine PW.getR (pc := 20) dX8_stands_20 (r := 308) lf_X8_105 (ob hM.1 s_277 (by decide)) fx_8_39 (oR_8_39 hM s_277) (pS_ne s_308) ?_
      refine PW.iload_n (pc := 23) dX8_stands_23 rfl ?_
      obtain ⟨v1, h⟩ := h
      refine PW.iald (pc := 24) dX8_stands_24 (ar hM.1 s_308) (vpl n_308 v1) ?_
      obtain ⟨v2, h⟩ := h
      refine PW.iast (pc := 25) dX8_stands_25 (ar hM.1 s_308) (vpl n_308 v2) ?_
      refine PW.aload_n (pc := 26) dX8_stands_26 rfl ?_
      refine PW.getR (pc := 27) dX8_stands_27 (r := 309) lf_X8_108 (ob hM.1 s_277 (by decide)) fx_8_40 (oR_8_40 (hM.same rfl rfl) s_277) (pS_ne s_309) ?_
      refine PW.iconst (pc := 30) dX8_stands_30 (v := 3) (by decide) ?_
      refine PW.iload_n (pc := 31) dX8_stands_31 rfl ?_
      refine PW.iadd (pc := 32) dX8_stands_32 ?_
      refine PW.aload_n (pc := 33) dX8_stands_33 rfl ?_
      refine PW.getR (pc := 34) dX8_stands_34 (r := 309) lf_X8_108 (ob hM.1 s_277 (by decide)) fx_8_40 (oR_8_40 (hM.same rfl rfl) s_277) (pS_ne s_309) ?_
      refine PW.iload_n (pc := 37) dX8_stands_37 rfl ?_
      obtain ⟨v3, h⟩ := h
      refine PW.iald (pc := 38) dX8_stands_38 (ar hM.1 s_309) (vpl n_309 v3) ?_
      obtain ⟨v4, h⟩ := h
      refine PW.iast (pc := 39) dX8_stands_39 (ar hM.1 s_309) (vpl n_309 v4) ?_
      refine PW.aload_n (pc := 40) dX8_stands_40 rfl ?_
      refine PW.getR (pc := 41) dX8_stands_41 (r := 314) lf_X8_124 (ob hM.1 s_277 (by decide)) fx_8_45 (oR_8_45 (hM.same rfl rfl) s_277) (pS_ne s_314) ?_
      refine PW.iconst (pc := 44) dX8_stands_44 (v := 3) (by decide) ?_
      refine PW.iload_n (pc := 45) dX8_stands_45 rfl ?_
      refine PW.iadd (pc := 46) dX8_stands_46 ?_
      refine PW.aload_n (pc := 47) dX8_stands_47 rfl ?_
      refine PW.getR (pc := 48) dX8_stands_48 (r := 314) lf_X8_124 (ob hM.1 s_277 (by decide)) fx_8_45 (oR_8_45 (hM.same rfl rfl) s_277) (pS_ne s_314) ?_
      refine PW.iload_n (pc := 51) dX8_stands_51 rfl ?_
      obtain ⟨v5, h⟩ := h
      refine PW.iald (pc := 52) dX8_stands_52 (ar hM.1 s_314) (vpl n_314 v5) ?_
      obtain ⟨v6, h⟩ := h
      refine PW.iast (pc := 53) dX8_stands_53 (ar hM.1 s_314) (vpl n_314 v6) ?_
      refine PW.aload_n (pc := 54) dX8_stands_54 rfl ?_
      refine PW.getR (pc := 55) dX8_stands_55 (r := 315) lf_X8_127 (ob hM.1 s_277 (by decide)) fx_8_46 (oR_8_46 (hM.same rfl rfl) s_277) (pS_ne s_315) ?_
      refine PW.iconst (pc := 58) dX8_stands_58 (v := 3) (by decide) ?_
      refine PW.iload_n (pc := 59) dX8_stands_59 rfl ?_
      refine PW.iadd (pc := 60) dX8_stands_60 ?_
      refine PW.aload_n (pc := 61) dX8_stands_61 rfl ?_
      refine PW.getR (pc := 62) dX8_stands_62 (r := 315) lf_X8_127 (ob hM.1 s_277 (by decide)) fx_8_46 (oR_8_46 (hM.same rfl rfl) s_277) (pS_ne s_315) ?_
      refine PW.iload_n (pc := 65) dX8_stands_65 rfl ?_
      obtain ⟨v7, h⟩ := h
      refine PW.iald (pc := 66) dX8_stands_66 (ar hM.1 s_315) (vpl n_315 v7) ?_
      obtain ⟨v8, h⟩ := h
      refine PW.iast (pc := 67) dX8_stands_67 (ar hM.1 s_315) (vpl n_315 v8) ?_
      refine PW.iinc (pc := 68) dX8_stands_68 (v := (x1 + 1)) (ls' := [.ref 277, .int (x1 + 1), .null]) rfl rfl (by decide) rfl rfl ?_
      refine PW.goto (pc := 71) dX8_stands_71 (t := 7) (by decide) ?_
      exact PW.drop (ih _ _ (hM.same rfl rfl) h) ⟨rfl, rfl, trivial⟩
def w_X8_stands_76 : Nat → Int32 → pm → (pm → Prop) → (pm → Prop) → Prop
  | 0, _, _, _, _ => False
  | n + 1, x1, M, k103, Q => ((24 ≤ x1 → (k103  M)) ∧ (¬ 24 ≤ x1 → (vp_in x1 48 ∧ (vp_in (24 + x1) 48 ∧ (w_X8_stands_76 n (x1 + 1) (sJ M 310 ((24 + x1).toNatClampNeg) (mJ M 310 x1.toNatClampNeg)) k103 Q)))))
set_option maxRecDepth 4000 in
theorem c_X8_stands_76 {k103 : pm → Prop} {Q : pm → Prop} (hk103 : ∀  (M : pm), pG M → k103  M → PW mX8_stands 1 350 103 [.ref 277, .null, .null] [] M (qV Q)) : ∀ (n : Nat) (x1 : Int32) (M : pm), pG M → w_X8_stands_76 n x1 M k103 Q → PW mX8_stands 1 350 76 [.ref 277, .int x1, .null] [] M (qV Q) := by
  intro n
  induction n with
  | zero => intro x1 M hM h; exact h.elim
  | succ n ih =>
    intro x1 M hM h
    unfold w_X8_stands_76 at h
    refine PW.iload_n (pc := 76) dX8_stands_76 rfl ?_
    refine PW.bipush (pc := 77) dX8_stands_77 (v := 24) (by decide) ?_
    refine PW.icmp_ge (pc := 79) dX8_stands_79 (t := 103) (by decide) (fun hc => ?_) (fun hc => ?_)
    · have h := h.1 hc
      exact PW.drop (hk103 _ hM h) ⟨rfl, trivial⟩
    · have h := h.2 hc
      refine PW.aload_n (pc := 82) dX8_stands_82 rfl ?_
      refine PW.getR (pc := 83) dX8_stands_83 (r := 310) lf_X8_111 (ob hM.1 s_277 (by decide)) fx_8_41 (oR_8_41 hM s_277) (pS_ne s_310) ?_
      refine PW.bipush (pc := 86) dX8_stands_86 (v := 24) (by decide) ?_
      refine PW.iload_n (pc := 88) dX8_stands_88 rfl ?_
      refine PW.iadd (pc := 89) dX8_stands_89 ?_
      refine PW.aload_n (pc := 90) dX8_stands_90 rfl ?_
      refine PW.getR (pc := 91) dX8_stands_91 (r := 310) lf_X8_111 (ob hM.1 s_277 (by decide)) fx_8_41 (oR_8_41 hM s_277) (pS_ne s_310) ?_
      refine PW.iload_n (pc := 94) dX8_stands_94 rfl ?_
      obtain ⟨v11, h⟩ := h
      refine PW.lald (pc := 95) dX8_stands_95 (ar hM.1 s_310) (vpl n_310 v11) ?_
      obtain ⟨v12, h⟩ := h
      refine PW.last (pc := 96) dX8_stands_96 (ar hM.1 s_310) (vpl n_310 v12) ?_
      refine PW.iinc (pc := 97) dX8_stands_97 (v := (x1 + 1)) (ls' := [.ref 277, .int (x1 + 1), .null]) rfl rfl (by decide) rfl rfl ?_
      refine PW.goto (pc := 100) dX8_stands_100 (t := 76) (by decide) ?_
      exact PW.drop (ih _ _ (hM.same rfl rfl) h) ⟨rfl, rfl, trivial⟩
def w_X8_stands_105 : Nat → Int32 → pm → (pm → Prop) → (pm → Prop) → Prop
  | 0, _, _, _, _ => False
  | n + 1, x1, M, k132, Q => ((12 ≤ x1 → (k132  M)) ∧ (¬ 12 ≤ x1 → (vp_in x1 24 ∧ (vp_in (12 + x1) 24 ∧ (w_X8_stands_105 n (x1 + 1) (sI M 311 ((12 + x1).toNatClampNeg) (mI M 311 x1.toNatClampNeg)) k132 Q)))))
set_option maxRecDepth 4000 in
theorem c_X8_stands_105 {k132 : pm → Prop} {Q : pm → Prop} (hk132 : ∀  (M : pm), pG M → k132  M → PW mX8_stands 1 350 132 [.ref 277, .null, .null] [] M (qV Q)) : ∀ (n : Nat) (x1 : Int32) (M : pm), pG M → w_X8_stands_105 n x1 M k132 Q → PW mX8_stands 1 350 105 [.ref 277, .int x1, .null] [] M (qV Q) := by
  intro n
  induction n with
  | zero => intro x1 M hM h; exact h.elim
  | succ n ih =>
    intro x1 M hM h
    unfold w_X8_stands_105 at h
    refine PW.iload_n (pc := 105) dX8_stands_105 rfl ?_
    refine PW.bipush (pc := 106) dX8_stands_106 (v := 12) (by decide) ?_
    refine PW.icmp_ge (pc := 108) dX8_stands_108 (t := 132) (by decide) (fun hc => ?_) (fun hc => ?_)
    · have h := h.1 hc
      exact PW.drop (hk132 _ hM h) ⟨rfl, trivial⟩
    · have h := h.2 hc
      refine PW.aload_n (pc := 111) dX8_stands_111 rfl ?_
      refine PW.getR (pc := 112) dX8_stands_112 (r := 311) lf_X8_115 (ob hM.1 s_277 (by decide)) fx_8_42 (oR_8_42 hM s_277) (pS_ne s_311) ?_
      refine PW.bipush (pc := 115) dX8_stands_115 (v := 12) (by decide) ?_
      refine PW.iload_n (pc := 117) dX8_stands_117 rfl ?_
      refine PW.iadd (pc := 118) dX8_stands_118 ?_
      refine PW.aload_n (pc := 119) dX8_stands_119 rfl ?_
      refine PW.getR (pc := 120) dX8_stands_120 (r := 311) lf_X8_115 (ob hM.1 s_277 (by decide)) fx_8_42 (oR_8_42 hM s_277) (pS_ne s_311) ?_
      refine PW.iload_n (pc := 123) dX8_stands_123 rfl ?_
      obtain ⟨v15, h⟩ := h
      refine PW.iald (pc := 124) dX8_stands_124 (ar hM.1 s_311) (vpl n_311 v15) ?_
      obtain ⟨v16, h⟩ := h
      refine PW.iast (pc := 125) dX8_stands_125 (ar hM.1 s_311) (vpl n_311 v16) ?_
      refine PW.iinc (pc := 126) dX8_stands_126 (v := (x1 + 1)) (ls' := [.ref 277, .int (x1 + 1), .null]) rfl rfl (by decide) rfl rfl ?_
      refine PW.goto (pc := 129) dX8_stands_129 (t := 105) (by decide) ?_
      exact PW.drop (ih _ _ (hM.same rfl rfl) h) ⟨rfl, rfl, trivial⟩
def w_X8_stands_134 : Nat → Int32 → pm → (pm → Prop) → (pm → Prop) → Prop
  | 0, _, _, _, _ => False
  | n + 1, x1, M, k159, Q => ((5 ≤ x1 → (k159  M)) ∧ (¬ 5 ≤ x1 → (vp_in x1 10 ∧ (vp_in (5 + x1) 10 ∧ (w_X8_stands_134 n (x1 + 1) (sI M 313 ((5 + x1).toNatClampNeg) (mI M 313 x1.toNatClampNeg)) k159 Q)))))
set_option maxRecDepth 4000 in
theorem c_X8_stands_134 {k159 : pm → Prop} {Q : pm → Prop} (hk159 : ∀  (M : pm), pG M → k159  M → PW mX8_stands 1 350 159 [.ref 277, .null, .null] [] M (qV Q)) : ∀ (n : Nat) (x1 : Int32) (M : pm), pG M → w_X8_stands_134 n x1 M k159 Q → PW mX8_stands 1 350 134 [.ref 277, .int x1, .null] [] M (qV Q) := by
  intro n
  induction n with
  | zero => intro x1 M hM h; exact h.elim
  | succ n ih =>
    intro x1 M hM h
    unfold w_X8_stands_134 at h
    refine PW.iload_n (pc := 134) dX8_stands_134 rfl ?_
    refine PW.iconst (pc := 135) dX8_stands_135 (v := 5) (by decide) ?_
    refine PW.icmp_ge (pc := 136) dX8_stands_136 (t := 159) (by decide) (fun hc => ?_) (fun hc => ?_)
    · have h := h.1 hc
      exact PW.drop (hk159 _ hM h) ⟨rfl, trivial⟩
    · have h := h.2 hc
      refine PW.aload_n (pc := 139) dX8_stands_139 rfl ?_
      refine PW.getR (pc := 140) dX8_stands_140 (r := 313) lf_X8_121 (ob hM.1 s_277 (by decide)) fx_8_44 (oR_8_44 hM s_277) (pS_ne s_313) ?_
      refine PW.iconst (pc := 143) dX8_stands_143 (v := 5) (by decide) ?_
      refine PW.iload_n (pc := 144) dX8_stands_144 rfl ?_
      refine PW.iadd (pc := 145) dX8_stands_145 ?_
      refine PW.aload_n (pc := 146) dX8_stands_146 rfl ?_
      refine PW.getR (pc := 147) dX8_stands_147 (r := 313) lf_X8_121 (ob hM.1 s_277 (by decide)) fx_8_44 (oR_8_44 hM s_277) (pS_ne s_313) ?_
      refine PW.iload_n (pc := 150) dX8_stands_150 rfl ?_
      obtain ⟨v19, h⟩ := h
      refine PW.iald (pc := 151) dX8_stands_151 (ar hM.1 s_313) (vpl n_313 v19) ?_
      obtain ⟨v20, h⟩ := h
      refine PW.iast (pc := 152) dX8_stands_152 (ar hM.1 s_313) (vpl n_313 v20) ?_
      refine PW.iinc (pc := 153) dX8_stands_153 (v := (x1 + 1)) (ls' := [.ref 277, .int (x1 + 1), .null]) rfl rfl (by decide) rfl rfl ?_
      refine PW.goto (pc := 156) dX8_stands_156 (t := 134) (by decide) ?_
      exact PW.drop (ih _ _ (hM.same rfl rfl) h) ⟨rfl, rfl, trivial⟩
def w_X8_stands_161 : Nat → Int32 → pm → (pm → Prop) → (pm → Prop) → Prop
  | 0, _, _, _, _ => False
  | n + 1, x1, M, k191, Q => (((mI M 277 48) ≤ x1 → (k191  M)) ∧ (¬ (mI M 277 48) ≤ x1 → (vp_in x1 3200 ∧ (vp_in (1600 + x1) 3200 ∧ (w_X8_stands_161 n (x1 + 1) (sI M 316 ((1600 + x1).toNatClampNeg) (mI M 316 x1.toNatClampNeg)) k191 Q)))))
set_option maxRecDepth 4000 in
theorem c_X8_stands_161 {k191 : pm → Prop} {Q : pm → Prop} (hk191 : ∀  (M : pm), pG M → k191  M → PW mX8_stands 1 350 191 [.ref 277, .null, .null] [] M (qV Q)) : ∀ (n : Nat) (x1 : Int32) (M : pm), pG M → w_X8_stands_161 n x1 M k191 Q → PW mX8_stands 1 350 161 [.ref 277, .int x1, .null] [] M (qV Q) := by
  intro n
  induction n with
  | zero => intro x1 M hM h; exact h.elim
  | succ n ih =>
    intro x1 M hM h
    unfold w_X8_stands_161 at h
    refine PW.iload_n (pc := 161) dX8_stands_161 rfl ?_
    refine PW.aload_n (pc := 162) dX8_stands_162 rfl ?_
    refine PW.getI (pc := 163) dX8_stands_163 lf_X8_355 (ob hM.1 s_277 (by decide)) fx_8_48 ?_
    refine PW.icmp_ge (pc := 166) dX8_stands_166 (t := 191) (by decide) (fun hc => ?_) (fun hc => ?_)
    · have h := h.1 hc
      exact PW.drop (hk191 _ hM h) ⟨rfl, trivial⟩
    · have h := h.2 hc
      refine PW.aload_n (pc := 169) dX8_stands_169 rfl ?_
      refine PW.getR (pc := 170) dX8_stands_170 (r := 316) lf_X8_130 (ob hM.1 s_277 (by decide)) fx_8_47 (oR_8_47 hM s_277) (pS_ne s_316) ?_
      refine PW.sipush (pc := 173) dX8_stands_173 (v := 1600) (by decide) ?_
      refine PW.iload_n (pc := 176) dX8_stands_176 rfl ?_
      refine PW.iadd (pc := 177) dX8_stands_177 ?_
      refine PW.aload_n (pc := 178) dX8_stands_178 rfl ?_
      refine PW.getR (pc := 179) dX8_stands_179 (r := 316) lf_X8_130 (ob hM.1 s_277 (by decide)) fx_8_47 (oR_8_47 hM s_277) (pS_ne s_316) ?_
      refine PW.iload_n (pc := 182) dX8_stands_182 rfl ?_
      obtain ⟨v23, h⟩ := h
      refine PW.iald (pc := 183) dX8_stands_183 (ar hM.1 s_316) (vpl n_316 v23) ?_
      obtain ⟨v24, h⟩ := h
      refine PW.iast (pc := 184) dX8_stands_184 (ar hM.1 s_316) (vpl n_316 v24) ?_
      refine PW.iinc (pc := 185) dX8_stands_185 (v := (x1 + 1)) (ls' := [.ref 277, .int (x1 + 1), .null]) rfl rfl (by decide) rfl rfl ?_
      refine PW.goto (pc := 188) dX8_stands_188 (t := 161) (by decide) ?_
      exact PW.drop (ih _ _ (hM.same rfl rfl) h) ⟨rfl, rfl, trivial⟩
def w_X8_stands_193 : Nat → Int32 → pm → (pm → Prop) → (pm → Prop) → Prop
  | 0, _, _, _, _ => False
  | n + 1, x1, M, k213, Q => ((163 ≤ x1 → (k213  M)) ∧ (¬ 163 ≤ x1 → (vp_in x1 163 ∧ (w_X8_stands_193 n (x1 + 1) (sI M 317 x1.toNatClampNeg 0) k213 Q))))
set_option maxRecDepth 4000 in
theorem c_X8_stands_193 {k213 : pm → Prop} {Q : pm → Prop} (hk213 : ∀  (M : pm), pG M → k213  M → PW mX8_stands 1 350 213 [.ref 277, .null, .null] [] M (qV Q)) : ∀ (n : Nat) (x1 : Int32) (M : pm), pG M → w_X8_stands_193 n x1 M k213 Q → PW mX8_stands 1 350 193 [.ref 277, .int x1, .null] [] M (qV Q) := by
  intro n
  induction n with
  | zero => intro x1 M hM h; exact h.elim
  | succ n ih =>
    intro x1 M hM h
    unfold w_X8_stands_193 at h
    refine PW.iload_n (pc := 193) dX8_stands_193 rfl ?_
    refine PW.sipush (pc := 194) dX8_stands_194 (v := 163) (by decide) ?_
    refine PW.icmp_ge (pc := 197) dX8_stands_197 (t := 213) (by decide) (fun hc => ?_) (fun hc => ?_)
    · have h := h.1 hc
      exact PW.drop (hk213 _ hM h) ⟨rfl, trivial⟩
    · have h := h.2 hc
      refine PW.aload_n (pc := 200) dX8_stands_200 rfl ?_
      refine PW.getR (pc := 201) dX8_stands_201 (r := 317) lf_X8_133 (ob hM.1 s_277 (by decide)) fx_8_52 (oR_8_52 hM s_277) (pS_ne s_317) ?_
      refine PW.iload_n (pc := 204) dX8_stands_204 rfl ?_
      refine PW.iconst (pc := 205) dX8_stands_205 (v := 0) (by decide) ?_
      obtain ⟨v27, h⟩ := h
      refine PW.iast (pc := 206) dX8_stands_206 (ar hM.1 s_317) (vpl n_317 v27) ?_
      refine PW.iinc (pc := 207) dX8_stands_207 (v := (x1 + 1)) (ls' := [.ref 277, .int (x1 + 1), .null]) rfl rfl (by decide) rfl rfl ?_
      refine PW.goto (pc := 210) dX8_stands_210 (t := 193) (by decide) ?_
      exact PW.drop (ih _ _ (hM.same rfl rfl) h) ⟨rfl, rfl, trivial⟩
def w_X8_stands_239 : Nat → Int32 → Int32 → pm → (Int32 → pm → Prop) → (pm → Prop) → Prop
  | 0, _, _, _, _, _ => False
  | n + 1, x1, x2, M, k272, Q => ((3 ≤ x2 → (k272 x1 M)) ∧ (¬ 3 ≤ x2 → (vp_in ((3 * x1) + x2) 24 ∧ (vp_in ((2 + (5 * x1)) + x2) 163 ∧ (w_X8_stands_239 n x1 (x2 + 1) (sI M 317 (((2 + (5 * x1)) + x2).toNatClampNeg) (mI M 312 (((3 * x1) + x2).toNatClampNeg))) k272 Q)))))
set_option maxRecDepth 4000 in
theorem c_X8_stands_239 {k272 : Int32 → pm → Prop} {Q : pm → Prop} (hk272 : ∀ (x1 : Int32) (M : pm), pG M → k272 x1 M → PW mX8_stands 1 350 272 [.ref 277, .int x1, .null] [] M (qV Q)) : ∀ (n : Nat) (x1 : Int32) (x2 : Int32) (M : pm), pG M → w_X8_stands_239 n x1 x2 M k272 Q → PW mX8_stands 1 350 239 [.ref 277, .int x1, .int x2] [] M (qV Q) := by
  intro n
  induction n with
  | zero => intro x1 x2 M hM h; exact h.elim
  | succ n ih =>
    intro x1 x2 M hM h
    unfold w_X8_stands_239 at h
    refine PW.iload_n (pc := 239) dX8_stands_239 rfl ?_
    refine PW.iconst (pc := 240) dX8_stands_240 (v := 3) (by decide) ?_
    refine PW.icmp_ge (pc := 241) dX8_stands_241 (t := 272) (by decide) (fun hc => ?_) (fun hc => ?_)
    · have h := h.1 hc
      exact PW.drop (hk272 _ _ hM h) ⟨rfl, rfl, trivial⟩
    · have h := h.2 hc
      refine PW.aload_n (pc := 244) dX8_stands_244 rfl ?_
      refine PW.getR (pc := 245) dX8_stands_245 (r := 317) lf_X8_133 (ob hM.1 s_277 (by decide)) fx_8_52 (oR_8_52 hM s_277) (pS_ne s_317) ?_
      refine PW.iconst (pc := 248) dX8_stands_248 (v := 2) (by decide) ?_
      refine PW.iconst (pc := 249) dX8_stands_249 (v := 5) (by decide) ?_
      refine PW.iload_n (pc := 250) dX8_stands_250 rfl ?_
      refine PW.imul (pc := 251) dX8_stands_251 ?_
      refine PW.iadd (pc := 252) dX8_stands_252 ?_
      refine PW.iload_n (pc := 253) dX8_stands_253 rfl ?_
      refine PW.iadd (pc := 254) dX8_stands_254 ?_
      refine PW.aload_n (pc := 255) dX8_stands_255 rfl ?_
      refine PW.getR (pc := 256) dX8_stands_256 (r := 312) lf_X8_118 (ob hM.1 s_277 (by decide)) fx_8_43 (oR_8_43 hM s_277) (pS_ne s_312) ?_
      refine PW.iconst (pc := 259) dX8_stands_259 (v := 3) (by decide) ?_
      refine PW.iload_n (pc := 260) dX8_stands_260 rfl ?_
      refine PW.imul (pc := 261) dX8_stands_261 ?_
      refine PW.iload_n (pc := 262) dX8_stands_262 rfl ?_
      refine PW.iadd (pc := 263) dX8_stands_263 ?_
      obtain ⟨v30, h⟩ := h
      refine PW.iald (pc := 264) dX8_stands_264 (ar hM.1 s_312) (vpl n_312 v30) ?_
      obtain ⟨v31, h⟩ := h
      refine PW.iast (pc := 265) dX8_stands_265 (ar hM.1 s_317) (vpl n_317 v31) ?_
      refine PW.iinc (pc := 266) dX8_stands_266 (v := (x2 + 1)) (ls' := [.ref 277, .int x1, .int (x2 + 1)]) rfl rfl (by decide) rfl rfl ?_
      refine PW.goto (pc := 269) dX8_stands_269 (t := 239) (by decide) ?_
      exact PW.drop (ih _ _ _ (hM.same rfl rfl) h) ⟨rfl, rfl, rfl, trivial⟩
def w_X8_stands_227 : Nat → Int32 → pm → (pm → Prop) → Prop
  | 0, _, _, _ => False
  | n + 1, x1, M, Q => (((mI M 309 1) ≤ x1 → (Q (sI (sI M 277 69 0) 277 63 0))) ∧ (¬ (mI M 309 1) ≤ x1 → (∃ n32, w_X8_stands_239 n32 x1 0 M (fun x1 M33 => w_X8_stands_227 n (x1 + 1) M33 Q) Q)))
set_option maxRecDepth 4000 in
theorem c_X8_stands_227  {Q : pm → Prop}  : ∀ (n : Nat) (x1 : Int32) (M : pm), pG M → w_X8_stands_227 n x1 M  Q → PW mX8_stands 1 350 227 [.ref 277, .int x1, .null] [] M (qV Q) := by
  intro n
  induction n with
  | zero => intro x1 M hM h; exact h.elim
  | succ n ih =>
    intro x1 M hM h
    unfold w_X8_stands_227 at h
    refine PW.iload_n (pc := 227) dX8_stands_227 rfl ?_
    refine PW.aload_n (pc := 228) dX8_stands_228 rfl ?_
    refine PW.getR (pc := 229) dX8_stands_229 (r := 309) lf_X8_108 (ob hM.1 s_277 (by decide)) fx_8_40 (oR_8_40 hM s_277) (pS_ne s_309) ?_
    refine PW.iconst (pc := 232) dX8_stands_232 (v := 1) (by decide) ?_
    refine PW.iald (pc := 233) dX8_stands_233 (ar hM.1 s_309) (vpl n_309 (vp_c (i := 1) (n := 6) (by decide))) ?_
    refine PW.icmp_ge (pc := 234) dX8_stands_234 (t := 278) (by decide) (fun hc => ?_) (fun hc => ?_)
    · have h := h.1 hc
      refine PW.aload_n (pc := 278) dX8_stands_278 rfl ?_
      refine PW.iconst (pc := 279) dX8_stands_279 (v := 0) (by decide) ?_
      refine PW.putI (pc := 280) dX8_stands_280 lf_X8_389 (ob hM.1 s_277 (by decide)) fx_8_69 fw_8_69 rfl rfl ?_
      refine PW.aload_n (pc := 283) dX8_stands_283 rfl ?_
      refine PW.iconst (pc := 284) dX8_stands_284 (v := 0) (by decide) ?_
      refine PW.putI (pc := 285) dX8_stands_285 lf_X8_392 (ob hM.1 s_277 (by decide)) fx_8_63 fw_8_63 rfl rfl ?_
      exact PW.ret0 (pc := 288) dX8_stands_288 hM.1 rfl ⟨(hM.same rfl rfl), rfl, h⟩
    · have h := h.2 hc
      refine PW.iconst (pc := 237) dX8_stands_237 (v := 0) (by decide) ?_
      refine PW.istore_n (pc := 238) dX8_stands_238 (ls' := [.ref 277, .int x1, .int 0]) (by decide) rfl rfl ?_
      obtain ⟨n32, h⟩ := h
      refine PW.drop (c_X8_stands_239 ?_ n32 _ _ _ hM h) ⟨rfl, rfl, rfl, trivial⟩
      · intro x1 M33 hM h
        refine PW.iinc (pc := 272) dX8_stands_272 (v := (x1 + 1)) (ls' := [.ref 277, .int (x1 + 1), .null]) rfl rfl (by decide) rfl rfl ?_
        refine PW.goto (pc := 275) dX8_stands_275 (t := 227) (by decide) ?_
        exact PW.drop (ih _ _ hM h) ⟨rfl, rfl, trivial⟩
def w_X8_stands  (M : pm) (Q : pm → Prop) : Prop := ∃ n9, w_X8_stands_7 n9 0 (sI M 277 50 1) (fun M10 => ∃ n13, w_X8_stands_76 n13 0 M10 (fun M14 => ∃ n17, w_X8_stands_105 n17 0 M14 (fun M18 => ∃ n21, w_X8_stands_134 n21 0 M18 (fun M22 => ∃ n25, w_X8_stands_161 n25 0 M22 (fun M26 => ∃ n28, w_X8_stands_193 n28 0 M26 (fun M29 => ∃ n34, w_X8_stands_227 n34 0 (sI M29 317 1 (mI M29 308 1))  Q) Q) Q) Q) Q) Q) Q
set_option maxRecDepth 4000 in
theorem c_X8_stands  {M : pm} {Q : pm → Prop}  (hM : pG M) (h : w_X8_stands  M Q) : PW mX8_stands 1 350 0 (pfr mX8_stands.2.2.1 [.ref 277]) [] M (qV Q) := by
  unfold w_X8_stands at h
  show PW mX8_stands 1 350 0 [.ref 277, .null, .null] [] M (qV Q)
  refine PW.aload_n (pc := 0) dX8_stands_0 rfl ?_
  refine PW.iconst (pc := 1) dX8_stands_1 (v := 1) (by decide) ?_
  refine PW.putI (pc := 2) dX8_stands_2 lf_X8_385 (ob hM.1 s_277 (by decide)) fx_8_50 fw_8_50 (bz_n bz1) (bz_f bz1) ?_
  refine PW.iconst (pc := 5) dX8_stands_5 (v := 0) (by decide) ?_
  refine PW.istore_n (pc := 6) dX8_stands_6 (ls' := [.ref 277, .int 0, .null]) (by decide) rfl rfl ?_
  obtain ⟨n9, h⟩ := h
  refine PW.drop (c_X8_stands_7 ?_ n9 _ _ (hM.same rfl rfl) h) ⟨rfl, rfl, trivial⟩
  · intro M10 hM h
    refine PW.iconst (pc := 74) dX8_stands_74 (v := 0) (by decide) ?_
    refine PW.istore_n (pc := 75) dX8_stands_75 (ls' := [.ref 277, .int 0, .null]) (by decide) rfl rfl ?_
    obtain ⟨n13, h⟩ := h
    refine PW.drop (c_X8_stands_76 ?_ n13 _ _ hM h) ⟨rfl, rfl, trivial⟩
    · intro M14 hM h
      refine PW.iconst (pc := 103) dX8_stands_103 (v := 0) (by decide) ?_
      refine PW.istore_n (pc := 104) dX8_stands_104 (ls' := [.ref 277, .int 0, .null]) (by decide) rfl rfl ?_
      obtain ⟨n17, h⟩ := h
      refine PW.drop (c_X8_stands_105 ?_ n17 _ _ hM h) ⟨rfl, rfl, trivial⟩
      · intro M18 hM h
        refine PW.iconst (pc := 132) dX8_stands_132 (v := 0) (by decide) ?_
        refine PW.istore_n (pc := 133) dX8_stands_133 (ls' := [.ref 277, .int 0, .null]) (by decide) rfl rfl ?_
        obtain ⟨n21, h⟩ := h
        refine PW.drop (c_X8_stands_134 ?_ n21 _ _ hM h) ⟨rfl, rfl, trivial⟩
        · intro M22 hM h
          refine PW.iconst (pc := 159) dX8_stands_159 (v := 0) (by decide) ?_
          refine PW.istore_n (pc := 160) dX8_stands_160 (ls' := [.ref 277, .int 0, .null]) (by decide) rfl rfl ?_
          obtain ⟨n25, h⟩ := h
          refine PW.drop (c_X8_stands_161 ?_ n25 _ _ hM h) ⟨rfl, rfl, trivial⟩
          · intro M26 hM h
            refine PW.iconst (pc := 191) dX8_stands_191 (v := 0) (by decide) ?_
            refine PW.istore_n (pc := 192) dX8_stands_192 (ls' := [.ref 277, .int 0, .null]) (by decide) rfl rfl ?_
            obtain ⟨n28, h⟩ := h
            refine PW.drop (c_X8_stands_193 ?_ n28 _ _ hM h) ⟨rfl, rfl, trivial⟩
            · intro M29 hM h
              refine PW.aload_n (pc := 213) dX8_stands_213 rfl ?_
              refine PW.getR (pc := 214) dX8_stands_214 (r := 317) lf_X8_133 (ob hM.1 s_277 (by decide)) fx_8_52 (oR_8_52 hM s_277) (pS_ne s_317) ?_
              refine PW.iconst (pc := 217) dX8_stands_217 (v := 1) (by decide) ?_
              refine PW.aload_n (pc := 218) dX8_stands_218 rfl ?_
              refine PW.getR (pc := 219) dX8_stands_219 (r := 308) lf_X8_105 (ob hM.1 s_277 (by decide)) fx_8_39 (oR_8_39 hM s_277) (pS_ne s_308) ?_
              refine PW.iconst (pc := 222) dX8_stands_222 (v := 1) (by decide) ?_
              refine PW.iald (pc := 223) dX8_stands_223 (ar hM.1 s_308) (vpl n_308 (vp_c (i := 1) (n := 6) (by decide))) ?_
              refine PW.iast (pc := 224) dX8_stands_224 (ar hM.1 s_317) (vpl n_317 (vp_c (i := 1) (n := 163) (by decide))) ?_
              refine PW.iconst (pc := 225) dX8_stands_225 (v := 0) (by decide) ?_
              refine PW.istore_n (pc := 226) dX8_stands_226 (ls' := [.ref 277, .int 0, .null]) (by decide) rfl rfl ?_
              obtain ⟨n34, h⟩ := h
              refine PW.drop (c_X8_stands_227  n34 _ _ (hM.same rfl rfl) h) ⟨rfl, rfl, trivial⟩
def w_X8_station_40 : Nat → Int32 → pm → (pm → Prop) → (Int32 → pm → Prop) → Prop
  | 0, _, _, _, _ => False
  | n + 1, x1, M, k65, Q => ((3 ≤ x1 → (k65  M)) ∧ (¬ 3 ≤ x1 → (vp_in x1 6 ∧ (vp_in x1 6 ∧ (w_X8_station_40 n (x1 + 1) (sI (sI M 309 x1.toNatClampNeg 0) 314 x1.toNatClampNeg (-1)) k65 Q)))))
set_option maxRecDepth 4000 in
theorem c_X8_station_40 {k65 : pm → Prop} {Q : Int32 → pm → Prop} (hk65 : ∀  (M : pm), pG M → k65  M → PW mX8_station 12 350 65 [.ref 277, .null] [] M (qI Q)) : ∀ (n : Nat) (x1 : Int32) (M : pm), pG M → w_X8_station_40 n x1 M k65 Q → PW mX8_station 12 350 40 [.ref 277, .int x1] [] M (qI Q) := by
  intro n
  induction n with
  | zero => intro x1 M hM h; exact h.elim
  | succ n ih =>
    intro x1 M hM h
    unfold w_X8_station_40 at h
    refine PW.iload_n (pc := 40) dX8_station_40 rfl ?_
    refine PW.iconst (pc := 41) dX8_station_41 (v := 3) (by decide) ?_
    refine PW.icmp_ge (pc := 42) dX8_station_42 (t := 65) (by decide) (fun hc => ?_) (fun hc => ?_)
    · have h := h.1 hc
      exact PW.drop (hk65 _ hM h) ⟨rfl, trivial⟩
    · have h := h.2 hc
      refine PW.aload_n (pc := 45) dX8_station_45 rfl ?_
      refine PW.getR (pc := 46) dX8_station_46 (r := 309) lf_X8_108 (ob hM.1 s_277 (by decide)) fx_8_40 (oR_8_40 hM s_277) (pS_ne s_309) ?_
      refine PW.iload_n (pc := 49) dX8_station_49 rfl ?_
      refine PW.iconst (pc := 50) dX8_station_50 (v := 0) (by decide) ?_
      obtain ⟨v1, h⟩ := h
      refine PW.iast (pc := 51) dX8_station_51 (ar hM.1 s_309) (vpl n_309 v1) ?_
      refine PW.aload_n (pc := 52) dX8_station_52 rfl ?_
      refine PW.getR (pc := 53) dX8_station_53 (r := 314) lf_X8_124 (ob hM.1 s_277 (by decide)) fx_8_45 (oR_8_45 (hM.same rfl rfl) s_277) (pS_ne s_314) ?_
      refine PW.iload_n (pc := 56) dX8_station_56 rfl ?_
      refine PW.iconst (pc := 57) dX8_station_57 (v := (-1)) (by decide) ?_
      obtain ⟨v2, h⟩ := h
      refine PW.iast (pc := 58) dX8_station_58 (ar hM.1 s_314) (vpl n_314 v2) ?_
      refine PW.iinc (pc := 59) dX8_station_59 (v := (x1 + 1)) (ls' := [.ref 277, .int (x1 + 1)]) rfl rfl (by decide) rfl rfl ?_
      refine PW.goto (pc := 62) dX8_station_62 (t := 40) (by decide) ?_
      exact PW.drop (ih _ _ (hM.same rfl rfl) h) ⟨rfl, rfl, trivial⟩
def w_X8_station_88 : Nat → pm → (pm → Prop) → (Int32 → pm → Prop) → Prop
  | 0, _, _, _ => False
  | n + 1, M, k110, Q => ((¬ (mI M 277 5) = 0 → (k110  M)) ∧ ((mI M 277 5) = 0 → (w_X8_look  M (fun y8 M7 => ((y8 = (-1) → (k110  M7)) ∧ (¬ y8 = (-1) → (w_X8_statementTold  M7 (fun M9 => w_X8_station_88 n M9 k110 Q))))))))
set_option maxRecDepth 4000 in
theorem c_X8_station_88 {k110 : pm → Prop} {Q : Int32 → pm → Prop} (hk110 : ∀  (M : pm), pG M → k110  M → PW mX8_station 12 350 110 [.ref 277, .null] [] M (qI Q)) : ∀ (n : Nat)  (M : pm), pG M → w_X8_station_88 n  M k110 Q → PW mX8_station 12 350 88 [.ref 277, .null] [] M (qI Q) := by
  intro n
  induction n with
  | zero => intro M hM h; exact h.elim
  | succ n ih =>
    intro M hM h
    unfold w_X8_station_88 at h
    refine PW.aload_n (pc := 88) dX8_station_88 rfl ?_
    refine PW.getI (pc := 89) dX8_station_89 lf_X8_249 (ob hM.1 s_277 (by decide)) fx_8_5 ?_
    refine PW.if_ne (pc := 92) dX8_station_92 (t := 110) (by decide) (fun hc => ?_) (fun hc => ?_)
    · have h := h.1 hc
      exact PW.drop (hk110 _ hM h) ⟨rfl, trivial⟩
    · have h := h.2 hc
      refine PW.aload_n (pc := 95) dX8_station_95 rfl ?_
      refine PW.inv (m' := mX8_look) (pc := 96) dX8_station_96 lm_X8_261 me_X8_look mi_X8_look (ob hM.1 s_277 (by decide)) rfl (As := []) (st := []) rfl (Nat.le_of_ble_eq_true rfl) (Nat.le_of_ble_eq_true rfl) (Nat.le_of_eq hM.1) (Nat.le_refl _) (PW.deep (by decide) (c_X8_look  hM h)) ?_
      rintro _ M7 ⟨hM, y8, rfl, h⟩
      refine PW.iconst (pc := 99) dX8_station_99 (v := (-1)) (by decide) ?_
      refine PW.icmp_eq (pc := 100) dX8_station_100 (t := 110) (by decide) (fun hc => ?_) (fun hc => ?_)
      · have h := h.1 hc
        exact PW.drop (hk110 _ hM h) ⟨rfl, trivial⟩
      · have h := h.2 hc
        refine PW.aload_n (pc := 103) dX8_station_103 rfl ?_
        refine PW.inv (m' := mX8_statementTold) (pc := 104) dX8_station_104 lm_X8_376 me_X8_statementTold mi_X8_statementTold (ob hM.1 s_277 (by decide)) rfl (As := []) (st := []) rfl (Nat.le_of_ble_eq_true rfl) (Nat.le_of_ble_eq_true rfl) (Nat.le_of_eq hM.1) (Nat.le_refl _) (PW.deep (by decide) (c_X8_statementTold  hM h)) ?_
        rintro _ M9 ⟨hM, rfl, h⟩
        refine PW.goto (pc := 107) dX8_station_107 (t := 88) (by decide) ?_
        exact PW.drop (ih _ hM h) ⟨rfl, trivial⟩
def w_X8_station_110   (M : pm)  (Q : Int32 → pm → Prop) : Prop := (((mI M 277 5) = 0 → (w_X8_stands  (sI (sI M 277 7 (mI M 277 5)) 277 8 (mI M 277 6)) (fun M13 => Q (mI M13 277 49) M13))) ∧ (¬ (mI M 277 5) = 0 → (Q (-1) (sI (sI (sI M 277 7 (mI M 277 5)) 277 8 (mI M 277 6)) 279 1 ((mI M 279 1) + 1)))))
set_option maxRecDepth 4000 in
theorem c_X8_station_110  {Q : Int32 → pm → Prop}  : ∀  (M : pm), pG M → w_X8_station_110  M  Q → PW mX8_station 12 350 110 [.ref 277, .null] [] M (qI Q) := by
  intro M hM h
  unfold w_X8_station_110 at h
  refine PW.aload_n (pc := 110) dX8_station_110 rfl ?_
  refine PW.aload_n (pc := 111) dX8_station_111 rfl ?_
  refine PW.getI (pc := 112) dX8_station_112 lf_X8_249 (ob hM.1 s_277 (by decide)) fx_8_5 ?_
  refine PW.putI (pc := 115) dX8_station_115 lf_X8_379 (ob hM.1 s_277 (by decide)) fx_8_7 fw_8_7 rfl rfl ?_
  refine PW.aload_n (pc := 118) dX8_station_118 rfl ?_
  refine PW.aload_n (pc := 119) dX8_station_119 rfl ?_
  refine PW.getI (pc := 120) dX8_station_120 lf_X8_252 (ob hM.1 s_277 (by decide)) fx_8_6 ?_
  refine PW.putI (pc := 123) dX8_station_123 lf_X8_13 (ob hM.1 s_277 (by decide)) fx_8_8 fw_8_8 rfl rfl ?_
  refine PW.aload_n (pc := 126) dX8_station_126 rfl ?_
  refine PW.getI (pc := 127) dX8_station_127 lf_X8_249 (ob hM.1 s_277 (by decide)) fx_8_5 ?_
  refine PW.if_eq (pc := 130) dX8_station_130 (t := 145) (by decide) (fun hc => ?_) (fun hc => ?_)
  · have h := h.1 hc
    refine PW.aload_n (pc := 145) dX8_station_145 rfl ?_
    refine PW.inv (m' := mX8_stands) (pc := 146) dX8_station_146 lm_X8_382 me_X8_stands mi_X8_stands (ob hM.1 s_277 (by decide)) rfl (As := []) (st := []) rfl (Nat.le_of_ble_eq_true rfl) (Nat.le_of_ble_eq_true rfl) (Nat.le_of_eq hM.1) (Nat.le_refl _) (PW.deep (by decide) (c_X8_stands  (hM.same rfl rfl) h)) ?_
    rintro _ M13 ⟨hM, rfl, h⟩
    refine PW.aload_n (pc := 149) dX8_station_149 rfl ?_
    refine PW.getI (pc := 150) dX8_station_150 lf_X8_358 (ob hM.1 s_277 (by decide)) fx_8_49 ?_
    exact PW.retI (pc := 153) dX8_station_153 hM.1 rfl rfl ⟨hM, _, rfl, h⟩
  · have h := h.2 hc
    refine PW.aload_n (pc := 133) dX8_station_133 rfl ?_
    refine PW.getR (pc := 134) dX8_station_134 (r := 279) lf_X8_17 (ob hM.1 s_277 (by decide)) fx_8_9 (oR_8_9 (hM.same rfl rfl) s_277) (pS_ne s_279) ?_
    refine PW.iconst (pc := 137) dX8_station_137 (v := 1) (by decide) ?_
    refine PW.dup2IR (pc := 138) dX8_station_138 ?_
    refine PW.iald (pc := 139) dX8_station_139 (ar hM.1 s_279) (vpl n_279 (vp_c (i := 1) (n := 6) (by decide))) ?_
    refine PW.iconst (pc := 140) dX8_station_140 (v := 1) (by decide) ?_
    refine PW.iadd (pc := 141) dX8_station_141 ?_
    refine PW.iast (pc := 142) dX8_station_142 (ar hM.1 s_279) (vpl n_279 (vp_c (i := 1) (n := 6) (by decide))) ?_
    refine PW.iconst (pc := 143) dX8_station_143 (v := (-1)) (by decide) ?_
    exact PW.retI (pc := 144) dX8_station_144 hM.1 rfl rfl ⟨(hM.same rfl rfl), _, rfl, h⟩
def w_X8_station  (M : pm) (Q : Int32 → pm → Prop) : Prop := ∃ n3, w_X8_station_40 n3 0 (sI (sI (sI (sI (sI (sI (sI M 277 3 (mI M 277 1)) 277 1 0) 277 2 0) 277 4 (-1)) 277 5 0) 277 6 (-1)) 277 48 0) (fun M4 => w_X8_hourTold  (sI (sI M4 308 1 0) 308 2 0) (fun M5 => ∃ n11, w_X8_station_88 n11  (sI M5 277 49 1) (fun M12 => w_X8_station_110  M12  Q) Q)) Q
set_option maxRecDepth 4000 in
theorem c_X8_station  {M : pm} {Q : Int32 → pm → Prop}  (hM : pG M) (h : w_X8_station  M Q) : PW mX8_station 12 350 0 (pfr mX8_station.2.2.1 [.ref 277]) [] M (qI Q) := by
  unfold w_X8_station at h
  show PW mX8_station 12 350 0 [.ref 277, .null] [] M (qI Q)
  refine PW.aload_n (pc := 0) dX8_station_0 rfl ?_
  refine PW.aload_n (pc := 1) dX8_station_1 rfl ?_
  refine PW.getI (pc := 2) dX8_station_2 lf_X8_246 (ob hM.1 s_277 (by decide)) fx_8_1 ?_
  refine PW.putI (pc := 5) dX8_station_5 lf_X8_258 (ob hM.1 s_277 (by decide)) fx_8_3 fw_8_3 rfl rfl ?_
  refine PW.aload_n (pc := 8) dX8_station_8 rfl ?_
  refine PW.iconst (pc := 9) dX8_station_9 (v := 0) (by decide) ?_
  refine PW.putI (pc := 10) dX8_station_10 lf_X8_246 (ob hM.1 s_277 (by decide)) fx_8_1 fw_8_1 rfl rfl ?_
  refine PW.aload_n (pc := 13) dX8_station_13 rfl ?_
  refine PW.iconst (pc := 14) dX8_station_14 (v := 0) (by decide) ?_
  refine PW.putI (pc := 15) dX8_station_15 lf_X8_255 (ob hM.1 s_277 (by decide)) fx_8_2 fw_8_2 rfl rfl ?_
  refine PW.aload_n (pc := 18) dX8_station_18 rfl ?_
  refine PW.iconst (pc := 19) dX8_station_19 (v := (-1)) (by decide) ?_
  refine PW.putI (pc := 20) dX8_station_20 lf_X8_269 (ob hM.1 s_277 (by decide)) fx_8_4 fw_8_4 rfl rfl ?_
  refine PW.aload_n (pc := 23) dX8_station_23 rfl ?_
  refine PW.iconst (pc := 24) dX8_station_24 (v := 0) (by decide) ?_
  refine PW.putI (pc := 25) dX8_station_25 lf_X8_249 (ob hM.1 s_277 (by decide)) fx_8_5 fw_8_5 rfl rfl ?_
  refine PW.aload_n (pc := 28) dX8_station_28 rfl ?_
  refine PW.iconst (pc := 29) dX8_station_29 (v := (-1)) (by decide) ?_
  refine PW.putI (pc := 30) dX8_station_30 lf_X8_252 (ob hM.1 s_277 (by decide)) fx_8_6 fw_8_6 rfl rfl ?_
  refine PW.aload_n (pc := 33) dX8_station_33 rfl ?_
  refine PW.iconst (pc := 34) dX8_station_34 (v := 0) (by decide) ?_
  refine PW.putI (pc := 35) dX8_station_35 lf_X8_355 (ob hM.1 s_277 (by decide)) fx_8_48 fw_8_48 rfl rfl ?_
  refine PW.iconst (pc := 38) dX8_station_38 (v := 0) (by decide) ?_
  refine PW.istore_n (pc := 39) dX8_station_39 (ls' := [.ref 277, .int 0]) (by decide) rfl rfl ?_
  obtain ⟨n3, h⟩ := h
  refine PW.drop (c_X8_station_40 ?_ n3 _ _ (hM.same rfl rfl) h) ⟨rfl, rfl, trivial⟩
  · intro M4 hM h
    refine PW.aload_n (pc := 65) dX8_station_65 rfl ?_
    refine PW.getR (pc := 66) dX8_station_66 (r := 308) lf_X8_105 (ob hM.1 s_277 (by decide)) fx_8_39 (oR_8_39 hM s_277) (pS_ne s_308) ?_
    refine PW.iconst (pc := 69) dX8_station_69 (v := 1) (by decide) ?_
    refine PW.iconst (pc := 70) dX8_station_70 (v := 0) (by decide) ?_
    refine PW.iast (pc := 71) dX8_station_71 (ar hM.1 s_308) (vpl n_308 (vp_c (i := 1) (n := 6) (by decide))) ?_
    refine PW.aload_n (pc := 72) dX8_station_72 rfl ?_
    refine PW.getR (pc := 73) dX8_station_73 (r := 308) lf_X8_105 (ob hM.1 s_277 (by decide)) fx_8_39 (oR_8_39 (hM.same rfl rfl) s_277) (pS_ne s_308) ?_
    refine PW.iconst (pc := 76) dX8_station_76 (v := 2) (by decide) ?_
    refine PW.iconst (pc := 77) dX8_station_77 (v := 0) (by decide) ?_
    refine PW.iast (pc := 78) dX8_station_78 (ar hM.1 s_308) (vpl n_308 (vp_c (i := 2) (n := 6) (by decide))) ?_
    refine PW.aload_n (pc := 79) dX8_station_79 rfl ?_
    refine PW.inv (m' := mX8_hourTold) (pc := 80) dX8_station_80 lm_X8_373 me_X8_hourTold mi_X8_hourTold (ob hM.1 s_277 (by decide)) rfl (As := []) (st := []) rfl (Nat.le_of_ble_eq_true rfl) (Nat.le_of_ble_eq_true rfl) (Nat.le_of_eq hM.1) (Nat.le_refl _) (PW.deep (by decide) (c_X8_hourTold  (hM.same rfl rfl) h)) ?_
    rintro _ M5 ⟨hM, rfl, h⟩
    refine PW.aload_n (pc := 83) dX8_station_83 rfl ?_
    refine PW.iconst (pc := 84) dX8_station_84 (v := 1) (by decide) ?_
    refine PW.putI (pc := 85) dX8_station_85 lf_X8_358 (ob hM.1 s_277 (by decide)) fx_8_49 fw_8_49 rfl rfl ?_
    obtain ⟨n11, h⟩ := h
    refine PW.drop (c_X8_station_88 ?_ n11 _ (hM.same rfl rfl) h) ⟨rfl, trivial⟩
    · intro M12 hM h
      exact PW.drop (c_X8_station_110  _ hM h) ⟨rfl, trivial⟩
def w_X8_fault (x1 : Int32) (M : pm) (Q : Int32 → pm → Prop) : Prop := ((¬ x1 = 0 → ((¬ x1 = 1 → (Q (-1) M)) ∧ (x1 = 1 → (Q (mI M 277 8) M)))) ∧ (x1 = 0 → (Q (mI M 277 7) M)))
set_option maxRecDepth 4000 in
theorem c_X8_fault {x1 : Int32} {M : pm} {Q : Int32 → pm → Prop}  (hM : pG M) (h : w_X8_fault x1 M Q) : PW mX8_fault 1 350 0 (pfr mX8_fault.2.2.1 [.ref 277, .int x1]) [] M (qI Q) := by
  unfold w_X8_fault at h
  show PW mX8_fault 1 350 0 [.ref 277, .int x1] [] M (qI Q)
  refine PW.iload_n (pc := 0) dX8_fault_0 rfl ?_
  refine PW.if_ne (pc := 1) dX8_fault_1 (t := 11) (by decide) (fun hc => ?_) (fun hc => ?_)
  · have h := h.1 hc
    refine PW.iload_n (pc := 11) dX8_fault_11 rfl ?_
    refine PW.iconst (pc := 12) dX8_fault_12 (v := 1) (by decide) ?_
    refine PW.icmp_ne (pc := 13) dX8_fault_13 (t := 23) (by decide) (fun hc => ?_) (fun hc => ?_)
    · have h := h.1 hc
      refine PW.iconst (pc := 23) dX8_fault_23 (v := (-1)) (by decide) ?_
      exact PW.retI (pc := 24) dX8_fault_24 hM.1 rfl rfl ⟨hM, _, rfl, h⟩
    · have h := h.2 hc
      refine PW.aload_n (pc := 16) dX8_fault_16 rfl ?_
      refine PW.getI (pc := 17) dX8_fault_17 lf_X8_13 (ob hM.1 s_277 (by decide)) fx_8_8 ?_
      refine PW.goto (pc := 20) dX8_fault_20 (t := 24) (by decide) ?_
      exact PW.retI (pc := 24) dX8_fault_24 hM.1 rfl rfl ⟨hM, _, rfl, h⟩
  · have h := h.2 hc
    refine PW.aload_n (pc := 4) dX8_fault_4 rfl ?_
    refine PW.getI (pc := 5) dX8_fault_5 lf_X8_379 (ob hM.1 s_277 (by decide)) fx_8_7 ?_
    refine PW.goto (pc := 8) dX8_fault_8 (t := 24) (by decide) ?_
    exact PW.retI (pc := 24) dX8_fault_24 hM.1 rfl rfl ⟨hM, _, rfl, h⟩
def w_X8_songMany  (M : pm) (Q : Int32 → pm → Prop) : Prop := Q (mI M 309 3) M
set_option maxRecDepth 4000 in
theorem c_X8_songMany  {M : pm} {Q : Int32 → pm → Prop}  (hM : pG M) (h : w_X8_songMany  M Q) : PW mX8_songMany 1 350 0 (pfr mX8_songMany.2.2.1 [.ref 277]) [] M (qI Q) := by
  unfold w_X8_songMany at h
  show PW mX8_songMany 1 350 0 [.ref 277] [] M (qI Q)
  refine PW.aload_n (pc := 0) dX8_songMany_0 rfl ?_
  refine PW.getR (pc := 1) dX8_songMany_1 (r := 309) lf_X8_108 (ob hM.1 s_277 (by decide)) fx_8_40 (oR_8_40 hM s_277) (pS_ne s_309) ?_
  refine PW.iconst (pc := 4) dX8_songMany_4 (v := 3) (by decide) ?_
  refine PW.iald (pc := 5) dX8_songMany_5 (ar hM.1 s_309) (vpl n_309 (vp_c (i := 3) (n := 6) (by decide))) ?_
  exact PW.retI (pc := 6) dX8_songMany_6 hM.1 rfl rfl ⟨hM, _, rfl, h⟩
def w_X8_askerMany  (M : pm) (Q : Int32 → pm → Prop) : Prop := Q (mI M 309 4) M
set_option maxRecDepth 4000 in
theorem c_X8_askerMany  {M : pm} {Q : Int32 → pm → Prop}  (hM : pG M) (h : w_X8_askerMany  M Q) : PW mX8_askerMany 1 350 0 (pfr mX8_askerMany.2.2.1 [.ref 277]) [] M (qI Q) := by
  unfold w_X8_askerMany at h
  show PW mX8_askerMany 1 350 0 [.ref 277] [] M (qI Q)
  refine PW.aload_n (pc := 0) dX8_askerMany_0 rfl ?_
  refine PW.getR (pc := 1) dX8_askerMany_1 (r := 309) lf_X8_108 (ob hM.1 s_277 (by decide)) fx_8_40 (oR_8_40 hM s_277) (pS_ne s_309) ?_
  refine PW.iconst (pc := 4) dX8_askerMany_4 (v := 4) (by decide) ?_
  refine PW.iald (pc := 5) dX8_askerMany_5 (ar hM.1 s_309) (vpl n_309 (vp_c (i := 4) (n := 6) (by decide))) ?_
  exact PW.retI (pc := 6) dX8_askerMany_6 hM.1 rfl rfl ⟨hM, _, rfl, h⟩
def w_X8_earMany  (M : pm) (Q : Int32 → pm → Prop) : Prop := Q (mI M 309 5) M
set_option maxRecDepth 4000 in
theorem c_X8_earMany  {M : pm} {Q : Int32 → pm → Prop}  (hM : pG M) (h : w_X8_earMany  M Q) : PW mX8_earMany 1 350 0 (pfr mX8_earMany.2.2.1 [.ref 277]) [] M (qI Q) := by
  unfold w_X8_earMany at h
  show PW mX8_earMany 1 350 0 [.ref 277] [] M (qI Q)
  refine PW.aload_n (pc := 0) dX8_earMany_0 rfl ?_
  refine PW.getR (pc := 1) dX8_earMany_1 (r := 309) lf_X8_108 (ob hM.1 s_277 (by decide)) fx_8_40 (oR_8_40 hM s_277) (pS_ne s_309) ?_
  refine PW.iconst (pc := 4) dX8_earMany_4 (v := 5) (by decide) ?_
  refine PW.iald (pc := 5) dX8_earMany_5 (ar hM.1 s_309) (vpl n_309 (vp_c (i := 5) (n := 6) (by decide))) ?_
  exact PW.retI (pc := 6) dX8_earMany_6 hM.1 rfl rfl ⟨hM, _, rfl, h⟩
def w_X8_isAsker (x1 : Int32) (M : pm) (Q : Int32 → pm → Prop) : Prop := w_X8_askerMany  M (fun y2 M1 => w_X8_isIn (Int32.toInt64 x1) (0 : Int64) (Int32.toInt64 (y2 - 1)) M1 (fun y4 M3 => Q y4 M3))
set_option maxRecDepth 4000 in
theorem c_X8_isAsker {x1 : Int32} {M : pm} {Q : Int32 → pm → Prop}  (hM : pG M) (h : w_X8_isAsker x1 M Q) : PW mX8_isAsker 2 350 0 (pfr mX8_isAsker.2.2.1 [.ref 277, .int x1]) [] M (qZ Q) := by
  unfold w_X8_isAsker at h
  show PW mX8_isAsker 2 350 0 [.ref 277, .int x1] [] M (qZ Q)
  refine PW.iload_n (pc := 0) dX8_isAsker_0 rfl ?_
  refine PW.i2l (pc := 1) dX8_isAsker_1 ?_
  refine PW.lconst (pc := 2) dX8_isAsker_2 (v := 0) (by decide) ?_
  refine PW.aload_n (pc := 3) dX8_isAsker_3 rfl ?_
  refine PW.inv (m' := mX8_askerMany) (pc := 4) dX8_isAsker_4 lm_X8_395 me_X8_askerMany mi_X8_askerMany (ob hM.1 s_277 (by decide)) rfl (As := []) (st := [.long (0 : Int64), .long (Int32.toInt64 x1)]) rfl (Nat.le_of_ble_eq_true rfl) (Nat.le_of_ble_eq_true rfl) (Nat.le_of_eq hM.1) (Nat.le_refl _) (PW.deep (by decide) (c_X8_askerMany  hM h)) ?_
  rintro _ M1 ⟨hM, y2, rfl, h⟩
  refine PW.iconst (pc := 7) dX8_isAsker_7 (v := 1) (by decide) ?_
  refine PW.isub (pc := 8) dX8_isAsker_8 ?_
  refine PW.i2l (pc := 9) dX8_isAsker_9 ?_
  refine PW.ins (m' := mX8_isIn) (pc := 10) dX8_isAsker_10 lm_X8_289 me_X8_isIn ms_X8_isIn (As := [.long (Int32.toInt64 x1), .long (0 : Int64), .long (Int32.toInt64 (y2 - 1))]) (st := []) rfl (Nat.le_of_ble_eq_true rfl) (Nat.le_of_ble_eq_true rfl) (Nat.le_of_eq hM.1) (Nat.le_refl _) (PW.deep (by decide) (c_X8_isIn  hM h)) ?_
  rintro _ M3 ⟨hM, y4, rfl, z5, h⟩
  exact PW.retI (pc := 13) dX8_isAsker_13 hM.1 rfl (bz_n z5) ⟨hM, _, rfl, z5, h⟩
def w_X8_songOf (x1 : Int32) (M : pm) (Q : Int32 → pm → Prop) : Prop := vp_in (2 + (5 * x1)) 163 ∧ (Q (mI M 317 ((2 + (5 * x1)).toNatClampNeg)) M)
set_option maxRecDepth 4000 in
theorem c_X8_songOf {x1 : Int32} {M : pm} {Q : Int32 → pm → Prop}  (hM : pG M) (h : w_X8_songOf x1 M Q) : PW mX8_songOf 1 350 0 (pfr mX8_songOf.2.2.1 [.ref 277, .int x1]) [] M (qI Q) := by
  unfold w_X8_songOf at h
  show PW mX8_songOf 1 350 0 [.ref 277, .int x1] [] M (qI Q)
  refine PW.aload_n (pc := 0) dX8_songOf_0 rfl ?_
  refine PW.getR (pc := 1) dX8_songOf_1 (r := 317) lf_X8_133 (ob hM.1 s_277 (by decide)) fx_8_52 (oR_8_52 hM s_277) (pS_ne s_317) ?_
  refine PW.iconst (pc := 4) dX8_songOf_4 (v := 2) (by decide) ?_
  refine PW.iconst (pc := 5) dX8_songOf_5 (v := 5) (by decide) ?_
  refine PW.iload_n (pc := 6) dX8_songOf_6 rfl ?_
  refine PW.imul (pc := 7) dX8_songOf_7 ?_
  refine PW.iadd (pc := 8) dX8_songOf_8 ?_
  obtain ⟨v1, h⟩ := h
  refine PW.iald (pc := 9) dX8_songOf_9 (ar hM.1 s_317) (vpl n_317 v1) ?_
  exact PW.retI (pc := 10) dX8_songOf_10 hM.1 rfl rfl ⟨hM, _, rfl, h⟩
def w_X8_diesOf (x1 : Int32) (M : pm) (Q : Int32 → pm → Prop) : Prop := vp_in (3 + (5 * x1)) 163 ∧ (Q (mI M 317 ((3 + (5 * x1)).toNatClampNeg)) M)
set_option maxRecDepth 4000 in
theorem c_X8_diesOf {x1 : Int32} {M : pm} {Q : Int32 → pm → Prop}  (hM : pG M) (h : w_X8_diesOf x1 M Q) : PW mX8_diesOf 1 350 0 (pfr mX8_diesOf.2.2.1 [.ref 277, .int x1]) [] M (qI Q) := by
  unfold w_X8_diesOf at h
  show PW mX8_diesOf 1 350 0 [.ref 277, .int x1] [] M (qI Q)
  refine PW.aload_n (pc := 0) dX8_diesOf_0 rfl ?_
  refine PW.getR (pc := 1) dX8_diesOf_1 (r := 317) lf_X8_133 (ob hM.1 s_277 (by decide)) fx_8_52 (oR_8_52 hM s_277) (pS_ne s_317) ?_
  refine PW.iconst (pc := 4) dX8_diesOf_4 (v := 3) (by decide) ?_
  refine PW.iconst (pc := 5) dX8_diesOf_5 (v := 5) (by decide) ?_
  refine PW.iload_n (pc := 6) dX8_diesOf_6 rfl ?_
  refine PW.imul (pc := 7) dX8_diesOf_7 ?_
  refine PW.iadd (pc := 8) dX8_diesOf_8 ?_
  obtain ⟨v1, h⟩ := h
  refine PW.iald (pc := 9) dX8_diesOf_9 (ar hM.1 s_317) (vpl n_317 v1) ?_
  exact PW.retI (pc := 10) dX8_diesOf_10 hM.1 rfl rfl ⟨hM, _, rfl, h⟩
def w_X8_mindsOf (x1 : Int32) (M : pm) (Q : Int32 → pm → Prop) : Prop := vp_in (4 + (5 * x1)) 163 ∧ (Q (mI M 317 ((4 + (5 * x1)).toNatClampNeg)) M)
set_option maxRecDepth 4000 in
theorem c_X8_mindsOf {x1 : Int32} {M : pm} {Q : Int32 → pm → Prop}  (hM : pG M) (h : w_X8_mindsOf x1 M Q) : PW mX8_mindsOf 1 350 0 (pfr mX8_mindsOf.2.2.1 [.ref 277, .int x1]) [] M (qI Q) := by
  unfold w_X8_mindsOf at h
  show PW mX8_mindsOf 1 350 0 [.ref 277, .int x1] [] M (qI Q)
  refine PW.aload_n (pc := 0) dX8_mindsOf_0 rfl ?_
  refine PW.getR (pc := 1) dX8_mindsOf_1 (r := 317) lf_X8_133 (ob hM.1 s_277 (by decide)) fx_8_52 (oR_8_52 hM s_277) (pS_ne s_317) ?_
  refine PW.iconst (pc := 4) dX8_mindsOf_4 (v := 4) (by decide) ?_
  refine PW.iconst (pc := 5) dX8_mindsOf_5 (v := 5) (by decide) ?_
  refine PW.iload_n (pc := 6) dX8_mindsOf_6 rfl ?_
  refine PW.imul (pc := 7) dX8_mindsOf_7 ?_
  refine PW.iadd (pc := 8) dX8_mindsOf_8 ?_
  obtain ⟨v1, h⟩ := h
  refine PW.iald (pc := 9) dX8_mindsOf_9 (ar hM.1 s_317) (vpl n_317 v1) ?_
  exact PW.retI (pc := 10) dX8_mindsOf_10 hM.1 rfl rfl ⟨hM, _, rfl, h⟩
def w_X8_lastOf (x1 : Int32) (M : pm) (Q : Int32 → pm → Prop) : Prop := vp_in (5 + (5 * x1)) 163 ∧ (Q (mI M 317 ((5 + (5 * x1)).toNatClampNeg)) M)
set_option maxRecDepth 4000 in
theorem c_X8_lastOf {x1 : Int32} {M : pm} {Q : Int32 → pm → Prop}  (hM : pG M) (h : w_X8_lastOf x1 M Q) : PW mX8_lastOf 1 350 0 (pfr mX8_lastOf.2.2.1 [.ref 277, .int x1]) [] M (qI Q) := by
  unfold w_X8_lastOf at h
  show PW mX8_lastOf 1 350 0 [.ref 277, .int x1] [] M (qI Q)
  refine PW.aload_n (pc := 0) dX8_lastOf_0 rfl ?_
  refine PW.getR (pc := 1) dX8_lastOf_1 (r := 317) lf_X8_133 (ob hM.1 s_277 (by decide)) fx_8_52 (oR_8_52 hM s_277) (pS_ne s_317) ?_
  refine PW.iconst (pc := 4) dX8_lastOf_4 (v := 5) (by decide) ?_
  refine PW.iconst (pc := 5) dX8_lastOf_5 (v := 5) (by decide) ?_
  refine PW.iload_n (pc := 6) dX8_lastOf_6 rfl ?_
  refine PW.imul (pc := 7) dX8_lastOf_7 ?_
  refine PW.iadd (pc := 8) dX8_lastOf_8 ?_
  obtain ⟨v1, h⟩ := h
  refine PW.iald (pc := 9) dX8_lastOf_9 (ar hM.1 s_317) (vpl n_317 v1) ?_
  exact PW.retI (pc := 10) dX8_lastOf_10 hM.1 rfl rfl ⟨hM, _, rfl, h⟩
def w_X8_playedOf (x1 : Int32) (M : pm) (Q : Int32 → pm → Prop) : Prop := vp_in (6 + (5 * x1)) 163 ∧ (Q (mI M 317 ((6 + (5 * x1)).toNatClampNeg)) M)
set_option maxRecDepth 4000 in
theorem c_X8_playedOf {x1 : Int32} {M : pm} {Q : Int32 → pm → Prop}  (hM : pG M) (h : w_X8_playedOf x1 M Q) : PW mX8_playedOf 1 350 0 (pfr mX8_playedOf.2.2.1 [.ref 277, .int x1]) [] M (qI Q) := by
  unfold w_X8_playedOf at h
  show PW mX8_playedOf 1 350 0 [.ref 277, .int x1] [] M (qI Q)
  refine PW.aload_n (pc := 0) dX8_playedOf_0 rfl ?_
  refine PW.getR (pc := 1) dX8_playedOf_1 (r := 317) lf_X8_133 (ob hM.1 s_277 (by decide)) fx_8_52 (oR_8_52 hM s_277) (pS_ne s_317) ?_
  refine PW.bipush (pc := 4) dX8_playedOf_4 (v := 6) (by decide) ?_
  refine PW.iconst (pc := 6) dX8_playedOf_6 (v := 5) (by decide) ?_
  refine PW.iload_n (pc := 7) dX8_playedOf_7 rfl ?_
  refine PW.imul (pc := 8) dX8_playedOf_8 ?_
  refine PW.iadd (pc := 9) dX8_playedOf_9 ?_
  obtain ⟨v1, h⟩ := h
  refine PW.iald (pc := 10) dX8_playedOf_10 (ar hM.1 s_317) (vpl n_317 v1) ?_
  exact PW.retI (pc := 11) dX8_playedOf_11 hM.1 rfl rfl ⟨hM, _, rfl, h⟩
def w_X8_longOf (x1 : Int32) (M : pm) (Q : Int32 → pm → Prop) : Prop := w_X8_songOf x1 M (fun y2 M1 => vp_in (12 + (2 * y2)) 24 ∧ (Q (mI M1 311 ((12 + (2 * y2)).toNatClampNeg)) M1))
set_option maxRecDepth 4000 in
theorem c_X8_longOf {x1 : Int32} {M : pm} {Q : Int32 → pm → Prop}  (hM : pG M) (h : w_X8_longOf x1 M Q) : PW mX8_longOf 2 350 0 (pfr mX8_longOf.2.2.1 [.ref 277, .int x1]) [] M (qI Q) := by
  unfold w_X8_longOf at h
  show PW mX8_longOf 2 350 0 [.ref 277, .int x1] [] M (qI Q)
  refine PW.aload_n (pc := 0) dX8_longOf_0 rfl ?_
  refine PW.getR (pc := 1) dX8_longOf_1 (r := 311) lf_X8_115 (ob hM.1 s_277 (by decide)) fx_8_42 (oR_8_42 hM s_277) (pS_ne s_311) ?_
  refine PW.bipush (pc := 4) dX8_longOf_4 (v := 12) (by decide) ?_
  refine PW.iconst (pc := 6) dX8_longOf_6 (v := 2) (by decide) ?_
  refine PW.aload_n (pc := 7) dX8_longOf_7 rfl ?_
  refine PW.iload_n (pc := 8) dX8_longOf_8 rfl ?_
  refine PW.inv (m' := mX8_songOf) (pc := 9) dX8_longOf_9 lm_X8_398 me_X8_songOf mi_X8_songOf (ob hM.1 s_277 (by decide)) rfl (As := [.int x1]) (st := [.int 2, .int 12, .ref 311]) rfl (Nat.le_of_ble_eq_true rfl) (Nat.le_of_ble_eq_true rfl) (Nat.le_of_eq hM.1) (Nat.le_refl _) (PW.deep (by decide) (c_X8_songOf  hM h)) ?_
  rintro _ M1 ⟨hM, y2, rfl, h⟩
  refine PW.imul (pc := 12) dX8_longOf_12 ?_
  refine PW.iadd (pc := 13) dX8_longOf_13 ?_
  obtain ⟨v3, h⟩ := h
  refine PW.iald (pc := 14) dX8_longOf_14 (ar hM.1 s_311) (vpl n_311 v3) ?_
  exact PW.retI (pc := 15) dX8_longOf_15 hM.1 rfl rfl ⟨hM, _, rfl, h⟩
def w_X8_styleOf (x1 : Int32) (M : pm) (Q : Int32 → pm → Prop) : Prop := w_X8_songOf x1 M (fun y2 M1 => vp_in (13 + (2 * y2)) 24 ∧ (Q (mI M1 311 ((13 + (2 * y2)).toNatClampNeg)) M1))
set_option maxRecDepth 4000 in
theorem c_X8_styleOf {x1 : Int32} {M : pm} {Q : Int32 → pm → Prop}  (hM : pG M) (h : w_X8_styleOf x1 M Q) : PW mX8_styleOf 2 350 0 (pfr mX8_styleOf.2.2.1 [.ref 277, .int x1]) [] M (qI Q) := by
  unfold w_X8_styleOf at h
  show PW mX8_styleOf 2 350 0 [.ref 277, .int x1] [] M (qI Q)
  refine PW.aload_n (pc := 0) dX8_styleOf_0 rfl ?_
  refine PW.getR (pc := 1) dX8_styleOf_1 (r := 311) lf_X8_115 (ob hM.1 s_277 (by decide)) fx_8_42 (oR_8_42 hM s_277) (pS_ne s_311) ?_
  refine PW.bipush (pc := 4) dX8_styleOf_4 (v := 13) (by decide) ?_
  refine PW.iconst (pc := 6) dX8_styleOf_6 (v := 2) (by decide) ?_
  refine PW.aload_n (pc := 7) dX8_styleOf_7 rfl ?_
  refine PW.iload_n (pc := 8) dX8_styleOf_8 rfl ?_
  refine PW.inv (m' := mX8_songOf) (pc := 9) dX8_styleOf_9 lm_X8_398 me_X8_songOf mi_X8_songOf (ob hM.1 s_277 (by decide)) rfl (As := [.int x1]) (st := [.int 2, .int 13, .ref 311]) rfl (Nat.le_of_ble_eq_true rfl) (Nat.le_of_ble_eq_true rfl) (Nat.le_of_eq hM.1) (Nat.le_refl _) (PW.deep (by decide) (c_X8_songOf  hM h)) ?_
  rintro _ M1 ⟨hM, y2, rfl, h⟩
  refine PW.imul (pc := 12) dX8_styleOf_12 ?_
  refine PW.iadd (pc := 13) dX8_styleOf_13 ?_
  obtain ⟨v3, h⟩ := h
  refine PW.iald (pc := 14) dX8_styleOf_14 (ar hM.1 s_311) (vpl n_311 v3) ?_
  exact PW.retI (pc := 15) dX8_styleOf_15 hM.1 rfl rfl ⟨hM, _, rfl, h⟩
def w_X8_isDead (x1 : Int32) (M : pm) (Q : Int32 → pm → Prop) : Prop := w_X8_diesOf x1 M (fun y2 M1 => (((mI M 317 0) < y2 → (Q 0 M1)) ∧ (¬ (mI M 317 0) < y2 → (Q 1 M1))))
set_option maxRecDepth 4000 in
theorem c_X8_isDead {x1 : Int32} {M : pm} {Q : Int32 → pm → Prop}  (hM : pG M) (h : w_X8_isDead x1 M Q) : PW mX8_isDead 2 350 0 (pfr mX8_isDead.2.2.1 [.ref 277, .int x1]) [] M (qZ Q) := by
  unfold w_X8_isDead at h
  show PW mX8_isDead 2 350 0 [.ref 277, .int x1] [] M (qZ Q)
  refine PW.aload_n (pc := 0) dX8_isDead_0 rfl ?_
  refine PW.getR (pc := 1) dX8_isDead_1 (r := 317) lf_X8_133 (ob hM.1 s_277 (by decide)) fx_8_52 (oR_8_52 hM s_277) (pS_ne s_317) ?_
  refine PW.iconst (pc := 4) dX8_isDead_4 (v := 0) (by decide) ?_
  refine PW.iald (pc := 5) dX8_isDead_5 (ar hM.1 s_317) (vpl n_317 (vp_c (i := 0) (n := 163) (by decide))) ?_
  refine PW.aload_n (pc := 6) dX8_isDead_6 rfl ?_
  refine PW.iload_n (pc := 7) dX8_isDead_7 rfl ?_
  refine PW.inv (m' := mX8_diesOf) (pc := 8) dX8_isDead_8 lm_X8_402 me_X8_diesOf mi_X8_diesOf (ob hM.1 s_277 (by decide)) rfl (As := [.int x1]) (st := [.int (mI M 317 0)]) rfl (Nat.le_of_ble_eq_true rfl) (Nat.le_of_ble_eq_true rfl) (Nat.le_of_eq hM.1) (Nat.le_refl _) (PW.deep (by decide) (c_X8_diesOf  hM h)) ?_
  rintro _ M1 ⟨hM, y2, rfl, h⟩
  refine PW.icmp_lt (pc := 11) dX8_isDead_11 (t := 18) (by decide) (fun hc => ?_) (fun hc => ?_)
  · have h := h.1 hc
    refine PW.iconst (pc := 18) dX8_isDead_18 (v := 0) (by decide) ?_
    exact PW.retI (pc := 19) dX8_isDead_19 hM.1 rfl (bz_n bz0) ⟨hM, _, rfl, bz0, h⟩
  · have h := h.2 hc
    refine PW.iconst (pc := 14) dX8_isDead_14 (v := 1) (by decide) ?_
    refine PW.goto (pc := 15) dX8_isDead_15 (t := 19) (by decide) ?_
    exact PW.retI (pc := 19) dX8_isDead_19 hM.1 rfl (bz_n bz1) ⟨hM, _, rfl, bz1, h⟩
def w_X8_ageOf (x1 : Int32) (M : pm) (Q : Int32 → pm → Prop) : Prop := w_X8_isDead x1 M (fun y2 M1 => ((y2 = 0 → (Q 0 M1)) ∧ (¬ y2 = 0 → (w_X8_diesOf x1 M1 (fun y5 M4 => Q ((mI M1 317 0) - y5) M4)))))
set_option maxRecDepth 4000 in
theorem c_X8_ageOf {x1 : Int32} {M : pm} {Q : Int32 → pm → Prop}  (hM : pG M) (h : w_X8_ageOf x1 M Q) : PW mX8_ageOf 3 350 0 (pfr mX8_ageOf.2.2.1 [.ref 277, .int x1]) [] M (qI Q) := by
  unfold w_X8_ageOf at h
  show PW mX8_ageOf 3 350 0 [.ref 277, .int x1] [] M (qI Q)
  refine PW.aload_n (pc := 0) dX8_ageOf_0 rfl ?_
  refine PW.iload_n (pc := 1) dX8_ageOf_1 rfl ?_
  refine PW.inv (m' := mX8_isDead) (pc := 2) dX8_ageOf_2 lm_X8_405 me_X8_isDead mi_X8_isDead (ob hM.1 s_277 (by decide)) rfl (As := [.int x1]) (st := []) rfl (Nat.le_of_ble_eq_true rfl) (Nat.le_of_ble_eq_true rfl) (Nat.le_of_eq hM.1) (Nat.le_refl _) (PW.deep (by decide) (c_X8_isDead  hM h)) ?_
  rintro _ M1 ⟨hM, y2, rfl, z3, h⟩
  refine PW.if_eq (pc := 5) dX8_ageOf_5 (t := 23) (by decide) (fun hc => ?_) (fun hc => ?_)
  · have h := h.1 hc
    refine PW.iconst (pc := 23) dX8_ageOf_23 (v := 0) (by decide) ?_
    exact PW.retI (pc := 24) dX8_ageOf_24 hM.1 rfl rfl ⟨hM, _, rfl, h⟩
  · have h := h.2 hc
    refine PW.aload_n (pc := 8) dX8_ageOf_8 rfl ?_
    refine PW.getR (pc := 9) dX8_ageOf_9 (r := 317) lf_X8_133 (ob hM.1 s_277 (by decide)) fx_8_52 (oR_8_52 hM s_277) (pS_ne s_317) ?_
    refine PW.iconst (pc := 12) dX8_ageOf_12 (v := 0) (by decide) ?_
    refine PW.iald (pc := 13) dX8_ageOf_13 (ar hM.1 s_317) (vpl n_317 (vp_c (i := 0) (n := 163) (by decide))) ?_
    refine PW.aload_n (pc := 14) dX8_ageOf_14 rfl ?_
    refine PW.iload_n (pc := 15) dX8_ageOf_15 rfl ?_
    refine PW.inv (m' := mX8_diesOf) (pc := 16) dX8_ageOf_16 lm_X8_402 me_X8_diesOf mi_X8_diesOf (ob hM.1 s_277 (by decide)) rfl (As := [.int x1]) (st := [.int (mI M1 317 0)]) rfl (Nat.le_of_ble_eq_true rfl) (Nat.le_of_ble_eq_true rfl) (Nat.le_of_eq hM.1) (Nat.le_refl _) (PW.deep (by decide) (c_X8_diesOf  hM h)) ?_
    rintro _ M4 ⟨hM, y5, rfl, h⟩
    refine PW.isub (pc := 19) dX8_ageOf_19 ?_
    refine PW.goto (pc := 20) dX8_ageOf_20 (t := 24) (by decide) ?_
    exact PW.retI (pc := 24) dX8_ageOf_24 hM.1 rfl rfl ⟨hM, _, rfl, h⟩
def w_X8_sinceOf (x1 : Int32) (M : pm) (Q : Int32 → pm → Prop) : Prop := w_X8_lastOf x1 M (fun y2 M1 => ((¬ y2 = 0 → (w_X8_lastOf x1 M1 (fun y4 M3 => (((((mI M1 317 0) + 1) - y4) ≤ 99 → (Q (((mI M1 317 0) + 1) - y4) M3)) ∧ (¬ (((mI M1 317 0) + 1) - y4) ≤ 99 → (Q 99 M3)))))) ∧ (y2 = 0 → (Q 99 M1))))
set_option maxRecDepth 4000 in
theorem c_X8_sinceOf {x1 : Int32} {M : pm} {Q : Int32 → pm → Prop}  (hM : pG M) (h : w_X8_sinceOf x1 M Q) : PW mX8_sinceOf 2 350 0 (pfr mX8_sinceOf.2.2.1 [.ref 277, .int x1]) [] M (qI Q) := by
  unfold w_X8_sinceOf at h
  show PW mX8_sinceOf 2 350 0 [.ref 277, .int x1, .null] [] M (qI Q)
  refine PW.aload_n (pc := 0) dX8_sinceOf_0 rfl ?_
  refine PW.iload_n (pc := 1) dX8_sinceOf_1 rfl ?_
  refine PW.inv (m' := mX8_lastOf) (pc := 2) dX8_sinceOf_2 lm_X8_408 me_X8_lastOf mi_X8_lastOf (ob hM.1 s_277 (by decide)) rfl (As := [.int x1]) (st := []) rfl (Nat.le_of_ble_eq_true rfl) (Nat.le_of_ble_eq_true rfl) (Nat.le_of_eq hM.1) (Nat.le_refl _) (PW.deep (by decide) (c_X8_lastOf  hM h)) ?_
  rintro _ M1 ⟨hM, y2, rfl, h⟩
  refine PW.if_ne (pc := 5) dX8_sinceOf_5 (t := 11) (by decide) (fun hc => ?_) (fun hc => ?_)
  · have h := h.1 hc
    refine PW.aload_n (pc := 11) dX8_sinceOf_11 rfl ?_
    refine PW.getR (pc := 12) dX8_sinceOf_12 (r := 317) lf_X8_133 (ob hM.1 s_277 (by decide)) fx_8_52 (oR_8_52 hM s_277) (pS_ne s_317) ?_
    refine PW.iconst (pc := 15) dX8_sinceOf_15 (v := 0) (by decide) ?_
    refine PW.iald (pc := 16) dX8_sinceOf_16 (ar hM.1 s_317) (vpl n_317 (vp_c (i := 0) (n := 163) (by decide))) ?_
    refine PW.iconst (pc := 17) dX8_sinceOf_17 (v := 1) (by decide) ?_
    refine PW.iadd (pc := 18) dX8_sinceOf_18 ?_
    refine PW.aload_n (pc := 19) dX8_sinceOf_19 rfl ?_
    refine PW.iload_n (pc := 20) dX8_sinceOf_20 rfl ?_
    refine PW.inv (m' := mX8_lastOf) (pc := 21) dX8_sinceOf_21 lm_X8_408 me_X8_lastOf mi_X8_lastOf (ob hM.1 s_277 (by decide)) rfl (As := [.int x1]) (st := [.int ((mI M1 317 0) + 1)]) rfl (Nat.le_of_ble_eq_true rfl) (Nat.le_of_ble_eq_true rfl) (Nat.le_of_eq hM.1) (Nat.le_refl _) (PW.deep (by decide) (c_X8_lastOf  hM h)) ?_
    rintro _ M3 ⟨hM, y4, rfl, h⟩
    refine PW.isub (pc := 24) dX8_sinceOf_24 ?_
    refine PW.istore_n (pc := 25) dX8_sinceOf_25 (ls' := [.ref 277, .int x1, .int (((mI M1 317 0) + 1) - y4)]) (by decide) rfl rfl ?_
    refine PW.iload_n (pc := 26) dX8_sinceOf_26 rfl ?_
    refine PW.bipush (pc := 27) dX8_sinceOf_27 (v := 99) (by decide) ?_
    refine PW.icmp_le (pc := 29) dX8_sinceOf_29 (t := 37) (by decide) (fun hc => ?_) (fun hc => ?_)
    · have h := h.1 hc
      refine PW.iload_n (pc := 37) dX8_sinceOf_37 rfl ?_
      exact PW.retI (pc := 38) dX8_sinceOf_38 hM.1 rfl rfl ⟨hM, _, rfl, h⟩
    · have h := h.2 hc
      refine PW.bipush (pc := 32) dX8_sinceOf_32 (v := 99) (by decide) ?_
      refine PW.goto (pc := 34) dX8_sinceOf_34 (t := 38) (by decide) ?_
      exact PW.retI (pc := 38) dX8_sinceOf_38 hM.1 rfl rfl ⟨hM, _, rfl, h⟩
  · have h := h.2 hc
    refine PW.bipush (pc := 8) dX8_sinceOf_8 (v := 99) (by decide) ?_
    exact PW.retI (pc := 10) dX8_sinceOf_10 hM.1 rfl rfl ⟨hM, _, rfl, h⟩
def w_X8_qPuts (x1 : Int64) (M : pm) (Q : pm → Prop) : Prop := vp_in (mI M 277 102) 1700 ∧ (Q (sI (sJ M 351 ((mI M 277 102).toNatClampNeg) x1) 277 102 ((mI M 277 102) + 1)))
set_option maxRecDepth 4000 in
theorem c_X8_qPuts {x1 : Int64} {M : pm} {Q : pm → Prop}  (hM : pG M) (h : w_X8_qPuts x1 M Q) : PW mX8_qPuts 1 350 0 (pfr mX8_qPuts.2.2.1 [.ref 277, .long x1]) [] M (qV Q) := by
  unfold w_X8_qPuts at h
  show PW mX8_qPuts 1 350 0 [.ref 277, .long x1, .null] [] M (qV Q)
  refine PW.aload_n (pc := 0) dX8_qPuts_0 rfl ?_
  refine PW.getR (pc := 1) dX8_qPuts_1 (r := 351) lf_X8_240 (ob hM.1 s_277 (by decide)) fx_8_101 (oR_8_101 hM s_277) (pS_ne s_351) ?_
  refine PW.aload_n (pc := 4) dX8_qPuts_4 rfl ?_
  refine PW.getI (pc := 5) dX8_qPuts_5 lf_X8_411 (ob hM.1 s_277 (by decide)) fx_8_102 ?_
  refine PW.lload_n (pc := 8) dX8_qPuts_8 rfl ?_
  obtain ⟨v1, h⟩ := h
  refine PW.last (pc := 9) dX8_qPuts_9 (ar hM.1 s_351) (vpl n_351 v1) ?_
  refine PW.aload_n (pc := 10) dX8_qPuts_10 rfl ?_
  refine PW.dupR (pc := 11) dX8_qPuts_11 ?_
  refine PW.getI (pc := 12) dX8_qPuts_12 lf_X8_411 (ob hM.1 s_277 (by decide)) fx_8_102 ?_
  refine PW.iconst (pc := 15) dX8_qPuts_15 (v := 1) (by decide) ?_
  refine PW.iadd (pc := 16) dX8_qPuts_16 ?_
  refine PW.putI (pc := 17) dX8_qPuts_17 lf_X8_411 (ob hM.1 s_277 (by decide)) fx_8_102 fw_8_102 rfl rfl ?_
  exact PW.ret0 (pc := 20) dX8_qPuts_20 hM.1 rfl ⟨(hM.same rfl rfl), rfl, h⟩
