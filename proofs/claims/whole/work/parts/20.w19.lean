/-! methods, walked by program: w_ what must hold before, c_ its proof -/
def w_X8_qTold_7 : Nat → Int32 → Int32 → pm → (Int64 → pm → Prop) → Prop
  | 0, _, _, _, _ => False
  | n + 1, x1, x2, M, Q => (((mI M 277 96) ≤ x2 → (Q (mJ M 351 0) M)) ∧ (¬ (mI M 277 96) ≤ x2 → (vp_in x2 1700 ∧ (((mI M 349 x2.toNatClampNeg) < 1000 → (((mI M 349 x2.toNatClampNeg) < 60 → (((mI M 349 x2.toNatClampNeg) < 40 → ((¬ (mI M 349 x2.toNatClampNeg) = 13 → ((¬ (mI M 349 x2.toNatClampNeg) = 12 → (w_X8_qJoins (mI M 349 x2.toNatClampNeg) M (fun M2 => w_X8_qTold_7 n x1 (x2 + 1) M2 Q))) ∧ ((mI M 349 x2.toNatClampNeg) = 12 → (vp_in ((mI M 277 102) - 1) 1700 ∧ (vp_in ((mI M 277 102) - 1) 1700 ∧ (w_X8_qTold_7 n x1 (x2 + 1) (sJ M 351 (((mI M 277 102) - 1).toNatClampNeg) ((1 : Int64) - (mJ M 351 (((mI M 277 102) - 1).toNatClampNeg)))) Q)))))) ∧ ((mI M 349 x2.toNatClampNeg) = 13 → (w_X8_qPuts (1 : Int64) M (fun M7 => w_X8_qTold_7 n x1 (x2 + 1) M7 Q))))) ∧ (¬ (mI M 349 x2.toNatClampNeg) < 40 → (w_X8_qPartOf ((mI M 349 x2.toNatClampNeg) - 40) x1 M (fun y11 M10 => w_X8_qClip y11 M10 (fun y14 M13 => w_X8_qPuts y14 M13 (fun M16 => w_X8_qTold_7 n x1 (x2 + 1) M16 Q))))))) ∧ (¬ (mI M 349 x2.toNatClampNeg) < 60 → (vp_in ((mI M 277 102) - 1) 1700 ∧ (w_X8_qOf ((mI M 349 x2.toNatClampNeg) - 60) (mJ M 351 (((mI M 277 102) - 1).toNatClampNeg)) x1 M (fun y21 M20 => w_X8_qClip y21 M20 (fun y24 M23 => vp_in ((mI M 277 102) - 1) 1700 ∧ (w_X8_qTold_7 n x1 (x2 + 1) (sJ M23 351 (((mI M 277 102) - 1).toNatClampNeg) y24) Q)))))))) ∧ (¬ (mI M 349 x2.toNatClampNeg) < 1000 → (w_X8_qPuts (Int32.toInt64 ((mI M 349 x2.toNatClampNeg) - 1000)) M (fun M27 => w_X8_qTold_7 n x1 (x2 + 1) M27 Q)))))))
set_option maxRecDepth 4000 in
theorem c_X8_qTold_7  {Q : Int64 → pm → Prop}  : ∀ (n : Nat) (x1 : Int32) (x2 : Int32) (M : pm), pG M → w_X8_qTold_7 n x1 x2 M  Q → PW mX8_qTold 5 350 7 [.ref 277, .int x1, .int x2, .null] [] M (qJ Q) := by
  intro n
  induction n with
  | zero => intro x1 x2 M hM h; exact h.elim
  | succ n ih =>
    intro x1 x2 M hM h
    unfold w_X8_qTold_7 at h
    refine PW.iload_n (pc := 7) dX8_qTold_7 rfl ?_
    refine PW.aload_n (pc := 8) dX8_qTold_8 rfl ?_
    refine PW.getI (pc := 9) dX8_qTold_9 lf_X8_337 (ob hM.1 s_277 (by decide)) fx_8_96 ?_
    refine PW.icmp_ge (pc := 12) dX8_qTold_12 (t := 168) (by decide) (fun hc => ?_) (fun hc => ?_)
    · have h := h.1 hc
      refine PW.aload_n (pc := 168) dX8_qTold_168 rfl ?_
      refine PW.getR (pc := 169) dX8_qTold_169 (r := 351) lf_X8_240 (ob hM.1 s_277 (by decide)) fx_8_101 (oR_8_101 hM s_277) (pS_ne s_351) ?_
      refine PW.iconst (pc := 172) dX8_qTold_172 (v := 0) (by decide) ?_
      refine PW.lald (pc := 173) dX8_qTold_173 (ar hM.1 s_351) (vpl n_351 (vp_c (i := 0) (n := 1700) (by decide))) ?_
      exact PW.retJ (pc := 174) dX8_qTold_174 hM.1 rfl ⟨hM, _, rfl, h⟩
    · have h := h.2 hc
      refine PW.aload_n (pc := 15) dX8_qTold_15 rfl ?_
      refine PW.getR (pc := 16) dX8_qTold_16 (r := 349) lf_X8_234 (ob hM.1 s_277 (by decide)) fx_8_95 (oR_8_95 hM s_277) (pS_ne s_349) ?_
      refine PW.iload_n (pc := 19) dX8_qTold_19 rfl ?_
      obtain ⟨v1, h⟩ := h
      refine PW.iald (pc := 20) dX8_qTold_20 (ar hM.1 s_349) (vpl n_349 v1) ?_
      refine PW.istore_n (pc := 21) dX8_qTold_21 (ls' := [.ref 277, .int x1, .int x2, .int (mI M 349 x2.toNatClampNeg)]) (by decide) rfl rfl ?_
      refine PW.iload_n (pc := 22) dX8_qTold_22 rfl ?_
      refine PW.sipush (pc := 23) dX8_qTold_23 (v := 1000) (by decide) ?_
      refine PW.icmp_lt (pc := 26) dX8_qTold_26 (t := 42) (by decide) (fun hc => ?_) (fun hc => ?_)
      · have h := h.1 hc
        refine PW.iload_n (pc := 42) dX8_qTold_42 rfl ?_
        refine PW.bipush (pc := 43) dX8_qTold_43 (v := 60) (by decide) ?_
        refine PW.icmp_lt (pc := 45) dX8_qTold_45 (t := 85) (by decide) (fun hc => ?_) (fun hc => ?_)
        · have h := h.1 hc
          refine PW.iload_n (pc := 85) dX8_qTold_85 rfl ?_
          refine PW.bipush (pc := 86) dX8_qTold_86 (v := 40) (by decide) ?_
          refine PW.icmp_lt (pc := 88) dX8_qTold_88 (t := 110) (by decide) (fun hc => ?_) (fun hc => ?_)
          · have h := h.1 hc
            refine PW.iload_n (pc := 110) dX8_qTold_110 rfl ?_
            refine PW.bipush (pc := 111) dX8_qTold_111 (v := 13) (by decide) ?_
            refine PW.icmp_ne (pc := 113) dX8_qTold_113 (t := 124) (by decide) (fun hc => ?_) (fun hc => ?_)
            · have h := h.1 hc
              refine PW.iload_n (pc := 124) dX8_qTold_124 rfl ?_
              refine PW.bipush (pc := 125) dX8_qTold_125 (v := 12) (by decide) ?_
              refine PW.icmp_ne (pc := 127) dX8_qTold_127 (t := 157) (by decide) (fun hc => ?_) (fun hc => ?_)
              · have h := h.1 hc
                refine PW.aload_n (pc := 157) dX8_qTold_157 rfl ?_
                refine PW.iload_n (pc := 158) dX8_qTold_158 rfl ?_
                refine PW.inv (m' := mX8_qJoins) (pc := 159) dX8_qTold_159 lm_X8_422 me_X8_qJoins mi_X8_qJoins (ob hM.1 s_277 (by decide)) rfl (As := [.int (mI M 349 x2.toNatClampNeg)]) (st := []) rfl (Nat.le_of_ble_eq_true rfl) (Nat.le_of_ble_eq_true rfl) (Nat.le_of_eq hM.1) (Nat.le_refl _) (PW.deep (by decide) (c_X8_qJoins  hM h)) ?_
                rintro _ M2 ⟨hM4, rfl, h⟩
                refine PW.iinc (pc := 162) dX8_qTold_162 (v := (x2 + 1)) (ls' := [.ref 277, .int x1, .int (x2 + 1), .int (mI M 349 x2.toNatClampNeg)]) rfl rfl (by decide) rfl rfl ?_
                refine PW.goto (pc := 165) dX8_qTold_165 (t := 7) (by decide) ?_
                exact PW.drop (ih _ _ _ hM4 h) ⟨rfl, rfl, rfl, trivial⟩
              · have h := h.2 hc
                refine PW.aload_n (pc := 130) dX8_qTold_130 rfl ?_
                refine PW.getR (pc := 131) dX8_qTold_131 (r := 351) lf_X8_240 (ob hM.1 s_277 (by decide)) fx_8_101 (oR_8_101 hM s_277) (pS_ne s_351) ?_
                refine PW.aload_n (pc := 134) dX8_qTold_134 rfl ?_
                refine PW.getI (pc := 135) dX8_qTold_135 lf_X8_411 (ob hM.1 s_277 (by decide)) fx_8_102 ?_
                refine PW.iconst (pc := 138) dX8_qTold_138 (v := 1) (by decide) ?_
                refine PW.isub (pc := 139) dX8_qTold_139 ?_
                refine PW.lconst (pc := 140) dX8_qTold_140 (v := 1) (by decide) ?_
                refine PW.aload_n (pc := 141) dX8_qTold_141 rfl ?_
                refine PW.getR (pc := 142) dX8_qTold_142 (r := 351) lf_X8_240 (ob hM.1 s_277 (by decide)) fx_8_101 (oR_8_101 hM s_277) (pS_ne s_351) ?_
                refine PW.aload_n (pc := 145) dX8_qTold_145 rfl ?_
                refine PW.getI (pc := 146) dX8_qTold_146 lf_X8_411 (ob hM.1 s_277 (by decide)) fx_8_102 ?_
                refine PW.iconst (pc := 149) dX8_qTold_149 (v := 1) (by decide) ?_
                refine PW.isub (pc := 150) dX8_qTold_150 ?_
                obtain ⟨v5, h⟩ := h
                refine PW.lald (pc := 151) dX8_qTold_151 (ar hM.1 s_351) (vpl n_351 v5) ?_
                refine PW.lsub (pc := 152) dX8_qTold_152 ?_
                obtain ⟨v6, h⟩ := h
                refine PW.last (pc := 153) dX8_qTold_153 (ar hM.1 s_351) (vpl n_351 v6) ?_
                refine PW.goto (pc := 154) dX8_qTold_154 (t := 162) (by decide) ?_
                refine PW.iinc (pc := 162) dX8_qTold_162 (v := (x2 + 1)) (ls' := [.ref 277, .int x1, .int (x2 + 1), .int (mI M 349 x2.toNatClampNeg)]) rfl rfl (by decide) rfl rfl ?_
                refine PW.goto (pc := 165) dX8_qTold_165 (t := 7) (by decide) ?_
                exact PW.drop (ih _ _ _ (hM.same rfl rfl) h) ⟨rfl, rfl, rfl, trivial⟩
            · have h := h.2 hc
              refine PW.aload_n (pc := 116) dX8_qTold_116 rfl ?_
              refine PW.lconst (pc := 117) dX8_qTold_117 (v := 1) (by decide) ?_
              refine PW.inv (m' := mX8_qPuts) (pc := 118) dX8_qTold_118 lm_X8_414 me_X8_qPuts mi_X8_qPuts (ob hM.1 s_277 (by decide)) rfl (As := [.long (1 : Int64)]) (st := []) rfl (Nat.le_of_ble_eq_true rfl) (Nat.le_of_ble_eq_true rfl) (Nat.le_of_eq hM.1) (Nat.le_refl _) (PW.deep (by decide) (c_X8_qPuts  hM h)) ?_
              rintro _ M7 ⟨hM9, rfl, h⟩
              refine PW.goto (pc := 121) dX8_qTold_121 (t := 162) (by decide) ?_
              refine PW.iinc (pc := 162) dX8_qTold_162 (v := (x2 + 1)) (ls' := [.ref 277, .int x1, .int (x2 + 1), .int (mI M 349 x2.toNatClampNeg)]) rfl rfl (by decide) rfl rfl ?_
              refine PW.goto (pc := 165) dX8_qTold_165 (t := 7) (by decide) ?_
              exact PW.drop (ih _ _ _ hM9 h) ⟨rfl, rfl, rfl, trivial⟩
          · have h := h.2 hc
            refine PW.aload_n (pc := 91) dX8_qTold_91 rfl ?_
            refine PW.aload_n (pc := 92) dX8_qTold_92 rfl ?_
            refine PW.iload_n (pc := 93) dX8_qTold_93 rfl ?_
            refine PW.bipush (pc := 94) dX8_qTold_94 (v := 40) (by decide) ?_
            refine PW.isub (pc := 96) dX8_qTold_96 ?_
            refine PW.iload_n (pc := 97) dX8_qTold_97 rfl ?_
            refine PW.inv (m' := mX8_qPartOf) (pc := 98) dX8_qTold_98 lm_X8_418 me_X8_qPartOf mi_X8_qPartOf (ob hM.1 s_277 (by decide)) rfl (As := [.int ((mI M 349 x2.toNatClampNeg) - 40), .int x1]) (st := [.ref 277]) rfl (Nat.le_of_ble_eq_true rfl) (Nat.le_of_ble_eq_true rfl) (Nat.le_of_eq hM.1) (Nat.le_refl _) (PW.deep (by decide) (c_X8_qPartOf  hM h)) ?_
            rintro _ M10 ⟨hM12, y11, rfl, h⟩
            refine PW.ins (m' := mX8_qClip) (pc := 101) dX8_qTold_101 lm_X8_641 me_X8_qClip ms_X8_qClip (As := [.long y11]) (st := [.ref 277]) rfl (Nat.le_of_ble_eq_true rfl) (Nat.le_of_ble_eq_true rfl) (Nat.le_of_eq hM12.1) (Nat.le_refl _) (PW.deep (by decide) (c_X8_qClip  hM12 h)) ?_
            rintro _ M13 ⟨hM15, y14, rfl, h⟩
            refine PW.inv (m' := mX8_qPuts) (pc := 104) dX8_qTold_104 lm_X8_414 me_X8_qPuts mi_X8_qPuts (ob hM15.1 s_277 (by decide)) rfl (As := [.long y14]) (st := []) rfl (Nat.le_of_ble_eq_true rfl) (Nat.le_of_ble_eq_true rfl) (Nat.le_of_eq hM15.1) (Nat.le_refl _) (PW.deep (by decide) (c_X8_qPuts  hM15 h)) ?_
            rintro _ M16 ⟨hM18, rfl, h⟩
            refine PW.goto (pc := 107) dX8_qTold_107 (t := 162) (by decide) ?_
            refine PW.iinc (pc := 162) dX8_qTold_162 (v := (x2 + 1)) (ls' := [.ref 277, .int x1, .int (x2 + 1), .int (mI M 349 x2.toNatClampNeg)]) rfl rfl (by decide) rfl rfl ?_
            refine PW.goto (pc := 165) dX8_qTold_165 (t := 7) (by decide) ?_
            exact PW.drop (ih _ _ _ hM18 h) ⟨rfl, rfl, rfl, trivial⟩
        · have h := h.2 hc
          refine PW.aload_n (pc := 48) dX8_qTold_48 rfl ?_
          refine PW.getR (pc := 49) dX8_qTold_49 (r := 351) lf_X8_240 (ob hM.1 s_277 (by decide)) fx_8_101 (oR_8_101 hM s_277) (pS_ne s_351) ?_
          refine PW.aload_n (pc := 52) dX8_qTold_52 rfl ?_
          refine PW.getI (pc := 53) dX8_qTold_53 lf_X8_411 (ob hM.1 s_277 (by decide)) fx_8_102 ?_
          refine PW.iconst (pc := 56) dX8_qTold_56 (v := 1) (by decide) ?_
          refine PW.isub (pc := 57) dX8_qTold_57 ?_
          refine PW.aload_n (pc := 58) dX8_qTold_58 rfl ?_
          refine PW.iload_n (pc := 59) dX8_qTold_59 rfl ?_
          refine PW.bipush (pc := 60) dX8_qTold_60 (v := 60) (by decide) ?_
          refine PW.isub (pc := 62) dX8_qTold_62 ?_
          refine PW.aload_n (pc := 63) dX8_qTold_63 rfl ?_
          refine PW.getR (pc := 64) dX8_qTold_64 (r := 351) lf_X8_240 (ob hM.1 s_277 (by decide)) fx_8_101 (oR_8_101 hM s_277) (pS_ne s_351) ?_
          refine PW.aload_n (pc := 67) dX8_qTold_67 rfl ?_
          refine PW.getI (pc := 68) dX8_qTold_68 lf_X8_411 (ob hM.1 s_277 (by decide)) fx_8_102 ?_
          refine PW.iconst (pc := 71) dX8_qTold_71 (v := 1) (by decide) ?_
          refine PW.isub (pc := 72) dX8_qTold_72 ?_
          obtain ⟨v19, h⟩ := h
          refine PW.lald (pc := 73) dX8_qTold_73 (ar hM.1 s_351) (vpl n_351 v19) ?_
          refine PW.iload_n (pc := 74) dX8_qTold_74 rfl ?_
          refine PW.inv (m' := mX8_qOf) (pc := 75) dX8_qTold_75 lm_X8_652 me_X8_qOf mi_X8_qOf (ob hM.1 s_277 (by decide)) rfl (As := [.int ((mI M 349 x2.toNatClampNeg) - 60), .long (mJ M 351 (((mI M 277 102) - 1).toNatClampNeg)), .int x1]) (st := [.int ((mI M 277 102) - 1), .ref 351]) rfl (Nat.le_of_ble_eq_true rfl) (Nat.le_of_ble_eq_true rfl) (Nat.le_of_eq hM.1) (Nat.le_refl _) (PW.deep (by decide) (c_X8_qOf  hM h)) ?_
          rintro _ M20 ⟨hM22, y21, rfl, h⟩
          refine PW.ins (m' := mX8_qClip) (pc := 78) dX8_qTold_78 lm_X8_641 me_X8_qClip ms_X8_qClip (As := [.long y21]) (st := [.int ((mI M 277 102) - 1), .ref 351]) rfl (Nat.le_of_ble_eq_true rfl) (Nat.le_of_ble_eq_true rfl) (Nat.le_of_eq hM22.1) (Nat.le_refl _) (PW.deep (by decide) (c_X8_qClip  hM22 h)) ?_
          rintro _ M23 ⟨hM25, y24, rfl, h⟩
          obtain ⟨v26, h⟩ := h
          refine PW.last (pc := 81) dX8_qTold_81 (ar hM25.1 s_351) (vpl n_351 v26) ?_
          refine PW.goto (pc := 82) dX8_qTold_82 (t := 162) (by decide) ?_
          refine PW.iinc (pc := 162) dX8_qTold_162 (v := (x2 + 1)) (ls' := [.ref 277, .int x1, .int (x2 + 1), .int (mI M 349 x2.toNatClampNeg)]) rfl rfl (by decide) rfl rfl ?_
          refine PW.goto (pc := 165) dX8_qTold_165 (t := 7) (by decide) ?_
          exact PW.drop (ih _ _ _ (hM25.same rfl rfl) h) ⟨rfl, rfl, rfl, trivial⟩
      · have h := h.2 hc
        refine PW.aload_n (pc := 29) dX8_qTold_29 rfl ?_
        refine PW.iload_n (pc := 30) dX8_qTold_30 rfl ?_
        refine PW.sipush (pc := 31) dX8_qTold_31 (v := 1000) (by decide) ?_
        refine PW.isub (pc := 34) dX8_qTold_34 ?_
        refine PW.i2l (pc := 35) dX8_qTold_35 ?_
        refine PW.inv (m' := mX8_qPuts) (pc := 36) dX8_qTold_36 lm_X8_414 me_X8_qPuts mi_X8_qPuts (ob hM.1 s_277 (by decide)) rfl (As := [.long (Int32.toInt64 ((mI M 349 x2.toNatClampNeg) - 1000))]) (st := []) rfl (Nat.le_of_ble_eq_true rfl) (Nat.le_of_ble_eq_true rfl) (Nat.le_of_eq hM.1) (Nat.le_refl _) (PW.deep (by decide) (c_X8_qPuts  hM h)) ?_
        rintro _ M27 ⟨hM29, rfl, h⟩
        refine PW.goto (pc := 39) dX8_qTold_39 (t := 162) (by decide) ?_
        refine PW.iinc (pc := 162) dX8_qTold_162 (v := (x2 + 1)) (ls' := [.ref 277, .int x1, .int (x2 + 1), .int (mI M 349 x2.toNatClampNeg)]) rfl rfl (by decide) rfl rfl ?_
        refine PW.goto (pc := 165) dX8_qTold_165 (t := 7) (by decide) ?_
        exact PW.drop (ih _ _ _ hM29 h) ⟨rfl, rfl, rfl, trivial⟩
def w_X8_qTold (x1 : Int32) (M : pm) (Q : Int64 → pm → Prop) : Prop := ∃ n30, w_X8_qTold_7 n30 x1 0 (sI M 277 102 0)  Q
set_option maxRecDepth 4000 in
theorem c_X8_qTold {x1 : Int32} {M : pm} {Q : Int64 → pm → Prop}  (hM : pG M) (h : w_X8_qTold x1 M Q) : PW mX8_qTold 5 350 0 (pfr mX8_qTold.2.2.1 [.ref 277, .int x1]) [] M (qJ Q) := by
  unfold w_X8_qTold at h
  show PW mX8_qTold 5 350 0 [.ref 277, .int x1, .null, .null] [] M (qJ Q)
  refine PW.aload_n (pc := 0) dX8_qTold_0 rfl ?_
  refine PW.iconst (pc := 1) dX8_qTold_1 (v := 0) (by decide) ?_
  refine PW.putI (pc := 2) dX8_qTold_2 lf_X8_411 (ob hM.1 s_277 (by decide)) fx_8_102 fw_8_102 rfl rfl ?_
  refine PW.iconst (pc := 5) dX8_qTold_5 (v := 0) (by decide) ?_
  refine PW.istore_n (pc := 6) dX8_qTold_6 (ls' := [.ref 277, .int x1, .int 0, .null]) (by decide) rfl rfl ?_
  obtain ⟨n30, h⟩ := h
  refine PW.drop (c_X8_qTold_7  n30 _ _ _ (hM.same rfl rfl) h) ⟨rfl, rfl, rfl, trivial⟩
def w_X8_qKind  (M : pm) (Q : Int32 → pm → Prop) : Prop := w_X8_takes 326 M (fun y2 M1 => ((y2 = 0 → (w_X8_takes 327 M1 (fun y6 M5 => ((y6 = 0 → (w_X8_takes 328 M5 (fun y10 M9 => ((y10 = 0 → (w_X8_takes 329 M9 (fun y14 M13 => ((y14 = 0 → (w_X8_takes 330 M13 (fun y18 M17 => ((y18 = 0 → (w_X8_asks 331 M17 (fun M21 => Q 5 M21))) ∧ (¬ y18 = 0 → (Q 4 M17)))))) ∧ (¬ y14 = 0 → (Q 3 M13)))))) ∧ (¬ y10 = 0 → (Q 2 M9)))))) ∧ (¬ y6 = 0 → (Q 1 M5)))))) ∧ (¬ y2 = 0 → (Q 0 M1))))
set_option maxRecDepth 4000 in
theorem c_X8_qKind  {M : pm} {Q : Int32 → pm → Prop}  (hM : pG M) (h : w_X8_qKind  M Q) : PW mX8_qKind 5 350 0 (pfr mX8_qKind.2.2.1 [.ref 277]) [] M (qI Q) := by
  unfold w_X8_qKind at h
  show PW mX8_qKind 5 350 0 [.ref 277, .null] [] M (qI Q)
  refine PW.aload_n (pc := 0) dX8_qKind_0 rfl ?_
  refine PW.aload_n (pc := 1) dX8_qKind_1 rfl ?_
  refine PW.getR (pc := 2) dX8_qKind_2 (r := 326) lf_X8_165 (ob hM.1 s_277 (by decide)) fx_8_72 (oR_8_72 hM s_277) (pS_ne s_326) ?_
  refine PW.inv (m' := mX8_takes) (pc := 5) dX8_qKind_5 lm_X8_276 me_X8_takes mi_X8_takes (ob hM.1 s_277 (by decide)) rfl (As := [.ref 326]) (st := []) rfl (Nat.le_of_ble_eq_true rfl) (Nat.le_of_ble_eq_true rfl) (Nat.le_of_eq hM.1) (Nat.le_refl _) (PW.deep (by decide) (c_X8_takes s_326 hM h)) ?_
  rintro _ M1 ⟨hM3, y2, rfl, z4, h⟩
  refine PW.if_eq (pc := 8) dX8_qKind_8 (t := 15) (by decide) (fun hc => ?_) (fun hc => ?_)
  · have h := h.1 hc
    refine PW.aload_n (pc := 15) dX8_qKind_15 rfl ?_
    refine PW.aload_n (pc := 16) dX8_qKind_16 rfl ?_
    refine PW.getR (pc := 17) dX8_qKind_17 (r := 327) lf_X8_168 (ob hM3.1 s_277 (by decide)) fx_8_73 (oR_8_73 hM3 s_277) (pS_ne s_327) ?_
    refine PW.inv (m' := mX8_takes) (pc := 20) dX8_qKind_20 lm_X8_276 me_X8_takes mi_X8_takes (ob hM3.1 s_277 (by decide)) rfl (As := [.ref 327]) (st := []) rfl (Nat.le_of_ble_eq_true rfl) (Nat.le_of_ble_eq_true rfl) (Nat.le_of_eq hM3.1) (Nat.le_refl _) (PW.deep (by decide) (c_X8_takes s_327 hM3 h)) ?_
    rintro _ M5 ⟨hM7, y6, rfl, z8, h⟩
    refine PW.if_eq (pc := 23) dX8_qKind_23 (t := 30) (by decide) (fun hc => ?_) (fun hc => ?_)
    · have h := h.1 hc
      refine PW.aload_n (pc := 30) dX8_qKind_30 rfl ?_
      refine PW.aload_n (pc := 31) dX8_qKind_31 rfl ?_
      refine PW.getR (pc := 32) dX8_qKind_32 (r := 328) lf_X8_171 (ob hM7.1 s_277 (by decide)) fx_8_74 (oR_8_74 hM7 s_277) (pS_ne s_328) ?_
      refine PW.inv (m' := mX8_takes) (pc := 35) dX8_qKind_35 lm_X8_276 me_X8_takes mi_X8_takes (ob hM7.1 s_277 (by decide)) rfl (As := [.ref 328]) (st := []) rfl (Nat.le_of_ble_eq_true rfl) (Nat.le_of_ble_eq_true rfl) (Nat.le_of_eq hM7.1) (Nat.le_refl _) (PW.deep (by decide) (c_X8_takes s_328 hM7 h)) ?_
      rintro _ M9 ⟨hM11, y10, rfl, z12, h⟩
      refine PW.if_eq (pc := 38) dX8_qKind_38 (t := 45) (by decide) (fun hc => ?_) (fun hc => ?_)
      · have h := h.1 hc
        refine PW.aload_n (pc := 45) dX8_qKind_45 rfl ?_
        refine PW.aload_n (pc := 46) dX8_qKind_46 rfl ?_
        refine PW.getR (pc := 47) dX8_qKind_47 (r := 329) lf_X8_174 (ob hM11.1 s_277 (by decide)) fx_8_75 (oR_8_75 hM11 s_277) (pS_ne s_329) ?_
        refine PW.inv (m' := mX8_takes) (pc := 50) dX8_qKind_50 lm_X8_276 me_X8_takes mi_X8_takes (ob hM11.1 s_277 (by decide)) rfl (As := [.ref 329]) (st := []) rfl (Nat.le_of_ble_eq_true rfl) (Nat.le_of_ble_eq_true rfl) (Nat.le_of_eq hM11.1) (Nat.le_refl _) (PW.deep (by decide) (c_X8_takes s_329 hM11 h)) ?_
        rintro _ M13 ⟨hM15, y14, rfl, z16, h⟩
        refine PW.if_eq (pc := 53) dX8_qKind_53 (t := 60) (by decide) (fun hc => ?_) (fun hc => ?_)
        · have h := h.1 hc
          refine PW.aload_n (pc := 60) dX8_qKind_60 rfl ?_
          refine PW.aload_n (pc := 61) dX8_qKind_61 rfl ?_
          refine PW.getR (pc := 62) dX8_qKind_62 (r := 330) lf_X8_177 (ob hM15.1 s_277 (by decide)) fx_8_76 (oR_8_76 hM15 s_277) (pS_ne s_330) ?_
          refine PW.inv (m' := mX8_takes) (pc := 65) dX8_qKind_65 lm_X8_276 me_X8_takes mi_X8_takes (ob hM15.1 s_277 (by decide)) rfl (As := [.ref 330]) (st := []) rfl (Nat.le_of_ble_eq_true rfl) (Nat.le_of_ble_eq_true rfl) (Nat.le_of_eq hM15.1) (Nat.le_refl _) (PW.deep (by decide) (c_X8_takes s_330 hM15 h)) ?_
          rintro _ M17 ⟨hM19, y18, rfl, z20, h⟩
          refine PW.if_eq (pc := 68) dX8_qKind_68 (t := 75) (by decide) (fun hc => ?_) (fun hc => ?_)
          · have h := h.1 hc
            refine PW.iconst (pc := 75) dX8_qKind_75 (v := 5) (by decide) ?_
            refine PW.istore_n (pc := 76) dX8_qKind_76 (ls' := [.ref 277, .int 5]) (by decide) rfl rfl ?_
            refine PW.iload_n (pc := 77) dX8_qKind_77 rfl ?_
            refine PW.iconst (pc := 78) dX8_qKind_78 (v := 5) (by decide) ?_
            refine PW.icmp_ne (pc := 79) dX8_qKind_79 (t := 90) (by decide) (fun hc => ?_) (fun hc => ?_)
            · exact absurd hc (by decide)
            refine PW.aload_n (pc := 82) dX8_qKind_82 rfl ?_
            refine PW.aload_n (pc := 83) dX8_qKind_83 rfl ?_
            refine PW.getR (pc := 84) dX8_qKind_84 (r := 331) lf_X8_180 (ob hM19.1 s_277 (by decide)) fx_8_77 (oR_8_77 hM19 s_277) (pS_ne s_331) ?_
            refine PW.inv (m' := mX8_asks) (pc := 87) dX8_qKind_87 lm_X8_311 me_X8_asks mi_X8_asks (ob hM19.1 s_277 (by decide)) rfl (As := [.ref 331]) (st := []) rfl (Nat.le_of_ble_eq_true rfl) (Nat.le_of_ble_eq_true rfl) (Nat.le_of_eq hM19.1) (Nat.le_refl _) (PW.deep (by decide) (c_X8_asks s_331 hM19 h)) ?_
            rintro _ M21 ⟨hM23, rfl, h⟩
            refine PW.iload_n (pc := 90) dX8_qKind_90 rfl ?_
            exact PW.retI (pc := 91) dX8_qKind_91 hM23.1 rfl rfl ⟨hM23, _, rfl, h⟩
          · have h := h.2 hc
            refine PW.iconst (pc := 71) dX8_qKind_71 (v := 4) (by decide) ?_
            refine PW.goto (pc := 72) dX8_qKind_72 (t := 76) (by decide) ?_
            refine PW.istore_n (pc := 76) dX8_qKind_76 (ls' := [.ref 277, .int 4]) (by decide) rfl rfl ?_
            refine PW.iload_n (pc := 77) dX8_qKind_77 rfl ?_
            refine PW.iconst (pc := 78) dX8_qKind_78 (v := 5) (by decide) ?_
            refine PW.icmp_ne (pc := 79) dX8_qKind_79 (t := 90) (by decide) (fun hc => ?_) (fun hc => ?_)
            rotate_left
            · exact absurd hc (by decide)
            refine PW.iload_n (pc := 90) dX8_qKind_90 rfl ?_
            exact PW.retI (pc := 91) dX8_qKind_91 hM19.1 rfl rfl ⟨hM19, _, rfl, h⟩
        · have h := h.2 hc
          refine PW.iconst (pc := 56) dX8_qKind_56 (v := 3) (by decide) ?_
          refine PW.goto (pc := 57) dX8_qKind_57 (t := 76) (by decide) ?_
          refine PW.istore_n (pc := 76) dX8_qKind_76 (ls' := [.ref 277, .int 3]) (by decide) rfl rfl ?_
          refine PW.iload_n (pc := 77) dX8_qKind_77 rfl ?_
          refine PW.iconst (pc := 78) dX8_qKind_78 (v := 5) (by decide) ?_
          refine PW.icmp_ne (pc := 79) dX8_qKind_79 (t := 90) (by decide) (fun hc => ?_) (fun hc => ?_)
          rotate_left
          · exact absurd hc (by decide)
          refine PW.iload_n (pc := 90) dX8_qKind_90 rfl ?_
          exact PW.retI (pc := 91) dX8_qKind_91 hM15.1 rfl rfl ⟨hM15, _, rfl, h⟩
      · have h := h.2 hc
        refine PW.iconst (pc := 41) dX8_qKind_41 (v := 2) (by decide) ?_
        refine PW.goto (pc := 42) dX8_qKind_42 (t := 76) (by decide) ?_
        refine PW.istore_n (pc := 76) dX8_qKind_76 (ls' := [.ref 277, .int 2]) (by decide) rfl rfl ?_
        refine PW.iload_n (pc := 77) dX8_qKind_77 rfl ?_
        refine PW.iconst (pc := 78) dX8_qKind_78 (v := 5) (by decide) ?_
        refine PW.icmp_ne (pc := 79) dX8_qKind_79 (t := 90) (by decide) (fun hc => ?_) (fun hc => ?_)
        rotate_left
        · exact absurd hc (by decide)
        refine PW.iload_n (pc := 90) dX8_qKind_90 rfl ?_
        exact PW.retI (pc := 91) dX8_qKind_91 hM11.1 rfl rfl ⟨hM11, _, rfl, h⟩
    · have h := h.2 hc
      refine PW.iconst (pc := 26) dX8_qKind_26 (v := 1) (by decide) ?_
      refine PW.goto (pc := 27) dX8_qKind_27 (t := 76) (by decide) ?_
      refine PW.istore_n (pc := 76) dX8_qKind_76 (ls' := [.ref 277, .int 1]) (by decide) rfl rfl ?_
      refine PW.iload_n (pc := 77) dX8_qKind_77 rfl ?_
      refine PW.iconst (pc := 78) dX8_qKind_78 (v := 5) (by decide) ?_
      refine PW.icmp_ne (pc := 79) dX8_qKind_79 (t := 90) (by decide) (fun hc => ?_) (fun hc => ?_)
      rotate_left
      · exact absurd hc (by decide)
      refine PW.iload_n (pc := 90) dX8_qKind_90 rfl ?_
      exact PW.retI (pc := 91) dX8_qKind_91 hM7.1 rfl rfl ⟨hM7, _, rfl, h⟩
  · have h := h.2 hc
    refine PW.iconst (pc := 11) dX8_qKind_11 (v := 0) (by decide) ?_
    refine PW.goto (pc := 12) dX8_qKind_12 (t := 76) (by decide) ?_
    refine PW.istore_n (pc := 76) dX8_qKind_76 (ls' := [.ref 277, .int 0]) (by decide) rfl rfl ?_
    refine PW.iload_n (pc := 77) dX8_qKind_77 rfl ?_
    refine PW.iconst (pc := 78) dX8_qKind_78 (v := 5) (by decide) ?_
    refine PW.icmp_ne (pc := 79) dX8_qKind_79 (t := 90) (by decide) (fun hc => ?_) (fun hc => ?_)
    rotate_left
    · exact absurd hc (by decide)
    refine PW.iload_n (pc := 90) dX8_qKind_90 rfl ?_
    exact PW.retI (pc := 91) dX8_qKind_91 hM3.1 rfl rfl ⟨hM3, _, rfl, h⟩
def w_X8_qTakes_90  (x1 : Int32) (x2 : Int64) (M : pm)  (Q : pm → Prop) : Prop := ((x1 ≤ 3 → (Q (sI M 277 104 0))) ∧ (¬ x1 ≤ 3 → ((¬ (mI M 277 104) = 0 → (Q (sI (sJ M 277 103 x2) 277 104 0))) ∧ ((mI M 277 104) = 0 → ((¬ x1 = 4 → (((mJ M 277 103) ≤ x2 → (Q (sI M 277 104 0))) ∧ (¬ (mJ M 277 103) ≤ x2 → (Q (sI (sJ M 277 103 x2) 277 104 0))))) ∧ (x1 = 4 → ((x2 ≤ (mJ M 277 103) → (Q (sI M 277 104 0))) ∧ (¬ x2 ≤ (mJ M 277 103) → (Q (sI (sJ M 277 103 x2) 277 104 0))))))))))
set_option maxRecDepth 4000 in
theorem c_X8_qTakes_90  {Q : pm → Prop}  : ∀ (x1 : Int32) (x2 : Int64) (M : pm), pG M → w_X8_qTakes_90 x1 x2 M  Q → PW mX8_qTakes 1 350 90 [.ref 277, .int x1, .long x2, .null, .null, .null] [] M (qV Q) := by
  intro x1 x2 M hM h
  unfold w_X8_qTakes_90 at h
  refine PW.iload_n (pc := 90) dX8_qTakes_90 rfl ?_
  refine PW.iconst (pc := 91) dX8_qTakes_91 (v := 3) (by decide) ?_
  refine PW.icmp_le (pc := 92) dX8_qTakes_92 (t := 133) (by decide) (fun hc => ?_) (fun hc => ?_)
  · have h := h.1 hc
    refine PW.aload_n (pc := 133) dX8_qTakes_133 rfl ?_
    refine PW.iconst (pc := 134) dX8_qTakes_134 (v := 0) (by decide) ?_
    refine PW.putI (pc := 135) dX8_qTakes_135 lf_X8_661 (ob hM.1 s_277 (by decide)) fx_8_104 fw_8_104 (bz_n bz0) (bz_f bz0) ?_
    exact PW.ret0 (pc := 138) dX8_qTakes_138 hM.1 rfl ⟨(hM.same rfl rfl), rfl, h⟩
  · have h := h.2 hc
    refine PW.aload_n (pc := 95) dX8_qTakes_95 rfl ?_
    refine PW.getI (pc := 96) dX8_qTakes_96 lf_X8_661 (ob hM.1 s_277 (by decide)) fx_8_104 ?_
    refine PW.if_ne (pc := 99) dX8_qTakes_99 (t := 128) (by decide) (fun hc => ?_) (fun hc => ?_)
    · have h := h.1 hc
      refine PW.aload_n (pc := 128) dX8_qTakes_128 rfl ?_
      refine PW.lload_n (pc := 129) dX8_qTakes_129 rfl ?_
      refine PW.putJ (pc := 130) dX8_qTakes_130 lf_X8_656 (ob hM.1 s_277 (by decide)) fx_8_103 fw_8_103 rfl rfl ?_
      refine PW.aload_n (pc := 133) dX8_qTakes_133 rfl ?_
      refine PW.iconst (pc := 134) dX8_qTakes_134 (v := 0) (by decide) ?_
      refine PW.putI (pc := 135) dX8_qTakes_135 lf_X8_661 (ob hM.1 s_277 (by decide)) fx_8_104 fw_8_104 (bz_n bz0) (bz_f bz0) ?_
      exact PW.ret0 (pc := 138) dX8_qTakes_138 hM.1 rfl ⟨(hM.same rfl rfl), rfl, h⟩
    · have h := h.2 hc
      refine PW.iload_n (pc := 102) dX8_qTakes_102 rfl ?_
      refine PW.iconst (pc := 103) dX8_qTakes_103 (v := 4) (by decide) ?_
      refine PW.icmp_ne (pc := 104) dX8_qTakes_104 (t := 119) (by decide) (fun hc => ?_) (fun hc => ?_)
      · have h := h.1 hc
        refine PW.lload_n (pc := 119) dX8_qTakes_119 rfl ?_
        refine PW.aload_n (pc := 120) dX8_qTakes_120 rfl ?_
        refine PW.getJ (pc := 121) dX8_qTakes_121 lf_X8_656 (ob hM.1 s_277 (by decide)) fx_8_103 ?_
        refine PW.lcmp (pc := 124) dX8_qTakes_124 ?_
        refine PW.if_ge (pc := 125) dX8_qTakes_125 (t := 133) (by decide) (fun hc => ?_) (fun hc => ?_)
        · have h := h.1 ((lg_cmp_ge _ _).mp hc)
          refine PW.aload_n (pc := 133) dX8_qTakes_133 rfl ?_
          refine PW.iconst (pc := 134) dX8_qTakes_134 (v := 0) (by decide) ?_
          refine PW.putI (pc := 135) dX8_qTakes_135 lf_X8_661 (ob hM.1 s_277 (by decide)) fx_8_104 fw_8_104 (bz_n bz0) (bz_f bz0) ?_
          exact PW.ret0 (pc := 138) dX8_qTakes_138 hM.1 rfl ⟨(hM.same rfl rfl), rfl, h⟩
        · have h := h.2 (fun q => hc ((lg_cmp_ge _ _).mpr q))
          refine PW.aload_n (pc := 128) dX8_qTakes_128 rfl ?_
          refine PW.lload_n (pc := 129) dX8_qTakes_129 rfl ?_
          refine PW.putJ (pc := 130) dX8_qTakes_130 lf_X8_656 (ob hM.1 s_277 (by decide)) fx_8_103 fw_8_103 rfl rfl ?_
          refine PW.aload_n (pc := 133) dX8_qTakes_133 rfl ?_
          refine PW.iconst (pc := 134) dX8_qTakes_134 (v := 0) (by decide) ?_
          refine PW.putI (pc := 135) dX8_qTakes_135 lf_X8_661 (ob hM.1 s_277 (by decide)) fx_8_104 fw_8_104 (bz_n bz0) (bz_f bz0) ?_
          exact PW.ret0 (pc := 138) dX8_qTakes_138 hM.1 rfl ⟨(hM.same rfl rfl), rfl, h⟩
      · have h := h.2 hc
        refine PW.lload_n (pc := 107) dX8_qTakes_107 rfl ?_
        refine PW.aload_n (pc := 108) dX8_qTakes_108 rfl ?_
        refine PW.getJ (pc := 109) dX8_qTakes_109 lf_X8_656 (ob hM.1 s_277 (by decide)) fx_8_103 ?_
        refine PW.lcmp (pc := 112) dX8_qTakes_112 ?_
        refine PW.if_le (pc := 113) dX8_qTakes_113 (t := 133) (by decide) (fun hc => ?_) (fun hc => ?_)
        · have h := h.1 ((lg_cmp_le _ _).mp hc)
          refine PW.aload_n (pc := 133) dX8_qTakes_133 rfl ?_
          refine PW.iconst (pc := 134) dX8_qTakes_134 (v := 0) (by decide) ?_
          refine PW.putI (pc := 135) dX8_qTakes_135 lf_X8_661 (ob hM.1 s_277 (by decide)) fx_8_104 fw_8_104 (bz_n bz0) (bz_f bz0) ?_
          exact PW.ret0 (pc := 138) dX8_qTakes_138 hM.1 rfl ⟨(hM.same rfl rfl), rfl, h⟩
        · have h := h.2 (fun q => hc ((lg_cmp_le _ _).mpr q))
          refine PW.goto (pc := 116) dX8_qTakes_116 (t := 128) (by decide) ?_
          refine PW.aload_n (pc := 128) dX8_qTakes_128 rfl ?_
          refine PW.lload_n (pc := 129) dX8_qTakes_129 rfl ?_
          refine PW.putJ (pc := 130) dX8_qTakes_130 lf_X8_656 (ob hM.1 s_277 (by decide)) fx_8_103 fw_8_103 rfl rfl ?_
          refine PW.aload_n (pc := 133) dX8_qTakes_133 rfl ?_
          refine PW.iconst (pc := 134) dX8_qTakes_134 (v := 0) (by decide) ?_
          refine PW.putI (pc := 135) dX8_qTakes_135 lf_X8_661 (ob hM.1 s_277 (by decide)) fx_8_104 fw_8_104 (bz_n bz0) (bz_f bz0) ?_
          exact PW.ret0 (pc := 138) dX8_qTakes_138 hM.1 rfl ⟨(hM.same rfl rfl), rfl, h⟩
def w_X8_qTakes_55  (x1 : Int32) (x2 : Int64) (x5 : Int32) (M : pm)  (Q : pm → Prop) : Prop := ((¬ x1 = 2 → ((¬ x1 = 3 → (w_X8_qTakes_90 x1 x2 M  Q)) ∧ (x1 = 3 → (w_X8_qTakes_90 x1 x2 (sJ M 277 103 ((mJ M 277 103) + x2))  Q)))) ∧ (x1 = 2 → ((x5 = 0 → ((¬ x1 = 3 → (w_X8_qTakes_90 x1 x2 M  Q)) ∧ (x1 = 3 → (w_X8_qTakes_90 x1 x2 (sJ M 277 103 ((mJ M 277 103) + x2))  Q)))) ∧ (¬ x5 = 0 → ((¬ x1 = 3 → (w_X8_qTakes_90 x1 x2 (sJ M 277 103 ((mJ M 277 103) + (1 : Int64)))  Q)) ∧ (x1 = 3 → (w_X8_qTakes_90 x1 x2 (sJ (sJ M 277 103 ((mJ M 277 103) + (1 : Int64))) 277 103 (((mJ M 277 103) + (1 : Int64)) + x2))  Q)))))))
set_option maxRecDepth 4000 in
theorem c_X8_qTakes_55  {Q : pm → Prop}  : ∀ (x1 : Int32) (x2 : Int64) (x5 : Int32) (M : pm), pG M → w_X8_qTakes_55 x1 x2 x5 M  Q → PW mX8_qTakes 1 350 55 [.ref 277, .int x1, .long x2, .null, .null, .int x5] [] M (qV Q) := by
  intro x1 x2 x5 M hM h
  unfold w_X8_qTakes_55 at h
  refine PW.iload_n (pc := 55) dX8_qTakes_55 rfl ?_
  refine PW.iconst (pc := 56) dX8_qTakes_56 (v := 2) (by decide) ?_
  refine PW.icmp_ne (pc := 57) dX8_qTakes_57 (t := 75) (by decide) (fun hc => ?_) (fun hc => ?_)
  · have h := h.1 hc
    refine PW.iload_n (pc := 75) dX8_qTakes_75 rfl ?_
    refine PW.iconst (pc := 76) dX8_qTakes_76 (v := 3) (by decide) ?_
    refine PW.icmp_ne (pc := 77) dX8_qTakes_77 (t := 90) (by decide) (fun hc => ?_) (fun hc => ?_)
    · have h := h.1 hc
      exact PW.drop (c_X8_qTakes_90  _ _ _ hM h) ⟨rfl, rfl, rfl, trivial⟩
    · have h := h.2 hc
      refine PW.aload_n (pc := 80) dX8_qTakes_80 rfl ?_
      refine PW.dupR (pc := 81) dX8_qTakes_81 ?_
      refine PW.getJ (pc := 82) dX8_qTakes_82 lf_X8_656 (ob hM.1 s_277 (by decide)) fx_8_103 ?_
      refine PW.lload_n (pc := 85) dX8_qTakes_85 rfl ?_
      refine PW.ladd (pc := 86) dX8_qTakes_86 ?_
      refine PW.putJ (pc := 87) dX8_qTakes_87 lf_X8_656 (ob hM.1 s_277 (by decide)) fx_8_103 fw_8_103 rfl rfl ?_
      exact PW.drop (c_X8_qTakes_90  _ _ _ (hM.same rfl rfl) h) ⟨rfl, rfl, rfl, trivial⟩
  · have h := h.2 hc
    refine PW.iload (pc := 60) dX8_qTakes_60 rfl ?_
    refine PW.if_eq (pc := 62) dX8_qTakes_62 (t := 75) (by decide) (fun hc => ?_) (fun hc => ?_)
    · have h := h.1 hc
      refine PW.iload_n (pc := 75) dX8_qTakes_75 rfl ?_
      refine PW.iconst (pc := 76) dX8_qTakes_76 (v := 3) (by decide) ?_
      refine PW.icmp_ne (pc := 77) dX8_qTakes_77 (t := 90) (by decide) (fun hc => ?_) (fun hc => ?_)
      · have h := h.1 hc
        exact PW.drop (c_X8_qTakes_90  _ _ _ hM h) ⟨rfl, rfl, rfl, trivial⟩
      · have h := h.2 hc
        refine PW.aload_n (pc := 80) dX8_qTakes_80 rfl ?_
        refine PW.dupR (pc := 81) dX8_qTakes_81 ?_
        refine PW.getJ (pc := 82) dX8_qTakes_82 lf_X8_656 (ob hM.1 s_277 (by decide)) fx_8_103 ?_
        refine PW.lload_n (pc := 85) dX8_qTakes_85 rfl ?_
        refine PW.ladd (pc := 86) dX8_qTakes_86 ?_
        refine PW.putJ (pc := 87) dX8_qTakes_87 lf_X8_656 (ob hM.1 s_277 (by decide)) fx_8_103 fw_8_103 rfl rfl ?_
        exact PW.drop (c_X8_qTakes_90  _ _ _ (hM.same rfl rfl) h) ⟨rfl, rfl, rfl, trivial⟩
    · have h := h.2 hc
      refine PW.aload_n (pc := 65) dX8_qTakes_65 rfl ?_
      refine PW.dupR (pc := 66) dX8_qTakes_66 ?_
      refine PW.getJ (pc := 67) dX8_qTakes_67 lf_X8_656 (ob hM.1 s_277 (by decide)) fx_8_103 ?_
      refine PW.lconst (pc := 70) dX8_qTakes_70 (v := 1) (by decide) ?_
      refine PW.ladd (pc := 71) dX8_qTakes_71 ?_
      refine PW.putJ (pc := 72) dX8_qTakes_72 lf_X8_656 (ob hM.1 s_277 (by decide)) fx_8_103 fw_8_103 rfl rfl ?_
      refine PW.iload_n (pc := 75) dX8_qTakes_75 rfl ?_
      refine PW.iconst (pc := 76) dX8_qTakes_76 (v := 3) (by decide) ?_
      refine PW.icmp_ne (pc := 77) dX8_qTakes_77 (t := 90) (by decide) (fun hc => ?_) (fun hc => ?_)
      · have h := h.1 hc
        exact PW.drop (c_X8_qTakes_90  _ _ _ (hM.same rfl rfl) h) ⟨rfl, rfl, rfl, trivial⟩
      · have h := h.2 hc
        refine PW.aload_n (pc := 80) dX8_qTakes_80 rfl ?_
        refine PW.dupR (pc := 81) dX8_qTakes_81 ?_
        refine PW.getJ (pc := 82) dX8_qTakes_82 lf_X8_656 (ob hM.1 s_277 (by decide)) fx_8_103 ?_
        refine PW.lload_n (pc := 85) dX8_qTakes_85 rfl ?_
        refine PW.ladd (pc := 86) dX8_qTakes_86 ?_
        refine PW.putJ (pc := 87) dX8_qTakes_87 lf_X8_656 (ob hM.1 s_277 (by decide)) fx_8_103 fw_8_103 rfl rfl ?_
        exact PW.drop (c_X8_qTakes_90  _ _ _ (hM.same rfl rfl) h) ⟨rfl, rfl, rfl, trivial⟩
def w_X8_qTakes_16  (x1 : Int32) (x2 : Int64) (x4 : Int32) (t0 : Int32) (M : pm)  (Q : pm → Prop) : Prop := ((¬ x1 = 0 → ((¬ x1 = 1 → (w_X8_qTakes_55 x1 x2 t0 M  Q)) ∧ (x1 = 1 → ((t0 = 0 → (w_X8_qTakes_55 x1 x2 t0 M  Q)) ∧ (¬ t0 = 0 → (w_X8_qTakes_55 x1 x2 t0 (sJ M 277 103 (Int32.toInt64 x4))  Q)))))) ∧ (x1 = 0 → ((t0 = 0 → ((¬ x1 = 1 → (w_X8_qTakes_55 x1 x2 t0 M  Q)) ∧ (x1 = 1 → ((t0 = 0 → (w_X8_qTakes_55 x1 x2 t0 M  Q)) ∧ (¬ t0 = 0 → (w_X8_qTakes_55 x1 x2 t0 (sJ M 277 103 (Int32.toInt64 x4))  Q)))))) ∧ (¬ t0 = 0 → (((mJ M 277 103) = (-1 : Int64) → (w_X8_qTakes_55 x1 x2 t0 (sJ M 277 103 (Int32.toInt64 x4))  Q)) ∧ (¬ (mJ M 277 103) = (-1 : Int64) → ((¬ x1 = 1 → (w_X8_qTakes_55 x1 x2 t0 M  Q)) ∧ (x1 = 1 → ((t0 = 0 → (w_X8_qTakes_55 x1 x2 t0 M  Q)) ∧ (¬ t0 = 0 → (w_X8_qTakes_55 x1 x2 t0 (sJ M 277 103 (Int32.toInt64 x4))  Q)))))))))))
set_option maxRecDepth 4000 in
theorem c_X8_qTakes_16  {Q : pm → Prop}  : ∀ (x1 : Int32) (x2 : Int64) (x4 : Int32) (t0 : Int32) (M : pm), pG M → w_X8_qTakes_16 x1 x2 x4 t0 M  Q → PW mX8_qTakes 1 350 16 [.ref 277, .int x1, .long x2, .null, .int x4, .null] [.int t0] M (qV Q) := by
  intro x1 x2 x4 t0 M hM h
  unfold w_X8_qTakes_16 at h
  refine PW.istore (pc := 16) dX8_qTakes_16 (ls' := [.ref 277, .int x1, .long x2, .null, .int x4, .int t0]) (by decide) rfl rfl ?_
  refine PW.iload_n (pc := 18) dX8_qTakes_18 rfl ?_
  refine PW.if_ne (pc := 19) dX8_qTakes_19 (t := 38) (by decide) (fun hc => ?_) (fun hc => ?_)
  · have h := h.1 hc
    refine PW.iload_n (pc := 38) dX8_qTakes_38 rfl ?_
    refine PW.iconst (pc := 39) dX8_qTakes_39 (v := 1) (by decide) ?_
    refine PW.icmp_ne (pc := 40) dX8_qTakes_40 (t := 55) (by decide) (fun hc => ?_) (fun hc => ?_)
    · have h := h.1 hc
      exact PW.drop (c_X8_qTakes_55  _ _ _ _ hM h) ⟨rfl, rfl, rfl, rfl, trivial⟩
    · have h := h.2 hc
      refine PW.iload (pc := 43) dX8_qTakes_43 rfl ?_
      refine PW.if_eq (pc := 45) dX8_qTakes_45 (t := 55) (by decide) (fun hc => ?_) (fun hc => ?_)
      · have h := h.1 hc
        exact PW.drop (c_X8_qTakes_55  _ _ _ _ hM h) ⟨rfl, rfl, rfl, rfl, trivial⟩
      · have h := h.2 hc
        refine PW.aload_n (pc := 48) dX8_qTakes_48 rfl ?_
        refine PW.iload (pc := 49) dX8_qTakes_49 rfl ?_
        refine PW.i2l (pc := 51) dX8_qTakes_51 ?_
        refine PW.putJ (pc := 52) dX8_qTakes_52 lf_X8_656 (ob hM.1 s_277 (by decide)) fx_8_103 fw_8_103 rfl rfl ?_
        exact PW.drop (c_X8_qTakes_55  _ _ _ _ (hM.same rfl rfl) h) ⟨rfl, rfl, rfl, rfl, trivial⟩
  · have h := h.2 hc
    refine PW.iload (pc := 22) dX8_qTakes_22 rfl ?_
    refine PW.if_eq (pc := 24) dX8_qTakes_24 (t := 38) (by decide) (fun hc => ?_) (fun hc => ?_)
    · have h := h.1 hc
      refine PW.iload_n (pc := 38) dX8_qTakes_38 rfl ?_
      refine PW.iconst (pc := 39) dX8_qTakes_39 (v := 1) (by decide) ?_
      refine PW.icmp_ne (pc := 40) dX8_qTakes_40 (t := 55) (by decide) (fun hc => ?_) (fun hc => ?_)
      · have h := h.1 hc
        exact PW.drop (c_X8_qTakes_55  _ _ _ _ hM h) ⟨rfl, rfl, rfl, rfl, trivial⟩
      · have h := h.2 hc
        refine PW.iload (pc := 43) dX8_qTakes_43 rfl ?_
        refine PW.if_eq (pc := 45) dX8_qTakes_45 (t := 55) (by decide) (fun hc => ?_) (fun hc => ?_)
        · have h := h.1 hc
          exact PW.drop (c_X8_qTakes_55  _ _ _ _ hM h) ⟨rfl, rfl, rfl, rfl, trivial⟩
        · have h := h.2 hc
          refine PW.aload_n (pc := 48) dX8_qTakes_48 rfl ?_
          refine PW.iload (pc := 49) dX8_qTakes_49 rfl ?_
          refine PW.i2l (pc := 51) dX8_qTakes_51 ?_
          refine PW.putJ (pc := 52) dX8_qTakes_52 lf_X8_656 (ob hM.1 s_277 (by decide)) fx_8_103 fw_8_103 rfl rfl ?_
          exact PW.drop (c_X8_qTakes_55  _ _ _ _ (hM.same rfl rfl) h) ⟨rfl, rfl, rfl, rfl, trivial⟩
    · have h := h.2 hc
      refine PW.aload_n (pc := 27) dX8_qTakes_27 rfl ?_
      refine PW.getJ (pc := 28) dX8_qTakes_28 lf_X8_656 (ob hM.1 s_277 (by decide)) fx_8_103 ?_
      refine PW.ldc2 (pc := 31) dX8_qTakes_31 lk_X8_659 ?_
      refine PW.lcmp (pc := 34) dX8_qTakes_34 ?_
      refine PW.if_eq (pc := 35) dX8_qTakes_35 (t := 48) (by decide) (fun hc => ?_) (fun hc => ?_)
      · have h := h.1 ((lg_cmp_eq _ _).mp hc)
        refine PW.aload_n (pc := 48) dX8_qTakes_48 rfl ?_
        refine PW.iload (pc := 49) dX8_qTakes_49 rfl ?_
        refine PW.i2l (pc := 51) dX8_qTakes_51 ?_
        refine PW.putJ (pc := 52) dX8_qTakes_52 lf_X8_656 (ob hM.1 s_277 (by decide)) fx_8_103 fw_8_103 rfl rfl ?_
        exact PW.drop (c_X8_qTakes_55  _ _ _ _ (hM.same rfl rfl) h) ⟨rfl, rfl, rfl, rfl, trivial⟩
      · have h := h.2 (fun q => hc ((lg_cmp_eq _ _).mpr q))
        refine PW.iload_n (pc := 38) dX8_qTakes_38 rfl ?_
        refine PW.iconst (pc := 39) dX8_qTakes_39 (v := 1) (by decide) ?_
        refine PW.icmp_ne (pc := 40) dX8_qTakes_40 (t := 55) (by decide) (fun hc => ?_) (fun hc => ?_)
        · have h := h.1 hc
          exact PW.drop (c_X8_qTakes_55  _ _ _ _ hM h) ⟨rfl, rfl, rfl, rfl, trivial⟩
        · have h := h.2 hc
          refine PW.iload (pc := 43) dX8_qTakes_43 rfl ?_
          refine PW.if_eq (pc := 45) dX8_qTakes_45 (t := 55) (by decide) (fun hc => ?_) (fun hc => ?_)
          · have h := h.1 hc
            exact PW.drop (c_X8_qTakes_55  _ _ _ _ hM h) ⟨rfl, rfl, rfl, rfl, trivial⟩
          · have h := h.2 hc
            refine PW.aload_n (pc := 48) dX8_qTakes_48 rfl ?_
            refine PW.iload (pc := 49) dX8_qTakes_49 rfl ?_
            refine PW.i2l (pc := 51) dX8_qTakes_51 ?_
            refine PW.putJ (pc := 52) dX8_qTakes_52 lf_X8_656 (ob hM.1 s_277 (by decide)) fx_8_103 fw_8_103 rfl rfl ?_
            exact PW.drop (c_X8_qTakes_55  _ _ _ _ (hM.same rfl rfl) h) ⟨rfl, rfl, rfl, rfl, trivial⟩
def w_X8_qTakes (x1 : Int32) (x2 : Int64) (x4 : Int32) (M : pm) (Q : pm → Prop) : Prop := ((3 ≤ x1 → (w_X8_qTakes_16 x1 x2 x4 0 M  Q)) ∧ (¬ 3 ≤ x1 → ((¬ x2 = (1 : Int64) → (w_X8_qTakes_16 x1 x2 x4 0 M  Q)) ∧ (x2 = (1 : Int64) → (w_X8_qTakes_16 x1 x2 x4 1 M  Q)))))
set_option maxRecDepth 4000 in
theorem c_X8_qTakes {x1 : Int32} {x2 : Int64} {x4 : Int32} {M : pm} {Q : pm → Prop}  (hM : pG M) (h : w_X8_qTakes x1 x2 x4 M Q) : PW mX8_qTakes 1 350 0 (pfr mX8_qTakes.2.2.1 [.ref 277, .int x1, .long x2, .int x4]) [] M (qV Q) := by
  unfold w_X8_qTakes at h
  show PW mX8_qTakes 1 350 0 [.ref 277, .int x1, .long x2, .null, .int x4, .null] [] M (qV Q)
  refine PW.iload_n (pc := 0) dX8_qTakes_0 rfl ?_
  refine PW.iconst (pc := 1) dX8_qTakes_1 (v := 3) (by decide) ?_
  refine PW.icmp_ge (pc := 2) dX8_qTakes_2 (t := 15) (by decide) (fun hc => ?_) (fun hc => ?_)
  · have h := h.1 hc
    refine PW.iconst (pc := 15) dX8_qTakes_15 (v := 0) (by decide) ?_
    exact PW.drop (c_X8_qTakes_16  _ _ _ _ _ hM h) ⟨rfl, rfl, rfl, rfl, trivial⟩
  · have h := h.2 hc
    refine PW.lload_n (pc := 5) dX8_qTakes_5 rfl ?_
    refine PW.lconst (pc := 6) dX8_qTakes_6 (v := 1) (by decide) ?_
    refine PW.lcmp (pc := 7) dX8_qTakes_7 ?_
    refine PW.if_ne (pc := 8) dX8_qTakes_8 (t := 15) (by decide) (fun hc => ?_) (fun hc => ?_)
    · have h := h.1 (fun q => hc ((lg_cmp_eq _ _).mpr q))
      refine PW.iconst (pc := 15) dX8_qTakes_15 (v := 0) (by decide) ?_
      exact PW.drop (c_X8_qTakes_16  _ _ _ _ _ hM h) ⟨rfl, rfl, rfl, rfl, trivial⟩
    · have h := h.2 ((lg_cmp_eq _ _).mp hc)
      refine PW.iconst (pc := 11) dX8_qTakes_11 (v := 1) (by decide) ?_
      refine PW.goto (pc := 12) dX8_qTakes_12 (t := 16) (by decide) ?_
      exact PW.drop (c_X8_qTakes_16  _ _ _ _ _ hM h) ⟨rfl, rfl, rfl, rfl, trivial⟩
def w_X8_ask_192 : Nat → Int32 → Int32 → pm → (Int64 → pm → Prop) → Prop
  | 0, _, _, _, _ => False
  | n + 1, x1, x2, M, Q => w_X8_askerMany  M (fun y8 M7 => ((y8 ≤ x2 → (Q (mJ M7 277 103) M7)) ∧ (¬ y8 ≤ x2 → (w_X8_qTold x2 M7 (fun y11 M10 => w_X8_qTakes x1 y11 x2 M10 (fun M13 => w_X8_ask_192 n x1 (x2 + 1) M13 Q))))))
set_option maxRecDepth 4000 in
theorem c_X8_ask_192  {Q : Int64 → pm → Prop}  : ∀ (n : Nat) (x1 : Int32) (x2 : Int32) (M : pm), pG M → w_X8_ask_192 n x1 x2 M  Q → PW mX8_ask 10 350 192 [.ref 277, .int x1, .int x2] [] M (qJ Q) := by
  intro n
  induction n with
  | zero => intro x1 x2 M hM h; exact h.elim
  | succ n ih =>
    intro x1 x2 M hM h
    unfold w_X8_ask_192 at h
    refine PW.iload_n (pc := 192) dX8_ask_192 rfl ?_
    refine PW.aload_n (pc := 193) dX8_ask_193 rfl ?_
    refine PW.inv (m' := mX8_askerMany) (pc := 194) dX8_ask_194 lm_X8_395 me_X8_askerMany mi_X8_askerMany (ob hM.1 s_277 (by decide)) rfl (As := []) (st := [.int x2]) rfl (Nat.le_of_ble_eq_true rfl) (Nat.le_of_ble_eq_true rfl) (Nat.le_of_eq hM.1) (Nat.le_refl _) (PW.deep (by decide) (c_X8_askerMany  hM h)) ?_
    rintro _ M7 ⟨hM9, y8, rfl, h⟩
    refine PW.icmp_ge (pc := 197) dX8_ask_197 (t := 217) (by decide) (fun hc => ?_) (fun hc => ?_)
    · have h := h.1 hc
      refine PW.aload_n (pc := 217) dX8_ask_217 rfl ?_
      refine PW.getJ (pc := 218) dX8_ask_218 lf_X8_656 (ob hM9.1 s_277 (by decide)) fx_8_103 ?_
      exact PW.retJ (pc := 221) dX8_ask_221 hM9.1 rfl ⟨hM9, _, rfl, h⟩
    · have h := h.2 hc
      refine PW.aload_n (pc := 200) dX8_ask_200 rfl ?_
      refine PW.iload_n (pc := 201) dX8_ask_201 rfl ?_
      refine PW.aload_n (pc := 202) dX8_ask_202 rfl ?_
      refine PW.iload_n (pc := 203) dX8_ask_203 rfl ?_
      refine PW.inv (m' := mX8_qTold) (pc := 204) dX8_ask_204 lm_X8_667 me_X8_qTold mi_X8_qTold (ob hM9.1 s_277 (by decide)) rfl (As := [.int x2]) (st := [.int x1, .ref 277]) rfl (Nat.le_of_ble_eq_true rfl) (Nat.le_of_ble_eq_true rfl) (Nat.le_of_eq hM9.1) (Nat.le_refl _) (PW.deep (by decide) (c_X8_qTold  hM9 h)) ?_
      rintro _ M10 ⟨hM12, y11, rfl, h⟩
      refine PW.iload_n (pc := 207) dX8_ask_207 rfl ?_
      refine PW.inv (m' := mX8_qTakes) (pc := 208) dX8_ask_208 lm_X8_670 me_X8_qTakes mi_X8_qTakes (ob hM12.1 s_277 (by decide)) rfl (As := [.int x1, .long y11, .int x2]) (st := []) rfl (Nat.le_of_ble_eq_true rfl) (Nat.le_of_ble_eq_true rfl) (Nat.le_of_eq hM12.1) (Nat.le_refl _) (PW.deep (by decide) (c_X8_qTakes  hM12 h)) ?_
      rintro _ M13 ⟨hM15, rfl, h⟩
      refine PW.iinc (pc := 211) dX8_ask_211 (v := (x2 + 1)) (ls' := [.ref 277, .int x1, .int (x2 + 1)]) rfl rfl (by decide) rfl rfl ?_
      refine PW.goto (pc := 214) dX8_ask_214 (t := 192) (by decide) ?_
      exact PW.drop (ih _ _ _ hM15 h) ⟨rfl, rfl, rfl, trivial⟩
def w_X8_ask_133  (x1 : Int32) (M : pm)  (Q : Int64 → pm → Prop) : Prop := (((mI M 277 5) = 0 → ((2 ≤ x1 → (w_X8_laysBest  (sI (sJ (sI (sI M 277 7 (mI M 277 5)) 277 8 (mI M 277 6)) 277 103 (0 : Int64)) 277 104 1) (fun M4 => ∃ n16, w_X8_ask_192 n16 x1 0 (sI M4 277 51 2)  Q))) ∧ (¬ 2 ≤ x1 → (w_X8_laysBest  (sI (sJ (sI (sI M 277 7 (mI M 277 5)) 277 8 (mI M 277 6)) 277 103 (-1 : Int64)) 277 104 1) (fun M17 => ∃ n20, w_X8_ask_192 n20 x1 0 (sI M17 277 51 2)  Q))))) ∧ (¬ (mI M 277 5) = 0 → (Q (-1000000000000000 : Int64) (sI (sI M 277 7 (mI M 277 5)) 277 8 (mI M 277 6)))))
set_option maxRecDepth 4000 in
theorem c_X8_ask_133  {Q : Int64 → pm → Prop}  : ∀ (x1 : Int32) (M : pm), pG M → w_X8_ask_133 x1 M  Q → PW mX8_ask 10 350 133 [.ref 277, .int x1, .null] [] M (qJ Q) := by
  intro x1 M hM h
  unfold w_X8_ask_133 at h
  refine PW.aload_n (pc := 133) dX8_ask_133 rfl ?_
  refine PW.aload_n (pc := 134) dX8_ask_134 rfl ?_
  refine PW.getI (pc := 135) dX8_ask_135 lf_X8_249 (ob hM.1 s_277 (by decide)) fx_8_5 ?_
  refine PW.putI (pc := 138) dX8_ask_138 lf_X8_379 (ob hM.1 s_277 (by decide)) fx_8_7 fw_8_7 rfl rfl ?_
  refine PW.aload_n (pc := 141) dX8_ask_141 rfl ?_
  refine PW.aload_n (pc := 142) dX8_ask_142 rfl ?_
  refine PW.getI (pc := 143) dX8_ask_143 lf_X8_252 (ob hM.1 s_277 (by decide)) fx_8_6 ?_
  refine PW.putI (pc := 146) dX8_ask_146 lf_X8_13 (ob hM.1 s_277 (by decide)) fx_8_8 fw_8_8 rfl rfl ?_
  refine PW.aload_n (pc := 149) dX8_ask_149 rfl ?_
  refine PW.getI (pc := 150) dX8_ask_150 lf_X8_249 (ob hM.1 s_277 (by decide)) fx_8_5 ?_
  refine PW.if_eq (pc := 153) dX8_ask_153 (t := 160) (by decide) (fun hc => ?_) (fun hc => ?_)
  · have h := h.1 hc
    refine PW.aload_n (pc := 160) dX8_ask_160 rfl ?_
    refine PW.iload_n (pc := 161) dX8_ask_161 rfl ?_
    refine PW.iconst (pc := 162) dX8_ask_162 (v := 2) (by decide) ?_
    refine PW.icmp_ge (pc := 163) dX8_ask_163 (t := 172) (by decide) (fun hc => ?_) (fun hc => ?_)
    · have h := h.1 hc
      refine PW.lconst (pc := 172) dX8_ask_172 (v := 0) (by decide) ?_
      refine PW.putJ (pc := 173) dX8_ask_173 lf_X8_656 (ob hM.1 s_277 (by decide)) fx_8_103 fw_8_103 rfl rfl ?_
      refine PW.aload_n (pc := 176) dX8_ask_176 rfl ?_
      refine PW.iconst (pc := 177) dX8_ask_177 (v := 1) (by decide) ?_
      refine PW.putI (pc := 178) dX8_ask_178 lf_X8_661 (ob hM.1 s_277 (by decide)) fx_8_104 fw_8_104 (bz_n bz1) (bz_f bz1) ?_
      refine PW.aload_n (pc := 181) dX8_ask_181 rfl ?_
      refine PW.inv (m' := mX8_laysBest) (pc := 182) dX8_ask_182 lm_X8_479 me_X8_laysBest mi_X8_laysBest (ob hM.1 s_277 (by decide)) rfl (As := []) (st := []) rfl (Nat.le_of_ble_eq_true rfl) (Nat.le_of_ble_eq_true rfl) (Nat.le_of_eq hM.1) (Nat.le_refl _) (PW.deep (by decide) (c_X8_laysBest  (hM.same rfl rfl) h)) ?_
      rintro _ M4 ⟨hM6, rfl, h⟩
      refine PW.aload_n (pc := 185) dX8_ask_185 rfl ?_
      refine PW.iconst (pc := 186) dX8_ask_186 (v := 2) (by decide) ?_
      refine PW.putI (pc := 187) dX8_ask_187 lf_X8_304 (ob hM6.1 s_277 (by decide)) fx_8_51 fw_8_51 rfl rfl ?_
      refine PW.iconst (pc := 190) dX8_ask_190 (v := 0) (by decide) ?_
      refine PW.istore_n (pc := 191) dX8_ask_191 (ls' := [.ref 277, .int x1, .int 0]) (by decide) rfl rfl ?_
      obtain ⟨n16, h⟩ := h
      refine PW.drop (c_X8_ask_192  n16 _ _ _ (hM6.same rfl rfl) h) ⟨rfl, rfl, rfl, trivial⟩
    · have h := h.2 hc
      refine PW.ldc2 (pc := 166) dX8_ask_166 lk_X8_659 ?_
      refine PW.goto (pc := 169) dX8_ask_169 (t := 173) (by decide) ?_
      refine PW.putJ (pc := 173) dX8_ask_173 lf_X8_656 (ob hM.1 s_277 (by decide)) fx_8_103 fw_8_103 rfl rfl ?_
      refine PW.aload_n (pc := 176) dX8_ask_176 rfl ?_
      refine PW.iconst (pc := 177) dX8_ask_177 (v := 1) (by decide) ?_
      refine PW.putI (pc := 178) dX8_ask_178 lf_X8_661 (ob hM.1 s_277 (by decide)) fx_8_104 fw_8_104 (bz_n bz1) (bz_f bz1) ?_
      refine PW.aload_n (pc := 181) dX8_ask_181 rfl ?_
      refine PW.inv (m' := mX8_laysBest) (pc := 182) dX8_ask_182 lm_X8_479 me_X8_laysBest mi_X8_laysBest (ob hM.1 s_277 (by decide)) rfl (As := []) (st := []) rfl (Nat.le_of_ble_eq_true rfl) (Nat.le_of_ble_eq_true rfl) (Nat.le_of_eq hM.1) (Nat.le_refl _) (PW.deep (by decide) (c_X8_laysBest  (hM.same rfl rfl) h)) ?_
      rintro _ M17 ⟨hM19, rfl, h⟩
      refine PW.aload_n (pc := 185) dX8_ask_185 rfl ?_
      refine PW.iconst (pc := 186) dX8_ask_186 (v := 2) (by decide) ?_
      refine PW.putI (pc := 187) dX8_ask_187 lf_X8_304 (ob hM19.1 s_277 (by decide)) fx_8_51 fw_8_51 rfl rfl ?_
      refine PW.iconst (pc := 190) dX8_ask_190 (v := 0) (by decide) ?_
      refine PW.istore_n (pc := 191) dX8_ask_191 (ls' := [.ref 277, .int x1, .int 0]) (by decide) rfl rfl ?_
      obtain ⟨n20, h⟩ := h
      refine PW.drop (c_X8_ask_192  n20 _ _ _ (hM19.same rfl rfl) h) ⟨rfl, rfl, rfl, trivial⟩
  · have h := h.2 hc
    refine PW.ldc2 (pc := 156) dX8_ask_156 lk_X8_513 ?_
    exact PW.retJ (pc := 159) dX8_ask_159 hM.1 rfl ⟨(hM.same rfl rfl), _, rfl, h⟩
def w_X8_ask_109  (x1 : Int32) (M : pm)  (Q : Int64 → pm → Prop) : Prop := ((¬ (mI M 277 5) = 0 → (w_X8_ask_133 x1 M  Q)) ∧ ((mI M 277 5) = 0 → (w_X8_look  M (fun y22 M21 => ((y22 = (-1) → (w_X8_ask_133 x1 M21  Q)) ∧ (¬ y22 = (-1) → (w_X8_fail 1 (mI M21 277 2) M21 (fun M24 => w_X8_ask_133 x1 M24  Q))))))))
set_option maxRecDepth 4000 in
theorem c_X8_ask_109  {Q : Int64 → pm → Prop}  : ∀ (x1 : Int32) (M : pm), pG M → w_X8_ask_109 x1 M  Q → PW mX8_ask 10 350 109 [.ref 277, .int x1, .null] [] M (qJ Q) := by
  intro x1 M hM h
  unfold w_X8_ask_109 at h
  refine PW.aload_n (pc := 109) dX8_ask_109 rfl ?_
  refine PW.getI (pc := 110) dX8_ask_110 lf_X8_249 (ob hM.1 s_277 (by decide)) fx_8_5 ?_
  refine PW.if_ne (pc := 113) dX8_ask_113 (t := 133) (by decide) (fun hc => ?_) (fun hc => ?_)
  · have h := h.1 hc
    exact PW.drop (c_X8_ask_133  _ _ hM h) ⟨rfl, rfl, trivial⟩
  · have h := h.2 hc
    refine PW.aload_n (pc := 116) dX8_ask_116 rfl ?_
    refine PW.inv (m' := mX8_look) (pc := 117) dX8_ask_117 lm_X8_261 me_X8_look mi_X8_look (ob hM.1 s_277 (by decide)) rfl (As := []) (st := []) rfl (Nat.le_of_ble_eq_true rfl) (Nat.le_of_ble_eq_true rfl) (Nat.le_of_eq hM.1) (Nat.le_refl _) (PW.deep (by decide) (c_X8_look  hM h)) ?_
    rintro _ M21 ⟨hM23, y22, rfl, h⟩
    refine PW.iconst (pc := 120) dX8_ask_120 (v := (-1)) (by decide) ?_
    refine PW.icmp_eq (pc := 121) dX8_ask_121 (t := 133) (by decide) (fun hc => ?_) (fun hc => ?_)
    · have h := h.1 hc
      exact PW.drop (c_X8_ask_133  _ _ hM23 h) ⟨rfl, rfl, trivial⟩
    · have h := h.2 hc
      refine PW.aload_n (pc := 124) dX8_ask_124 rfl ?_
      refine PW.iconst (pc := 125) dX8_ask_125 (v := 1) (by decide) ?_
      refine PW.aload_n (pc := 126) dX8_ask_126 rfl ?_
      refine PW.getI (pc := 127) dX8_ask_127 lf_X8_255 (ob hM23.1 s_277 (by decide)) fx_8_2 ?_
      refine PW.inv (m' := mX8_fail) (pc := 130) dX8_ask_130 lm_X8_279 me_X8_fail mi_X8_fail (ob hM23.1 s_277 (by decide)) rfl (As := [.int 1, .int (mI M21 277 2)]) (st := []) rfl (Nat.le_of_ble_eq_true rfl) (Nat.le_of_ble_eq_true rfl) (Nat.le_of_eq hM23.1) (Nat.le_refl _) (PW.deep (by decide) (c_X8_fail  hM23 h)) ?_
      rintro _ M24 ⟨hM26, rfl, h⟩
      exact PW.drop (c_X8_ask_133  _ _ hM26 h) ⟨rfl, rfl, trivial⟩
def w_X8_ask  (M : pm) (Q : Int64 → pm → Prop) : Prop := ((¬ (mI M 277 50) = 0 → (w_X8_qKind  (sI (sI (sI (sI (sI (sI (sI (sI (sI (sI (sI M 277 3 (mI M 277 1)) 277 1 0) 277 2 0) 277 4 (-1)) 277 5 0) 277 6 (-1)) 277 51 2) 277 96 0) 277 98 0) 277 99 0) 277 100 0) (fun y2 M1 => ((¬ (mI M1 277 5) = 0 → ((¬ (mI M1 277 5) = 0 → (w_X8_ask_109 y2 M1  Q)) ∧ ((mI M1 277 5) = 0 → (w_X8_qSums  M1 (fun M27 => w_X8_ask_109 y2 M27  Q))))) ∧ ((mI M1 277 5) = 0 → ((3 ≤ y2 → ((¬ (mI M1 277 5) = 0 → (w_X8_ask_109 y2 M1  Q)) ∧ ((mI M1 277 5) = 0 → (w_X8_qSums  M1 (fun M30 => w_X8_ask_109 y2 M30  Q))))) ∧ (¬ 3 ≤ y2 → (w_X8_qTest  M1 (fun M33 => w_X8_ask_109 y2 M33  Q))))))))) ∧ ((mI M 277 50) = 0 → (Q (-1000000000000000 : Int64) (sI M 277 1 0))))
set_option maxRecDepth 4000 in
theorem c_X8_ask  {M : pm} {Q : Int64 → pm → Prop}  (hM : pG M) (h : w_X8_ask  M Q) : PW mX8_ask 10 350 0 (pfr mX8_ask.2.2.1 [.ref 277]) [] M (qJ Q) := by
  unfold w_X8_ask at h
  show PW mX8_ask 10 350 0 [.ref 277, .null, .null] [] M (qJ Q)
  refine PW.aload_n (pc := 0) dX8_ask_0 rfl ?_
  refine PW.getI (pc := 1) dX8_ask_1 lf_X8_385 (ob hM.1 s_277 (by decide)) fx_8_50 ?_
  refine PW.if_ne (pc := 4) dX8_ask_4 (t := 16) (by decide) (fun hc => ?_) (fun hc => ?_)
  · have h := h.1 hc
    refine PW.aload_n (pc := 16) dX8_ask_16 rfl ?_
    refine PW.aload_n (pc := 17) dX8_ask_17 rfl ?_
    refine PW.getI (pc := 18) dX8_ask_18 lf_X8_246 (ob hM.1 s_277 (by decide)) fx_8_1 ?_
    refine PW.putI (pc := 21) dX8_ask_21 lf_X8_258 (ob hM.1 s_277 (by decide)) fx_8_3 fw_8_3 rfl rfl ?_
    refine PW.aload_n (pc := 24) dX8_ask_24 rfl ?_
    refine PW.iconst (pc := 25) dX8_ask_25 (v := 0) (by decide) ?_
    refine PW.putI (pc := 26) dX8_ask_26 lf_X8_246 (ob hM.1 s_277 (by decide)) fx_8_1 fw_8_1 rfl rfl ?_
    refine PW.aload_n (pc := 29) dX8_ask_29 rfl ?_
    refine PW.iconst (pc := 30) dX8_ask_30 (v := 0) (by decide) ?_
    refine PW.putI (pc := 31) dX8_ask_31 lf_X8_255 (ob hM.1 s_277 (by decide)) fx_8_2 fw_8_2 rfl rfl ?_
    refine PW.aload_n (pc := 34) dX8_ask_34 rfl ?_
    refine PW.iconst (pc := 35) dX8_ask_35 (v := (-1)) (by decide) ?_
    refine PW.putI (pc := 36) dX8_ask_36 lf_X8_269 (ob hM.1 s_277 (by decide)) fx_8_4 fw_8_4 rfl rfl ?_
    refine PW.aload_n (pc := 39) dX8_ask_39 rfl ?_
    refine PW.iconst (pc := 40) dX8_ask_40 (v := 0) (by decide) ?_
    refine PW.putI (pc := 41) dX8_ask_41 lf_X8_249 (ob hM.1 s_277 (by decide)) fx_8_5 fw_8_5 rfl rfl ?_
    refine PW.aload_n (pc := 44) dX8_ask_44 rfl ?_
    refine PW.iconst (pc := 45) dX8_ask_45 (v := (-1)) (by decide) ?_
    refine PW.putI (pc := 46) dX8_ask_46 lf_X8_252 (ob hM.1 s_277 (by decide)) fx_8_6 fw_8_6 rfl rfl ?_
    refine PW.aload_n (pc := 49) dX8_ask_49 rfl ?_
    refine PW.iconst (pc := 50) dX8_ask_50 (v := 2) (by decide) ?_
    refine PW.putI (pc := 51) dX8_ask_51 lf_X8_304 (ob hM.1 s_277 (by decide)) fx_8_51 fw_8_51 rfl rfl ?_
    refine PW.aload_n (pc := 54) dX8_ask_54 rfl ?_
    refine PW.iconst (pc := 55) dX8_ask_55 (v := 0) (by decide) ?_
    refine PW.putI (pc := 56) dX8_ask_56 lf_X8_337 (ob hM.1 s_277 (by decide)) fx_8_96 fw_8_96 rfl rfl ?_
    refine PW.aload_n (pc := 59) dX8_ask_59 rfl ?_
    refine PW.iconst (pc := 60) dX8_ask_60 (v := 0) (by decide) ?_
    refine PW.putI (pc := 61) dX8_ask_61 lf_X8_340 (ob hM.1 s_277 (by decide)) fx_8_98 fw_8_98 rfl rfl ?_
    refine PW.aload_n (pc := 64) dX8_ask_64 rfl ?_
    refine PW.iconst (pc := 65) dX8_ask_65 (v := 0) (by decide) ?_
    refine PW.putI (pc := 66) dX8_ask_66 lf_X8_343 (ob hM.1 s_277 (by decide)) fx_8_99 fw_8_99 rfl rfl ?_
    refine PW.aload_n (pc := 69) dX8_ask_69 rfl ?_
    refine PW.iconst (pc := 70) dX8_ask_70 (v := 0) (by decide) ?_
    refine PW.putI (pc := 71) dX8_ask_71 lf_X8_346 (ob hM.1 s_277 (by decide)) fx_8_100 fw_8_100 rfl rfl ?_
    refine PW.aload_n (pc := 74) dX8_ask_74 rfl ?_
    refine PW.inv (m' := mX8_qKind) (pc := 75) dX8_ask_75 lm_X8_664 me_X8_qKind mi_X8_qKind (ob hM.1 s_277 (by decide)) rfl (As := []) (st := []) rfl (Nat.le_of_ble_eq_true rfl) (Nat.le_of_ble_eq_true rfl) (Nat.le_of_eq hM.1) (Nat.le_refl _) (PW.deep (by decide) (c_X8_qKind  (hM.same rfl rfl) h)) ?_
    rintro _ M1 ⟨hM3, y2, rfl, h⟩
    refine PW.istore_n (pc := 78) dX8_ask_78 (ls' := [.ref 277, .int y2, .null]) (by decide) rfl rfl ?_
    refine PW.aload_n (pc := 79) dX8_ask_79 rfl ?_
    refine PW.getI (pc := 80) dX8_ask_80 lf_X8_249 (ob hM3.1 s_277 (by decide)) fx_8_5 ?_
    refine PW.if_ne (pc := 83) dX8_ask_83 (t := 98) (by decide) (fun hc => ?_) (fun hc => ?_)
    · have h := h.1 hc
      refine PW.aload_n (pc := 98) dX8_ask_98 rfl ?_
      refine PW.getI (pc := 99) dX8_ask_99 lf_X8_249 (ob hM3.1 s_277 (by decide)) fx_8_5 ?_
      refine PW.if_ne (pc := 102) dX8_ask_102 (t := 109) (by decide) (fun hc => ?_) (fun hc => ?_)
      · have h := h.1 hc
        exact PW.drop (c_X8_ask_109  _ _ hM3 h) ⟨rfl, rfl, trivial⟩
      · have h := h.2 hc
        refine PW.aload_n (pc := 105) dX8_ask_105 rfl ?_
        refine PW.inv (m' := mX8_qSums) (pc := 106) dX8_ask_106 lm_X8_352 me_X8_qSums mi_X8_qSums (ob hM3.1 s_277 (by decide)) rfl (As := []) (st := []) rfl (Nat.le_of_ble_eq_true rfl) (Nat.le_of_ble_eq_true rfl) (Nat.le_of_eq hM3.1) (Nat.le_refl _) (PW.deep (by decide) (c_X8_qSums  hM3 h)) ?_
        rintro _ M27 ⟨hM29, rfl, h⟩
        exact PW.drop (c_X8_ask_109  _ _ hM29 h) ⟨rfl, rfl, trivial⟩
    · have h := h.2 hc
      refine PW.iload_n (pc := 86) dX8_ask_86 rfl ?_
      refine PW.iconst (pc := 87) dX8_ask_87 (v := 3) (by decide) ?_
      refine PW.icmp_ge (pc := 88) dX8_ask_88 (t := 98) (by decide) (fun hc => ?_) (fun hc => ?_)
      · have h := h.1 hc
        refine PW.aload_n (pc := 98) dX8_ask_98 rfl ?_
        refine PW.getI (pc := 99) dX8_ask_99 lf_X8_249 (ob hM3.1 s_277 (by decide)) fx_8_5 ?_
        refine PW.if_ne (pc := 102) dX8_ask_102 (t := 109) (by decide) (fun hc => ?_) (fun hc => ?_)
        · have h := h.1 hc
          exact PW.drop (c_X8_ask_109  _ _ hM3 h) ⟨rfl, rfl, trivial⟩
        · have h := h.2 hc
          refine PW.aload_n (pc := 105) dX8_ask_105 rfl ?_
          refine PW.inv (m' := mX8_qSums) (pc := 106) dX8_ask_106 lm_X8_352 me_X8_qSums mi_X8_qSums (ob hM3.1 s_277 (by decide)) rfl (As := []) (st := []) rfl (Nat.le_of_ble_eq_true rfl) (Nat.le_of_ble_eq_true rfl) (Nat.le_of_eq hM3.1) (Nat.le_refl _) (PW.deep (by decide) (c_X8_qSums  hM3 h)) ?_
          rintro _ M30 ⟨hM32, rfl, h⟩
          exact PW.drop (c_X8_ask_109  _ _ hM32 h) ⟨rfl, rfl, trivial⟩
      · have h := h.2 hc
        refine PW.aload_n (pc := 91) dX8_ask_91 rfl ?_
        refine PW.inv (m' := mX8_qTest) (pc := 92) dX8_ask_92 lm_X8_349 me_X8_qTest mi_X8_qTest (ob hM3.1 s_277 (by decide)) rfl (As := []) (st := []) rfl (Nat.le_of_ble_eq_true rfl) (Nat.le_of_ble_eq_true rfl) (Nat.le_of_eq hM3.1) (Nat.le_refl _) (PW.deep (by decide) (c_X8_qTest  hM3 h)) ?_
        rintro _ M33 ⟨hM35, rfl, h⟩
        refine PW.goto (pc := 95) dX8_ask_95 (t := 109) (by decide) ?_
        exact PW.drop (c_X8_ask_109  _ _ hM35 h) ⟨rfl, rfl, trivial⟩
  · have h := h.2 hc
    refine PW.aload_n (pc := 7) dX8_ask_7 rfl ?_
    refine PW.iconst (pc := 8) dX8_ask_8 (v := 0) (by decide) ?_
    refine PW.putI (pc := 9) dX8_ask_9 lf_X8_246 (ob hM.1 s_277 (by decide)) fx_8_1 fw_8_1 rfl rfl ?_
    refine PW.ldc2 (pc := 12) dX8_ask_12 lk_X8_513 ?_
    exact PW.retJ (pc := 15) dX8_ask_15 hM.1 rfl ⟨(hM.same rfl rfl), _, rfl, h⟩
def w_X8_checked_6 : Nat → Nat → Int32 → Int32 → Int32 → pm → (Int32 → pm → Prop) → Prop
  | 0, _, _, _, _, _, _ => False
  | n + 1, a0, x1, x2, x3, M, Q => ((x1 ≤ x3 → (Q x2 M)) ∧ (¬ x1 ≤ x3 → (vp_in x3 (lay a0).2 ∧ (w_X8_checked_6 n a0 x1 (irm ((3 * x2) + (mI M a0 x3.toNatClampNeg)) 251) (x3 + 1) M Q))))
set_option maxRecDepth 4000 in
theorem c_X8_checked_6  {Q : Int32 → pm → Prop}  : ∀ (n : Nat) (a0 : Nat) (x1 : Int32) (x2 : Int32) (x3 : Int32) (M : pm), pS 11 a0 → pG M → w_X8_checked_6 n a0 x1 x2 x3 M  Q → PW mX8_checked 1 350 6 [.ref a0, .int x1, .int x2, .int x3] [] M (qI Q) := by
  intro n
  induction n with
  | zero => intro a0 x1 x2 x3 M hs0 hM h; exact h.elim
  | succ n ih =>
    intro a0 x1 x2 x3 M hs0 hM h
    unfold w_X8_checked_6 at h
    refine PW.iload_n (pc := 6) dX8_checked_6 rfl ?_
    refine PW.iload_n (pc := 7) dX8_checked_7 rfl ?_
    refine PW.icmp_ge (pc := 8) dX8_checked_8 (t := 29) (by decide) (fun hc => ?_) (fun hc => ?_)
    · have h := h.1 hc
      refine PW.iload_n (pc := 29) dX8_checked_29 rfl ?_
      exact PW.retI (pc := 30) dX8_checked_30 hM.1 rfl rfl ⟨hM, _, rfl, h⟩
    · have h := h.2 hc
      refine PW.iconst (pc := 11) dX8_checked_11 (v := 3) (by decide) ?_
      refine PW.iload_n (pc := 12) dX8_checked_12 rfl ?_
      refine PW.imul (pc := 13) dX8_checked_13 ?_
      refine PW.aload_n (pc := 14) dX8_checked_14 rfl ?_
      refine PW.iload_n (pc := 15) dX8_checked_15 rfl ?_
      obtain ⟨v1, h⟩ := h
      refine PW.iald (pc := 16) dX8_checked_16 (ar hM.1 hs0) v1 ?_
      refine PW.iadd (pc := 17) dX8_checked_17 ?_
      refine PW.sipush (pc := 18) dX8_checked_18 (v := 251) (by decide) ?_
      refine PW.irem (pc := 21) dX8_checked_21 (by decide) ?_
      refine PW.istore_n (pc := 22) dX8_checked_22 (ls' := [.ref a0, .int x1, .int (irm ((3 * x2) + (mI M a0 x3.toNatClampNeg)) 251), .int x3]) (by decide) rfl rfl ?_
      refine PW.iinc (pc := 23) dX8_checked_23 (v := (x3 + 1)) (ls' := [.ref a0, .int x1, .int (irm ((3 * x2) + (mI M a0 x3.toNatClampNeg)) 251), .int (x3 + 1)]) rfl rfl (by decide) rfl rfl ?_
      refine PW.goto (pc := 26) dX8_checked_26 (t := 6) (by decide) ?_
      exact PW.drop (ih _ _ _ _ _ hs0 hM h) ⟨rfl, rfl, rfl, rfl, trivial⟩
def w_X8_checked (a0 : Nat) (x1 : Int32) (M : pm) (Q : Int32 → pm → Prop) : Prop := ∃ n2, w_X8_checked_6 n2 a0 x1 151 0 M  Q
set_option maxRecDepth 4000 in
theorem c_X8_checked {a0 : Nat} {x1 : Int32} {M : pm} {Q : Int32 → pm → Prop} (hs0 : pS 11 a0) (hM : pG M) (h : w_X8_checked a0 x1 M Q) : PW mX8_checked 1 350 0 (pfr mX8_checked.2.2.1 [.ref a0, .int x1]) [] M (qI Q) := by
  unfold w_X8_checked at h
  show PW mX8_checked 1 350 0 [.ref a0, .int x1, .null, .null] [] M (qI Q)
  refine PW.sipush (pc := 0) dX8_checked_0 (v := 151) (by decide) ?_
  refine PW.istore_n (pc := 3) dX8_checked_3 (ls' := [.ref a0, .int x1, .int 151, .null]) (by decide) rfl rfl ?_
  refine PW.iconst (pc := 4) dX8_checked_4 (v := 0) (by decide) ?_
  refine PW.istore_n (pc := 5) dX8_checked_5 (ls' := [.ref a0, .int x1, .int 151, .int 0]) (by decide) rfl rfl ?_
  obtain ⟨n2, h⟩ := h
  refine PW.drop (c_X8_checked_6  n2 _ _ _ _ _ hs0 hM h) ⟨rfl, rfl, rfl, rfl, trivial⟩
def w_X8_writes (x1 : Int32) (M : pm) (Q : pm → Prop) : Prop := vp_in (mI M 277 106) 69 ∧ (Q (sI (sI M 352 ((mI M 277 106).toNatClampNeg) x1) 277 106 ((mI M 277 106) + 1)))
set_option maxRecDepth 4000 in
theorem c_X8_writes {x1 : Int32} {M : pm} {Q : pm → Prop}  (hM : pG M) (h : w_X8_writes x1 M Q) : PW mX8_writes 1 350 0 (pfr mX8_writes.2.2.1 [.ref 277, .int x1]) [] M (qV Q) := by
  unfold w_X8_writes at h
  show PW mX8_writes 1 350 0 [.ref 277, .int x1] [] M (qV Q)
  refine PW.aload_n (pc := 0) dX8_writes_0 rfl ?_
  refine PW.getR (pc := 1) dX8_writes_1 (r := 352) lf_X8_243 (ob hM.1 s_277 (by decide)) fx_8_105 (oR_8_105 hM s_277) (pS_ne s_352) ?_
  refine PW.aload_n (pc := 4) dX8_writes_4 rfl ?_
  refine PW.getI (pc := 5) dX8_writes_5 lf_X8_674 (ob hM.1 s_277 (by decide)) fx_8_106 ?_
  refine PW.iload_n (pc := 8) dX8_writes_8 rfl ?_
  obtain ⟨v1, h⟩ := h
  refine PW.iast (pc := 9) dX8_writes_9 (ar hM.1 s_352) (vpl n_352 v1) ?_
  refine PW.aload_n (pc := 10) dX8_writes_10 rfl ?_
  refine PW.dupR (pc := 11) dX8_writes_11 ?_
  refine PW.getI (pc := 12) dX8_writes_12 lf_X8_674 (ob hM.1 s_277 (by decide)) fx_8_106 ?_
  refine PW.iconst (pc := 15) dX8_writes_15 (v := 1) (by decide) ?_
  refine PW.iadd (pc := 16) dX8_writes_16 ?_
  refine PW.putI (pc := 17) dX8_writes_17 lf_X8_674 (ob hM.1 s_277 (by decide)) fx_8_106 fw_8_106 rfl rfl ?_
  exact PW.ret0 (pc := 20) dX8_writes_20 hM.1 rfl ⟨(hM.same rfl rfl), rfl, h⟩
def w_X8_writesTwo (x1 : Int32) (M : pm) (Q : pm → Prop) : Prop := w_X8_writes (x1 / 256) M (fun M1 => w_X8_writes (irm x1 256) M1 (fun M4 => Q M4))
set_option maxRecDepth 4000 in
theorem c_X8_writesTwo {x1 : Int32} {M : pm} {Q : pm → Prop}  (hM : pG M) (h : w_X8_writesTwo x1 M Q) : PW mX8_writesTwo 2 350 0 (pfr mX8_writesTwo.2.2.1 [.ref 277, .int x1]) [] M (qV Q) := by
  unfold w_X8_writesTwo at h
  show PW mX8_writesTwo 2 350 0 [.ref 277, .int x1] [] M (qV Q)
  refine PW.aload_n (pc := 0) dX8_writesTwo_0 rfl ?_
  refine PW.iload_n (pc := 1) dX8_writesTwo_1 rfl ?_
  refine PW.sipush (pc := 2) dX8_writesTwo_2 (v := 256) (by decide) ?_
  refine PW.idiv (pc := 5) dX8_writesTwo_5 (by decide) ?_
  refine PW.inv (m' := mX8_writes) (pc := 6) dX8_writesTwo_6 lm_X8_677 me_X8_writes mi_X8_writes (ob hM.1 s_277 (by decide)) rfl (As := [.int (x1 / 256)]) (st := []) rfl (Nat.le_of_ble_eq_true rfl) (Nat.le_of_ble_eq_true rfl) (Nat.le_of_eq hM.1) (Nat.le_refl _) (PW.deep (by decide) (c_X8_writes  hM h)) ?_
  rintro _ M1 ⟨hM3, rfl, h⟩
  refine PW.aload_n (pc := 9) dX8_writesTwo_9 rfl ?_
  refine PW.iload_n (pc := 10) dX8_writesTwo_10 rfl ?_
  refine PW.sipush (pc := 11) dX8_writesTwo_11 (v := 256) (by decide) ?_
  refine PW.irem (pc := 14) dX8_writesTwo_14 (by decide) ?_
  refine PW.inv (m' := mX8_writes) (pc := 15) dX8_writesTwo_15 lm_X8_677 me_X8_writes mi_X8_writes (ob hM3.1 s_277 (by decide)) rfl (As := [.int (irm x1 256)]) (st := []) rfl (Nat.le_of_ble_eq_true rfl) (Nat.le_of_ble_eq_true rfl) (Nat.le_of_eq hM3.1) (Nat.le_refl _) (PW.deep (by decide) (c_X8_writes  hM3 h)) ?_
  rintro _ M4 ⟨hM6, rfl, h⟩
  exact PW.ret0 (pc := 18) dX8_writesTwo_18 hM6.1 rfl ⟨hM6, rfl, h⟩
def w_X8_image_27 : Nat → Int32 → pm → (Int32 → pm → Prop) → Prop
  | 0, _, _, _ => False
  | n + 1, x1, M, Q => w_X8_askerMany  M (fun y8 M7 => ((y8 ≤ x1 → (w_X8_checked 352 (mI M7 277 106) M7 (fun y11 M10 => w_X8_writes y11 M10 (fun M13 => Q (mI M13 277 106) M13)))) ∧ (¬ y8 ≤ x1 → (w_X8_songOf x1 M7 (fun y17 M16 => w_X8_writes y17 M16 (fun M19 => w_X8_diesOf x1 M19 (fun y23 M22 => w_X8_writesTwo y23 M22 (fun M25 => w_X8_mindsOf x1 M25 (fun y29 M28 => w_X8_writes y29 M28 (fun M31 => w_X8_lastOf x1 M31 (fun y35 M34 => w_X8_writesTwo y35 M34 (fun M37 => w_X8_playedOf x1 M37 (fun y41 M40 => w_X8_writesTwo y41 M40 (fun M43 => w_X8_image_27 n (x1 + 1) M43 Q))))))))))))))
set_option maxRecDepth 4000 in
theorem c_X8_image_27  {Q : Int32 → pm → Prop}  : ∀ (n : Nat) (x1 : Int32) (M : pm), pG M → w_X8_image_27 n x1 M  Q → PW mX8_image 3 350 27 [.ref 277, .int x1] [] M (qI Q) := by
  intro n
  induction n with
  | zero => intro x1 M hM h; exact h.elim
  | succ n ih =>
    intro x1 M hM h
    unfold w_X8_image_27 at h
    refine PW.iload_n (pc := 27) dX8_image_27 rfl ?_
    refine PW.aload_n (pc := 28) dX8_image_28 rfl ?_
    refine PW.inv (m' := mX8_askerMany) (pc := 29) dX8_image_29 lm_X8_395 me_X8_askerMany mi_X8_askerMany (ob hM.1 s_277 (by decide)) rfl (As := []) (st := [.int x1]) rfl (Nat.le_of_ble_eq_true rfl) (Nat.le_of_ble_eq_true rfl) (Nat.le_of_eq hM.1) (Nat.le_refl _) (PW.deep (by decide) (c_X8_askerMany  hM h)) ?_
    rintro _ M7 ⟨hM9, y8, rfl, h⟩
    refine PW.icmp_ge (pc := 32) dX8_image_32 (t := 86) (by decide) (fun hc => ?_) (fun hc => ?_)
    · have h := h.1 hc
      refine PW.aload_n (pc := 86) dX8_image_86 rfl ?_
      refine PW.aload_n (pc := 87) dX8_image_87 rfl ?_
      refine PW.getR (pc := 88) dX8_image_88 (r := 352) lf_X8_243 (ob hM9.1 s_277 (by decide)) fx_8_105 (oR_8_105 hM9 s_277) (pS_ne s_352) ?_
      refine PW.aload_n (pc := 91) dX8_image_91 rfl ?_
      refine PW.getI (pc := 92) dX8_image_92 lf_X8_674 (ob hM9.1 s_277 (by decide)) fx_8_106 ?_
      refine PW.ins (m' := mX8_checked) (pc := 95) dX8_image_95 lm_X8_683 me_X8_checked ms_X8_checked (As := [.ref 352, .int (mI M7 277 106)]) (st := [.ref 277]) rfl (Nat.le_of_ble_eq_true rfl) (Nat.le_of_ble_eq_true rfl) (Nat.le_of_eq hM9.1) (Nat.le_refl _) (PW.deep (by decide) (c_X8_checked s_352 hM9 h)) ?_
      rintro _ M10 ⟨hM12, y11, rfl, h⟩
      refine PW.inv (m' := mX8_writes) (pc := 98) dX8_image_98 lm_X8_677 me_X8_writes mi_X8_writes (ob hM12.1 s_277 (by decide)) rfl (As := [.int y11]) (st := []) rfl (Nat.le_of_ble_eq_true rfl) (Nat.le_of_ble_eq_true rfl) (Nat.le_of_eq hM12.1) (Nat.le_refl _) (PW.deep (by decide) (c_X8_writes  hM12 h)) ?_
      rintro _ M13 ⟨hM15, rfl, h⟩
      refine PW.aload_n (pc := 101) dX8_image_101 rfl ?_
      refine PW.getI (pc := 102) dX8_image_102 lf_X8_674 (ob hM15.1 s_277 (by decide)) fx_8_106 ?_
      exact PW.retI (pc := 105) dX8_image_105 hM15.1 rfl rfl ⟨hM15, _, rfl, h⟩
    · have h := h.2 hc
      refine PW.aload_n (pc := 35) dX8_image_35 rfl ?_
      refine PW.aload_n (pc := 36) dX8_image_36 rfl ?_
      refine PW.iload_n (pc := 37) dX8_image_37 rfl ?_
      refine PW.inv (m' := mX8_songOf) (pc := 38) dX8_image_38 lm_X8_398 me_X8_songOf mi_X8_songOf (ob hM9.1 s_277 (by decide)) rfl (As := [.int x1]) (st := [.ref 277]) rfl (Nat.le_of_ble_eq_true rfl) (Nat.le_of_ble_eq_true rfl) (Nat.le_of_eq hM9.1) (Nat.le_refl _) (PW.deep (by decide) (c_X8_songOf  hM9 h)) ?_
      rintro _ M16 ⟨hM18, y17, rfl, h⟩
      refine PW.inv (m' := mX8_writes) (pc := 41) dX8_image_41 lm_X8_677 me_X8_writes mi_X8_writes (ob hM18.1 s_277 (by decide)) rfl (As := [.int y17]) (st := []) rfl (Nat.le_of_ble_eq_true rfl) (Nat.le_of_ble_eq_true rfl) (Nat.le_of_eq hM18.1) (Nat.le_refl _) (PW.deep (by decide) (c_X8_writes  hM18 h)) ?_
      rintro _ M19 ⟨hM21, rfl, h⟩
      refine PW.aload_n (pc := 44) dX8_image_44 rfl ?_
      refine PW.aload_n (pc := 45) dX8_image_45 rfl ?_
      refine PW.iload_n (pc := 46) dX8_image_46 rfl ?_
      refine PW.inv (m' := mX8_diesOf) (pc := 47) dX8_image_47 lm_X8_402 me_X8_diesOf mi_X8_diesOf (ob hM21.1 s_277 (by decide)) rfl (As := [.int x1]) (st := [.ref 277]) rfl (Nat.le_of_ble_eq_true rfl) (Nat.le_of_ble_eq_true rfl) (Nat.le_of_eq hM21.1) (Nat.le_refl _) (PW.deep (by decide) (c_X8_diesOf  hM21 h)) ?_
      rintro _ M22 ⟨hM24, y23, rfl, h⟩
      refine PW.inv (m' := mX8_writesTwo) (pc := 50) dX8_image_50 lm_X8_680 me_X8_writesTwo mi_X8_writesTwo (ob hM24.1 s_277 (by decide)) rfl (As := [.int y23]) (st := []) rfl (Nat.le_of_ble_eq_true rfl) (Nat.le_of_ble_eq_true rfl) (Nat.le_of_eq hM24.1) (Nat.le_refl _) (PW.deep (by decide) (c_X8_writesTwo  hM24 h)) ?_
      rintro _ M25 ⟨hM27, rfl, h⟩
      refine PW.aload_n (pc := 53) dX8_image_53 rfl ?_
      refine PW.aload_n (pc := 54) dX8_image_54 rfl ?_
      refine PW.iload_n (pc := 55) dX8_image_55 rfl ?_
      refine PW.inv (m' := mX8_mindsOf) (pc := 56) dX8_image_56 lm_X8_425 me_X8_mindsOf mi_X8_mindsOf (ob hM27.1 s_277 (by decide)) rfl (As := [.int x1]) (st := [.ref 277]) rfl (Nat.le_of_ble_eq_true rfl) (Nat.le_of_ble_eq_true rfl) (Nat.le_of_eq hM27.1) (Nat.le_refl _) (PW.deep (by decide) (c_X8_mindsOf  hM27 h)) ?_
      rintro _ M28 ⟨hM30, y29, rfl, h⟩
      refine PW.inv (m' := mX8_writes) (pc := 59) dX8_image_59 lm_X8_677 me_X8_writes mi_X8_writes (ob hM30.1 s_277 (by decide)) rfl (As := [.int y29]) (st := []) rfl (Nat.le_of_ble_eq_true rfl) (Nat.le_of_ble_eq_true rfl) (Nat.le_of_eq hM30.1) (Nat.le_refl _) (PW.deep (by decide) (c_X8_writes  hM30 h)) ?_
      rintro _ M31 ⟨hM33, rfl, h⟩
      refine PW.aload_n (pc := 62) dX8_image_62 rfl ?_
      refine PW.aload_n (pc := 63) dX8_image_63 rfl ?_
      refine PW.iload_n (pc := 64) dX8_image_64 rfl ?_
      refine PW.inv (m' := mX8_lastOf) (pc := 65) dX8_image_65 lm_X8_408 me_X8_lastOf mi_X8_lastOf (ob hM33.1 s_277 (by decide)) rfl (As := [.int x1]) (st := [.ref 277]) rfl (Nat.le_of_ble_eq_true rfl) (Nat.le_of_ble_eq_true rfl) (Nat.le_of_eq hM33.1) (Nat.le_refl _) (PW.deep (by decide) (c_X8_lastOf  hM33 h)) ?_
      rintro _ M34 ⟨hM36, y35, rfl, h⟩
      refine PW.inv (m' := mX8_writesTwo) (pc := 68) dX8_image_68 lm_X8_680 me_X8_writesTwo mi_X8_writesTwo (ob hM36.1 s_277 (by decide)) rfl (As := [.int y35]) (st := []) rfl (Nat.le_of_ble_eq_true rfl) (Nat.le_of_ble_eq_true rfl) (Nat.le_of_eq hM36.1) (Nat.le_refl _) (PW.deep (by decide) (c_X8_writesTwo  hM36 h)) ?_
      rintro _ M37 ⟨hM39, rfl, h⟩
      refine PW.aload_n (pc := 71) dX8_image_71 rfl ?_
      refine PW.aload_n (pc := 72) dX8_image_72 rfl ?_
      refine PW.iload_n (pc := 73) dX8_image_73 rfl ?_
      refine PW.inv (m' := mX8_playedOf) (pc := 74) dX8_image_74 lm_X8_464 me_X8_playedOf mi_X8_playedOf (ob hM39.1 s_277 (by decide)) rfl (As := [.int x1]) (st := [.ref 277]) rfl (Nat.le_of_ble_eq_true rfl) (Nat.le_of_ble_eq_true rfl) (Nat.le_of_eq hM39.1) (Nat.le_refl _) (PW.deep (by decide) (c_X8_playedOf  hM39 h)) ?_
      rintro _ M40 ⟨hM42, y41, rfl, h⟩
      refine PW.inv (m' := mX8_writesTwo) (pc := 77) dX8_image_77 lm_X8_680 me_X8_writesTwo mi_X8_writesTwo (ob hM42.1 s_277 (by decide)) rfl (As := [.int y41]) (st := []) rfl (Nat.le_of_ble_eq_true rfl) (Nat.le_of_ble_eq_true rfl) (Nat.le_of_eq hM42.1) (Nat.le_refl _) (PW.deep (by decide) (c_X8_writesTwo  hM42 h)) ?_
      rintro _ M43 ⟨hM45, rfl, h⟩
      refine PW.iinc (pc := 80) dX8_image_80 (v := (x1 + 1)) (ls' := [.ref 277, .int (x1 + 1)]) rfl rfl (by decide) rfl rfl ?_
      refine PW.goto (pc := 83) dX8_image_83 (t := 27) (by decide) ?_
      exact PW.drop (ih _ _ hM45 h) ⟨rfl, rfl, trivial⟩
def w_X8_image  (M : pm) (Q : Int32 → pm → Prop) : Prop := w_X8_writesTwo (mI M 317 0) (sI M 277 106 0) (fun M1 => w_X8_writesTwo (mI M1 317 1) M1 (fun M4 => ∃ n46, w_X8_image_27 n46 0 M4  Q))
set_option maxRecDepth 4000 in
theorem c_X8_image  {M : pm} {Q : Int32 → pm → Prop}  (hM : pG M) (h : w_X8_image  M Q) : PW mX8_image 3 350 0 (pfr mX8_image.2.2.1 [.ref 277]) [] M (qI Q) := by
  unfold w_X8_image at h
  show PW mX8_image 3 350 0 [.ref 277, .null] [] M (qI Q)
  refine PW.aload_n (pc := 0) dX8_image_0 rfl ?_
  refine PW.iconst (pc := 1) dX8_image_1 (v := 0) (by decide) ?_
  refine PW.putI (pc := 2) dX8_image_2 lf_X8_674 (ob hM.1 s_277 (by decide)) fx_8_106 fw_8_106 rfl rfl ?_
  refine PW.aload_n (pc := 5) dX8_image_5 rfl ?_
  refine PW.aload_n (pc := 6) dX8_image_6 rfl ?_
  refine PW.getR (pc := 7) dX8_image_7 (r := 317) lf_X8_133 (ob hM.1 s_277 (by decide)) fx_8_52 (oR_8_52 (hM.same rfl rfl) s_277) (pS_ne s_317) ?_
  refine PW.iconst (pc := 10) dX8_image_10 (v := 0) (by decide) ?_
  refine PW.iald (pc := 11) dX8_image_11 (ar hM.1 s_317) (vpl n_317 (vp_c (i := 0) (n := 163) (by decide))) ?_
  refine PW.inv (m' := mX8_writesTwo) (pc := 12) dX8_image_12 lm_X8_680 me_X8_writesTwo mi_X8_writesTwo (ob hM.1 s_277 (by decide)) rfl (As := [.int (mI M 317 0)]) (st := []) rfl (Nat.le_of_ble_eq_true rfl) (Nat.le_of_ble_eq_true rfl) (Nat.le_of_eq hM.1) (Nat.le_refl _) (PW.deep (by decide) (c_X8_writesTwo  (hM.same rfl rfl) h)) ?_
  rintro _ M1 ⟨hM3, rfl, h⟩
  refine PW.aload_n (pc := 15) dX8_image_15 rfl ?_
  refine PW.aload_n (pc := 16) dX8_image_16 rfl ?_
  refine PW.getR (pc := 17) dX8_image_17 (r := 317) lf_X8_133 (ob hM3.1 s_277 (by decide)) fx_8_52 (oR_8_52 hM3 s_277) (pS_ne s_317) ?_
  refine PW.iconst (pc := 20) dX8_image_20 (v := 1) (by decide) ?_
  refine PW.iald (pc := 21) dX8_image_21 (ar hM3.1 s_317) (vpl n_317 (vp_c (i := 1) (n := 163) (by decide))) ?_
  refine PW.inv (m' := mX8_writesTwo) (pc := 22) dX8_image_22 lm_X8_680 me_X8_writesTwo mi_X8_writesTwo (ob hM3.1 s_277 (by decide)) rfl (As := [.int (mI M1 317 1)]) (st := []) rfl (Nat.le_of_ble_eq_true rfl) (Nat.le_of_ble_eq_true rfl) (Nat.le_of_eq hM3.1) (Nat.le_refl _) (PW.deep (by decide) (c_X8_writesTwo  hM3 h)) ?_
  rintro _ M4 ⟨hM6, rfl, h⟩
  refine PW.iconst (pc := 25) dX8_image_25 (v := 0) (by decide) ?_
  refine PW.istore_n (pc := 26) dX8_image_26 (ls' := [.ref 277, .int 0]) (by decide) rfl rfl ?_
  obtain ⟨n46, h⟩ := h
  refine PW.drop (c_X8_image_27  n46 _ _ hM6 h) ⟨rfl, rfl, trivial⟩
def w_X8_octet (x1 : Int32) (M : pm) (Q : Int32 → pm → Prop) : Prop := ((x1 < 0 → (Q (-1) M)) ∧ (¬ x1 < 0 → (((mI M 277 106) ≤ x1 → (Q (-1) M)) ∧ (¬ (mI M 277 106) ≤ x1 → (vp_in x1 69 ∧ (Q (mI M 352 x1.toNatClampNeg) M))))))
set_option maxRecDepth 4000 in
theorem c_X8_octet {x1 : Int32} {M : pm} {Q : Int32 → pm → Prop}  (hM : pG M) (h : w_X8_octet x1 M Q) : PW mX8_octet 1 350 0 (pfr mX8_octet.2.2.1 [.ref 277, .int x1]) [] M (qI Q) := by
  unfold w_X8_octet at h
  show PW mX8_octet 1 350 0 [.ref 277, .int x1] [] M (qI Q)
  refine PW.iload_n (pc := 0) dX8_octet_0 rfl ?_
  refine PW.if_lt (pc := 1) dX8_octet_1 (t := 21) (by decide) (fun hc => ?_) (fun hc => ?_)
  · have h := h.1 hc
    refine PW.iconst (pc := 21) dX8_octet_21 (v := (-1)) (by decide) ?_
    exact PW.retI (pc := 22) dX8_octet_22 hM.1 rfl rfl ⟨hM, _, rfl, h⟩
  · have h := h.2 hc
    refine PW.iload_n (pc := 4) dX8_octet_4 rfl ?_
    refine PW.aload_n (pc := 5) dX8_octet_5 rfl ?_
    refine PW.getI (pc := 6) dX8_octet_6 lf_X8_674 (ob hM.1 s_277 (by decide)) fx_8_106 ?_
    refine PW.icmp_ge (pc := 9) dX8_octet_9 (t := 21) (by decide) (fun hc => ?_) (fun hc => ?_)
    · have h := h.1 hc
      refine PW.iconst (pc := 21) dX8_octet_21 (v := (-1)) (by decide) ?_
      exact PW.retI (pc := 22) dX8_octet_22 hM.1 rfl rfl ⟨hM, _, rfl, h⟩
    · have h := h.2 hc
      refine PW.aload_n (pc := 12) dX8_octet_12 rfl ?_
      refine PW.getR (pc := 13) dX8_octet_13 (r := 352) lf_X8_243 (ob hM.1 s_277 (by decide)) fx_8_105 (oR_8_105 hM s_277) (pS_ne s_352) ?_
      refine PW.iload_n (pc := 16) dX8_octet_16 rfl ?_
      obtain ⟨v1, h⟩ := h
      refine PW.iald (pc := 17) dX8_octet_17 (ar hM.1 s_352) (vpl n_352 v1) ?_
      refine PW.goto (pc := 18) dX8_octet_18 (t := 22) (by decide) ?_
      exact PW.retI (pc := 22) dX8_octet_22 hM.1 rfl rfl ⟨hM, _, rfl, h⟩
def w_X8_twoAt (x1 : Int32) (M : pm) (Q : Int32 → pm → Prop) : Prop := vp_in x1 1600 ∧ (vp_in (x1 + 1) 1600 ∧ (Q ((256 * (mI M 278 x1.toNatClampNeg)) + (mI M 278 ((x1 + 1).toNatClampNeg))) M))
set_option maxRecDepth 4000 in
theorem c_X8_twoAt {x1 : Int32} {M : pm} {Q : Int32 → pm → Prop}  (hM : pG M) (h : w_X8_twoAt x1 M Q) : PW mX8_twoAt 1 350 0 (pfr mX8_twoAt.2.2.1 [.ref 277, .int x1]) [] M (qI Q) := by
  unfold w_X8_twoAt at h
  show PW mX8_twoAt 1 350 0 [.ref 277, .int x1] [] M (qI Q)
  refine PW.sipush (pc := 0) dX8_twoAt_0 (v := 256) (by decide) ?_
  refine PW.aload_n (pc := 3) dX8_twoAt_3 rfl ?_
  refine PW.getR (pc := 4) dX8_twoAt_4 (r := 278) lf_X8_7 (ob hM.1 s_277 (by decide)) fx_8_0 (oR_8_0 hM s_277) (pS_ne s_278) ?_
  refine PW.iload_n (pc := 7) dX8_twoAt_7 rfl ?_
  obtain ⟨v1, h⟩ := h
  refine PW.iald (pc := 8) dX8_twoAt_8 (ar hM.1 s_278) (vpl n_278 v1) ?_
  refine PW.imul (pc := 9) dX8_twoAt_9 ?_
  refine PW.aload_n (pc := 10) dX8_twoAt_10 rfl ?_
  refine PW.getR (pc := 11) dX8_twoAt_11 (r := 278) lf_X8_7 (ob hM.1 s_277 (by decide)) fx_8_0 (oR_8_0 hM s_277) (pS_ne s_278) ?_
  refine PW.iload_n (pc := 14) dX8_twoAt_14 rfl ?_
  refine PW.iconst (pc := 15) dX8_twoAt_15 (v := 1) (by decide) ?_
  refine PW.iadd (pc := 16) dX8_twoAt_16 ?_
  obtain ⟨v2, h⟩ := h
  refine PW.iald (pc := 17) dX8_twoAt_17 (ar hM.1 s_278) (vpl n_278 v2) ?_
  refine PW.iadd (pc := 18) dX8_twoAt_18 ?_
  exact PW.retI (pc := 19) dX8_twoAt_19 hM.1 rfl rfl ⟨hM, _, rfl, h⟩
def w_X8_isAskerTold (x1 : Int32) (M : pm) (Q : Int32 → pm → Prop) : Prop := vp_in x1 1600 ∧ (w_X8_songMany  M (fun y3 M2 => ((y3 ≤ (mI M 278 x1.toNatClampNeg) → (Q 0 M2)) ∧ (¬ y3 ≤ (mI M 278 x1.toNatClampNeg) → (w_X8_twoAt (x1 + 1) M2 (fun y6 M5 => ((999 < y6 → (Q 0 M5)) ∧ (¬ 999 < y6 → (vp_in (x1 + 3) 1600 ∧ ((99 < (mI M5 278 ((x1 + 3).toNatClampNeg)) → (Q 0 M5)) ∧ (¬ 99 < (mI M5 278 ((x1 + 3).toNatClampNeg)) → (w_X8_twoAt (x1 + 4) M5 (fun y10 M9 => w_X8_twoAt 0 M9 (fun y13 M12 => (((y13 + 1) < y10 → (Q 0 M12)) ∧ (¬ (y13 + 1) < y10 → (w_X8_twoAt (x1 + 6) M12 (fun y16 M15 => ((999 < y16 → (Q 0 M15)) ∧ (¬ 999 < y16 → (Q 1 M15)))))))))))))))))))))
set_option maxRecDepth 4000 in
theorem c_X8_isAskerTold {x1 : Int32} {M : pm} {Q : Int32 → pm → Prop}  (hM : pG M) (h : w_X8_isAskerTold x1 M Q) : PW mX8_isAskerTold 2 350 0 (pfr mX8_isAskerTold.2.2.1 [.ref 277, .int x1]) [] M (qZ Q) := by
  unfold w_X8_isAskerTold at h
  show PW mX8_isAskerTold 2 350 0 [.ref 277, .int x1] [] M (qZ Q)
  refine PW.aload_n (pc := 0) dX8_isAskerTold_0 rfl ?_
  refine PW.getR (pc := 1) dX8_isAskerTold_1 (r := 278) lf_X8_7 (ob hM.1 s_277 (by decide)) fx_8_0 (oR_8_0 hM s_277) (pS_ne s_278) ?_
  refine PW.iload_n (pc := 4) dX8_isAskerTold_4 rfl ?_
  obtain ⟨v1, h⟩ := h
  refine PW.iald (pc := 5) dX8_isAskerTold_5 (ar hM.1 s_278) (vpl n_278 v1) ?_
  refine PW.aload_n (pc := 6) dX8_isAskerTold_6 rfl ?_
  refine PW.inv (m' := mX8_songMany) (pc := 7) dX8_isAskerTold_7 lm_X8_504 me_X8_songMany mi_X8_songMany (ob hM.1 s_277 (by decide)) rfl (As := []) (st := [.int (mI M 278 x1.toNatClampNeg)]) rfl (Nat.le_of_ble_eq_true rfl) (Nat.le_of_ble_eq_true rfl) (Nat.le_of_eq hM.1) (Nat.le_refl _) (PW.deep (by decide) (c_X8_songMany  hM h)) ?_
  rintro _ M2 ⟨hM4, y3, rfl, h⟩
  refine PW.icmp_ge (pc := 10) dX8_isAskerTold_10 (t := 74) (by decide) (fun hc => ?_) (fun hc => ?_)
  · have h := h.1 hc
    refine PW.iconst (pc := 74) dX8_isAskerTold_74 (v := 0) (by decide) ?_
    exact PW.retI (pc := 75) dX8_isAskerTold_75 hM4.1 rfl (bz_n bz0) ⟨hM4, _, rfl, bz0, h⟩
  · have h := h.2 hc
    refine PW.aload_n (pc := 13) dX8_isAskerTold_13 rfl ?_
    refine PW.iload_n (pc := 14) dX8_isAskerTold_14 rfl ?_
    refine PW.iconst (pc := 15) dX8_isAskerTold_15 (v := 1) (by decide) ?_
    refine PW.iadd (pc := 16) dX8_isAskerTold_16 ?_
    refine PW.inv (m' := mX8_twoAt) (pc := 17) dX8_isAskerTold_17 lm_X8_687 me_X8_twoAt mi_X8_twoAt (ob hM4.1 s_277 (by decide)) rfl (As := [.int (x1 + 1)]) (st := []) rfl (Nat.le_of_ble_eq_true rfl) (Nat.le_of_ble_eq_true rfl) (Nat.le_of_eq hM4.1) (Nat.le_refl _) (PW.deep (by decide) (c_X8_twoAt  hM4 h)) ?_
    rintro _ M5 ⟨hM7, y6, rfl, h⟩
    refine PW.sipush (pc := 20) dX8_isAskerTold_20 (v := 999) (by decide) ?_
    refine PW.icmp_gt (pc := 23) dX8_isAskerTold_23 (t := 74) (by decide) (fun hc => ?_) (fun hc => ?_)
    · have h := h.1 hc
      refine PW.iconst (pc := 74) dX8_isAskerTold_74 (v := 0) (by decide) ?_
      exact PW.retI (pc := 75) dX8_isAskerTold_75 hM7.1 rfl (bz_n bz0) ⟨hM7, _, rfl, bz0, h⟩
    · have h := h.2 hc
      refine PW.aload_n (pc := 26) dX8_isAskerTold_26 rfl ?_
      refine PW.getR (pc := 27) dX8_isAskerTold_27 (r := 278) lf_X8_7 (ob hM7.1 s_277 (by decide)) fx_8_0 (oR_8_0 hM7 s_277) (pS_ne s_278) ?_
      refine PW.iload_n (pc := 30) dX8_isAskerTold_30 rfl ?_
      refine PW.iconst (pc := 31) dX8_isAskerTold_31 (v := 3) (by decide) ?_
      refine PW.iadd (pc := 32) dX8_isAskerTold_32 ?_
      obtain ⟨v8, h⟩ := h
      refine PW.iald (pc := 33) dX8_isAskerTold_33 (ar hM7.1 s_278) (vpl n_278 v8) ?_
      refine PW.bipush (pc := 34) dX8_isAskerTold_34 (v := 99) (by decide) ?_
      refine PW.icmp_gt (pc := 36) dX8_isAskerTold_36 (t := 74) (by decide) (fun hc => ?_) (fun hc => ?_)
      · have h := h.1 hc
        refine PW.iconst (pc := 74) dX8_isAskerTold_74 (v := 0) (by decide) ?_
        exact PW.retI (pc := 75) dX8_isAskerTold_75 hM7.1 rfl (bz_n bz0) ⟨hM7, _, rfl, bz0, h⟩
      · have h := h.2 hc
        refine PW.aload_n (pc := 39) dX8_isAskerTold_39 rfl ?_
        refine PW.iload_n (pc := 40) dX8_isAskerTold_40 rfl ?_
        refine PW.iconst (pc := 41) dX8_isAskerTold_41 (v := 4) (by decide) ?_
        refine PW.iadd (pc := 42) dX8_isAskerTold_42 ?_
        refine PW.inv (m' := mX8_twoAt) (pc := 43) dX8_isAskerTold_43 lm_X8_687 me_X8_twoAt mi_X8_twoAt (ob hM7.1 s_277 (by decide)) rfl (As := [.int (x1 + 4)]) (st := []) rfl (Nat.le_of_ble_eq_true rfl) (Nat.le_of_ble_eq_true rfl) (Nat.le_of_eq hM7.1) (Nat.le_refl _) (PW.deep (by decide) (c_X8_twoAt  hM7 h)) ?_
        rintro _ M9 ⟨hM11, y10, rfl, h⟩
        refine PW.aload_n (pc := 46) dX8_isAskerTold_46 rfl ?_
        refine PW.iconst (pc := 47) dX8_isAskerTold_47 (v := 0) (by decide) ?_
        refine PW.inv (m' := mX8_twoAt) (pc := 48) dX8_isAskerTold_48 lm_X8_687 me_X8_twoAt mi_X8_twoAt (ob hM11.1 s_277 (by decide)) rfl (As := [.int 0]) (st := [.int y10]) rfl (Nat.le_of_ble_eq_true rfl) (Nat.le_of_ble_eq_true rfl) (Nat.le_of_eq hM11.1) (Nat.le_refl _) (PW.deep (by decide) (c_X8_twoAt  hM11 h)) ?_
        rintro _ M12 ⟨hM14, y13, rfl, h⟩
        refine PW.iconst (pc := 51) dX8_isAskerTold_51 (v := 1) (by decide) ?_
        refine PW.iadd (pc := 52) dX8_isAskerTold_52 ?_
        refine PW.icmp_gt (pc := 53) dX8_isAskerTold_53 (t := 74) (by decide) (fun hc => ?_) (fun hc => ?_)
        · have h := h.1 hc
          refine PW.iconst (pc := 74) dX8_isAskerTold_74 (v := 0) (by decide) ?_
          exact PW.retI (pc := 75) dX8_isAskerTold_75 hM14.1 rfl (bz_n bz0) ⟨hM14, _, rfl, bz0, h⟩
        · have h := h.2 hc
          refine PW.aload_n (pc := 56) dX8_isAskerTold_56 rfl ?_
          refine PW.iload_n (pc := 57) dX8_isAskerTold_57 rfl ?_
          refine PW.bipush (pc := 58) dX8_isAskerTold_58 (v := 6) (by decide) ?_
          refine PW.iadd (pc := 60) dX8_isAskerTold_60 ?_
          refine PW.inv (m' := mX8_twoAt) (pc := 61) dX8_isAskerTold_61 lm_X8_687 me_X8_twoAt mi_X8_twoAt (ob hM14.1 s_277 (by decide)) rfl (As := [.int (x1 + 6)]) (st := []) rfl (Nat.le_of_ble_eq_true rfl) (Nat.le_of_ble_eq_true rfl) (Nat.le_of_eq hM14.1) (Nat.le_refl _) (PW.deep (by decide) (c_X8_twoAt  hM14 h)) ?_
          rintro _ M15 ⟨hM17, y16, rfl, h⟩
          refine PW.sipush (pc := 64) dX8_isAskerTold_64 (v := 999) (by decide) ?_
          refine PW.icmp_gt (pc := 67) dX8_isAskerTold_67 (t := 74) (by decide) (fun hc => ?_) (fun hc => ?_)
          · have h := h.1 hc
            refine PW.iconst (pc := 74) dX8_isAskerTold_74 (v := 0) (by decide) ?_
            exact PW.retI (pc := 75) dX8_isAskerTold_75 hM17.1 rfl (bz_n bz0) ⟨hM17, _, rfl, bz0, h⟩
          · have h := h.2 hc
            refine PW.iconst (pc := 70) dX8_isAskerTold_70 (v := 1) (by decide) ?_
            refine PW.goto (pc := 71) dX8_isAskerTold_71 (t := 75) (by decide) ?_
            exact PW.retI (pc := 75) dX8_isAskerTold_75 hM17.1 rfl (bz_n bz1) ⟨hM17, _, rfl, bz1, h⟩
