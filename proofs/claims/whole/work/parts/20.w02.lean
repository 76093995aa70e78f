/-! methods, walked by program: w_ what must hold before, c_ its proof -/
def w_X1_playDay_17 : Nat → Nat → Nat → Int32 → Int32 → Int32 → pm → (Nat → Nat → Int32 → pm → Prop) → (Int32 → pm → Prop) → Prop
  | 0, _, _, _, _, _, _, _, _ => False
  | n + 1, a1, a2, x3, x4, x5, M, k75, Q => (((mI M a1 8) ≤ x5 → (k75 a1 a2 x4 M)) ∧ (¬ (mI M a1 8) ≤ x5 → ((¬ ((x3 >>> (x5 &&& 31)) &&& 1) = 1 → (w_X1_playDay_17 n a1 a2 x3 x4 (x5 + 1) M k75 Q)) ∧ (((x3 >>> (x5 &&& 31)) &&& 1) = 1 → (vp_in x5 8 ∧ (w_J9_min_7cf53 999 ((mI M (a2 + 5) x5.toNatClampNeg) + 1) M (fun y6 M5 => vp_in x5 8 ∧ (vp_in x5 8 ∧ (w_X1_playDay_17 n a1 a2 x3 x4 (x5 + 1) (sI (sI M5 (a2 + 5) x5.toNatClampNeg y6) (a2 + 4) x5.toNatClampNeg (mI (sI M5 (a2 + 5) x5.toNatClampNeg y6) a2 0)) k75 Q)))))))))
set_option maxRecDepth 4000 in
theorem c_X1_playDay_17 {k75 : Nat → Nat → Int32 → pm → Prop} {Q : Int32 → pm → Prop} (hk75 : ∀ (a1 : Nat) (a2 : Nat) (x4 : Int32) (M : pm), pS 5 a1 → pS 4 a2 → pG M → k75 a1 a2 x4 M → PW mX1_playDay 4 350 75 [.ref 44, .ref a1, .ref a2, .null, .int x4, .null, .null, .null] [] M (qI Q)) : ∀ (n : Nat) (a1 : Nat) (a2 : Nat) (x3 : Int32) (x4 : Int32) (x5 : Int32) (M : pm), pS 5 a1 → pS 4 a2 → pG M → w_X1_playDay_17 n a1 a2 x3 x4 x5 M k75 Q → PW mX1_playDay 4 350 17 [.ref 44, .ref a1, .ref a2, .int x3, .int x4, .int x5, .null, .null] [] M (qI Q) := by
  intro n
  induction n with
  | zero => intro a1 a2 x3 x4 x5 M hs1 hs2 hM h; exact h.elim
  | succ n ih =>
    intro a1 a2 x3 x4 x5 M hs1 hs2 hM h
    unfold w_X1_playDay_17 at h
    refine PW.iload (pc := 17) dX1_playDay_17 rfl ?_
    refine PW.aload_n (pc := 19) dX1_playDay_19 rfl ?_
    refine PW.getI (pc := 20) dX1_playDay_20 lf_X1_117 (ob hM.1 hs1 (by decide)) fx_5_8 ?_
    refine PW.icmp_ge (pc := 23) dX1_playDay_23 (t := 75) (by decide) (fun hc => ?_) (fun hc => ?_)
    · have h := h.1 hc
      exact PW.drop (hk75 _ _ _ _ hs1 hs2 hM h) ⟨rfl, rfl, rfl, rfl, trivial⟩
    · have h := h.2 hc
      refine PW.iload_n (pc := 26) dX1_playDay_26 rfl ?_
      refine PW.iload (pc := 27) dX1_playDay_27 rfl ?_
      refine PW.ishr (pc := 29) dX1_playDay_29 ?_
      refine PW.iconst (pc := 30) dX1_playDay_30 (v := 1) (by decide) ?_
      refine PW.iand (pc := 31) dX1_playDay_31 ?_
      refine PW.iconst (pc := 32) dX1_playDay_32 (v := 1) (by decide) ?_
      refine PW.icmp_ne (pc := 33) dX1_playDay_33 (t := 69) (by decide) (fun hc => ?_) (fun hc => ?_)
      · have h := h.1 hc
        refine PW.iinc (pc := 69) dX1_playDay_69 (v := (x5 + 1)) (ls' := [.ref 44, .ref a1, .ref a2, .int x3, .int x4, .int (x5 + 1), .null, .null]) rfl rfl (by decide) rfl rfl ?_
        refine PW.goto (pc := 72) dX1_playDay_72 (t := 17) (by decide) ?_
        exact PW.drop (ih _ _ _ _ _ _ hs1 hs2 hM h) ⟨rfl, rfl, rfl, rfl, rfl, rfl, trivial⟩
      · have h := h.2 hc
        refine PW.aload_n (pc := 36) dX1_playDay_36 rfl ?_
        refine PW.getR (pc := 37) dX1_playDay_37 (r := (a2 + 5)) lf_X1_47 (ob hM.1 hs2 (by decide)) fx_4_6 (oR_4_6 hM hs2) (pS_ne (oS_4_6 hs2)) ?_
        refine PW.iload (pc := 40) dX1_playDay_40 rfl ?_
        refine PW.sipush (pc := 42) dX1_playDay_42 (v := 999) (by decide) ?_
        refine PW.aload_n (pc := 45) dX1_playDay_45 rfl ?_
        refine PW.getR (pc := 46) dX1_playDay_46 (r := (a2 + 5)) lf_X1_47 (ob hM.1 hs2 (by decide)) fx_4_6 (oR_4_6 hM hs2) (pS_ne (oS_4_6 hs2)) ?_
        refine PW.iload (pc := 49) dX1_playDay_49 rfl ?_
        obtain ⟨v4, h⟩ := h
        refine PW.iald (pc := 51) dX1_playDay_51 (ar hM.1 (oS_4_6 hs2)) (vpl (oN_4_6 hs2) v4) ?_
        refine PW.iconst (pc := 52) dX1_playDay_52 (v := 1) (by decide) ?_
        refine PW.iadd (pc := 53) dX1_playDay_53 ?_
        refine PW.ins (m' := mJ9_min_7cf53) (pc := 54) dX1_playDay_54 lm_X1_90 me_J9_min_7cf53 ms_J9_min_7cf53 (As := [.int 999, .int ((mI M (a2 + 5) x5.toNatClampNeg) + 1)]) (st := [.int x5, .ref (a2 + 5)]) rfl (Nat.le_of_ble_eq_true rfl) (Nat.le_of_ble_eq_true rfl) (Nat.le_of_eq hM.1) (Nat.le_refl _) (PW.deep (by decide) (c_J9_min_7cf53  hM h)) ?_
        rintro _ M5 ⟨hM7, y6, rfl, h⟩
        obtain ⟨v8, h⟩ := h
        refine PW.iast (pc := 57) dX1_playDay_57 (ar hM7.1 (oS_4_6 hs2)) (vpl (oN_4_6 hs2) v8) ?_
        refine PW.aload_n (pc := 58) dX1_playDay_58 rfl ?_
        refine PW.getR (pc := 59) dX1_playDay_59 (r := (a2 + 4)) lf_X1_149 (ob hM7.1 hs2 (by decide)) fx_4_5 (oR_4_5 (hM7.same rfl rfl) hs2) (pS_ne (oS_4_5 hs2)) ?_
        refine PW.iload (pc := 62) dX1_playDay_62 rfl ?_
        refine PW.aload_n (pc := 64) dX1_playDay_64 rfl ?_
        refine PW.getI (pc := 65) dX1_playDay_65 lf_X1_50 (ob hM7.1 hs2 (by decide)) fx_4_0 ?_
        obtain ⟨v9, h⟩ := h
        refine PW.iast (pc := 68) dX1_playDay_68 (ar hM7.1 (oS_4_5 hs2)) (vpl (oN_4_5 hs2) v9) ?_
        refine PW.iinc (pc := 69) dX1_playDay_69 (v := (x5 + 1)) (ls' := [.ref 44, .ref a1, .ref a2, .int x3, .int x4, .int (x5 + 1), .null, .null]) rfl rfl (by decide) rfl rfl ?_
        refine PW.goto (pc := 72) dX1_playDay_72 (t := 17) (by decide) ?_
        exact PW.drop (ih _ _ _ _ _ _ hs1 hs2 (hM7.same rfl rfl) h) ⟨rfl, rfl, rfl, rfl, rfl, rfl, trivial⟩
def w_X1_playDay_104 : Nat → Nat → Nat → Int32 → Int32 → pm → (Int32 → pm → Prop) → Prop
  | 0, _, _, _, _, _, _ => False
  | n + 1, a1, a2, x5, x6, M, Q => (((mI M a1 8) ≤ x6 → (w_J9_min_7cf53 999 ((mI M a2 0) + 1) M (fun y19 M18 => Q x5 (sI M18 a2 0 y19)))) ∧ (¬ (mI M a1 8) ≤ x6 → (w_X4_isDead a2 x6 M (fun y22 M21 => ((y22 = 0 → (w_X1_playDay_104 n a1 a2 x5 (x6 + 1) M21 Q)) ∧ (¬ y22 = 0 → (w_X1_lookAt a1 a2 x6 M21 (fun M25 => w_X1_valueOf (a1 + 10) 0 M25 (fun y29 M28 => w_J9_min_7cf53 99 y29 M28 (fun y32 M31 => w_J9_max_7cf53 0 y32 M31 (fun y35 M34 => vp_in x6 8 ∧ (w_X1_playDay_104 n a1 a2 x5 (x6 + 1) (sI M34 (a2 + 3) x6.toNatClampNeg y35) Q))))))))))))
set_option maxRecDepth 4000 in
theorem c_X1_playDay_104  {Q : Int32 → pm → Prop}  : ∀ (n : Nat) (a1 : Nat) (a2 : Nat) (x5 : Int32) (x6 : Int32) (M : pm), pS 5 a1 → pS 4 a2 → pG M → w_X1_playDay_104 n a1 a2 x5 x6 M  Q → PW mX1_playDay 4 350 104 [.ref 44, .ref a1, .ref a2, .null, .null, .int x5, .int x6, .null] [] M (qI Q) := by
  intro n
  induction n with
  | zero => intro a1 a2 x5 x6 M hs1 hs2 hM h; exact h.elim
  | succ n ih =>
    intro a1 a2 x5 x6 M hs1 hs2 hM h
    unfold w_X1_playDay_104 at h
    refine PW.iload (pc := 104) dX1_playDay_104 rfl ?_
    refine PW.aload_n (pc := 106) dX1_playDay_106 rfl ?_
    refine PW.getI (pc := 107) dX1_playDay_107 lf_X1_117 (ob hM.1 hs1 (by decide)) fx_5_8 ?_
    refine PW.icmp_ge (pc := 110) dX1_playDay_110 (t := 165) (by decide) (fun hc => ?_) (fun hc => ?_)
    · have h := h.1 hc
      refine PW.aload_n (pc := 165) dX1_playDay_165 rfl ?_
      refine PW.sipush (pc := 166) dX1_playDay_166 (v := 999) (by decide) ?_
      refine PW.aload_n (pc := 169) dX1_playDay_169 rfl ?_
      refine PW.getI (pc := 170) dX1_playDay_170 lf_X1_50 (ob hM.1 hs2 (by decide)) fx_4_0 ?_
      refine PW.iconst (pc := 173) dX1_playDay_173 (v := 1) (by decide) ?_
      refine PW.iadd (pc := 174) dX1_playDay_174 ?_
      refine PW.ins (m' := mJ9_min_7cf53) (pc := 175) dX1_playDay_175 lm_X1_90 me_J9_min_7cf53 ms_J9_min_7cf53 (As := [.int 999, .int ((mI M a2 0) + 1)]) (st := [.ref a2]) rfl (Nat.le_of_ble_eq_true rfl) (Nat.le_of_ble_eq_true rfl) (Nat.le_of_eq hM.1) (Nat.le_refl _) (PW.deep (by decide) (c_J9_min_7cf53  hM h)) ?_
      rintro _ M18 ⟨hM20, y19, rfl, h⟩
      refine PW.putI (pc := 178) dX1_playDay_178 lf_X1_50 (ob hM20.1 hs2 (by decide)) fx_4_0 fw_4_0 rfl rfl ?_
      refine PW.iload (pc := 181) dX1_playDay_181 rfl ?_
      exact PW.retI (pc := 183) dX1_playDay_183 hM20.1 rfl rfl ⟨(hM20.same rfl rfl), _, rfl, h⟩
    · have h := h.2 hc
      refine PW.aload_n (pc := 113) dX1_playDay_113 rfl ?_
      refine PW.iload (pc := 114) dX1_playDay_114 rfl ?_
      refine PW.inv (m' := mX4_isDead) (pc := 116) dX1_playDay_116 lm_X1_62 me_X4_isDead mi_X4_isDead (ob hM.1 hs2 (by decide)) rfl (As := [.int x6]) (st := []) rfl (Nat.le_of_ble_eq_true rfl) (Nat.le_of_ble_eq_true rfl) (Nat.le_of_eq hM.1) (Nat.le_refl _) (PW.deep (by decide) (c_X4_isDead hs2 hM h)) ?_
      rintro _ M21 ⟨hM23, y22, rfl, z24, h⟩
      refine PW.if_eq (pc := 119) dX1_playDay_119 (t := 159) (by decide) (fun hc => ?_) (fun hc => ?_)
      · have h := h.1 hc
        refine PW.iinc (pc := 159) dX1_playDay_159 (v := (x6 + 1)) (ls' := [.ref 44, .ref a1, .ref a2, .null, .null, .int x5, .int (x6 + 1), .null]) rfl rfl (by decide) rfl rfl ?_
        refine PW.goto (pc := 162) dX1_playDay_162 (t := 104) (by decide) ?_
        exact PW.drop (ih _ _ _ _ _ hs1 hs2 hM23 h) ⟨rfl, rfl, rfl, rfl, rfl, trivial⟩
      · have h := h.2 hc
        refine PW.aload_n (pc := 122) dX1_playDay_122 rfl ?_
        refine PW.aload_n (pc := 123) dX1_playDay_123 rfl ?_
        refine PW.aload_n (pc := 124) dX1_playDay_124 rfl ?_
        refine PW.iload (pc := 125) dX1_playDay_125 rfl ?_
        refine PW.inv (m' := mX1_lookAt) (pc := 127) dX1_playDay_127 lm_X1_105 me_X1_lookAt mi_X1_lookAt (ob hM23.1 s_44 (by decide)) rfl (As := [.ref a1, .ref a2, .int x6]) (st := []) rfl (Nat.le_of_ble_eq_true rfl) (Nat.le_of_ble_eq_true rfl) (Nat.le_of_eq hM23.1) (Nat.le_refl _) (PW.deep (by decide) (c_X1_lookAt hs1 hs2 hM23 h)) ?_
        rintro _ M25 ⟨hM27, rfl, h⟩
        refine PW.aload_n (pc := 130) dX1_playDay_130 rfl ?_
        refine PW.aload_n (pc := 131) dX1_playDay_131 rfl ?_
        refine PW.getR (pc := 132) dX1_playDay_132 (r := (a1 + 10)) lf_X1_109 (ob hM27.1 hs1 (by decide)) fx_5_16 (oR_5_16 hM27 hs1) (pS_ne (oS_5_16 hs1)) ?_
        refine PW.iconst (pc := 135) dX1_playDay_135 (v := 0) (by decide) ?_
        refine PW.inv (m' := mX1_valueOf) (pc := 136) dX1_playDay_136 lm_X1_113 me_X1_valueOf mi_X1_valueOf (ob hM27.1 s_44 (by decide)) rfl (As := [.ref (a1 + 10), .int 0]) (st := []) rfl (Nat.le_of_ble_eq_true rfl) (Nat.le_of_ble_eq_true rfl) (Nat.le_of_eq hM27.1) (Nat.le_refl _) (PW.deep (by decide) (c_X1_valueOf (oS_5_16 hs1) hM27 h)) ?_
        rintro _ M28 ⟨hM30, y29, rfl, h⟩
        refine PW.istore (pc := 139) dX1_playDay_139 (ls' := [.ref 44, .ref a1, .ref a2, .null, .null, .int x5, .int x6, .int y29]) (by decide) rfl rfl ?_
        refine PW.aload_n (pc := 141) dX1_playDay_141 rfl ?_
        refine PW.getR (pc := 142) dX1_playDay_142 (r := (a2 + 3)) lf_X1_37 (ob hM30.1 hs2 (by decide)) fx_4_4 (oR_4_4 hM30 hs2) (pS_ne (oS_4_4 hs2)) ?_
        refine PW.iload (pc := 145) dX1_playDay_145 rfl ?_
        refine PW.iconst (pc := 147) dX1_playDay_147 (v := 0) (by decide) ?_
        refine PW.bipush (pc := 148) dX1_playDay_148 (v := 99) (by decide) ?_
        refine PW.iload (pc := 150) dX1_playDay_150 rfl ?_
        refine PW.ins (m' := mJ9_min_7cf53) (pc := 152) dX1_playDay_152 lm_X1_90 me_J9_min_7cf53 ms_J9_min_7cf53 (As := [.int 99, .int y29]) (st := [.int 0, .int x6, .ref (a2 + 3)]) rfl (Nat.le_of_ble_eq_true rfl) (Nat.le_of_ble_eq_true rfl) (Nat.le_of_eq hM30.1) (Nat.le_refl _) (PW.deep (by decide) (c_J9_min_7cf53  hM30 h)) ?_
        rintro _ M31 ⟨hM33, y32, rfl, h⟩
        refine PW.ins (m' := mJ9_max_7cf53) (pc := 155) dX1_playDay_155 lm_X1_93 me_J9_max_7cf53 ms_J9_max_7cf53 (As := [.int 0, .int y32]) (st := [.int x6, .ref (a2 + 3)]) rfl (Nat.le_of_ble_eq_true rfl) (Nat.le_of_ble_eq_true rfl) (Nat.le_of_eq hM33.1) (Nat.le_refl _) (PW.deep (by decide) (c_J9_max_7cf53  hM33 h)) ?_
        rintro _ M34 ⟨hM36, y35, rfl, h⟩
        obtain ⟨v37, h⟩ := h
        refine PW.iast (pc := 158) dX1_playDay_158 (ar hM36.1 (oS_4_4 hs2)) (vpl (oN_4_4 hs2) v37) ?_
        refine PW.iinc (pc := 159) dX1_playDay_159 (v := (x6 + 1)) (ls' := [.ref 44, .ref a1, .ref a2, .null, .null, .int x5, .int (x6 + 1), .int y29]) rfl rfl (by decide) rfl rfl ?_
        refine PW.goto (pc := 162) dX1_playDay_162 (t := 104) (by decide) ?_
        exact PW.drop (ih _ _ _ _ _ hs1 hs2 (hM36.same rfl rfl) h) ⟨rfl, rfl, rfl, rfl, rfl, trivial⟩
def w_X1_playDay (a1 : Nat) (a2 : Nat) (x3 : Int32) (M : pm) (Q : Int32 → pm → Prop) : Prop := w_X1_minutesOf a1 a2 x3 M (fun y2 M1 => ∃ n10, w_X1_playDay_17 n10 a1 a2 x3 ((mI M a1 1) - y2) 0 M1 (fun a1 a2 x4 M11 => w_J9_min_7cf53 x4 (mI M11 a2 1) M11 (fun y13 M12 => w_J9_max_7cf53 0 y13 M12 (fun y16 M15 => ∃ n38, w_X1_playDay_104 n38 a1 a2 y16 0 (sI M15 a2 1 ((mI M15 a2 1) - y16))  Q))) Q)
set_option maxRecDepth 4000 in
theorem c_X1_playDay {a1 : Nat} {a2 : Nat} {x3 : Int32} {M : pm} {Q : Int32 → pm → Prop} (hs1 : pS 5 a1) (hs2 : pS 4 a2) (hM : pG M) (h : w_X1_playDay a1 a2 x3 M Q) : PW mX1_playDay 4 350 0 (pfr mX1_playDay.2.2.1 [.ref 44, .ref a1, .ref a2, .int x3]) [] M (qI Q) := by
  unfold w_X1_playDay at h
  show PW mX1_playDay 4 350 0 [.ref 44, .ref a1, .ref a2, .int x3, .null, .null, .null, .null] [] M (qI Q)
  refine PW.aload_n (pc := 0) dX1_playDay_0 rfl ?_
  refine PW.getI (pc := 1) dX1_playDay_1 lf_X1_136 (ob hM.1 hs1 (by decide)) fx_5_1 ?_
  refine PW.aload_n (pc := 4) dX1_playDay_4 rfl ?_
  refine PW.aload_n (pc := 5) dX1_playDay_5 rfl ?_
  refine PW.aload_n (pc := 6) dX1_playDay_6 rfl ?_
  refine PW.iload_n (pc := 7) dX1_playDay_7 rfl ?_
  refine PW.inv (m' := mX1_minutesOf) (pc := 8) dX1_playDay_8 lm_X1_146 me_X1_minutesOf mi_X1_minutesOf (ob hM.1 s_44 (by decide)) rfl (As := [.ref a1, .ref a2, .int x3]) (st := [.int (mI M a1 1)]) rfl (Nat.le_of_ble_eq_true rfl) (Nat.le_of_ble_eq_true rfl) (Nat.le_of_eq hM.1) (Nat.le_refl _) (PW.deep (by decide) (c_X1_minutesOf hs1 hs2 hM h)) ?_
  rintro _ M1 ⟨hM3, y2, rfl, h⟩
  refine PW.isub (pc := 11) dX1_playDay_11 ?_
  refine PW.istore (pc := 12) dX1_playDay_12 (ls' := [.ref 44, .ref a1, .ref a2, .int x3, .int ((mI M a1 1) - y2), .null, .null, .null]) (by decide) rfl rfl ?_
  refine PW.iconst (pc := 14) dX1_playDay_14 (v := 0) (by decide) ?_
  refine PW.istore (pc := 15) dX1_playDay_15 (ls' := [.ref 44, .ref a1, .ref a2, .int x3, .int ((mI M a1 1) - y2), .int 0, .null, .null]) (by decide) rfl rfl ?_
  obtain ⟨n10, h⟩ := h
  refine PW.drop (c_X1_playDay_17 ?_ n10 _ _ _ _ _ _ hs1 hs2 hM3 h) ⟨rfl, rfl, rfl, rfl, rfl, rfl, trivial⟩
  · intro a1 a2 x4 M11 hs1 hs2 hM h
    refine PW.iconst (pc := 75) dX1_playDay_75 (v := 0) (by decide) ?_
    refine PW.iload (pc := 76) dX1_playDay_76 rfl ?_
    refine PW.aload_n (pc := 78) dX1_playDay_78 rfl ?_
    refine PW.getI (pc := 79) dX1_playDay_79 lf_X1_152 (ob hM.1 hs2 (by decide)) fx_4_1 ?_
    refine PW.ins (m' := mJ9_min_7cf53) (pc := 82) dX1_playDay_82 lm_X1_90 me_J9_min_7cf53 ms_J9_min_7cf53 (As := [.int x4, .int (mI M11 a2 1)]) (st := [.int 0]) rfl (Nat.le_of_ble_eq_true rfl) (Nat.le_of_ble_eq_true rfl) (Nat.le_of_eq hM.1) (Nat.le_refl _) (PW.deep (by decide) (c_J9_min_7cf53  hM h)) ?_
    rintro _ M12 ⟨hM14, y13, rfl, h⟩
    refine PW.ins (m' := mJ9_max_7cf53) (pc := 85) dX1_playDay_85 lm_X1_93 me_J9_max_7cf53 ms_J9_max_7cf53 (As := [.int 0, .int y13]) (st := []) rfl (Nat.le_of_ble_eq_true rfl) (Nat.le_of_ble_eq_true rfl) (Nat.le_of_eq hM14.1) (Nat.le_refl _) (PW.deep (by decide) (c_J9_max_7cf53  hM14 h)) ?_
    rintro _ M15 ⟨hM17, y16, rfl, h⟩
    refine PW.istore (pc := 88) dX1_playDay_88 (ls' := [.ref 44, .ref a1, .ref a2, .null, .int x4, .int y16, .null, .null]) (by decide) rfl rfl ?_
    refine PW.aload_n (pc := 90) dX1_playDay_90 rfl ?_
    refine PW.dupR (pc := 91) dX1_playDay_91 ?_
    refine PW.getI (pc := 92) dX1_playDay_92 lf_X1_152 (ob hM17.1 hs2 (by decide)) fx_4_1 ?_
    refine PW.iload (pc := 95) dX1_playDay_95 rfl ?_
    refine PW.isub (pc := 97) dX1_playDay_97 ?_
    refine PW.putI (pc := 98) dX1_playDay_98 lf_X1_152 (ob hM17.1 hs2 (by decide)) fx_4_1 fw_4_1 rfl rfl ?_
    refine PW.iconst (pc := 101) dX1_playDay_101 (v := 0) (by decide) ?_
    refine PW.istore (pc := 102) dX1_playDay_102 (ls' := [.ref 44, .ref a1, .ref a2, .null, .int x4, .int y16, .int 0, .null]) (by decide) rfl rfl ?_
    obtain ⟨n38, h⟩ := h
    refine PW.drop (c_X1_playDay_104  n38 _ _ _ _ _ hs1 hs2 (hM17.same rfl rfl) h) ⟨rfl, rfl, rfl, rfl, rfl, trivial⟩
def w_X1_canFill_5 : Nat → Nat → Nat → Int64 → Int32 → pm → (Nat → Int64 → pm → Prop) → (Int32 → pm → Prop) → Prop
  | 0, _, _, _, _, _, _, _ => False
  | n + 1, a1, a2, x3, x5, M, k47, Q => (((mI M a1 8) ≤ x5 → (k47 a1 x3 M)) ∧ (¬ (mI M a1 8) ≤ x5 → (w_X1_canPlay a1 a2 x5 M (fun y2 M1 => ((y2 = 0 → (w_X1_canFill_5 n a1 a2 x3 (x5 + 1) M1 k47 Q)) ∧ (¬ y2 = 0 → (vp_in x5 8 ∧ (w_X5_longOf a1 (mI M1 (a2 + 1) x5.toNatClampNeg) M1 (fun y7 M6 => w_X1_canFill_5 n a1 a2 (x3 ||| (x3 <<< (Int32.toInt64 y7 &&& 63))) (x5 + 1) M6 k47 Q)))))))))
set_option maxRecDepth 4000 in
theorem c_X1_canFill_5 {k47 : Nat → Int64 → pm → Prop} {Q : Int32 → pm → Prop} (hk47 : ∀ (a1 : Nat) (x3 : Int64) (M : pm), pS 5 a1 → pG M → k47 a1 x3 M → PW mX1_canFill 5 350 47 [.ref 44, .ref a1, .null, .long x3, .null, .null] [] M (qZ Q)) : ∀ (n : Nat) (a1 : Nat) (a2 : Nat) (x3 : Int64) (x5 : Int32) (M : pm), pS 5 a1 → pS 4 a2 → pG M → w_X1_canFill_5 n a1 a2 x3 x5 M k47 Q → PW mX1_canFill 5 350 5 [.ref 44, .ref a1, .ref a2, .long x3, .null, .int x5] [] M (qZ Q) := by
  intro n
  induction n with
  | zero => intro a1 a2 x3 x5 M hs1 hs2 hM h; exact h.elim
  | succ n ih =>
    intro a1 a2 x3 x5 M hs1 hs2 hM h
    unfold w_X1_canFill_5 at h
    refine PW.iload (pc := 5) dX1_canFill_5 rfl ?_
    refine PW.aload_n (pc := 7) dX1_canFill_7 rfl ?_
    refine PW.getI (pc := 8) dX1_canFill_8 lf_X1_117 (ob hM.1 hs1 (by decide)) fx_5_8 ?_
    refine PW.icmp_ge (pc := 11) dX1_canFill_11 (t := 47) (by decide) (fun hc => ?_) (fun hc => ?_)
    · have h := h.1 hc
      exact PW.drop (hk47 _ _ _ hs1 hM h) ⟨rfl, rfl, rfl, trivial⟩
    · have h := h.2 hc
      refine PW.aload_n (pc := 14) dX1_canFill_14 rfl ?_
      refine PW.aload_n (pc := 15) dX1_canFill_15 rfl ?_
      refine PW.aload_n (pc := 16) dX1_canFill_16 rfl ?_
      refine PW.iload (pc := 17) dX1_canFill_17 rfl ?_
      refine PW.inv (m' := mX1_canPlay) (pc := 19) dX1_canFill_19 lm_X1_120 me_X1_canPlay mi_X1_canPlay (ob hM.1 s_44 (by decide)) rfl (As := [.ref a1, .ref a2, .int x5]) (st := []) rfl (Nat.le_of_ble_eq_true rfl) (Nat.le_of_ble_eq_true rfl) (Nat.le_of_eq hM.1) (Nat.le_refl _) (PW.deep (by decide) (c_X1_canPlay hs1 hs2 hM h)) ?_
      rintro _ M1 ⟨hM3, y2, rfl, z4, h⟩
      refine PW.if_eq (pc := 22) dX1_canFill_22 (t := 41) (by decide) (fun hc => ?_) (fun hc => ?_)
      · have h := h.1 hc
        refine PW.iinc (pc := 41) dX1_canFill_41 (v := (x5 + 1)) (ls' := [.ref 44, .ref a1, .ref a2, .long x3, .null, .int (x5 + 1)]) rfl rfl (by decide) rfl rfl ?_
        refine PW.goto (pc := 44) dX1_canFill_44 (t := 5) (by decide) ?_
        exact PW.drop (ih _ _ _ _ _ hs1 hs2 hM3 h) ⟨rfl, rfl, rfl, rfl, rfl, trivial⟩
      · have h := h.2 hc
        refine PW.lload_n (pc := 25) dX1_canFill_25 rfl ?_
        refine PW.lload_n (pc := 26) dX1_canFill_26 rfl ?_
        refine PW.aload_n (pc := 27) dX1_canFill_27 rfl ?_
        refine PW.aload_n (pc := 28) dX1_canFill_28 rfl ?_
        refine PW.getR (pc := 29) dX1_canFill_29 (r := (a2 + 1)) lf_X1_32 (ob hM3.1 hs2 (by decide)) fx_4_2 (oR_4_2 hM3 hs2) (pS_ne (oS_4_2 hs2)) ?_
        refine PW.iload (pc := 32) dX1_canFill_32 rfl ?_
        obtain ⟨v5, h⟩ := h
        refine PW.iald (pc := 34) dX1_canFill_34 (ar hM3.1 (oS_4_2 hs2)) (vpl (oN_4_2 hs2) v5) ?_
        refine PW.inv (m' := mX5_longOf) (pc := 35) dX1_canFill_35 lm_X1_54 me_X5_longOf mi_X5_longOf (ob hM3.1 hs1 (by decide)) rfl (As := [.int (mI M1 (a2 + 1) x5.toNatClampNeg)]) (st := [.long x3, .long x3]) rfl (Nat.le_of_ble_eq_true rfl) (Nat.le_of_ble_eq_true rfl) (Nat.le_of_eq hM3.1) (Nat.le_refl _) (PW.deep (by decide) (c_X5_longOf hs1 hM3 h)) ?_
        rintro _ M6 ⟨hM8, y7, rfl, h⟩
        refine PW.lshl (pc := 38) dX1_canFill_38 ?_
        refine PW.lor (pc := 39) dX1_canFill_39 ?_
        refine PW.lstore_n (pc := 40) dX1_canFill_40 (ls' := [.ref 44, .ref a1, .ref a2, .long (x3 ||| (x3 <<< (Int32.toInt64 y7 &&& 63))), .null, .int x5]) (by decide) rfl rfl ?_
        refine PW.iinc (pc := 41) dX1_canFill_41 (v := (x5 + 1)) (ls' := [.ref 44, .ref a1, .ref a2, .long (x3 ||| (x3 <<< (Int32.toInt64 y7 &&& 63))), .null, .int (x5 + 1)]) rfl rfl (by decide) rfl rfl ?_
        refine PW.goto (pc := 44) dX1_canFill_44 (t := 5) (by decide) ?_
        exact PW.drop (ih _ _ _ _ _ hs1 hs2 hM8 h) ⟨rfl, rfl, rfl, rfl, rfl, trivial⟩
def w_X1_canFill (a1 : Nat) (a2 : Nat) (M : pm) (Q : Int32 → pm → Prop) : Prop := ∃ n9, w_X1_canFill_5 n9 a1 a2 (1 : Int64) 0 M (fun a1 x3 M10 => ((¬ ((x3 >>> (Int32.toInt64 (mI M10 a1 1) &&& 63)) &&& (1 : Int64)) = (1 : Int64) → (Q 0 M10)) ∧ (((x3 >>> (Int32.toInt64 (mI M10 a1 1) &&& 63)) &&& (1 : Int64)) = (1 : Int64) → (Q 1 M10)))) Q
set_option maxRecDepth 4000 in
theorem c_X1_canFill {a1 : Nat} {a2 : Nat} {M : pm} {Q : Int32 → pm → Prop} (hs1 : pS 5 a1) (hs2 : pS 4 a2) (hM : pG M) (h : w_X1_canFill a1 a2 M Q) : PW mX1_canFill 5 350 0 (pfr mX1_canFill.2.2.1 [.ref 44, .ref a1, .ref a2]) [] M (qZ Q) := by
  unfold w_X1_canFill at h
  show PW mX1_canFill 5 350 0 [.ref 44, .ref a1, .ref a2, .null, .null, .null] [] M (qZ Q)
  refine PW.lconst (pc := 0) dX1_canFill_0 (v := 1) (by decide) ?_
  refine PW.lstore_n (pc := 1) dX1_canFill_1 (ls' := [.ref 44, .ref a1, .ref a2, .long (1 : Int64), .null, .null]) (by decide) rfl rfl ?_
  refine PW.iconst (pc := 2) dX1_canFill_2 (v := 0) (by decide) ?_
  refine PW.istore (pc := 3) dX1_canFill_3 (ls' := [.ref 44, .ref a1, .ref a2, .long (1 : Int64), .null, .int 0]) (by decide) rfl rfl ?_
  obtain ⟨n9, h⟩ := h
  refine PW.drop (c_X1_canFill_5 ?_ n9 _ _ _ _ _ hs1 hs2 hM h) ⟨rfl, rfl, rfl, rfl, rfl, trivial⟩
  · intro a1 x3 M10 hs1 hM h
    refine PW.lload_n (pc := 47) dX1_canFill_47 rfl ?_
    refine PW.aload_n (pc := 48) dX1_canFill_48 rfl ?_
    refine PW.getI (pc := 49) dX1_canFill_49 lf_X1_136 (ob hM.1 hs1 (by decide)) fx_5_1 ?_
    refine PW.lshr (pc := 52) dX1_canFill_52 ?_
    refine PW.lconst (pc := 53) dX1_canFill_53 (v := 1) (by decide) ?_
    refine PW.land (pc := 54) dX1_canFill_54 ?_
    refine PW.lconst (pc := 55) dX1_canFill_55 (v := 1) (by decide) ?_
    refine PW.lcmp (pc := 56) dX1_canFill_56 ?_
    refine PW.if_ne (pc := 57) dX1_canFill_57 (t := 64) (by decide) (fun hc => ?_) (fun hc => ?_)
    · have h := h.1 (fun q => hc ((lg_cmp_eq _ _).mpr q))
      refine PW.iconst (pc := 64) dX1_canFill_64 (v := 0) (by decide) ?_
      exact PW.retI (pc := 65) dX1_canFill_65 hM.1 rfl (bz_n bz0) ⟨hM, _, rfl, bz0, h⟩
    · have h := h.2 ((lg_cmp_eq _ _).mp hc)
      refine PW.iconst (pc := 60) dX1_canFill_60 (v := 1) (by decide) ?_
      refine PW.goto (pc := 61) dX1_canFill_61 (t := 65) (by decide) ?_
      exact PW.retI (pc := 65) dX1_canFill_65 hM.1 rfl (bz_n bz1) ⟨hM, _, rfl, bz1, h⟩
def w_J9_abs_0f7a4 (x0 : Int32) (M : pm) (Q : Int32 → pm → Prop) : Prop := ((0 ≤ x0 → (Q x0 M)) ∧ (¬ 0 ≤ x0 → (Q (-x0) M)))
set_option maxRecDepth 4000 in
theorem c_J9_abs_0f7a4 {x0 : Int32} {M : pm} {Q : Int32 → pm → Prop}  (hM : pG M) (h : w_J9_abs_0f7a4 x0 M Q) : PW mJ9_abs_0f7a4 1 350 0 (pfr mJ9_abs_0f7a4.2.2.1 [.int x0]) [] M (qI Q) := by
  unfold w_J9_abs_0f7a4 at h
  show PW mJ9_abs_0f7a4 1 350 0 [.int x0] [] M (qI Q)
  refine PW.iload_n (pc := 0) dJ9_abs_0f7a4_0 rfl ?_
  refine PW.if_ge (pc := 1) dJ9_abs_0f7a4_1 (t := 9) (by decide) (fun hc => ?_) (fun hc => ?_)
  · have h := h.1 hc
    refine PW.iload_n (pc := 9) dJ9_abs_0f7a4_9 rfl ?_
    exact PW.retI (pc := 10) dJ9_abs_0f7a4_10 hM.1 rfl rfl ⟨hM, _, rfl, h⟩
  · have h := h.2 hc
    refine PW.iload_n (pc := 4) dJ9_abs_0f7a4_4 rfl ?_
    refine PW.ineg (pc := 5) dJ9_abs_0f7a4_5 ?_
    refine PW.goto (pc := 6) dJ9_abs_0f7a4_6 (t := 10) (by decide) ?_
    exact PW.retI (pc := 10) dJ9_abs_0f7a4_10 hM.1 rfl rfl ⟨hM, _, rfl, h⟩
def w_X1_pleasedBy (a0 : Nat) (a1 : Nat) (x2 : Int32) (x3 : Int32) (M : pm) (Q : Int32 → pm → Prop) : Prop := vp_in x3 8 ∧ (w_X5_styleOf a0 (mI M (a1 + 1) x3.toNatClampNeg) M (fun y3 M2 => vp_in x2 5 ∧ (w_J9_abs_0f7a4 (y3 - (mI M2 (a0 + 9) x2.toNatClampNeg)) M2 (fun y7 M6 => Q (9 - y7) M6))))
set_option maxRecDepth 4000 in
theorem c_X1_pleasedBy {a0 : Nat} {a1 : Nat} {x2 : Int32} {x3 : Int32} {M : pm} {Q : Int32 → pm → Prop} (hs0 : pS 5 a0) (hs1 : pS 4 a1) (hM : pG M) (h : w_X1_pleasedBy a0 a1 x2 x3 M Q) : PW mX1_pleasedBy 2 350 0 (pfr mX1_pleasedBy.2.2.1 [.ref a0, .ref a1, .int x2, .int x3]) [] M (qI Q) := by
  unfold w_X1_pleasedBy at h
  show PW mX1_pleasedBy 2 350 0 [.ref a0, .ref a1, .int x2, .int x3] [] M (qI Q)
  refine PW.bipush (pc := 0) dX1_pleasedBy_0 (v := 9) (by decide) ?_
  refine PW.aload_n (pc := 2) dX1_pleasedBy_2 rfl ?_
  refine PW.aload_n (pc := 3) dX1_pleasedBy_3 rfl ?_
  refine PW.getR (pc := 4) dX1_pleasedBy_4 (r := (a1 + 1)) lf_X1_32 (ob hM.1 hs1 (by decide)) fx_4_2 (oR_4_2 hM hs1) (pS_ne (oS_4_2 hs1)) ?_
  refine PW.iload_n (pc := 7) dX1_pleasedBy_7 rfl ?_
  obtain ⟨v1, h⟩ := h
  refine PW.iald (pc := 8) dX1_pleasedBy_8 (ar hM.1 (oS_4_2 hs1)) (vpl (oN_4_2 hs1) v1) ?_
  refine PW.inv (m' := mX5_styleOf) (pc := 9) dX1_pleasedBy_9 lm_X1_59 me_X5_styleOf mi_X5_styleOf (ob hM.1 hs0 (by decide)) rfl (As := [.int (mI M (a1 + 1) x3.toNatClampNeg)]) (st := [.int 9]) rfl (Nat.le_of_ble_eq_true rfl) (Nat.le_of_ble_eq_true rfl) (Nat.le_of_eq hM.1) (Nat.le_refl _) (PW.deep (by decide) (c_X5_styleOf hs0 hM h)) ?_
  rintro _ M2 ⟨hM4, y3, rfl, h⟩
  refine PW.aload_n (pc := 12) dX1_pleasedBy_12 rfl ?_
  refine PW.getR (pc := 13) dX1_pleasedBy_13 (r := (a0 + 9)) lf_X1_165 (ob hM4.1 hs0 (by decide)) fx_5_15 (oR_5_15 hM4 hs0) (pS_ne (oS_5_15 hs0)) ?_
  refine PW.iload_n (pc := 16) dX1_pleasedBy_16 rfl ?_
  obtain ⟨v5, h⟩ := h
  refine PW.iald (pc := 17) dX1_pleasedBy_17 (ar hM4.1 (oS_5_15 hs0)) (vpl (oN_5_15 hs0) v5) ?_
  refine PW.isub (pc := 18) dX1_pleasedBy_18 ?_
  refine PW.ins (m' := mJ9_abs_0f7a4) (pc := 19) dX1_pleasedBy_19 lm_X1_168 me_J9_abs_0f7a4 ms_J9_abs_0f7a4 (As := [.int (y3 - (mI M2 (a0 + 9) x2.toNatClampNeg))]) (st := [.int 9]) rfl (Nat.le_of_ble_eq_true rfl) (Nat.le_of_ble_eq_true rfl) (Nat.le_of_eq hM4.1) (Nat.le_refl _) (PW.deep (by decide) (c_J9_abs_0f7a4  hM4 h)) ?_
  rintro _ M6 ⟨hM8, y7, rfl, h⟩
  refine PW.isub (pc := 22) dX1_pleasedBy_22 ?_
  exact PW.retI (pc := 23) dX1_pleasedBy_23 hM8.1 rfl rfl ⟨hM8, _, rfl, h⟩
def w_X1_pleased (x1 : Int32) (x2 : Int32) (M : pm) (Q : Int32 → pm → Prop) : Prop := ((x1 < 0 → (Q 0 M)) ∧ (¬ x1 < 0 → ((5 < x1 → (Q 0 M)) ∧ (¬ 5 < x1 → ((x2 < 0 → (Q 0 M)) ∧ (¬ x2 < 0 → ((256 ≤ x2 → (Q 0 M)) ∧ (¬ 256 ≤ x2 → (vp_in x1 6 ∧ (vp_in x2 256 ∧ (Q (mI M (51 + x1.toNatClampNeg) x2.toNatClampNeg) M)))))))))))
set_option maxRecDepth 4000 in
theorem c_X1_pleased {x1 : Int32} {x2 : Int32} {M : pm} {Q : Int32 → pm → Prop}  (hM : pG M) (h : w_X1_pleased x1 x2 M Q) : PW mX1_pleased 1 350 0 (pfr mX1_pleased.2.2.1 [.ref 44, .int x1, .int x2]) [] M (qI Q) := by
  unfold w_X1_pleased at h
  show PW mX1_pleased 1 350 0 [.ref 44, .int x1, .int x2] [] M (qI Q)
  refine PW.iload_n (pc := 0) dX1_pleased_0 rfl ?_
  refine PW.if_lt (pc := 1) dX1_pleased_1 (t := 31) (by decide) (fun hc => ?_) (fun hc => ?_)
  · have h := h.1 hc
    refine PW.iconst (pc := 31) dX1_pleased_31 (v := 0) (by decide) ?_
    exact PW.retI (pc := 32) dX1_pleased_32 hM.1 rfl rfl ⟨hM, _, rfl, h⟩
  · have h := h.2 hc
    refine PW.iload_n (pc := 4) dX1_pleased_4 rfl ?_
    refine PW.iconst (pc := 5) dX1_pleased_5 (v := 5) (by decide) ?_
    refine PW.icmp_gt (pc := 6) dX1_pleased_6 (t := 31) (by decide) (fun hc => ?_) (fun hc => ?_)
    · have h := h.1 hc
      refine PW.iconst (pc := 31) dX1_pleased_31 (v := 0) (by decide) ?_
      exact PW.retI (pc := 32) dX1_pleased_32 hM.1 rfl rfl ⟨hM, _, rfl, h⟩
    · have h := h.2 hc
      refine PW.iload_n (pc := 9) dX1_pleased_9 rfl ?_
      refine PW.if_lt (pc := 10) dX1_pleased_10 (t := 31) (by decide) (fun hc => ?_) (fun hc => ?_)
      · have h := h.1 hc
        refine PW.iconst (pc := 31) dX1_pleased_31 (v := 0) (by decide) ?_
        exact PW.retI (pc := 32) dX1_pleased_32 hM.1 rfl rfl ⟨hM, _, rfl, h⟩
      · have h := h.2 hc
        refine PW.iload_n (pc := 13) dX1_pleased_13 rfl ?_
        refine PW.sipush (pc := 14) dX1_pleased_14 (v := 256) (by decide) ?_
        refine PW.icmp_ge (pc := 17) dX1_pleased_17 (t := 31) (by decide) (fun hc => ?_) (fun hc => ?_)
        · have h := h.1 hc
          refine PW.iconst (pc := 31) dX1_pleased_31 (v := 0) (by decide) ?_
          exact PW.retI (pc := 32) dX1_pleased_32 hM.1 rfl rfl ⟨hM, _, rfl, h⟩
        · have h := h.2 hc
          refine PW.aload_n (pc := 20) dX1_pleased_20 rfl ?_
          refine PW.getR (pc := 21) dX1_pleased_21 (r := 50) lf_X1_29 (ob hM.1 s_44 (by decide)) fx_1_5 (oR_1_5 hM s_44) (pS_ne s_50) ?_
          refine PW.iload_n (pc := 24) dX1_pleased_24 rfl ?_
          obtain ⟨v1, h⟩ := h
          refine PW.aaldA (pc := 25) dX1_pleased_25 (ar hM.1 s_50) (vpl n_50 v1) (rR_50 hM (vp_lt v1)) (pS_ne (rS_50 (vp_lt v1))) ?_
          refine PW.iload_n (pc := 26) dX1_pleased_26 rfl ?_
          obtain ⟨v2, h⟩ := h
          refine PW.iald (pc := 27) dX1_pleased_27 (ar hM.1 (rS_50 (vp_lt v1))) (vpl (rN_50 (vp_lt v1)) v2) ?_
          refine PW.goto (pc := 28) dX1_pleased_28 (t := 32) (by decide) ?_
          exact PW.retI (pc := 32) dX1_pleased_32 hM.1 rfl rfl ⟨hM, _, rfl, h⟩
def w_X1_pleaseEars_49 : Nat → Nat → Nat → Int32 → Int32 → Int32 → Int32 → Int32 → pm → (Nat → Nat → Int32 → Int32 → Int32 → Int32 → pm → Prop) → (pm → Prop) → Prop
  | 0, _, _, _, _, _, _, _, _, _, _ => False
  | n + 1, a1, a2, x3, x4, x5, x6, x7, M, k120, Q => (((mI M a1 8) ≤ x7 → (k120 a1 a2 x3 x4 x5 x6 M)) ∧ (¬ (mI M a1 8) ≤ x7 → (((mI M a1 13) ≤ x4 → (k120 a1 a2 x3 x4 x5 x6 M)) ∧ (¬ (mI M a1 13) ≤ x4 → ((¬ (((x3 &&& (x5 ^^^ (-1))) >>> (x7 &&& 31)) &&& 1) = 1 → (w_X1_pleaseEars_49 n a1 a2 x3 x4 x5 x6 (x7 + 1) M k120 Q)) ∧ ((((x3 &&& (x5 ^^^ (-1))) >>> (x7 &&& 31)) &&& 1) = 1 → (w_X1_pleasedBy a1 a2 x4 x7 M (fun y2 M1 => w_X1_pleased (x4 + 1) (x5 ||| (1 <<< (x7 &&& 31))) M1 (fun y5 M4 => w_J9_max_7cf53 x6 (y2 + y5) M4 (fun y8 M7 => w_X1_pleaseEars_49 n a1 a2 x3 x4 x5 y8 (x7 + 1) M7 k120 Q))))))))))
set_option maxRecDepth 4000 in
theorem c_X1_pleaseEars_49 {k120 : Nat → Nat → Int32 → Int32 → Int32 → Int32 → pm → Prop} {Q : pm → Prop} (hk120 : ∀ (a1 : Nat) (a2 : Nat) (x3 : Int32) (x4 : Int32) (x5 : Int32) (x6 : Int32) (M : pm), pS 5 a1 → pS 4 a2 → pG M → k120 a1 a2 x3 x4 x5 x6 M → PW mX1_pleaseEars 3 350 120 [.ref 44, .ref a1, .ref a2, .int x3, .int x4, .int x5, .int x6, .null] [] M (qV Q)) : ∀ (n : Nat) (a1 : Nat) (a2 : Nat) (x3 : Int32) (x4 : Int32) (x5 : Int32) (x6 : Int32) (x7 : Int32) (M : pm), pS 5 a1 → pS 4 a2 → pG M → w_X1_pleaseEars_49 n a1 a2 x3 x4 x5 x6 x7 M k120 Q → PW mX1_pleaseEars 3 350 49 [.ref 44, .ref a1, .ref a2, .int x3, .int x4, .int x5, .int x6, .int x7] [] M (qV Q) := by
  intro n
  induction n with
  | zero => intro a1 a2 x3 x4 x5 x6 x7 M hs1 hs2 hM h; exact h.elim
  | succ n ih =>
    intro a1 a2 x3 x4 x5 x6 x7 M hs1 hs2 hM h
    unfold w_X1_pleaseEars_49 at h
    refine PW.iload (pc := 49) dX1_pleaseEars_49 rfl ?_
    refine PW.aload_n (pc := 51) dX1_pleaseEars_51 rfl ?_
    refine PW.getI (pc := 52) dX1_pleaseEars_52 lf_X1_117 (ob hM.1 hs1 (by decide)) fx_5_8 ?_
    refine PW.icmp_ge (pc := 55) dX1_pleaseEars_55 (t := 120) (by decide) (fun hc => ?_) (fun hc => ?_)
    · have h := h.1 hc
      exact PW.drop (hk120 _ _ _ _ _ _ _ hs1 hs2 hM h) ⟨rfl, rfl, rfl, rfl, rfl, rfl, rfl, trivial⟩
    · have h := h.2 hc
      refine PW.iload (pc := 58) dX1_pleaseEars_58 rfl ?_
      refine PW.aload_n (pc := 60) dX1_pleaseEars_60 rfl ?_
      refine PW.getI (pc := 61) dX1_pleaseEars_61 lf_X1_155 (ob hM.1 hs1 (by decide)) fx_5_13 ?_
      refine PW.icmp_ge (pc := 64) dX1_pleaseEars_64 (t := 120) (by decide) (fun hc => ?_) (fun hc => ?_)
      · have h := h.1 hc
        exact PW.drop (hk120 _ _ _ _ _ _ _ hs1 hs2 hM h) ⟨rfl, rfl, rfl, rfl, rfl, rfl, rfl, trivial⟩
      · have h := h.2 hc
        refine PW.iload_n (pc := 67) dX1_pleaseEars_67 rfl ?_
        refine PW.iload (pc := 68) dX1_pleaseEars_68 rfl ?_
        refine PW.iconst (pc := 70) dX1_pleaseEars_70 (v := (-1)) (by decide) ?_
        refine PW.ixor (pc := 71) dX1_pleaseEars_71 ?_
        refine PW.iand (pc := 72) dX1_pleaseEars_72 ?_
        refine PW.iload (pc := 73) dX1_pleaseEars_73 rfl ?_
        refine PW.ishr (pc := 75) dX1_pleaseEars_75 ?_
        refine PW.iconst (pc := 76) dX1_pleaseEars_76 (v := 1) (by decide) ?_
        refine PW.iand (pc := 77) dX1_pleaseEars_77 ?_
        refine PW.iconst (pc := 78) dX1_pleaseEars_78 (v := 1) (by decide) ?_
        refine PW.icmp_ne (pc := 79) dX1_pleaseEars_79 (t := 114) (by decide) (fun hc => ?_) (fun hc => ?_)
        · have h := h.1 hc
          refine PW.iinc (pc := 114) dX1_pleaseEars_114 (v := (x7 + 1)) (ls' := [.ref 44, .ref a1, .ref a2, .int x3, .int x4, .int x5, .int x6, .int (x7 + 1)]) rfl rfl (by decide) rfl rfl ?_
          refine PW.goto (pc := 117) dX1_pleaseEars_117 (t := 49) (by decide) ?_
          exact PW.drop (ih _ _ _ _ _ _ _ _ hs1 hs2 hM h) ⟨rfl, rfl, rfl, rfl, rfl, rfl, rfl, rfl, trivial⟩
        · have h := h.2 hc
          refine PW.iload (pc := 82) dX1_pleaseEars_82 rfl ?_
          refine PW.aload_n (pc := 84) dX1_pleaseEars_84 rfl ?_
          refine PW.aload_n (pc := 85) dX1_pleaseEars_85 rfl ?_
          refine PW.iload (pc := 86) dX1_pleaseEars_86 rfl ?_
          refine PW.iload (pc := 88) dX1_pleaseEars_88 rfl ?_
          refine PW.ins (m' := mX1_pleasedBy) (pc := 90) dX1_pleaseEars_90 lm_X1_158 me_X1_pleasedBy ms_X1_pleasedBy (As := [.ref a1, .ref a2, .int x4, .int x7]) (st := [.int x6]) rfl (Nat.le_of_ble_eq_true rfl) (Nat.le_of_ble_eq_true rfl) (Nat.le_of_eq hM.1) (Nat.le_refl _) (PW.deep (by decide) (c_X1_pleasedBy hs1 hs2 hM h)) ?_
          rintro _ M1 ⟨hM3, y2, rfl, h⟩
          refine PW.aload_n (pc := 93) dX1_pleaseEars_93 rfl ?_
          refine PW.iload (pc := 94) dX1_pleaseEars_94 rfl ?_
          refine PW.iconst (pc := 96) dX1_pleaseEars_96 (v := 1) (by decide) ?_
          refine PW.iadd (pc := 97) dX1_pleaseEars_97 ?_
          refine PW.iload (pc := 98) dX1_pleaseEars_98 rfl ?_
          refine PW.iconst (pc := 100) dX1_pleaseEars_100 (v := 1) (by decide) ?_
          refine PW.iload (pc := 101) dX1_pleaseEars_101 rfl ?_
          refine PW.ishl (pc := 103) dX1_pleaseEars_103 ?_
          refine PW.ior (pc := 104) dX1_pleaseEars_104 ?_
          refine PW.inv (m' := mX1_pleased) (pc := 105) dX1_pleaseEars_105 lm_X1_162 me_X1_pleased mi_X1_pleased (ob hM3.1 s_44 (by decide)) rfl (As := [.int (x4 + 1), .int (x5 ||| (1 <<< (x7 &&& 31)))]) (st := [.int y2, .int x6]) rfl (Nat.le_of_ble_eq_true rfl) (Nat.le_of_ble_eq_true rfl) (Nat.le_of_eq hM3.1) (Nat.le_refl _) (PW.deep (by decide) (c_X1_pleased  hM3 h)) ?_
          rintro _ M4 ⟨hM6, y5, rfl, h⟩
          refine PW.iadd (pc := 108) dX1_pleaseEars_108 ?_
          refine PW.ins (m' := mJ9_max_7cf53) (pc := 109) dX1_pleaseEars_109 lm_X1_93 me_J9_max_7cf53 ms_J9_max_7cf53 (As := [.int x6, .int (y2 + y5)]) (st := []) rfl (Nat.le_of_ble_eq_true rfl) (Nat.le_of_ble_eq_true rfl) (Nat.le_of_eq hM6.1) (Nat.le_refl _) (PW.deep (by decide) (c_J9_max_7cf53  hM6 h)) ?_
          rintro _ M7 ⟨hM9, y8, rfl, h⟩
          refine PW.istore (pc := 112) dX1_pleaseEars_112 (ls' := [.ref 44, .ref a1, .ref a2, .int x3, .int x4, .int x5, .int y8, .int x7]) (by decide) rfl rfl ?_
          refine PW.iinc (pc := 114) dX1_pleaseEars_114 (v := (x7 + 1)) (ls' := [.ref 44, .ref a1, .ref a2, .int x3, .int x4, .int x5, .int y8, .int (x7 + 1)]) rfl rfl (by decide) rfl rfl ?_
          refine PW.goto (pc := 117) dX1_pleaseEars_117 (t := 49) (by decide) ?_
          exact PW.drop (ih _ _ _ _ _ _ _ _ hs1 hs2 hM9 h) ⟨rfl, rfl, rfl, rfl, rfl, rfl, rfl, rfl, trivial⟩
def w_X1_pleaseEars_11 : Nat → Nat → Nat → Int32 → Int32 → Int32 → pm → (Nat → Nat → Int32 → Int32 → pm → Prop) → (pm → Prop) → Prop
  | 0, _, _, _, _, _, _, _, _ => False
  | n + 1, a1, a2, x3, x4, x5, M, k138, Q => ((256 ≤ x5 → (k138 a1 a2 x3 x4 M)) ∧ (¬ 256 ≤ x5 → (((mI M a1 13) ≤ x4 → (∃ n10, w_X1_pleaseEars_49 n10 a1 a2 x3 x4 x5 0 0 M (fun a1 a2 x3 x4 x5 x6 M11 => vp_in x4 6 ∧ (vp_in x5 256 ∧ (w_X1_pleaseEars_11 n a1 a2 x3 x4 (x5 + 1) (sI M11 (51 + x4.toNatClampNeg) x5.toNatClampNeg x6) k138 Q))) Q)) ∧ (¬ (mI M a1 13) ≤ x4 → (vp_in (x4 + 1) 6 ∧ (vp_in x5 256 ∧ (∃ n16, w_X1_pleaseEars_49 n16 a1 a2 x3 x4 x5 (mI M (51 + (x4 + 1).toNatClampNeg) x5.toNatClampNeg) 0 M (fun a1 a2 x3 x4 x5 x6 M17 => vp_in x4 6 ∧ (vp_in x5 256 ∧ (w_X1_pleaseEars_11 n a1 a2 x3 x4 (x5 + 1) (sI M17 (51 + x4.toNatClampNeg) x5.toNatClampNeg x6) k138 Q))) Q)))))))
set_option maxRecDepth 4000 in
theorem c_X1_pleaseEars_11 {k138 : Nat → Nat → Int32 → Int32 → pm → Prop} {Q : pm → Prop} (hk138 : ∀ (a1 : Nat) (a2 : Nat) (x3 : Int32) (x4 : Int32) (M : pm), pS 5 a1 → pS 4 a2 → pG M → k138 a1 a2 x3 x4 M → PW mX1_pleaseEars 3 350 138 [.ref 44, .ref a1, .ref a2, .int x3, .int x4, .null, .null, .null] [] M (qV Q)) : ∀ (n : Nat) (a1 : Nat) (a2 : Nat) (x3 : Int32) (x4 : Int32) (x5 : Int32) (M : pm), pS 5 a1 → pS 4 a2 → pG M → w_X1_pleaseEars_11 n a1 a2 x3 x4 x5 M k138 Q → PW mX1_pleaseEars 3 350 11 [.ref 44, .ref a1, .ref a2, .int x3, .int x4, .int x5, .null, .null] [] M (qV Q) := by
  intro n
  induction n with
  | zero => intro a1 a2 x3 x4 x5 M hs1 hs2 hM h; exact h.elim
  | succ n ih =>
    intro a1 a2 x3 x4 x5 M hs1 hs2 hM h
    unfold w_X1_pleaseEars_11 at h
    refine PW.iload (pc := 11) dX1_pleaseEars_11 rfl ?_
    refine PW.sipush (pc := 13) dX1_pleaseEars_13 (v := 256) (by decide) ?_
    refine PW.icmp_ge (pc := 16) dX1_pleaseEars_16 (t := 138) (by decide) (fun hc => ?_) (fun hc => ?_)
    · have h := h.1 hc
      exact PW.drop (hk138 _ _ _ _ _ hs1 hs2 hM h) ⟨rfl, rfl, rfl, rfl, rfl, trivial⟩
    · have h := h.2 hc
      refine PW.iload (pc := 19) dX1_pleaseEars_19 rfl ?_
      refine PW.aload_n (pc := 21) dX1_pleaseEars_21 rfl ?_
      refine PW.getI (pc := 22) dX1_pleaseEars_22 lf_X1_155 (ob hM.1 hs1 (by decide)) fx_5_13 ?_
      refine PW.icmp_ge (pc := 25) dX1_pleaseEars_25 (t := 43) (by decide) (fun hc => ?_) (fun hc => ?_)
      · have h := h.1 hc
        refine PW.iconst (pc := 43) dX1_pleaseEars_43 (v := 0) (by decide) ?_
        refine PW.istore (pc := 44) dX1_pleaseEars_44 (ls' := [.ref 44, .ref a1, .ref a2, .int x3, .int x4, .int x5, .int 0, .null]) (by decide) rfl rfl ?_
        refine PW.iconst (pc := 46) dX1_pleaseEars_46 (v := 0) (by decide) ?_
        refine PW.istore (pc := 47) dX1_pleaseEars_47 (ls' := [.ref 44, .ref a1, .ref a2, .int x3, .int x4, .int x5, .int 0, .int 0]) (by decide) rfl rfl ?_
        obtain ⟨n10, h⟩ := h
        refine PW.drop (c_X1_pleaseEars_49 ?_ n10 _ _ _ _ _ _ _ _ hs1 hs2 hM h) ⟨rfl, rfl, rfl, rfl, rfl, rfl, rfl, rfl, trivial⟩
        · intro a1 a2 x3 x4 x5 x6 M11 hs1 hs2 hM h
          refine PW.aload_n (pc := 120) dX1_pleaseEars_120 rfl ?_
          refine PW.getR (pc := 121) dX1_pleaseEars_121 (r := 50) lf_X1_29 (ob hM.1 s_44 (by decide)) fx_1_5 (oR_1_5 hM s_44) (pS_ne s_50) ?_
          refine PW.iload (pc := 124) dX1_pleaseEars_124 rfl ?_
          obtain ⟨v12, h⟩ := h
          refine PW.aaldA (pc := 126) dX1_pleaseEars_126 (ar hM.1 s_50) (vpl n_50 v12) (rR_50 hM (vp_lt v12)) (pS_ne (rS_50 (vp_lt v12))) ?_
          refine PW.iload (pc := 127) dX1_pleaseEars_127 rfl ?_
          refine PW.iload (pc := 129) dX1_pleaseEars_129 rfl ?_
          obtain ⟨v13, h⟩ := h
          refine PW.iast (pc := 131) dX1_pleaseEars_131 (ar hM.1 (rS_50 (vp_lt v12))) (vpl (rN_50 (vp_lt v12)) v13) ?_
          refine PW.iinc (pc := 132) dX1_pleaseEars_132 (v := (x5 + 1)) (ls' := [.ref 44, .ref a1, .ref a2, .int x3, .int x4, .int (x5 + 1), .int x6, .null]) rfl rfl (by decide) rfl rfl ?_
          refine PW.goto (pc := 135) dX1_pleaseEars_135 (t := 11) (by decide) ?_
          exact PW.drop (ih _ _ _ _ _ _ hs1 hs2 (hM.same rfl rfl) h) ⟨rfl, rfl, rfl, rfl, rfl, rfl, trivial⟩
      · have h := h.2 hc
        refine PW.aload_n (pc := 28) dX1_pleaseEars_28 rfl ?_
        refine PW.getR (pc := 29) dX1_pleaseEars_29 (r := 50) lf_X1_29 (ob hM.1 s_44 (by decide)) fx_1_5 (oR_1_5 hM s_44) (pS_ne s_50) ?_
        refine PW.iload (pc := 32) dX1_pleaseEars_32 rfl ?_
        refine PW.iconst (pc := 34) dX1_pleaseEars_34 (v := 1) (by decide) ?_
        refine PW.iadd (pc := 35) dX1_pleaseEars_35 ?_
        obtain ⟨v14, h⟩ := h
        refine PW.aaldA (pc := 36) dX1_pleaseEars_36 (ar hM.1 s_50) (vpl n_50 v14) (rR_50 hM (vp_lt v14)) (pS_ne (rS_50 (vp_lt v14))) ?_
        refine PW.iload (pc := 37) dX1_pleaseEars_37 rfl ?_
        obtain ⟨v15, h⟩ := h
        refine PW.iald (pc := 39) dX1_pleaseEars_39 (ar hM.1 (rS_50 (vp_lt v14))) (vpl (rN_50 (vp_lt v14)) v15) ?_
        refine PW.goto (pc := 40) dX1_pleaseEars_40 (t := 44) (by decide) ?_
        refine PW.istore (pc := 44) dX1_pleaseEars_44 (ls' := [.ref 44, .ref a1, .ref a2, .int x3, .int x4, .int x5, .int (mI M (51 + (x4 + 1).toNatClampNeg) x5.toNatClampNeg), .null]) (by decide) rfl rfl ?_
        refine PW.iconst (pc := 46) dX1_pleaseEars_46 (v := 0) (by decide) ?_
        refine PW.istore (pc := 47) dX1_pleaseEars_47 (ls' := [.ref 44, .ref a1, .ref a2, .int x3, .int x4, .int x5, .int (mI M (51 + (x4 + 1).toNatClampNeg) x5.toNatClampNeg), .int 0]) (by decide) rfl rfl ?_
        obtain ⟨n16, h⟩ := h
        refine PW.drop (c_X1_pleaseEars_49 ?_ n16 _ _ _ _ _ _ _ _ hs1 hs2 hM h) ⟨rfl, rfl, rfl, rfl, rfl, rfl, rfl, rfl, trivial⟩
        · intro a1 a2 x3 x4 x5 x6 M17 hs1 hs2 hM h
          refine PW.aload_n (pc := 120) dX1_pleaseEars_120 rfl ?_
          refine PW.getR (pc := 121) dX1_pleaseEars_121 (r := 50) lf_X1_29 (ob hM.1 s_44 (by decide)) fx_1_5 (oR_1_5 hM s_44) (pS_ne s_50) ?_
          refine PW.iload (pc := 124) dX1_pleaseEars_124 rfl ?_
          obtain ⟨v18, h⟩ := h
          refine PW.aaldA (pc := 126) dX1_pleaseEars_126 (ar hM.1 s_50) (vpl n_50 v18) (rR_50 hM (vp_lt v18)) (pS_ne (rS_50 (vp_lt v18))) ?_
          refine PW.iload (pc := 127) dX1_pleaseEars_127 rfl ?_
          refine PW.iload (pc := 129) dX1_pleaseEars_129 rfl ?_
          obtain ⟨v19, h⟩ := h
          refine PW.iast (pc := 131) dX1_pleaseEars_131 (ar hM.1 (rS_50 (vp_lt v18))) (vpl (rN_50 (vp_lt v18)) v19) ?_
          refine PW.iinc (pc := 132) dX1_pleaseEars_132 (v := (x5 + 1)) (ls' := [.ref 44, .ref a1, .ref a2, .int x3, .int x4, .int (x5 + 1), .int x6, .null]) rfl rfl (by decide) rfl rfl ?_
          refine PW.goto (pc := 135) dX1_pleaseEars_135 (t := 11) (by decide) ?_
          exact PW.drop (ih _ _ _ _ _ _ hs1 hs2 (hM.same rfl rfl) h) ⟨rfl, rfl, rfl, rfl, rfl, rfl, trivial⟩
def w_X1_pleaseEars_3 : Nat → Nat → Nat → Int32 → Int32 → pm → (pm → Prop) → Prop
  | 0, _, _, _, _, _, _ => False
  | n + 1, a1, a2, x3, x4, M, Q => ((x4 < 0 → (Q M)) ∧ (¬ x4 < 0 → (∃ n20, w_X1_pleaseEars_11 n20 a1 a2 x3 x4 0 M (fun a1 a2 x3 x4 M21 => w_X1_pleaseEars_3 n a1 a2 x3 (x4 + (-1)) M21 Q) Q)))
set_option maxRecDepth 4000 in
theorem c_X1_pleaseEars_3  {Q : pm → Prop}  : ∀ (n : Nat) (a1 : Nat) (a2 : Nat) (x3 : Int32) (x4 : Int32) (M : pm), pS 5 a1 → pS 4 a2 → pG M → w_X1_pleaseEars_3 n a1 a2 x3 x4 M  Q → PW mX1_pleaseEars 3 350 3 [.ref 44, .ref a1, .ref a2, .int x3, .int x4, .null, .null, .null] [] M (qV Q) := by
  intro n
  induction n with
  | zero => intro a1 a2 x3 x4 M hs1 hs2 hM h; exact h.elim
  | succ n ih =>
    intro a1 a2 x3 x4 M hs1 hs2 hM h
    unfold w_X1_pleaseEars_3 at h
    refine PW.iload (pc := 3) dX1_pleaseEars_3 rfl ?_
    refine PW.if_lt (pc := 5) dX1_pleaseEars_5 (t := 144) (by decide) (fun hc => ?_) (fun hc => ?_)
    · have h := h.1 hc
      exact PW.ret0 (pc := 144) dX1_pleaseEars_144 hM.1 rfl ⟨hM, rfl, h⟩
    · have h := h.2 hc
      refine PW.iconst (pc := 8) dX1_pleaseEars_8 (v := 0) (by decide) ?_
      refine PW.istore (pc := 9) dX1_pleaseEars_9 (ls' := [.ref 44, .ref a1, .ref a2, .int x3, .int x4, .int 0, .null, .null]) (by decide) rfl rfl ?_
      obtain ⟨n20, h⟩ := h
      refine PW.drop (c_X1_pleaseEars_11 ?_ n20 _ _ _ _ _ _ hs1 hs2 hM h) ⟨rfl, rfl, rfl, rfl, rfl, rfl, trivial⟩
      · intro a1 a2 x3 x4 M21 hs1 hs2 hM h
        refine PW.iinc (pc := 138) dX1_pleaseEars_138 (v := (x4 + (-1))) (ls' := [.ref 44, .ref a1, .ref a2, .int x3, .int (x4 + (-1)), .null, .null, .null]) rfl rfl (by decide) rfl rfl ?_
        refine PW.goto (pc := 141) dX1_pleaseEars_141 (t := 3) (by decide) ?_
        exact PW.drop (ih _ _ _ _ _ hs1 hs2 hM h) ⟨rfl, rfl, rfl, rfl, rfl, trivial⟩
def w_X1_pleaseEars (a1 : Nat) (a2 : Nat) (x3 : Int32) (M : pm) (Q : pm → Prop) : Prop := ∃ n22, w_X1_pleaseEars_3 n22 a1 a2 x3 5 M  Q
set_option maxRecDepth 4000 in
theorem c_X1_pleaseEars {a1 : Nat} {a2 : Nat} {x3 : Int32} {M : pm} {Q : pm → Prop} (hs1 : pS 5 a1) (hs2 : pS 4 a2) (hM : pG M) (h : w_X1_pleaseEars a1 a2 x3 M Q) : PW mX1_pleaseEars 3 350 0 (pfr mX1_pleaseEars.2.2.1 [.ref 44, .ref a1, .ref a2, .int x3]) [] M (qV Q) := by
  unfold w_X1_pleaseEars at h
  show PW mX1_pleaseEars 3 350 0 [.ref 44, .ref a1, .ref a2, .int x3, .null, .null, .null, .null] [] M (qV Q)
  refine PW.iconst (pc := 0) dX1_pleaseEars_0 (v := 5) (by decide) ?_
  refine PW.istore (pc := 1) dX1_pleaseEars_1 (ls' := [.ref 44, .ref a1, .ref a2, .int x3, .int 5, .null, .null, .null]) (by decide) rfl rfl ?_
  obtain ⟨n22, h⟩ := h
  refine PW.drop (c_X1_pleaseEars_3  n22 _ _ _ _ _ hs1 hs2 hM h) ⟨rfl, rfl, rfl, rfl, rfl, trivial⟩
def w_X1_heardBy_31 : Nat → Nat → Nat → Int32 → Int32 → Int32 → Int32 → Int32 → Int32 → pm → (Nat → Nat → Int32 → Int32 → Int32 → Int32 → Int32 → pm → Prop) → (Int32 → pm → Prop) → Prop
  | 0, _, _, _, _, _, _, _, _, _, _, _ => False
  | n + 1, a1, a2, x3, x4, x5, x6, x7, x8, M, k128, Q => (((mI M a1 8) ≤ x8 → (k128 a1 a2 x3 x4 x5 x6 x7 M)) ∧ (¬ (mI M a1 8) ≤ x8 → (w_X1_pleased (x7 + 1) x5 M (fun y2 M1 => w_X1_pleased x7 x5 M1 (fun y5 M4 => ((y2 = y5 → (k128 a1 a2 x3 x4 x5 x6 x7 M4)) ∧ (¬ y2 = y5 → ((¬ x6 = (-1) → (k128 a1 a2 x3 x4 x5 x6 x7 M4)) ∧ (x6 = (-1) → ((¬ (((x3 &&& (x5 ^^^ (-1))) >>> (x8 &&& 31)) &&& 1) = 1 → (w_X1_heardBy_31 n a1 a2 x3 x4 x5 x6 x7 (x8 + 1) M4 k128 Q)) ∧ ((((x3 &&& (x5 ^^^ (-1))) >>> (x8 &&& 31)) &&& 1) = 1 → (w_X1_pleasedBy a1 a2 x7 x8 M4 (fun y8 M7 => w_X1_pleased (x7 + 1) (x5 ||| (1 <<< (x8 &&& 31))) M7 (fun y11 M10 => w_X1_pleased x7 x5 M10 (fun y14 M13 => ((¬ (y8 + y11) = y14 → (w_X1_heardBy_31 n a1 a2 x3 x4 x5 x6 x7 (x8 + 1) M13 k128 Q)) ∧ ((y8 + y11) = y14 → (w_X1_heardBy_31 n a1 a2 x3 x4 x5 x8 x7 (x8 + 1) M13 k128 Q))))))))))))))))))
set_option maxRecDepth 4000 in
theorem c_X1_heardBy_31 {k128 : Nat → Nat → Int32 → Int32 → Int32 → Int32 → Int32 → pm → Prop} {Q : Int32 → pm → Prop} (hk128 : ∀ (a1 : Nat) (a2 : Nat) (x3 : Int32) (x4 : Int32) (x5 : Int32) (x6 : Int32) (x7 : Int32) (M : pm), pS 5 a1 → pS 4 a2 → pG M → k128 a1 a2 x3 x4 x5 x6 x7 M → PW mX1_heardBy 3 350 128 [.ref 44, .ref a1, .ref a2, .int x3, .int x4, .int x5, .int x6, .int x7, .null] [] M (qI Q)) : ∀ (n : Nat) (a1 : Nat) (a2 : Nat) (x3 : Int32) (x4 : Int32) (x5 : Int32) (x6 : Int32) (x7 : Int32) (x8 : Int32) (M : pm), pS 5 a1 → pS 4 a2 → pG M → w_X1_heardBy_31 n a1 a2 x3 x4 x5 x6 x7 x8 M k128 Q → PW mX1_heardBy 3 350 31 [.ref 44, .ref a1, .ref a2, .int x3, .int x4, .int x5, .int x6, .int x7, .int x8] [] M (qI Q) := by
  intro n
  induction n with
  | zero => intro a1 a2 x3 x4 x5 x6 x7 x8 M hs1 hs2 hM h; exact h.elim
  | succ n ih =>
    intro a1 a2 x3 x4 x5 x6 x7 x8 M hs1 hs2 hM h
    unfold w_X1_heardBy_31 at h
    refine PW.iload (pc := 31) dX1_heardBy_31 rfl ?_
    refine PW.aload_n (pc := 33) dX1_heardBy_33 rfl ?_
    refine PW.getI (pc := 34) dX1_heardBy_34 lf_X1_117 (ob hM.1 hs1 (by decide)) fx_5_8 ?_
    refine PW.icmp_ge (pc := 37) dX1_heardBy_37 (t := 128) (by decide) (fun hc => ?_) (fun hc => ?_)
    · have h := h.1 hc
      exact PW.drop (hk128 _ _ _ _ _ _ _ _ hs1 hs2 hM h) ⟨rfl, rfl, rfl, rfl, rfl, rfl, rfl, rfl, trivial⟩
    · have h := h.2 hc
      refine PW.aload_n (pc := 40) dX1_heardBy_40 rfl ?_
      refine PW.iload (pc := 41) dX1_heardBy_41 rfl ?_
      refine PW.iconst (pc := 43) dX1_heardBy_43 (v := 1) (by decide) ?_
      refine PW.iadd (pc := 44) dX1_heardBy_44 ?_
      refine PW.iload (pc := 45) dX1_heardBy_45 rfl ?_
      refine PW.inv (m' := mX1_pleased) (pc := 47) dX1_heardBy_47 lm_X1_162 me_X1_pleased mi_X1_pleased (ob hM.1 s_44 (by decide)) rfl (As := [.int (x7 + 1), .int x5]) (st := []) rfl (Nat.le_of_ble_eq_true rfl) (Nat.le_of_ble_eq_true rfl) (Nat.le_of_eq hM.1) (Nat.le_refl _) (PW.deep (by decide) (c_X1_pleased  hM h)) ?_
      rintro _ M1 ⟨hM3, y2, rfl, h⟩
      refine PW.aload_n (pc := 50) dX1_heardBy_50 rfl ?_
      refine PW.iload (pc := 51) dX1_heardBy_51 rfl ?_
      refine PW.iload (pc := 53) dX1_heardBy_53 rfl ?_
      refine PW.inv (m' := mX1_pleased) (pc := 55) dX1_heardBy_55 lm_X1_162 me_X1_pleased mi_X1_pleased (ob hM3.1 s_44 (by decide)) rfl (As := [.int x7, .int x5]) (st := [.int y2]) rfl (Nat.le_of_ble_eq_true rfl) (Nat.le_of_ble_eq_true rfl) (Nat.le_of_eq hM3.1) (Nat.le_refl _) (PW.deep (by decide) (c_X1_pleased  hM3 h)) ?_
      rintro _ M4 ⟨hM6, y5, rfl, h⟩
      refine PW.icmp_eq (pc := 58) dX1_heardBy_58 (t := 128) (by decide) (fun hc => ?_) (fun hc => ?_)
      · have h := h.1 hc
        exact PW.drop (hk128 _ _ _ _ _ _ _ _ hs1 hs2 hM6 h) ⟨rfl, rfl, rfl, rfl, rfl, rfl, rfl, rfl, trivial⟩
      · have h := h.2 hc
        refine PW.iload (pc := 61) dX1_heardBy_61 rfl ?_
        refine PW.iconst (pc := 63) dX1_heardBy_63 (v := (-1)) (by decide) ?_
        refine PW.icmp_ne (pc := 64) dX1_heardBy_64 (t := 128) (by decide) (fun hc => ?_) (fun hc => ?_)
        · have h := h.1 hc
          exact PW.drop (hk128 _ _ _ _ _ _ _ _ hs1 hs2 hM6 h) ⟨rfl, rfl, rfl, rfl, rfl, rfl, rfl, rfl, trivial⟩
        · have h := h.2 hc
          refine PW.iload_n (pc := 67) dX1_heardBy_67 rfl ?_
          refine PW.iload (pc := 68) dX1_heardBy_68 rfl ?_
          refine PW.iconst (pc := 70) dX1_heardBy_70 (v := (-1)) (by decide) ?_
          refine PW.ixor (pc := 71) dX1_heardBy_71 ?_
          refine PW.iand (pc := 72) dX1_heardBy_72 ?_
          refine PW.iload (pc := 73) dX1_heardBy_73 rfl ?_
          refine PW.ishr (pc := 75) dX1_heardBy_75 ?_
          refine PW.iconst (pc := 76) dX1_heardBy_76 (v := 1) (by decide) ?_
          refine PW.iand (pc := 77) dX1_heardBy_77 ?_
          refine PW.iconst (pc := 78) dX1_heardBy_78 (v := 1) (by decide) ?_
          refine PW.icmp_ne (pc := 79) dX1_heardBy_79 (t := 122) (by decide) (fun hc => ?_) (fun hc => ?_)
          · have h := h.1 hc
            refine PW.iinc (pc := 122) dX1_heardBy_122 (v := (x8 + 1)) (ls' := [.ref 44, .ref a1, .ref a2, .int x3, .int x4, .int x5, .int x6, .int x7, .int (x8 + 1)]) rfl rfl (by decide) rfl rfl ?_
            refine PW.goto (pc := 125) dX1_heardBy_125 (t := 31) (by decide) ?_
            exact PW.drop (ih _ _ _ _ _ _ _ _ _ hs1 hs2 hM6 h) ⟨rfl, rfl, rfl, rfl, rfl, rfl, rfl, rfl, rfl, trivial⟩
          · have h := h.2 hc
            refine PW.aload_n (pc := 82) dX1_heardBy_82 rfl ?_
            refine PW.aload_n (pc := 83) dX1_heardBy_83 rfl ?_
            refine PW.iload (pc := 84) dX1_heardBy_84 rfl ?_
            refine PW.iload (pc := 86) dX1_heardBy_86 rfl ?_
            refine PW.ins (m' := mX1_pleasedBy) (pc := 88) dX1_heardBy_88 lm_X1_158 me_X1_pleasedBy ms_X1_pleasedBy (As := [.ref a1, .ref a2, .int x7, .int x8]) (st := []) rfl (Nat.le_of_ble_eq_true rfl) (Nat.le_of_ble_eq_true rfl) (Nat.le_of_eq hM6.1) (Nat.le_refl _) (PW.deep (by decide) (c_X1_pleasedBy hs1 hs2 hM6 h)) ?_
            rintro _ M7 ⟨hM9, y8, rfl, h⟩
            refine PW.aload_n (pc := 91) dX1_heardBy_91 rfl ?_
            refine PW.iload (pc := 92) dX1_heardBy_92 rfl ?_
            refine PW.iconst (pc := 94) dX1_heardBy_94 (v := 1) (by decide) ?_
            refine PW.iadd (pc := 95) dX1_heardBy_95 ?_
            refine PW.iload (pc := 96) dX1_heardBy_96 rfl ?_
            refine PW.iconst (pc := 98) dX1_heardBy_98 (v := 1) (by decide) ?_
            refine PW.iload (pc := 99) dX1_heardBy_99 rfl ?_
            refine PW.ishl (pc := 101) dX1_heardBy_101 ?_
            refine PW.ior (pc := 102) dX1_heardBy_102 ?_
            refine PW.inv (m' := mX1_pleased) (pc := 103) dX1_heardBy_103 lm_X1_162 me_X1_pleased mi_X1_pleased (ob hM9.1 s_44 (by decide)) rfl (As := [.int (x7 + 1), .int (x5 ||| (1 <<< (x8 &&& 31)))]) (st := [.int y8]) rfl (Nat.le_of_ble_eq_true rfl) (Nat.le_of_ble_eq_true rfl) (Nat.le_of_eq hM9.1) (Nat.le_refl _) (PW.deep (by decide) (c_X1_pleased  hM9 h)) ?_
            rintro _ M10 ⟨hM12, y11, rfl, h⟩
            refine PW.iadd (pc := 106) dX1_heardBy_106 ?_
            refine PW.aload_n (pc := 107) dX1_heardBy_107 rfl ?_
            refine PW.iload (pc := 108) dX1_heardBy_108 rfl ?_
            refine PW.iload (pc := 110) dX1_heardBy_110 rfl ?_
            refine PW.inv (m' := mX1_pleased) (pc := 112) dX1_heardBy_112 lm_X1_162 me_X1_pleased mi_X1_pleased (ob hM12.1 s_44 (by decide)) rfl (As := [.int x7, .int x5]) (st := [.int (y8 + y11)]) rfl (Nat.le_of_ble_eq_true rfl) (Nat.le_of_ble_eq_true rfl) (Nat.le_of_eq hM12.1) (Nat.le_refl _) (PW.deep (by decide) (c_X1_pleased  hM12 h)) ?_
            rintro _ M13 ⟨hM15, y14, rfl, h⟩
            refine PW.icmp_ne (pc := 115) dX1_heardBy_115 (t := 122) (by decide) (fun hc => ?_) (fun hc => ?_)
            · have h := h.1 hc
              refine PW.iinc (pc := 122) dX1_heardBy_122 (v := (x8 + 1)) (ls' := [.ref 44, .ref a1, .ref a2, .int x3, .int x4, .int x5, .int x6, .int x7, .int (x8 + 1)]) rfl rfl (by decide) rfl rfl ?_
              refine PW.goto (pc := 125) dX1_heardBy_125 (t := 31) (by decide) ?_
              exact PW.drop (ih _ _ _ _ _ _ _ _ _ hs1 hs2 hM15 h) ⟨rfl, rfl, rfl, rfl, rfl, rfl, rfl, rfl, rfl, trivial⟩
            · have h := h.2 hc
              refine PW.iload (pc := 118) dX1_heardBy_118 rfl ?_
              refine PW.istore (pc := 120) dX1_heardBy_120 (ls' := [.ref 44, .ref a1, .ref a2, .int x3, .int x4, .int x5, .int x8, .int x7, .int x8]) (by decide) rfl rfl ?_
              refine PW.iinc (pc := 122) dX1_heardBy_122 (v := (x8 + 1)) (ls' := [.ref 44, .ref a1, .ref a2, .int x3, .int x4, .int x5, .int x8, .int x7, .int (x8 + 1)]) rfl rfl (by decide) rfl rfl ?_
              refine PW.goto (pc := 125) dX1_heardBy_125 (t := 31) (by decide) ?_
              exact PW.drop (ih _ _ _ _ _ _ _ _ _ hs1 hs2 hM15 h) ⟨rfl, rfl, rfl, rfl, rfl, rfl, rfl, rfl, rfl, trivial⟩
def w_X1_heardBy_128  (a1 : Nat) (a2 : Nat) (x3 : Int32) (x4 : Int32) (x5 : Int32) (x6 : Int32) (x7 : Int32) (M : pm) (r : Nat → Nat → Int32 → Int32 → Int32 → Int32 → Int32 → pm → Prop)  (Q : Int32 → pm → Prop) : Prop := ((x6 = (-1) → (r a1 a2 x3 x4 x5 x6 (x7 + 1) M)) ∧ (¬ x6 = (-1) → (r a1 a2 x3 x4 (x5 ||| (1 <<< (x6 &&& 31))) x6 (x7 + 1) M)))
set_option maxRecDepth 4000 in
theorem c_X1_heardBy_128 {r : Nat → Nat → Int32 → Int32 → Int32 → Int32 → Int32 → pm → Prop}  {Q : Int32 → pm → Prop} (hr : ∀ (a1 : Nat) (a2 : Nat) (x3 : Int32) (x4 : Int32) (x5 : Int32) (x6 : Int32) (x7 : Int32) (M : pm), pS 5 a1 → pS 4 a2 → pG M → r a1 a2 x3 x4 x5 x6 x7 M → PW mX1_heardBy 3 350 9 [.ref 44, .ref a1, .ref a2, .int x3, .int x4, .int x5, .int x6, .int x7, .null] [] M (qI Q)) : ∀ (a1 : Nat) (a2 : Nat) (x3 : Int32) (x4 : Int32) (x5 : Int32) (x6 : Int32) (x7 : Int32) (M : pm), pS 5 a1 → pS 4 a2 → pG M → w_X1_heardBy_128 a1 a2 x3 x4 x5 x6 x7 M r Q → PW mX1_heardBy 3 350 128 [.ref 44, .ref a1, .ref a2, .int x3, .int x4, .int x5, .int x6, .int x7, .null] [] M (qI Q) := by
  intro a1 a2 x3 x4 x5 x6 x7 M hs1 hs2 hM h
  unfold w_X1_heardBy_128 at h
  refine PW.iload (pc := 128) dX1_heardBy_128 rfl ?_
  refine PW.iconst (pc := 130) dX1_heardBy_130 (v := (-1)) (by decide) ?_
  refine PW.icmp_eq (pc := 131) dX1_heardBy_131 (t := 143) (by decide) (fun hc => ?_) (fun hc => ?_)
  · have h := h.1 hc
    refine PW.iinc (pc := 143) dX1_heardBy_143 (v := (x7 + 1)) (ls' := [.ref 44, .ref a1, .ref a2, .int x3, .int x4, .int x5, .int x6, .int (x7 + 1), .null]) rfl rfl (by decide) rfl rfl ?_
    refine PW.goto (pc := 146) dX1_heardBy_146 (t := 9) (by decide) ?_
    exact PW.drop (hr _ _ _ _ _ _ _ _ hs1 hs2 hM h) ⟨rfl, rfl, rfl, rfl, rfl, rfl, rfl, rfl, trivial⟩
  · have h := h.2 hc
    refine PW.iload (pc := 134) dX1_heardBy_134 rfl ?_
    refine PW.iconst (pc := 136) dX1_heardBy_136 (v := 1) (by decide) ?_
    refine PW.iload (pc := 137) dX1_heardBy_137 rfl ?_
    refine PW.ishl (pc := 139) dX1_heardBy_139 ?_
    refine PW.ior (pc := 140) dX1_heardBy_140 ?_
    refine PW.istore (pc := 141) dX1_heardBy_141 (ls' := [.ref 44, .ref a1, .ref a2, .int x3, .int x4, .int (x5 ||| (1 <<< (x6 &&& 31))), .int x6, .int x7, .null]) (by decide) rfl rfl ?_
    refine PW.iinc (pc := 143) dX1_heardBy_143 (v := (x7 + 1)) (ls' := [.ref 44, .ref a1, .ref a2, .int x3, .int x4, .int (x5 ||| (1 <<< (x6 &&& 31))), .int x6, .int (x7 + 1), .null]) rfl rfl (by decide) rfl rfl ?_
    refine PW.goto (pc := 146) dX1_heardBy_146 (t := 9) (by decide) ?_
    exact PW.drop (hr _ _ _ _ _ _ _ _ hs1 hs2 hM h) ⟨rfl, rfl, rfl, rfl, rfl, rfl, rfl, rfl, trivial⟩
def w_X1_heardBy_9 : Nat → Nat → Nat → Int32 → Int32 → Int32 → Int32 → Int32 → pm → (Int32 → pm → Prop) → Prop
  | 0, _, _, _, _, _, _, _, _, _ => False
  | n + 1, a1, a2, x3, x4, x5, x6, x7, M, Q => ((x4 < x7 → (Q x6 M)) ∧ (¬ x4 < x7 → (((mI M a1 13) ≤ x7 → (Q x6 M)) ∧ (¬ (mI M a1 13) ≤ x7 → (∃ n16, w_X1_heardBy_31 n16 a1 a2 x3 x4 x5 (-1) x7 0 M (fun a1 a2 x3 x4 x5 x6 x7 M17 => w_X1_heardBy_128 a1 a2 x3 x4 x5 x6 x7 M17 (fun a1 a2 x3 x4 x5 x6 x7 M => w_X1_heardBy_9 n a1 a2 x3 x4 x5 x6 x7 M  Q) Q) Q)))))
set_option maxRecDepth 4000 in
theorem c_X1_heardBy_9  {Q : Int32 → pm → Prop}  : ∀ (n : Nat) (a1 : Nat) (a2 : Nat) (x3 : Int32) (x4 : Int32) (x5 : Int32) (x6 : Int32) (x7 : Int32) (M : pm), pS 5 a1 → pS 4 a2 → pG M → w_X1_heardBy_9 n a1 a2 x3 x4 x5 x6 x7 M  Q → PW mX1_heardBy 3 350 9 [.ref 44, .ref a1, .ref a2, .int x3, .int x4, .int x5, .int x6, .int x7, .null] [] M (qI Q) := by
  intro n
  induction n with
  | zero => intro a1 a2 x3 x4 x5 x6 x7 M hs1 hs2 hM h; exact h.elim
  | succ n ih =>
    intro a1 a2 x3 x4 x5 x6 x7 M hs1 hs2 hM h
    unfold w_X1_heardBy_9 at h
    refine PW.iload (pc := 9) dX1_heardBy_9 rfl ?_
    refine PW.iload (pc := 11) dX1_heardBy_11 rfl ?_
    refine PW.icmp_gt (pc := 13) dX1_heardBy_13 (t := 149) (by decide) (fun hc => ?_) (fun hc => ?_)
    · have h := h.1 hc
      refine PW.iload (pc := 149) dX1_heardBy_149 rfl ?_
      exact PW.retI (pc := 151) dX1_heardBy_151 hM.1 rfl rfl ⟨hM, _, rfl, h⟩
    · have h := h.2 hc
      refine PW.iload (pc := 16) dX1_heardBy_16 rfl ?_
      refine PW.aload_n (pc := 18) dX1_heardBy_18 rfl ?_
      refine PW.getI (pc := 19) dX1_heardBy_19 lf_X1_155 (ob hM.1 hs1 (by decide)) fx_5_13 ?_
      refine PW.icmp_ge (pc := 22) dX1_heardBy_22 (t := 149) (by decide) (fun hc => ?_) (fun hc => ?_)
      · have h := h.1 hc
        refine PW.iload (pc := 149) dX1_heardBy_149 rfl ?_
        exact PW.retI (pc := 151) dX1_heardBy_151 hM.1 rfl rfl ⟨hM, _, rfl, h⟩
      · have h := h.2 hc
        refine PW.iconst (pc := 25) dX1_heardBy_25 (v := (-1)) (by decide) ?_
        refine PW.istore (pc := 26) dX1_heardBy_26 (ls' := [.ref 44, .ref a1, .ref a2, .int x3, .int x4, .int x5, .int (-1), .int x7, .null]) (by decide) rfl rfl ?_
        refine PW.iconst (pc := 28) dX1_heardBy_28 (v := 0) (by decide) ?_
        refine PW.istore (pc := 29) dX1_heardBy_29 (ls' := [.ref 44, .ref a1, .ref a2, .int x3, .int x4, .int x5, .int (-1), .int x7, .int 0]) (by decide) rfl rfl ?_
        obtain ⟨n16, h⟩ := h
        refine PW.drop (c_X1_heardBy_31 ?_ n16 _ _ _ _ _ _ _ _ _ hs1 hs2 hM h) ⟨rfl, rfl, rfl, rfl, rfl, rfl, rfl, rfl, rfl, trivial⟩
        · intro a1 a2 x3 x4 x5 x6 x7 M17 hs1 hs2 hM h
          exact PW.drop (c_X1_heardBy_128 ih _ _ _ _ _ _ _ _ hs1 hs2 hM h) ⟨rfl, rfl, rfl, rfl, rfl, rfl, rfl, rfl, trivial⟩
def w_X1_heardBy (a1 : Nat) (a2 : Nat) (x3 : Int32) (x4 : Int32) (M : pm) (Q : Int32 → pm → Prop) : Prop := ∃ n18, w_X1_heardBy_9 n18 a1 a2 x3 x4 0 (-1) 0 M  Q
set_option maxRecDepth 4000 in
theorem c_X1_heardBy {a1 : Nat} {a2 : Nat} {x3 : Int32} {x4 : Int32} {M : pm} {Q : Int32 → pm → Prop} (hs1 : pS 5 a1) (hs2 : pS 4 a2) (hM : pG M) (h : w_X1_heardBy a1 a2 x3 x4 M Q) : PW mX1_heardBy 3 350 0 (pfr mX1_heardBy.2.2.1 [.ref 44, .ref a1, .ref a2, .int x3, .int x4]) [] M (qI Q) := by
  unfold w_X1_heardBy at h
  show PW mX1_heardBy 3 350 0 [.ref 44, .ref a1, .ref a2, .int x3, .int x4, .null, .null, .null, .null] [] M (qI Q)
  refine PW.iconst (pc := 0) dX1_heardBy_0 (v := 0) (by decide) ?_
  refine PW.istore (pc := 1) dX1_heardBy_1 (ls' := [.ref 44, .ref a1, .ref a2, .int x3, .int x4, .int 0, .null, .null, .null]) (by decide) rfl rfl ?_
  refine PW.iconst (pc := 3) dX1_heardBy_3 (v := (-1)) (by decide) ?_
  refine PW.istore (pc := 4) dX1_heardBy_4 (ls' := [.ref 44, .ref a1, .ref a2, .int x3, .int x4, .int 0, .int (-1), .null, .null]) (by decide) rfl rfl ?_
  refine PW.iconst (pc := 6) dX1_heardBy_6 (v := 0) (by decide) ?_
  refine PW.istore (pc := 7) dX1_heardBy_7 (ls' := [.ref 44, .ref a1, .ref a2, .int x3, .int x4, .int 0, .int (-1), .int 0, .null]) (by decide) rfl rfl ?_
  obtain ⟨n18, h⟩ := h
  refine PW.drop (c_X1_heardBy_9  n18 _ _ _ _ _ _ _ _ hs1 hs2 hM h) ⟨rfl, rfl, rfl, rfl, rfl, rfl, rfl, rfl, trivial⟩
def w_X2_empty_7 : Nat → Nat → Int32 → pm → (pm → Prop) → Prop
  | 0, _, _, _, _ => False
  | n + 1, a0, x1, M, Q => ((3 ≤ x1 → (Q M)) ∧ (¬ 3 ≤ x1 → (vp_in x1 3 ∧ (vp_in x1 3 ∧ (vp_in x1 3 ∧ (w_X2_empty_7 n a0 (x1 + 1) (sI (sI (sI M (a0 + 2) x1.toNatClampNeg 0) (a0 + 3) x1.toNatClampNeg 0) (a0 + 4) x1.toNatClampNeg (vp_nar .boolean 0)) Q))))))
set_option maxRecDepth 4000 in
theorem c_X2_empty_7  {Q : pm → Prop}  : ∀ (n : Nat) (a0 : Nat) (x1 : Int32) (M : pm), pS 2 a0 → pG M → w_X2_empty_7 n a0 x1 M  Q → PW mX2_empty 1 350 7 [.ref a0, .int x1] [] M (qV Q) := by
  intro n
  induction n with
  | zero => intro a0 x1 M hs0 hM h; exact h.elim
  | succ n ih =>
    intro a0 x1 M hs0 hM h
    unfold w_X2_empty_7 at h
    refine PW.iload_n (pc := 7) dX2_empty_7 rfl ?_
    refine PW.iconst (pc := 8) dX2_empty_8 (v := 3) (by decide) ?_
    refine PW.icmp_ge (pc := 9) dX2_empty_9 (t := 39) (by decide) (fun hc => ?_) (fun hc => ?_)
    · have h := h.1 hc
      exact PW.ret0 (pc := 39) dX2_empty_39 hM.1 rfl ⟨hM, rfl, h⟩
    · have h := h.2 hc
      refine PW.aload_n (pc := 12) dX2_empty_12 rfl ?_
      refine PW.getR (pc := 13) dX2_empty_13 (r := (a0 + 2)) lf_X2_19 (ob hM.1 hs0 (by decide)) fx_2_2 (oR_2_2 hM hs0) (pS_ne (oS_2_2 hs0)) ?_
      refine PW.iload_n (pc := 16) dX2_empty_16 rfl ?_
      refine PW.iconst (pc := 17) dX2_empty_17 (v := 0) (by decide) ?_
      obtain ⟨v1, h⟩ := h
      refine PW.iast (pc := 18) dX2_empty_18 (ar hM.1 (oS_2_2 hs0)) (vpl (oN_2_2 hs0) v1) ?_
      refine PW.aload_n (pc := 19) dX2_empty_19 rfl ?_
      refine PW.getR (pc := 20) dX2_empty_20 (r := (a0 + 3)) lf_X2_22 (ob hM.1 hs0 (by decide)) fx_2_3 (oR_2_3 (hM.same rfl rfl) hs0) (pS_ne (oS_2_3 hs0)) ?_
      refine PW.iload_n (pc := 23) dX2_empty_23 rfl ?_
      refine PW.iconst (pc := 24) dX2_empty_24 (v := 0) (by decide) ?_
      obtain ⟨v2, h⟩ := h
      refine PW.iast (pc := 25) dX2_empty_25 (ar hM.1 (oS_2_3 hs0)) (vpl (oN_2_3 hs0) v2) ?_
      refine PW.aload_n (pc := 26) dX2_empty_26 rfl ?_
      refine PW.getR (pc := 27) dX2_empty_27 (r := (a0 + 4)) lf_X2_25 (ob hM.1 hs0 (by decide)) fx_2_4 (oR_2_4 (hM.same rfl rfl) hs0) (pS_ne (oS_2_4 hs0)) ?_
      refine PW.iload_n (pc := 30) dX2_empty_30 rfl ?_
      refine PW.iconst (pc := 31) dX2_empty_31 (v := 0) (by decide) ?_
      obtain ⟨v3, h⟩ := h
      refine PW.zast (pc := 32) dX2_empty_32 (ar hM.1 (oS_2_4 hs0)) (vpl (oN_2_4 hs0) v3) ?_
      refine PW.iinc (pc := 33) dX2_empty_33 (v := (x1 + 1)) (ls' := [.ref a0, .int (x1 + 1)]) rfl rfl (by decide) rfl rfl ?_
      refine PW.goto (pc := 36) dX2_empty_36 (t := 7) (by decide) ?_
      exact PW.drop (ih _ _ _ hs0 (hM.same rfl rfl) h) ⟨rfl, rfl, trivial⟩
def w_X2_empty (a0 : Nat) (M : pm) (Q : pm → Prop) : Prop := ∃ n4, w_X2_empty_7 n4 a0 0 (sI M a0 1 0)  Q
set_option maxRecDepth 4000 in
theorem c_X2_empty {a0 : Nat} {M : pm} {Q : pm → Prop} (hs0 : pS 2 a0) (hM : pG M) (h : w_X2_empty a0 M Q) : PW mX2_empty 1 350 0 (pfr mX2_empty.2.2.1 [.ref a0]) [] M (qV Q) := by
  unfold w_X2_empty at h
  show PW mX2_empty 1 350 0 [.ref a0, .null] [] M (qV Q)
  refine PW.aload_n (pc := 0) dX2_empty_0 rfl ?_
  refine PW.iconst (pc := 1) dX2_empty_1 (v := 0) (by decide) ?_
  refine PW.putI (pc := 2) dX2_empty_2 lf_X2_15 (ob hM.1 hs0 (by decide)) fx_2_1 fw_2_1 rfl rfl ?_
  refine PW.iconst (pc := 5) dX2_empty_5 (v := 0) (by decide) ?_
  refine PW.istore_n (pc := 6) dX2_empty_6 (ls' := [.ref a0, .int 0]) (by decide) rfl rfl ?_
  obtain ⟨n4, h⟩ := h
  refine PW.drop (c_X2_empty_7  n4 _ _ _ hs0 (hM.same rfl rfl) h) ⟨rfl, rfl, trivial⟩
def w_X2_add (a0 : Nat) (x1 : Int32) (M : pm) (Q : pm → Prop) : Prop := ((1600 ≤ (mI M a0 1) → (Q M)) ∧ (¬ 1600 ≤ (mI M a0 1) → (vp_in (mI M a0 1) 1600 ∧ (Q (sI (sI M (a0 + 1) ((mI M a0 1).toNatClampNeg) x1) a0 1 ((mI (sI M (a0 + 1) ((mI M a0 1).toNatClampNeg) x1) a0 1) + 1))))))
set_option maxRecDepth 4000 in
theorem c_X2_add {a0 : Nat} {x1 : Int32} {M : pm} {Q : pm → Prop} (hs0 : pS 2 a0) (hM : pG M) (h : w_X2_add a0 x1 M Q) : PW mX2_add 1 350 0 (pfr mX2_add.2.2.1 [.ref a0, .int x1]) [] M (qV Q) := by
  unfold w_X2_add at h
  show PW mX2_add 1 350 0 [.ref a0, .int x1] [] M (qV Q)
  refine PW.aload_n (pc := 0) dX2_add_0 rfl ?_
  refine PW.getI (pc := 1) dX2_add_1 lf_X2_15 (ob hM.1 hs0 (by decide)) fx_2_1 ?_
  refine PW.aload_n (pc := 4) dX2_add_4 rfl ?_
  refine PW.getR (pc := 5) dX2_add_5 (r := (a0 + 1)) lf_X2_9 (ob hM.1 hs0 (by decide)) fx_2_0 (oR_2_0 hM hs0) (pS_ne (oS_2_0 hs0)) ?_
  refine PW.alen (pc := 8) dX2_add_8 (v := 1600) (ar hM.1 (oS_2_0 hs0)) (by decide) (by rw [(oN_2_0 hs0)]; rfl) ?_
  refine PW.icmp_ge (pc := 9) dX2_add_9 (t := 32) (by decide) (fun hc => ?_) (fun hc => ?_)
  · have h := h.1 hc
    exact PW.ret0 (pc := 32) dX2_add_32 hM.1 rfl ⟨hM, rfl, h⟩
  · have h := h.2 hc
    refine PW.aload_n (pc := 12) dX2_add_12 rfl ?_
    refine PW.getR (pc := 13) dX2_add_13 (r := (a0 + 1)) lf_X2_9 (ob hM.1 hs0 (by decide)) fx_2_0 (oR_2_0 hM hs0) (pS_ne (oS_2_0 hs0)) ?_
    refine PW.aload_n (pc := 16) dX2_add_16 rfl ?_
    refine PW.getI (pc := 17) dX2_add_17 lf_X2_15 (ob hM.1 hs0 (by decide)) fx_2_1 ?_
    refine PW.iload_n (pc := 20) dX2_add_20 rfl ?_
    obtain ⟨v1, h⟩ := h
    refine PW.iast (pc := 21) dX2_add_21 (ar hM.1 (oS_2_0 hs0)) (vpl (oN_2_0 hs0) v1) ?_
    refine PW.aload_n (pc := 22) dX2_add_22 rfl ?_
    refine PW.dupR (pc := 23) dX2_add_23 ?_
    refine PW.getI (pc := 24) dX2_add_24 lf_X2_15 (ob hM.1 hs0 (by decide)) fx_2_1 ?_
    refine PW.iconst (pc := 27) dX2_add_27 (v := 1) (by decide) ?_
    refine PW.iadd (pc := 28) dX2_add_28 ?_
    refine PW.putI (pc := 29) dX2_add_29 lf_X2_15 (ob hM.1 hs0 (by decide)) fx_2_1 fw_2_1 rfl rfl ?_
    exact PW.ret0 (pc := 32) dX2_add_32 hM.1 rfl ⟨(hM.same rfl rfl), rfl, h⟩
def w_X2_hasPart (a0 : Nat) (x1 : Int32) (M : pm) (Q : Int32 → pm → Prop) : Prop := ((x1 < 0 → (Q 0 M)) ∧ (¬ x1 < 0 → ((3 ≤ x1 → (Q 0 M)) ∧ (¬ 3 ≤ x1 → (vp_in x1 3 ∧ (((mI M (a0 + 4) x1.toNatClampNeg) = 0 → (Q 0 M)) ∧ (¬ (mI M (a0 + 4) x1.toNatClampNeg) = 0 → (Q 1 M))))))))
set_option maxRecDepth 4000 in
theorem c_X2_hasPart {a0 : Nat} {x1 : Int32} {M : pm} {Q : Int32 → pm → Prop} (hs0 : pS 2 a0) (hM : pG M) (h : w_X2_hasPart a0 x1 M Q) : PW mX2_hasPart 1 350 0 (pfr mX2_hasPart.2.2.1 [.ref a0, .int x1]) [] M (qZ Q) := by
  unfold w_X2_hasPart at h
  show PW mX2_hasPart 1 350 0 [.ref a0, .int x1] [] M (qZ Q)
  refine PW.iload_n (pc := 0) dX2_hasPart_0 rfl ?_
  refine PW.if_lt (pc := 1) dX2_hasPart_1 (t := 22) (by decide) (fun hc => ?_) (fun hc => ?_)
  · have h := h.1 hc
    refine PW.iconst (pc := 22) dX2_hasPart_22 (v := 0) (by decide) ?_
    exact PW.retI (pc := 23) dX2_hasPart_23 hM.1 rfl (bz_n bz0) ⟨hM, _, rfl, bz0, h⟩
  · have h := h.2 hc
    refine PW.iload_n (pc := 4) dX2_hasPart_4 rfl ?_
    refine PW.iconst (pc := 5) dX2_hasPart_5 (v := 3) (by decide) ?_
    refine PW.icmp_ge (pc := 6) dX2_hasPart_6 (t := 22) (by decide) (fun hc => ?_) (fun hc => ?_)
    · have h := h.1 hc
      refine PW.iconst (pc := 22) dX2_hasPart_22 (v := 0) (by decide) ?_
      exact PW.retI (pc := 23) dX2_hasPart_23 hM.1 rfl (bz_n bz0) ⟨hM, _, rfl, bz0, h⟩
    · have h := h.2 hc
      refine PW.aload_n (pc := 9) dX2_hasPart_9 rfl ?_
      refine PW.getR (pc := 10) dX2_hasPart_10 (r := (a0 + 4)) lf_X2_25 (ob hM.1 hs0 (by decide)) fx_2_4 (oR_2_4 hM hs0) (pS_ne (oS_2_4 hs0)) ?_
      refine PW.iload_n (pc := 13) dX2_hasPart_13 rfl ?_
      obtain ⟨v1, h⟩ := h
      refine PW.zald (pc := 14) dX2_hasPart_14 (ar hM.1 (oS_2_4 hs0)) (vpl (oN_2_4 hs0) v1) ?_
      refine PW.if_eq (pc := 15) dX2_hasPart_15 (t := 22) (by decide) (fun hc => ?_) (fun hc => ?_)
      · have h := h.1 hc
        refine PW.iconst (pc := 22) dX2_hasPart_22 (v := 0) (by decide) ?_
        exact PW.retI (pc := 23) dX2_hasPart_23 hM.1 rfl (bz_n bz0) ⟨hM, _, rfl, bz0, h⟩
      · have h := h.2 hc
        refine PW.iconst (pc := 18) dX2_hasPart_18 (v := 1) (by decide) ?_
        refine PW.goto (pc := 19) dX2_hasPart_19 (t := 23) (by decide) ?_
        exact PW.retI (pc := 23) dX2_hasPart_23 hM.1 rfl (bz_n bz1) ⟨hM, _, rfl, bz1, h⟩
def w_X2_beginPart (a0 : Nat) (x1 : Int32) (M : pm) (Q : pm → Prop) : Prop := ((x1 < 0 → (Q M)) ∧ (¬ x1 < 0 → ((3 ≤ x1 → (Q M)) ∧ (¬ 3 ≤ x1 → (vp_in x1 3 ∧ (vp_in x1 3 ∧ (vp_in x1 3 ∧ (Q (sI (sI (sI M (a0 + 4) x1.toNatClampNeg (vp_nar .boolean 1)) (a0 + 2) x1.toNatClampNeg (mI (sI M (a0 + 4) x1.toNatClampNeg (vp_nar .boolean 1)) a0 1)) (a0 + 3) x1.toNatClampNeg (mI (sI (sI M (a0 + 4) x1.toNatClampNeg (vp_nar .boolean 1)) (a0 + 2) x1.toNatClampNeg (mI (sI M (a0 + 4) x1.toNatClampNeg (vp_nar .boolean 1)) a0 1)) a0 1))))))))))
set_option maxRecDepth 4000 in
theorem c_X2_beginPart {a0 : Nat} {x1 : Int32} {M : pm} {Q : pm → Prop} (hs0 : pS 2 a0) (hM : pG M) (h : w_X2_beginPart a0 x1 M Q) : PW mX2_beginPart 1 350 0 (pfr mX2_beginPart.2.2.1 [.ref a0, .int x1]) [] M (qV Q) := by
  unfold w_X2_beginPart at h
  show PW mX2_beginPart 1 350 0 [.ref a0, .int x1] [] M (qV Q)
  refine PW.iload_n (pc := 0) dX2_beginPart_0 rfl ?_
  refine PW.if_lt (pc := 1) dX2_beginPart_1 (t := 36) (by decide) (fun hc => ?_) (fun hc => ?_)
  · have h := h.1 hc
    exact PW.ret0 (pc := 36) dX2_beginPart_36 hM.1 rfl ⟨hM, rfl, h⟩
  · have h := h.2 hc
    refine PW.iload_n (pc := 4) dX2_beginPart_4 rfl ?_
    refine PW.iconst (pc := 5) dX2_beginPart_5 (v := 3) (by decide) ?_
    refine PW.icmp_ge (pc := 6) dX2_beginPart_6 (t := 36) (by decide) (fun hc => ?_) (fun hc => ?_)
    · have h := h.1 hc
      exact PW.ret0 (pc := 36) dX2_beginPart_36 hM.1 rfl ⟨hM, rfl, h⟩
    · have h := h.2 hc
      refine PW.aload_n (pc := 9) dX2_beginPart_9 rfl ?_
      refine PW.getR (pc := 10) dX2_beginPart_10 (r := (a0 + 4)) lf_X2_25 (ob hM.1 hs0 (by decide)) fx_2_4 (oR_2_4 hM hs0) (pS_ne (oS_2_4 hs0)) ?_
      refine PW.iload_n (pc := 13) dX2_beginPart_13 rfl ?_
      refine PW.iconst (pc := 14) dX2_beginPart_14 (v := 1) (by decide) ?_
      obtain ⟨v1, h⟩ := h
      refine PW.zast (pc := 15) dX2_beginPart_15 (ar hM.1 (oS_2_4 hs0)) (vpl (oN_2_4 hs0) v1) ?_
      refine PW.aload_n (pc := 16) dX2_beginPart_16 rfl ?_
      refine PW.getR (pc := 17) dX2_beginPart_17 (r := (a0 + 2)) lf_X2_19 (ob hM.1 hs0 (by decide)) fx_2_2 (oR_2_2 (hM.same rfl rfl) hs0) (pS_ne (oS_2_2 hs0)) ?_
      refine PW.iload_n (pc := 20) dX2_beginPart_20 rfl ?_
      refine PW.aload_n (pc := 21) dX2_beginPart_21 rfl ?_
      refine PW.getI (pc := 22) dX2_beginPart_22 lf_X2_15 (ob hM.1 hs0 (by decide)) fx_2_1 ?_
      obtain ⟨v2, h⟩ := h
      refine PW.iast (pc := 25) dX2_beginPart_25 (ar hM.1 (oS_2_2 hs0)) (vpl (oN_2_2 hs0) v2) ?_
      refine PW.aload_n (pc := 26) dX2_beginPart_26 rfl ?_
      refine PW.getR (pc := 27) dX2_beginPart_27 (r := (a0 + 3)) lf_X2_22 (ob hM.1 hs0 (by decide)) fx_2_3 (oR_2_3 (hM.same rfl rfl) hs0) (pS_ne (oS_2_3 hs0)) ?_
      refine PW.iload_n (pc := 30) dX2_beginPart_30 rfl ?_
      refine PW.aload_n (pc := 31) dX2_beginPart_31 rfl ?_
      refine PW.getI (pc := 32) dX2_beginPart_32 lf_X2_15 (ob hM.1 hs0 (by decide)) fx_2_1 ?_
      obtain ⟨v3, h⟩ := h
      refine PW.iast (pc := 35) dX2_beginPart_35 (ar hM.1 (oS_2_3 hs0)) (vpl (oN_2_3 hs0) v3) ?_
      exact PW.ret0 (pc := 36) dX2_beginPart_36 hM.1 rfl ⟨(hM.same rfl rfl), rfl, h⟩
def w_X2_endPart (a0 : Nat) (x1 : Int32) (M : pm) (Q : pm → Prop) : Prop := ((x1 < 0 → (Q M)) ∧ (¬ x1 < 0 → ((3 ≤ x1 → (Q M)) ∧ (¬ 3 ≤ x1 → (vp_in x1 3 ∧ (Q (sI M (a0 + 3) x1.toNatClampNeg (mI M a0 1))))))))
set_option maxRecDepth 4000 in
theorem c_X2_endPart {a0 : Nat} {x1 : Int32} {M : pm} {Q : pm → Prop} (hs0 : pS 2 a0) (hM : pG M) (h : w_X2_endPart a0 x1 M Q) : PW mX2_endPart 1 350 0 (pfr mX2_endPart.2.2.1 [.ref a0, .int x1]) [] M (qV Q) := by
  unfold w_X2_endPart at h
  show PW mX2_endPart 1 350 0 [.ref a0, .int x1] [] M (qV Q)
  refine PW.iload_n (pc := 0) dX2_endPart_0 rfl ?_
  refine PW.if_lt (pc := 1) dX2_endPart_1 (t := 19) (by decide) (fun hc => ?_) (fun hc => ?_)
  · have h := h.1 hc
    exact PW.ret0 (pc := 19) dX2_endPart_19 hM.1 rfl ⟨hM, rfl, h⟩
  · have h := h.2 hc
    refine PW.iload_n (pc := 4) dX2_endPart_4 rfl ?_
    refine PW.iconst (pc := 5) dX2_endPart_5 (v := 3) (by decide) ?_
    refine PW.icmp_ge (pc := 6) dX2_endPart_6 (t := 19) (by decide) (fun hc => ?_) (fun hc => ?_)
    · have h := h.1 hc
      exact PW.ret0 (pc := 19) dX2_endPart_19 hM.1 rfl ⟨hM, rfl, h⟩
    · have h := h.2 hc
      refine PW.aload_n (pc := 9) dX2_endPart_9 rfl ?_
      refine PW.getR (pc := 10) dX2_endPart_10 (r := (a0 + 3)) lf_X2_22 (ob hM.1 hs0 (by decide)) fx_2_3 (oR_2_3 hM hs0) (pS_ne (oS_2_3 hs0)) ?_
      refine PW.iload_n (pc := 13) dX2_endPart_13 rfl ?_
      refine PW.aload_n (pc := 14) dX2_endPart_14 rfl ?_
      refine PW.getI (pc := 15) dX2_endPart_15 lf_X2_15 (ob hM.1 hs0 (by decide)) fx_2_1 ?_
      obtain ⟨v1, h⟩ := h
      refine PW.iast (pc := 18) dX2_endPart_18 (ar hM.1 (oS_2_3 hs0)) (vpl (oN_2_3 hs0) v1) ?_
      exact PW.ret0 (pc := 19) dX2_endPart_19 hM.1 rfl ⟨(hM.same rfl rfl), rfl, h⟩
def w_X6_fail (x1 : Int32) (x2 : Int32) (M : pm) (Q : pm → Prop) : Prop := ((¬ (mI M 6 7) = 0 → (Q (sI M 6 3 6))) ∧ ((mI M 6 7) = 0 → (Q (sI (sI (sI M 6 7 x1) 6 8 x2) 6 3 6))))
set_option maxRecDepth 4000 in
theorem c_X6_fail {x1 : Int32} {x2 : Int32} {M : pm} {Q : pm → Prop}  (hM : pG M) (h : w_X6_fail x1 x2 M Q) : PW mX6_fail 1 350 0 (pfr mX6_fail.2.2.1 [.ref 6, .int x1, .int x2]) [] M (qV Q) := by
  unfold w_X6_fail at h
  show PW mX6_fail 1 350 0 [.ref 6, .int x1, .int x2] [] M (qV Q)
  refine PW.aload_n (pc := 0) dX6_fail_0 rfl ?_
  refine PW.getI (pc := 1) dX6_fail_1 lf_X6_35 (ob hM.1 s_6 (by decide)) fx_6_7 ?_
  refine PW.if_ne (pc := 4) dX6_fail_4 (t := 17) (by decide) (fun hc => ?_) (fun hc => ?_)
  · have h := h.1 hc
    refine PW.aload_n (pc := 17) dX6_fail_17 rfl ?_
    refine PW.bipush (pc := 18) dX6_fail_18 (v := 6) (by decide) ?_
    refine PW.putI (pc := 20) dX6_fail_20 lf_X6_23 (ob hM.1 s_6 (by decide)) fx_6_3 fw_6_3 rfl rfl ?_
    exact PW.ret0 (pc := 23) dX6_fail_23 hM.1 rfl ⟨(hM.same rfl rfl), rfl, h⟩
  · have h := h.2 hc
    refine PW.aload_n (pc := 7) dX6_fail_7 rfl ?_
    refine PW.iload_n (pc := 8) dX6_fail_8 rfl ?_
    refine PW.putI (pc := 9) dX6_fail_9 lf_X6_35 (ob hM.1 s_6 (by decide)) fx_6_7 fw_6_7 rfl rfl ?_
    refine PW.aload_n (pc := 12) dX6_fail_12 rfl ?_
    refine PW.iload_n (pc := 13) dX6_fail_13 rfl ?_
    refine PW.putI (pc := 14) dX6_fail_14 lf_X6_38 (ob hM.1 s_6 (by decide)) fx_6_8 fw_6_8 rfl rfl ?_
    refine PW.aload_n (pc := 17) dX6_fail_17 rfl ?_
    refine PW.bipush (pc := 18) dX6_fail_18 (v := 6) (by decide) ?_
    refine PW.putI (pc := 20) dX6_fail_20 lf_X6_23 (ob hM.1 s_6 (by decide)) fx_6_3 fw_6_3 rfl rfl ?_
    exact PW.ret0 (pc := 23) dX6_fail_23 hM.1 rfl ⟨(hM.same rfl rfl), rfl, h⟩
