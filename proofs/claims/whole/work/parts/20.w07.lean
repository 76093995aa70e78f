/-! methods, walked by program: w_ what must hold before, c_ its proof -/
def w_X7_findFitting_46 : Nat → Int32 → Int32 → Int32 → Int32 → Int32 → Int32 → Int32 → Int32 → pm → (Int32 → Int32 → Int32 → Int32 → Int32 → Int32 → Int32 → pm → Prop) → (Int32 → pm → Prop) → Prop
  | 0, _, _, _, _, _, _, _, _, _, _, _ => False
  | n + 1, x1, x2, x3, x4, x5, x6, x7, x8, M, k131, Q => ((x2 < x8 → (k131 x1 x2 x3 x4 x5 x6 x7 M)) ∧ (¬ x2 < x8 → ((x6 = 0 → (k131 x1 x2 x3 x4 x5 x6 x7 M)) ∧ (¬ x6 = 0 → (w_X7_hasDayAhead x8 M (fun y13 M12 => ((y13 = 0 → (k131 x1 x2 x3 x4 x5 x6 x7 M12)) ∧ (¬ y13 = 0 → (w_X1_bestBits (mR M12 3 3) 66 M12 (fun y17 M16 => w_X7_rowsAgree x8 y17 M16 (fun y20 M19 => w_X1_playDay (mR M19 3 3) 66 y17 M19 (fun y24 M23 => w_X7_findFitting_46 n x1 x2 x3 x4 x5 y20 (x7 ||| (((y17 >>> (x1 &&& 31)) &&& 1) <<< (x8 &&& 31))) (x8 + 1) M23 k131 Q))))))))))))
set_option maxRecDepth 4000 in
theorem c_X7_findFitting_46 {k131 : Int32 → Int32 → Int32 → Int32 → Int32 → Int32 → Int32 → pm → Prop} {Q : Int32 → pm → Prop} (hk131 : ∀ (x1 : Int32) (x2 : Int32) (x3 : Int32) (x4 : Int32) (x5 : Int32) (x6 : Int32) (x7 : Int32) (M : pm), pG M → k131 x1 x2 x3 x4 x5 x6 x7 M → PW mX7_findFitting 7 350 131 [.ref 3, .int x1, .int x2, .int x3, .int x4, .int x5, .int x6, .int x7, .null, .null] [] M (qI Q)) : ∀ (n : Nat) (x1 : Int32) (x2 : Int32) (x3 : Int32) (x4 : Int32) (x5 : Int32) (x6 : Int32) (x7 : Int32) (x8 : Int32) (M : pm), pG M → w_X7_findFitting_46 n x1 x2 x3 x4 x5 x6 x7 x8 M k131 Q → PW mX7_findFitting 7 350 46 [.ref 3, .int x1, .int x2, .int x3, .int x4, .int x5, .int x6, .int x7, .int x8, .null] [] M (qI Q) := by
  intro n
  induction n with
  | zero => intro x1 x2 x3 x4 x5 x6 x7 x8 M hM h; exact h.elim
  | succ n ih =>
    intro x1 x2 x3 x4 x5 x6 x7 x8 M hM h
    unfold w_X7_findFitting_46 at h
    refine PW.iload (pc := 46) dX7_findFitting_46 rfl ?_
    refine PW.iload_n (pc := 48) dX7_findFitting_48 rfl ?_
    refine PW.icmp_gt (pc := 49) dX7_findFitting_49 (t := 131) (by decide) (fun hc => ?_) (fun hc => ?_)
    · have h := h.1 hc
      exact PW.drop (hk131 _ _ _ _ _ _ _ _ hM h) ⟨rfl, rfl, rfl, rfl, rfl, rfl, rfl, rfl, trivial⟩
    · have h := h.2 hc
      refine PW.iload (pc := 52) dX7_findFitting_52 rfl ?_
      refine PW.if_eq (pc := 54) dX7_findFitting_54 (t := 131) (by decide) (fun hc => ?_) (fun hc => ?_)
      · have h := h.1 hc
        exact PW.drop (hk131 _ _ _ _ _ _ _ _ hM h) ⟨rfl, rfl, rfl, rfl, rfl, rfl, rfl, rfl, trivial⟩
      · have h := h.2 hc
        refine PW.aload_n (pc := 57) dX7_findFitting_57 rfl ?_
        refine PW.iload (pc := 58) dX7_findFitting_58 rfl ?_
        refine PW.inv (m' := mX7_hasDayAhead) (pc := 60) dX7_findFitting_60 lm_X7_253 me_X7_hasDayAhead mi_X7_hasDayAhead (ob hM.1 s_3 (by decide)) rfl (As := [.int x8]) (st := []) rfl (Nat.le_of_ble_eq_true rfl) (Nat.le_of_ble_eq_true rfl) (Nat.le_of_eq hM.1) (Nat.le_refl _) (PW.deep (by decide) (c_X7_hasDayAhead  hM h)) ?_
        rintro _ M12 ⟨hM14, y13, rfl, z15, h⟩
        refine PW.if_eq (pc := 63) dX7_findFitting_63 (t := 131) (by decide) (fun hc => ?_) (fun hc => ?_)
        · have h := h.1 hc
          exact PW.drop (hk131 _ _ _ _ _ _ _ _ hM14 h) ⟨rfl, rfl, rfl, rfl, rfl, rfl, rfl, rfl, trivial⟩
        · have h := h.2 hc
          refine PW.aload_n (pc := 66) dX7_findFitting_66 rfl ?_
          refine PW.getR (pc := 67) dX7_findFitting_67 (r := 44) lf_X7_47 (ob hM14.1 s_3 (by decide)) fx_7_8 (oR_7_8 hM14 s_3) (pS_ne s_44) ?_
          refine PW.aload_n (pc := 70) dX7_findFitting_70 rfl ?_
          refine PW.getR (pc := 71) dX7_findFitting_71 (r := (mR M12 3 3)) lf_X7_27 (ob hM14.1 s_3 (by decide)) fx_7_3 rfl (pS_ne (hM14.2.2.2.2.1)) ?_
          refine PW.aload_n (pc := 74) dX7_findFitting_74 rfl ?_
          refine PW.getR (pc := 75) dX7_findFitting_75 (r := 66) lf_X7_58 (ob hM14.1 s_3 (by decide)) fx_7_10 (oR_7_10 hM14 s_3) (pS_ne s_66) ?_
          refine PW.inv (m' := mX1_bestBits) (pc := 78) dX7_findFitting_78 lm_X7_228 me_X1_bestBits mi_X1_bestBits (ob hM14.1 s_44 (by decide)) rfl (As := [.ref (mR M12 3 3), .ref 66]) (st := []) rfl (Nat.le_of_ble_eq_true rfl) (Nat.le_of_ble_eq_true rfl) (Nat.le_of_eq hM14.1) (Nat.le_refl _) (PW.deep (by decide) (c_X1_bestBits (hM14.2.2.2.2.1) s_66 hM14 h)) ?_
          rintro _ M16 ⟨hM18, y17, rfl, h⟩
          refine PW.istore (pc := 81) dX7_findFitting_81 (ls' := [.ref 3, .int x1, .int x2, .int x3, .int x4, .int x5, .int x6, .int x7, .int x8, .int y17]) (by decide) rfl rfl ?_
          refine PW.aload_n (pc := 83) dX7_findFitting_83 rfl ?_
          refine PW.iload (pc := 84) dX7_findFitting_84 rfl ?_
          refine PW.iload (pc := 86) dX7_findFitting_86 rfl ?_
          refine PW.inv (m' := mX7_rowsAgree) (pc := 88) dX7_findFitting_88 lm_X7_301 me_X7_rowsAgree mi_X7_rowsAgree (ob hM18.1 s_3 (by decide)) rfl (As := [.int x8, .int y17]) (st := []) rfl (Nat.le_of_ble_eq_true rfl) (Nat.le_of_ble_eq_true rfl) (Nat.le_of_eq hM18.1) (Nat.le_refl _) (PW.deep (by decide) (c_X7_rowsAgree  hM18 h)) ?_
          rintro _ M19 ⟨hM21, y20, rfl, z22, h⟩
          refine PW.istore (pc := 91) dX7_findFitting_91 (ls' := [.ref 3, .int x1, .int x2, .int x3, .int x4, .int x5, .int y20, .int x7, .int x8, .int y17]) (by decide) rfl rfl ?_
          refine PW.iload (pc := 93) dX7_findFitting_93 rfl ?_
          refine PW.iload (pc := 95) dX7_findFitting_95 rfl ?_
          refine PW.iload_n (pc := 97) dX7_findFitting_97 rfl ?_
          refine PW.ishr (pc := 98) dX7_findFitting_98 ?_
          refine PW.iconst (pc := 99) dX7_findFitting_99 (v := 1) (by decide) ?_
          refine PW.iand (pc := 100) dX7_findFitting_100 ?_
          refine PW.iload (pc := 101) dX7_findFitting_101 rfl ?_
          refine PW.ishl (pc := 103) dX7_findFitting_103 ?_
          refine PW.ior (pc := 104) dX7_findFitting_104 ?_
          refine PW.istore (pc := 105) dX7_findFitting_105 (ls' := [.ref 3, .int x1, .int x2, .int x3, .int x4, .int x5, .int y20, .int (x7 ||| (((y17 >>> (x1 &&& 31)) &&& 1) <<< (x8 &&& 31))), .int x8, .int y17]) (by decide) rfl rfl ?_
          refine PW.aload_n (pc := 107) dX7_findFitting_107 rfl ?_
          refine PW.getR (pc := 108) dX7_findFitting_108 (r := 44) lf_X7_47 (ob hM21.1 s_3 (by decide)) fx_7_8 (oR_7_8 hM21 s_3) (pS_ne s_44) ?_
          refine PW.aload_n (pc := 111) dX7_findFitting_111 rfl ?_
          refine PW.getR (pc := 112) dX7_findFitting_112 (r := (mR M19 3 3)) lf_X7_27 (ob hM21.1 s_3 (by decide)) fx_7_3 rfl (pS_ne (hM21.2.2.2.2.1)) ?_
          refine PW.aload_n (pc := 115) dX7_findFitting_115 rfl ?_
          refine PW.getR (pc := 116) dX7_findFitting_116 (r := 66) lf_X7_58 (ob hM21.1 s_3 (by decide)) fx_7_10 (oR_7_10 hM21 s_3) (pS_ne s_66) ?_
          refine PW.iload (pc := 119) dX7_findFitting_119 rfl ?_
          refine PW.inv (m' := mX1_playDay) (pc := 121) dX7_findFitting_121 lm_X7_250 me_X1_playDay mi_X1_playDay (ob hM21.1 s_44 (by decide)) rfl (As := [.ref (mR M19 3 3), .ref 66, .int y17]) (st := []) rfl (Nat.le_of_ble_eq_true rfl) (Nat.le_of_ble_eq_true rfl) (Nat.le_of_eq hM21.1) (Nat.le_refl _) (PW.deep (by decide) (c_X1_playDay (hM21.2.2.2.2.1) s_66 hM21 h)) ?_
          rintro _ M23 ⟨hM25, y24, rfl, h⟩
          refine PW.popI (pc := 124) dX7_findFitting_124 ?_
          refine PW.iinc (pc := 125) dX7_findFitting_125 (v := (x8 + 1)) (ls' := [.ref 3, .int x1, .int x2, .int x3, .int x4, .int x5, .int y20, .int (x7 ||| (((y17 >>> (x1 &&& 31)) &&& 1) <<< (x8 &&& 31))), .int (x8 + 1), .int y17]) rfl rfl (by decide) rfl rfl ?_
          refine PW.goto (pc := 128) dX7_findFitting_128 (t := 46) (by decide) ?_
          exact PW.drop (ih _ _ _ _ _ _ _ _ _ hM25 h) ⟨rfl, rfl, rfl, rfl, rfl, rfl, rfl, rfl, rfl, trivial⟩
def w_X7_findFitting_148  (x1 : Int32) (x2 : Int32) (x3 : Int32) (x4 : Int32) (x5 : Int32) (x6 : Int32) (t1 : Int32) (t2 : Int32) (M : pm) (r : Int32 → Int32 → Int32 → Int32 → Int32 → pm → Prop)  (Q : Int32 → pm → Prop) : Prop := vp_in t1 100 ∧ ((x6 = 0 → (r x1 x2 x3 (x4 + 0) (x5 + 1) (sI M 274 t1.toNatClampNeg t2))) ∧ (¬ x6 = 0 → (r x1 x2 x3 (x4 + 1) (x5 + 1) (sI M 274 t1.toNatClampNeg t2))))
set_option maxRecDepth 4000 in
theorem c_X7_findFitting_148 {r : Int32 → Int32 → Int32 → Int32 → Int32 → pm → Prop}  {Q : Int32 → pm → Prop} (hr : ∀ (x1 : Int32) (x2 : Int32) (x3 : Int32) (x4 : Int32) (x5 : Int32) (M : pm), pG M → r x1 x2 x3 x4 x5 M → PW mX7_findFitting 7 350 15 [.ref 3, .int x1, .int x2, .int x3, .int x4, .int x5, .null, .null, .null, .null] [] M (qI Q)) : ∀ (x1 : Int32) (x2 : Int32) (x3 : Int32) (x4 : Int32) (x5 : Int32) (x6 : Int32) (t1 : Int32) (t2 : Int32) (M : pm), pG M → w_X7_findFitting_148 x1 x2 x3 x4 x5 x6 t1 t2 M r Q → PW mX7_findFitting 7 350 148 [.ref 3, .int x1, .int x2, .int x3, .int x4, .int x5, .int x6, .null, .null, .null] [.int t2, .int t1, .ref 274] M (qI Q) := by
  intro x1 x2 x3 x4 x5 x6 t1 t2 M hM h
  unfold w_X7_findFitting_148 at h
  obtain ⟨v28, h⟩ := h
  refine PW.iast (pc := 148) dX7_findFitting_148 (ar hM.1 s_274) (vpl n_274 v28) ?_
  refine PW.iload (pc := 149) dX7_findFitting_149 rfl ?_
  refine PW.iload (pc := 151) dX7_findFitting_151 rfl ?_
  refine PW.if_eq (pc := 153) dX7_findFitting_153 (t := 160) (by decide) (fun hc => ?_) (fun hc => ?_)
  · have h := h.1 hc
    refine PW.iconst (pc := 160) dX7_findFitting_160 (v := 0) (by decide) ?_
    refine PW.iadd (pc := 161) dX7_findFitting_161 ?_
    refine PW.istore (pc := 162) dX7_findFitting_162 (ls' := [.ref 3, .int x1, .int x2, .int x3, .int (x4 + 0), .int x5, .int x6, .null, .null, .null]) (by decide) rfl rfl ?_
    refine PW.iinc (pc := 164) dX7_findFitting_164 (v := (x5 + 1)) (ls' := [.ref 3, .int x1, .int x2, .int x3, .int (x4 + 0), .int (x5 + 1), .int x6, .null, .null, .null]) rfl rfl (by decide) rfl rfl ?_
    refine PW.goto (pc := 167) dX7_findFitting_167 (t := 15) (by decide) ?_
    exact PW.drop (hr _ _ _ _ _ _ (hM.same rfl rfl) h) ⟨rfl, rfl, rfl, rfl, rfl, rfl, trivial⟩
  · have h := h.2 hc
    refine PW.iconst (pc := 156) dX7_findFitting_156 (v := 1) (by decide) ?_
    refine PW.goto (pc := 157) dX7_findFitting_157 (t := 161) (by decide) ?_
    refine PW.iadd (pc := 161) dX7_findFitting_161 ?_
    refine PW.istore (pc := 162) dX7_findFitting_162 (ls' := [.ref 3, .int x1, .int x2, .int x3, .int (x4 + 1), .int x5, .int x6, .null, .null, .null]) (by decide) rfl rfl ?_
    refine PW.iinc (pc := 164) dX7_findFitting_164 (v := (x5 + 1)) (ls' := [.ref 3, .int x1, .int x2, .int x3, .int (x4 + 1), .int (x5 + 1), .int x6, .null, .null, .null]) rfl rfl (by decide) rfl rfl ?_
    refine PW.goto (pc := 167) dX7_findFitting_167 (t := 15) (by decide) ?_
    exact PW.drop (hr _ _ _ _ _ _ (hM.same rfl rfl) h) ⟨rfl, rfl, rfl, rfl, rfl, rfl, trivial⟩
def w_X7_findFitting_15 : Nat → Int32 → Int32 → Int32 → Int32 → Int32 → pm → (Int32 → pm → Prop) → Prop
  | 0, _, _, _, _, _, _, _ => False
  | n + 1, x1, x2, x3, x4, x5, M, Q => ((99 < x5 → (Q x4 M)) ∧ (¬ 99 < x5 → (w_X7_tryFromNow  M (fun M8 => vp_in x1 8 ∧ (∃ n26, w_X7_findFitting_46 n26 x1 x2 x3 x4 x5 x3 0 0 (sI M8 69 x1.toNatClampNeg x5) (fun x1 x2 x3 x4 x5 x6 x7 M27 => ((x6 = 0 → (w_X7_findFitting_148 x1 x2 x3 x4 x5 x6 x5 (-1) M27 (fun x1 x2 x3 x4 x5 M => w_X7_findFitting_15 n x1 x2 x3 x4 x5 M  Q) Q)) ∧ (¬ x6 = 0 → (w_X7_findFitting_148 x1 x2 x3 x4 x5 x6 x5 x7 M27 (fun x1 x2 x3 x4 x5 M => w_X7_findFitting_15 n x1 x2 x3 x4 x5 M  Q) Q)))) Q)))))
set_option maxRecDepth 4000 in
theorem c_X7_findFitting_15  {Q : Int32 → pm → Prop}  : ∀ (n : Nat) (x1 : Int32) (x2 : Int32) (x3 : Int32) (x4 : Int32) (x5 : Int32) (M : pm), pG M → w_X7_findFitting_15 n x1 x2 x3 x4 x5 M  Q → PW mX7_findFitting 7 350 15 [.ref 3, .int x1, .int x2, .int x3, .int x4, .int x5, .null, .null, .null, .null] [] M (qI Q) := by
  intro n
  induction n with
  | zero => intro x1 x2 x3 x4 x5 M hM h; exact h.elim
  | succ n ih =>
    intro x1 x2 x3 x4 x5 M hM h
    unfold w_X7_findFitting_15 at h
    refine PW.iload (pc := 15) dX7_findFitting_15 rfl ?_
    refine PW.bipush (pc := 17) dX7_findFitting_17 (v := 99) (by decide) ?_
    refine PW.icmp_gt (pc := 19) dX7_findFitting_19 (t := 170) (by decide) (fun hc => ?_) (fun hc => ?_)
    · have h := h.1 hc
      refine PW.iload (pc := 170) dX7_findFitting_170 rfl ?_
      exact PW.retI (pc := 172) dX7_findFitting_172 hM.1 rfl rfl ⟨hM, _, rfl, h⟩
    · have h := h.2 hc
      refine PW.iload_n (pc := 22) dX7_findFitting_22 rfl ?_
      refine PW.istore (pc := 23) dX7_findFitting_23 (ls' := [.ref 3, .int x1, .int x2, .int x3, .int x4, .int x5, .int x3, .null, .null, .null]) (by decide) rfl rfl ?_
      refine PW.iconst (pc := 25) dX7_findFitting_25 (v := 0) (by decide) ?_
      refine PW.istore (pc := 26) dX7_findFitting_26 (ls' := [.ref 3, .int x1, .int x2, .int x3, .int x4, .int x5, .int x3, .int 0, .null, .null]) (by decide) rfl rfl ?_
      refine PW.aload_n (pc := 28) dX7_findFitting_28 rfl ?_
      refine PW.inv (m' := mX7_tryFromNow) (pc := 29) dX7_findFitting_29 lm_X7_247 me_X7_tryFromNow mi_X7_tryFromNow (ob hM.1 s_3 (by decide)) rfl (As := []) (st := []) rfl (Nat.le_of_ble_eq_true rfl) (Nat.le_of_ble_eq_true rfl) (Nat.le_of_eq hM.1) (Nat.le_refl _) (PW.deep (by decide) (c_X7_tryFromNow  hM h)) ?_
      rintro _ M8 ⟨hM10, rfl, h⟩
      refine PW.aload_n (pc := 32) dX7_findFitting_32 rfl ?_
      refine PW.getR (pc := 33) dX7_findFitting_33 (r := 66) lf_X7_58 (ob hM10.1 s_3 (by decide)) fx_7_10 (oR_7_10 hM10 s_3) (pS_ne s_66) ?_
      refine PW.getR (pc := 36) dX7_findFitting_36 (r := 69) lf_X7_175 (ob hM10.1 s_66 (by decide)) fx_4_4 (oR_4_4 hM10 s_66) (pS_ne s_69) ?_
      refine PW.iload_n (pc := 39) dX7_findFitting_39 rfl ?_
      refine PW.iload (pc := 40) dX7_findFitting_40 rfl ?_
      obtain ⟨v11, h⟩ := h
      refine PW.iast (pc := 42) dX7_findFitting_42 (ar hM10.1 s_69) (vpl n_69 v11) ?_
      refine PW.iconst (pc := 43) dX7_findFitting_43 (v := 0) (by decide) ?_
      refine PW.istore (pc := 44) dX7_findFitting_44 (ls' := [.ref 3, .int x1, .int x2, .int x3, .int x4, .int x5, .int x3, .int 0, .int 0, .null]) (by decide) rfl rfl ?_
      obtain ⟨n26, h⟩ := h
      refine PW.drop (c_X7_findFitting_46 ?_ n26 _ _ _ _ _ _ _ _ _ (hM10.same rfl rfl) h) ⟨rfl, rfl, rfl, rfl, rfl, rfl, rfl, rfl, rfl, trivial⟩
      · intro x1 x2 x3 x4 x5 x6 x7 M27 hM h
        refine PW.aload_n (pc := 131) dX7_findFitting_131 rfl ?_
        refine PW.getR (pc := 132) dX7_findFitting_132 (r := 274) lf_X7_76 (ob hM.1 s_3 (by decide)) fx_7_14 (oR_7_14 hM s_3) (pS_ne s_274) ?_
        refine PW.iload (pc := 135) dX7_findFitting_135 rfl ?_
        refine PW.iload (pc := 137) dX7_findFitting_137 rfl ?_
        refine PW.if_eq (pc := 139) dX7_findFitting_139 (t := 147) (by decide) (fun hc => ?_) (fun hc => ?_)
        · have h := h.1 hc
          refine PW.iconst (pc := 147) dX7_findFitting_147 (v := (-1)) (by decide) ?_
          exact PW.drop (c_X7_findFitting_148 ih _ _ _ _ _ _ _ _ _ hM h) ⟨rfl, rfl, rfl, rfl, rfl, rfl, rfl, trivial⟩
        · have h := h.2 hc
          refine PW.iload (pc := 142) dX7_findFitting_142 rfl ?_
          refine PW.goto (pc := 144) dX7_findFitting_144 (t := 148) (by decide) ?_
          exact PW.drop (c_X7_findFitting_148 ih _ _ _ _ _ _ _ _ _ hM h) ⟨rfl, rfl, rfl, rfl, rfl, rfl, rfl, trivial⟩
def w_X7_findFitting (x1 : Int32) (x2 : Int32) (M : pm) (Q : Int32 → pm → Prop) : Prop := w_X7_lastSeenDay  M (fun y2 M1 => w_X7_hasDayAhead y2 M1 (fun y5 M4 => ∃ n29, w_X7_findFitting_15 n29 x1 x2 y5 0 0 M4  Q))
set_option maxRecDepth 4000 in
theorem c_X7_findFitting {x1 : Int32} {x2 : Int32} {M : pm} {Q : Int32 → pm → Prop}  (hM : pG M) (h : w_X7_findFitting x1 x2 M Q) : PW mX7_findFitting 7 350 0 (pfr mX7_findFitting.2.2.1 [.ref 3, .int x1, .int x2]) [] M (qI Q) := by
  unfold w_X7_findFitting at h
  show PW mX7_findFitting 7 350 0 [.ref 3, .int x1, .int x2, .null, .null, .null, .null, .null, .null, .null] [] M (qI Q)
  refine PW.aload_n (pc := 0) dX7_findFitting_0 rfl ?_
  refine PW.aload_n (pc := 1) dX7_findFitting_1 rfl ?_
  refine PW.inv (m' := mX7_lastSeenDay) (pc := 2) dX7_findFitting_2 lm_X7_289 me_X7_lastSeenDay mi_X7_lastSeenDay (ob hM.1 s_3 (by decide)) rfl (As := []) (st := [.ref 3]) rfl (Nat.le_of_ble_eq_true rfl) (Nat.le_of_ble_eq_true rfl) (Nat.le_of_eq hM.1) (Nat.le_refl _) (PW.deep (by decide) (c_X7_lastSeenDay  hM h)) ?_
  rintro _ M1 ⟨hM3, y2, rfl, h⟩
  refine PW.inv (m' := mX7_hasDayAhead) (pc := 5) dX7_findFitting_5 lm_X7_253 me_X7_hasDayAhead mi_X7_hasDayAhead (ob hM3.1 s_3 (by decide)) rfl (As := [.int y2]) (st := []) rfl (Nat.le_of_ble_eq_true rfl) (Nat.le_of_ble_eq_true rfl) (Nat.le_of_eq hM3.1) (Nat.le_refl _) (PW.deep (by decide) (c_X7_hasDayAhead  hM3 h)) ?_
  rintro _ M4 ⟨hM6, y5, rfl, z7, h⟩
  refine PW.istore_n (pc := 8) dX7_findFitting_8 (ls' := [.ref 3, .int x1, .int x2, .int y5, .null, .null, .null, .null, .null, .null]) (by decide) rfl rfl ?_
  refine PW.iconst (pc := 9) dX7_findFitting_9 (v := 0) (by decide) ?_
  refine PW.istore (pc := 10) dX7_findFitting_10 (ls' := [.ref 3, .int x1, .int x2, .int y5, .int 0, .null, .null, .null, .null, .null]) (by decide) rfl rfl ?_
  refine PW.iconst (pc := 12) dX7_findFitting_12 (v := 0) (by decide) ?_
  refine PW.istore (pc := 13) dX7_findFitting_13 (ls' := [.ref 3, .int x1, .int x2, .int y5, .int 0, .int 0, .null, .null, .null, .null]) (by decide) rfl rfl ?_
  obtain ⟨n29, h⟩ := h
  refine PW.drop (c_X7_findFitting_15  n29 _ _ _ _ _ _ hM6 h) ⟨rfl, rfl, rfl, rfl, rfl, rfl, trivial⟩
def w_X7_leastFitting_2 : Nat → Int32 → pm → (Int32 → pm → Prop) → Prop
  | 0, _, _, _ => False
  | n + 1, x1, M, Q => ((99 < x1 → (Q (-1) M)) ∧ (¬ 99 < x1 → (vp_in x1 100 ∧ (((mI M 274 x1.toNatClampNeg) = (-1) → (w_X7_leastFitting_2 n (x1 + 1) M Q)) ∧ (¬ (mI M 274 x1.toNatClampNeg) = (-1) → (Q x1 M))))))
set_option maxRecDepth 4000 in
theorem c_X7_leastFitting_2  {Q : Int32 → pm → Prop}  : ∀ (n : Nat) (x1 : Int32) (M : pm), pG M → w_X7_leastFitting_2 n x1 M  Q → PW mX7_leastFitting 1 350 2 [.ref 3, .int x1] [] M (qI Q) := by
  intro n
  induction n with
  | zero => intro x1 M hM h; exact h.elim
  | succ n ih =>
    intro x1 M hM h
    unfold w_X7_leastFitting_2 at h
    refine PW.iload_n (pc := 2) dX7_leastFitting_2 rfl ?_
    refine PW.bipush (pc := 3) dX7_leastFitting_3 (v := 99) (by decide) ?_
    refine PW.icmp_gt (pc := 5) dX7_leastFitting_5 (t := 26) (by decide) (fun hc => ?_) (fun hc => ?_)
    · have h := h.1 hc
      refine PW.iconst (pc := 26) dX7_leastFitting_26 (v := (-1)) (by decide) ?_
      exact PW.retI (pc := 27) dX7_leastFitting_27 hM.1 rfl rfl ⟨hM, _, rfl, h⟩
    · have h := h.2 hc
      refine PW.aload_n (pc := 8) dX7_leastFitting_8 rfl ?_
      refine PW.getR (pc := 9) dX7_leastFitting_9 (r := 274) lf_X7_76 (ob hM.1 s_3 (by decide)) fx_7_14 (oR_7_14 hM s_3) (pS_ne s_274) ?_
      refine PW.iload_n (pc := 12) dX7_leastFitting_12 rfl ?_
      obtain ⟨v1, h⟩ := h
      refine PW.iald (pc := 13) dX7_leastFitting_13 (ar hM.1 s_274) (vpl n_274 v1) ?_
      refine PW.iconst (pc := 14) dX7_leastFitting_14 (v := (-1)) (by decide) ?_
      refine PW.icmp_eq (pc := 15) dX7_leastFitting_15 (t := 20) (by decide) (fun hc => ?_) (fun hc => ?_)
      · have h := h.1 hc
        refine PW.iinc (pc := 20) dX7_leastFitting_20 (v := (x1 + 1)) (ls' := [.ref 3, .int (x1 + 1)]) rfl rfl (by decide) rfl rfl ?_
        refine PW.goto (pc := 23) dX7_leastFitting_23 (t := 2) (by decide) ?_
        exact PW.drop (ih _ _ hM h) ⟨rfl, rfl, trivial⟩
      · have h := h.2 hc
        refine PW.iload_n (pc := 18) dX7_leastFitting_18 rfl ?_
        exact PW.retI (pc := 19) dX7_leastFitting_19 hM.1 rfl rfl ⟨hM, _, rfl, h⟩
def w_X7_leastFitting  (M : pm) (Q : Int32 → pm → Prop) : Prop := ∃ n2, w_X7_leastFitting_2 n2 0 M  Q
set_option maxRecDepth 4000 in
theorem c_X7_leastFitting  {M : pm} {Q : Int32 → pm → Prop}  (hM : pG M) (h : w_X7_leastFitting  M Q) : PW mX7_leastFitting 1 350 0 (pfr mX7_leastFitting.2.2.1 [.ref 3]) [] M (qI Q) := by
  unfold w_X7_leastFitting at h
  show PW mX7_leastFitting 1 350 0 [.ref 3, .null] [] M (qI Q)
  refine PW.iconst (pc := 0) dX7_leastFitting_0 (v := 0) (by decide) ?_
  refine PW.istore_n (pc := 1) dX7_leastFitting_1 (ls' := [.ref 3, .int 0]) (by decide) rfl rfl ?_
  obtain ⟨n2, h⟩ := h
  refine PW.drop (c_X7_leastFitting_2  n2 _ _ hM h) ⟨rfl, rfl, trivial⟩
def w_X7_greatestFitting_3 : Nat → Int32 → pm → (Int32 → pm → Prop) → Prop
  | 0, _, _, _ => False
  | n + 1, x1, M, Q => ((x1 < 0 → (Q (-1) M)) ∧ (¬ x1 < 0 → (vp_in x1 100 ∧ (((mI M 274 x1.toNatClampNeg) = (-1) → (w_X7_greatestFitting_3 n (x1 + (-1)) M Q)) ∧ (¬ (mI M 274 x1.toNatClampNeg) = (-1) → (Q x1 M))))))
set_option maxRecDepth 4000 in
theorem c_X7_greatestFitting_3  {Q : Int32 → pm → Prop}  : ∀ (n : Nat) (x1 : Int32) (M : pm), pG M → w_X7_greatestFitting_3 n x1 M  Q → PW mX7_greatestFitting 1 350 3 [.ref 3, .int x1] [] M (qI Q) := by
  intro n
  induction n with
  | zero => intro x1 M hM h; exact h.elim
  | succ n ih =>
    intro x1 M hM h
    unfold w_X7_greatestFitting_3 at h
    refine PW.iload_n (pc := 3) dX7_greatestFitting_3 rfl ?_
    refine PW.if_lt (pc := 4) dX7_greatestFitting_4 (t := 25) (by decide) (fun hc => ?_) (fun hc => ?_)
    · have h := h.1 hc
      refine PW.iconst (pc := 25) dX7_greatestFitting_25 (v := (-1)) (by decide) ?_
      exact PW.retI (pc := 26) dX7_greatestFitting_26 hM.1 rfl rfl ⟨hM, _, rfl, h⟩
    · have h := h.2 hc
      refine PW.aload_n (pc := 7) dX7_greatestFitting_7 rfl ?_
      refine PW.getR (pc := 8) dX7_greatestFitting_8 (r := 274) lf_X7_76 (ob hM.1 s_3 (by decide)) fx_7_14 (oR_7_14 hM s_3) (pS_ne s_274) ?_
      refine PW.iload_n (pc := 11) dX7_greatestFitting_11 rfl ?_
      obtain ⟨v1, h⟩ := h
      refine PW.iald (pc := 12) dX7_greatestFitting_12 (ar hM.1 s_274) (vpl n_274 v1) ?_
      refine PW.iconst (pc := 13) dX7_greatestFitting_13 (v := (-1)) (by decide) ?_
      refine PW.icmp_eq (pc := 14) dX7_greatestFitting_14 (t := 19) (by decide) (fun hc => ?_) (fun hc => ?_)
      · have h := h.1 hc
        refine PW.iinc (pc := 19) dX7_greatestFitting_19 (v := (x1 + (-1))) (ls' := [.ref 3, .int (x1 + (-1))]) rfl rfl (by decide) rfl rfl ?_
        refine PW.goto (pc := 22) dX7_greatestFitting_22 (t := 3) (by decide) ?_
        exact PW.drop (ih _ _ hM h) ⟨rfl, rfl, trivial⟩
      · have h := h.2 hc
        refine PW.iload_n (pc := 17) dX7_greatestFitting_17 rfl ?_
        exact PW.retI (pc := 18) dX7_greatestFitting_18 hM.1 rfl rfl ⟨hM, _, rfl, h⟩
def w_X7_greatestFitting  (M : pm) (Q : Int32 → pm → Prop) : Prop := ∃ n2, w_X7_greatestFitting_3 n2 99 M  Q
set_option maxRecDepth 4000 in
theorem c_X7_greatestFitting  {M : pm} {Q : Int32 → pm → Prop}  (hM : pG M) (h : w_X7_greatestFitting  M Q) : PW mX7_greatestFitting 1 350 0 (pfr mX7_greatestFitting.2.2.1 [.ref 3]) [] M (qI Q) := by
  unfold w_X7_greatestFitting at h
  show PW mX7_greatestFitting 1 350 0 [.ref 3, .null] [] M (qI Q)
  refine PW.bipush (pc := 0) dX7_greatestFitting_0 (v := 99) (by decide) ?_
  refine PW.istore_n (pc := 2) dX7_greatestFitting_2 (ls' := [.ref 3, .int 99]) (by decide) rfl rfl ?_
  obtain ⟨n2, h⟩ := h
  refine PW.drop (c_X7_greatestFitting_3  n2 _ _ hM h) ⟨rfl, rfl, trivial⟩
def w_X7_fits (x1 : Int32) (x2 : Int32) (M : pm) (Q : Int32 → pm → Prop) : Prop := w_X7_isAsker x1 M (fun y2 M1 => ((y2 = 0 → (Q (-1) M1)) ∧ (¬ y2 = 0 → ((x2 < 0 → (Q (-1) M1)) ∧ (¬ x2 < 0 → ((x2 ≤ 2 → (w_X7_lastSeenDay  M1 (fun y6 M5 => w_X7_findFitting x1 y6 M5 (fun y9 M8 => ((¬ x2 = 0 → ((¬ x2 = 1 → (w_X7_greatestFitting  M8 (fun y12 M11 => Q y12 M11))) ∧ (x2 = 1 → (w_X7_leastFitting  M8 (fun y15 M14 => Q y15 M14))))) ∧ (x2 = 0 → (Q y9 M8))))))) ∧ (¬ x2 ≤ 2 → (Q (-1) M1))))))))
set_option maxRecDepth 4000 in
theorem c_X7_fits {x1 : Int32} {x2 : Int32} {M : pm} {Q : Int32 → pm → Prop}  (hM : pG M) (h : w_X7_fits x1 x2 M Q) : PW mX7_fits 8 350 0 (pfr mX7_fits.2.2.1 [.ref 3, .int x1, .int x2]) [] M (qI Q) := by
  unfold w_X7_fits at h
  show PW mX7_fits 8 350 0 [.ref 3, .int x1, .int x2, .null] [] M (qI Q)
  refine PW.aload_n (pc := 0) dX7_fits_0 rfl ?_
  refine PW.iload_n (pc := 1) dX7_fits_1 rfl ?_
  refine PW.inv (m' := mX7_isAsker) (pc := 2) dX7_fits_2 lm_X7_188 me_X7_isAsker mi_X7_isAsker (ob hM.1 s_3 (by decide)) rfl (As := [.int x1]) (st := []) rfl (Nat.le_of_ble_eq_true rfl) (Nat.le_of_ble_eq_true rfl) (Nat.le_of_eq hM.1) (Nat.le_refl _) (PW.deep (by decide) (c_X7_isAsker  hM h)) ?_
  rintro _ M1 ⟨hM3, y2, rfl, z4, h⟩
  refine PW.if_eq (pc := 5) dX7_fits_5 (t := 17) (by decide) (fun hc => ?_) (fun hc => ?_)
  · have h := h.1 hc
    refine PW.iconst (pc := 17) dX7_fits_17 (v := (-1)) (by decide) ?_
    exact PW.retI (pc := 18) dX7_fits_18 hM3.1 rfl rfl ⟨hM3, _, rfl, h⟩
  · have h := h.2 hc
    refine PW.iload_n (pc := 8) dX7_fits_8 rfl ?_
    refine PW.if_lt (pc := 9) dX7_fits_9 (t := 17) (by decide) (fun hc => ?_) (fun hc => ?_)
    · have h := h.1 hc
      refine PW.iconst (pc := 17) dX7_fits_17 (v := (-1)) (by decide) ?_
      exact PW.retI (pc := 18) dX7_fits_18 hM3.1 rfl rfl ⟨hM3, _, rfl, h⟩
    · have h := h.2 hc
      refine PW.iload_n (pc := 12) dX7_fits_12 rfl ?_
      refine PW.iconst (pc := 13) dX7_fits_13 (v := 2) (by decide) ?_
      refine PW.icmp_le (pc := 14) dX7_fits_14 (t := 19) (by decide) (fun hc => ?_) (fun hc => ?_)
      · have h := h.1 hc
        refine PW.aload_n (pc := 19) dX7_fits_19 rfl ?_
        refine PW.iload_n (pc := 20) dX7_fits_20 rfl ?_
        refine PW.aload_n (pc := 21) dX7_fits_21 rfl ?_
        refine PW.inv (m' := mX7_lastSeenDay) (pc := 22) dX7_fits_22 lm_X7_289 me_X7_lastSeenDay mi_X7_lastSeenDay (ob hM3.1 s_3 (by decide)) rfl (As := []) (st := [.int x1, .ref 3]) rfl (Nat.le_of_ble_eq_true rfl) (Nat.le_of_ble_eq_true rfl) (Nat.le_of_eq hM3.1) (Nat.le_refl _) (PW.deep (by decide) (c_X7_lastSeenDay  hM3 h)) ?_
        rintro _ M5 ⟨hM7, y6, rfl, h⟩
        refine PW.inv (m' := mX7_findFitting) (pc := 25) dX7_fits_25 lm_X7_292 me_X7_findFitting mi_X7_findFitting (ob hM7.1 s_3 (by decide)) rfl (As := [.int x1, .int y6]) (st := []) rfl (Nat.le_of_ble_eq_true rfl) (Nat.le_of_ble_eq_true rfl) (Nat.le_of_eq hM7.1) (Nat.le_refl _) (PW.deep (by decide) (c_X7_findFitting  hM7 h)) ?_
        rintro _ M8 ⟨hM10, y9, rfl, h⟩
        refine PW.istore_n (pc := 28) dX7_fits_28 (ls' := [.ref 3, .int x1, .int x2, .int y9]) (by decide) rfl rfl ?_
        refine PW.iload_n (pc := 29) dX7_fits_29 rfl ?_
        refine PW.if_ne (pc := 30) dX7_fits_30 (t := 35) (by decide) (fun hc => ?_) (fun hc => ?_)
        · have h := h.1 hc
          refine PW.iload_n (pc := 35) dX7_fits_35 rfl ?_
          refine PW.iconst (pc := 36) dX7_fits_36 (v := 1) (by decide) ?_
          refine PW.icmp_ne (pc := 37) dX7_fits_37 (t := 47) (by decide) (fun hc => ?_) (fun hc => ?_)
          · have h := h.1 hc
            refine PW.aload_n (pc := 47) dX7_fits_47 rfl ?_
            refine PW.inv (m' := mX7_greatestFitting) (pc := 48) dX7_fits_48 lm_X7_298 me_X7_greatestFitting mi_X7_greatestFitting (ob hM10.1 s_3 (by decide)) rfl (As := []) (st := []) rfl (Nat.le_of_ble_eq_true rfl) (Nat.le_of_ble_eq_true rfl) (Nat.le_of_eq hM10.1) (Nat.le_refl _) (PW.deep (by decide) (c_X7_greatestFitting  hM10 h)) ?_
            rintro _ M11 ⟨hM13, y12, rfl, h⟩
            exact PW.retI (pc := 51) dX7_fits_51 hM13.1 rfl rfl ⟨hM13, _, rfl, h⟩
          · have h := h.2 hc
            refine PW.aload_n (pc := 40) dX7_fits_40 rfl ?_
            refine PW.inv (m' := mX7_leastFitting) (pc := 41) dX7_fits_41 lm_X7_295 me_X7_leastFitting mi_X7_leastFitting (ob hM10.1 s_3 (by decide)) rfl (As := []) (st := []) rfl (Nat.le_of_ble_eq_true rfl) (Nat.le_of_ble_eq_true rfl) (Nat.le_of_eq hM10.1) (Nat.le_refl _) (PW.deep (by decide) (c_X7_leastFitting  hM10 h)) ?_
            rintro _ M14 ⟨hM16, y15, rfl, h⟩
            refine PW.goto (pc := 44) dX7_fits_44 (t := 51) (by decide) ?_
            exact PW.retI (pc := 51) dX7_fits_51 hM16.1 rfl rfl ⟨hM16, _, rfl, h⟩
        · have h := h.2 hc
          refine PW.iload_n (pc := 33) dX7_fits_33 rfl ?_
          exact PW.retI (pc := 34) dX7_fits_34 hM10.1 rfl rfl ⟨hM10, _, rfl, h⟩
      · have h := h.2 hc
        refine PW.iconst (pc := 17) dX7_fits_17 (v := (-1)) (by decide) ?_
        exact PW.retI (pc := 18) dX7_fits_18 hM3.1 rfl rfl ⟨hM3, _, rfl, h⟩
def w_X7_countFittingPlayed_4 : Nat → Int32 → Int32 → Int32 → pm → (Int32 → pm → Prop) → Prop
  | 0, _, _, _, _, _ => False
  | n + 1, x1, x2, x3, M, Q => ((99 < x3 → (Q x2 M)) ∧ (¬ 99 < x3 → (vp_in x3 100 ∧ (((mI M 274 x3.toNatClampNeg) = (-1) → (w_X7_countFittingPlayed_4 n x1 x2 (x3 + 1) M Q)) ∧ (¬ (mI M 274 x3.toNatClampNeg) = (-1) → (vp_in x3 100 ∧ (w_X7_countFittingPlayed_4 n x1 (x2 + (((mI M 274 x3.toNatClampNeg) >>> (x1 &&& 31)) &&& 1)) (x3 + 1) M Q)))))))
set_option maxRecDepth 4000 in
theorem c_X7_countFittingPlayed_4  {Q : Int32 → pm → Prop}  : ∀ (n : Nat) (x1 : Int32) (x2 : Int32) (x3 : Int32) (M : pm), pG M → w_X7_countFittingPlayed_4 n x1 x2 x3 M  Q → PW mX7_countFittingPlayed 1 350 4 [.ref 3, .int x1, .int x2, .int x3] [] M (qI Q) := by
  intro n
  induction n with
  | zero => intro x1 x2 x3 M hM h; exact h.elim
  | succ n ih =>
    intro x1 x2 x3 M hM h
    unfold w_X7_countFittingPlayed_4 at h
    refine PW.iload_n (pc := 4) dX7_countFittingPlayed_4 rfl ?_
    refine PW.bipush (pc := 5) dX7_countFittingPlayed_5 (v := 99) (by decide) ?_
    refine PW.icmp_gt (pc := 7) dX7_countFittingPlayed_7 (t := 39) (by decide) (fun hc => ?_) (fun hc => ?_)
    · have h := h.1 hc
      refine PW.iload_n (pc := 39) dX7_countFittingPlayed_39 rfl ?_
      exact PW.retI (pc := 40) dX7_countFittingPlayed_40 hM.1 rfl rfl ⟨hM, _, rfl, h⟩
    · have h := h.2 hc
      refine PW.aload_n (pc := 10) dX7_countFittingPlayed_10 rfl ?_
      refine PW.getR (pc := 11) dX7_countFittingPlayed_11 (r := 274) lf_X7_76 (ob hM.1 s_3 (by decide)) fx_7_14 (oR_7_14 hM s_3) (pS_ne s_274) ?_
      refine PW.iload_n (pc := 14) dX7_countFittingPlayed_14 rfl ?_
      obtain ⟨v1, h⟩ := h
      refine PW.iald (pc := 15) dX7_countFittingPlayed_15 (ar hM.1 s_274) (vpl n_274 v1) ?_
      refine PW.iconst (pc := 16) dX7_countFittingPlayed_16 (v := (-1)) (by decide) ?_
      refine PW.icmp_eq (pc := 17) dX7_countFittingPlayed_17 (t := 33) (by decide) (fun hc => ?_) (fun hc => ?_)
      · have h := h.1 hc
        refine PW.iinc (pc := 33) dX7_countFittingPlayed_33 (v := (x3 + 1)) (ls' := [.ref 3, .int x1, .int x2, .int (x3 + 1)]) rfl rfl (by decide) rfl rfl ?_
        refine PW.goto (pc := 36) dX7_countFittingPlayed_36 (t := 4) (by decide) ?_
        exact PW.drop (ih _ _ _ _ hM h) ⟨rfl, rfl, rfl, rfl, trivial⟩
      · have h := h.2 hc
        refine PW.iload_n (pc := 20) dX7_countFittingPlayed_20 rfl ?_
        refine PW.aload_n (pc := 21) dX7_countFittingPlayed_21 rfl ?_
        refine PW.getR (pc := 22) dX7_countFittingPlayed_22 (r := 274) lf_X7_76 (ob hM.1 s_3 (by decide)) fx_7_14 (oR_7_14 hM s_3) (pS_ne s_274) ?_
        refine PW.iload_n (pc := 25) dX7_countFittingPlayed_25 rfl ?_
        obtain ⟨v2, h⟩ := h
        refine PW.iald (pc := 26) dX7_countFittingPlayed_26 (ar hM.1 s_274) (vpl n_274 v2) ?_
        refine PW.iload_n (pc := 27) dX7_countFittingPlayed_27 rfl ?_
        refine PW.ishr (pc := 28) dX7_countFittingPlayed_28 ?_
        refine PW.iconst (pc := 29) dX7_countFittingPlayed_29 (v := 1) (by decide) ?_
        refine PW.iand (pc := 30) dX7_countFittingPlayed_30 ?_
        refine PW.iadd (pc := 31) dX7_countFittingPlayed_31 ?_
        refine PW.istore_n (pc := 32) dX7_countFittingPlayed_32 (ls' := [.ref 3, .int x1, .int (x2 + (((mI M 274 x3.toNatClampNeg) >>> (x1 &&& 31)) &&& 1)), .int x3]) (by decide) rfl rfl ?_
        refine PW.iinc (pc := 33) dX7_countFittingPlayed_33 (v := (x3 + 1)) (ls' := [.ref 3, .int x1, .int (x2 + (((mI M 274 x3.toNatClampNeg) >>> (x1 &&& 31)) &&& 1)), .int (x3 + 1)]) rfl rfl (by decide) rfl rfl ?_
        refine PW.goto (pc := 36) dX7_countFittingPlayed_36 (t := 4) (by decide) ?_
        exact PW.drop (ih _ _ _ _ hM h) ⟨rfl, rfl, rfl, rfl, trivial⟩
def w_X7_countFittingPlayed (x1 : Int32) (M : pm) (Q : Int32 → pm → Prop) : Prop := ∃ n3, w_X7_countFittingPlayed_4 n3 x1 0 0 M  Q
set_option maxRecDepth 4000 in
theorem c_X7_countFittingPlayed {x1 : Int32} {M : pm} {Q : Int32 → pm → Prop}  (hM : pG M) (h : w_X7_countFittingPlayed x1 M Q) : PW mX7_countFittingPlayed 1 350 0 (pfr mX7_countFittingPlayed.2.2.1 [.ref 3, .int x1]) [] M (qI Q) := by
  unfold w_X7_countFittingPlayed at h
  show PW mX7_countFittingPlayed 1 350 0 [.ref 3, .int x1, .null, .null] [] M (qI Q)
  refine PW.iconst (pc := 0) dX7_countFittingPlayed_0 (v := 0) (by decide) ?_
  refine PW.istore_n (pc := 1) dX7_countFittingPlayed_1 (ls' := [.ref 3, .int x1, .int 0, .null]) (by decide) rfl rfl ?_
  refine PW.iconst (pc := 2) dX7_countFittingPlayed_2 (v := 0) (by decide) ?_
  refine PW.istore_n (pc := 3) dX7_countFittingPlayed_3 (ls' := [.ref 3, .int x1, .int 0, .int 0]) (by decide) rfl rfl ?_
  obtain ⟨n3, h⟩ := h
  refine PW.drop (c_X7_countFittingPlayed_4  n3 _ _ _ _ hM h) ⟨rfl, rfl, rfl, rfl, trivial⟩
def w_X7_tells_42 : Nat → Int32 → Int32 → Int32 → Int32 → Int32 → pm → (Int32 → pm → Prop) → Prop
  | 0, _, _, _, _, _, _, _ => False
  | n + 1, x2, x3, x4, x5, x6, M, Q => ((30 < x6 → ((¬ x2 = 0 → (Q x5 M)) ∧ (x2 = 0 → (Q x4 M)))) ∧ (¬ 30 < x6 → (w_X7_hasDayAhead x6 M (fun y9 M8 => ((y9 = 0 → ((¬ x2 = 0 → (Q x5 M8)) ∧ (x2 = 0 → (Q x4 M8)))) ∧ (¬ y9 = 0 → (w_X7_countFittingPlayed x6 M8 (fun y13 M12 => w_J9_max_7cf53 y13 (x3 - y13) M12 (fun y16 M15 => ((x4 = (-1) → (w_X7_tells_42 n x2 x3 x6 y16 (x6 + 1) M15 Q)) ∧ (¬ x4 = (-1) → ((x5 ≤ y16 → (w_X7_tells_42 n x2 x3 x4 x5 (x6 + 1) M15 Q)) ∧ (¬ x5 ≤ y16 → (w_X7_tells_42 n x2 x3 x6 y16 (x6 + 1) M15 Q))))))))))))))
set_option maxRecDepth 4000 in
theorem c_X7_tells_42  {Q : Int32 → pm → Prop}  : ∀ (n : Nat) (x2 : Int32) (x3 : Int32) (x4 : Int32) (x5 : Int32) (x6 : Int32) (M : pm), pG M → w_X7_tells_42 n x2 x3 x4 x5 x6 M  Q → PW mX7_tells 8 350 42 [.ref 3, .null, .int x2, .int x3, .int x4, .int x5, .int x6, .null, .null] [] M (qI Q) := by
  intro n
  induction n with
  | zero => intro x2 x3 x4 x5 x6 M hM h; exact h.elim
  | succ n ih =>
    intro x2 x3 x4 x5 x6 M hM h
    unfold w_X7_tells_42 at h
    refine PW.iload (pc := 42) dX7_tells_42 rfl ?_
    refine PW.bipush (pc := 44) dX7_tells_44 (v := 30) (by decide) ?_
    refine PW.icmp_gt (pc := 46) dX7_tells_46 (t := 104) (by decide) (fun hc => ?_) (fun hc => ?_)
    · have h := h.1 hc
      refine PW.iload_n (pc := 104) dX7_tells_104 rfl ?_
      refine PW.if_ne (pc := 105) dX7_tells_105 (t := 113) (by decide) (fun hc => ?_) (fun hc => ?_)
      · have h := h.1 hc
        refine PW.iload (pc := 113) dX7_tells_113 rfl ?_
        exact PW.retI (pc := 115) dX7_tells_115 hM.1 rfl rfl ⟨hM, _, rfl, h⟩
      · have h := h.2 hc
        refine PW.iload (pc := 108) dX7_tells_108 rfl ?_
        refine PW.goto (pc := 110) dX7_tells_110 (t := 115) (by decide) ?_
        exact PW.retI (pc := 115) dX7_tells_115 hM.1 rfl rfl ⟨hM, _, rfl, h⟩
    · have h := h.2 hc
      refine PW.aload_n (pc := 49) dX7_tells_49 rfl ?_
      refine PW.iload (pc := 50) dX7_tells_50 rfl ?_
      refine PW.inv (m' := mX7_hasDayAhead) (pc := 52) dX7_tells_52 lm_X7_253 me_X7_hasDayAhead mi_X7_hasDayAhead (ob hM.1 s_3 (by decide)) rfl (As := [.int x6]) (st := []) rfl (Nat.le_of_ble_eq_true rfl) (Nat.le_of_ble_eq_true rfl) (Nat.le_of_eq hM.1) (Nat.le_refl _) (PW.deep (by decide) (c_X7_hasDayAhead  hM h)) ?_
      rintro _ M8 ⟨hM10, y9, rfl, z11, h⟩
      refine PW.if_eq (pc := 55) dX7_tells_55 (t := 104) (by decide) (fun hc => ?_) (fun hc => ?_)
      · have h := h.1 hc
        refine PW.iload_n (pc := 104) dX7_tells_104 rfl ?_
        refine PW.if_ne (pc := 105) dX7_tells_105 (t := 113) (by decide) (fun hc => ?_) (fun hc => ?_)
        · have h := h.1 hc
          refine PW.iload (pc := 113) dX7_tells_113 rfl ?_
          exact PW.retI (pc := 115) dX7_tells_115 hM10.1 rfl rfl ⟨hM10, _, rfl, h⟩
        · have h := h.2 hc
          refine PW.iload (pc := 108) dX7_tells_108 rfl ?_
          refine PW.goto (pc := 110) dX7_tells_110 (t := 115) (by decide) ?_
          exact PW.retI (pc := 115) dX7_tells_115 hM10.1 rfl rfl ⟨hM10, _, rfl, h⟩
      · have h := h.2 hc
        refine PW.aload_n (pc := 58) dX7_tells_58 rfl ?_
        refine PW.iload (pc := 59) dX7_tells_59 rfl ?_
        refine PW.inv (m' := mX7_countFittingPlayed) (pc := 61) dX7_tells_61 lm_X7_305 me_X7_countFittingPlayed mi_X7_countFittingPlayed (ob hM10.1 s_3 (by decide)) rfl (As := [.int x6]) (st := []) rfl (Nat.le_of_ble_eq_true rfl) (Nat.le_of_ble_eq_true rfl) (Nat.le_of_eq hM10.1) (Nat.le_refl _) (PW.deep (by decide) (c_X7_countFittingPlayed  hM10 h)) ?_
        rintro _ M12 ⟨hM14, y13, rfl, h⟩
        refine PW.istore (pc := 64) dX7_tells_64 (ls' := [.ref 3, .null, .int x2, .int x3, .int x4, .int x5, .int x6, .int y13, .null]) (by decide) rfl rfl ?_
        refine PW.iload (pc := 66) dX7_tells_66 rfl ?_
        refine PW.iload_n (pc := 68) dX7_tells_68 rfl ?_
        refine PW.iload (pc := 69) dX7_tells_69 rfl ?_
        refine PW.isub (pc := 71) dX7_tells_71 ?_
        refine PW.ins (m' := mJ9_max_7cf53) (pc := 72) dX7_tells_72 lm_X7_263 me_J9_max_7cf53 ms_J9_max_7cf53 (As := [.int y13, .int (x3 - y13)]) (st := []) rfl (Nat.le_of_ble_eq_true rfl) (Nat.le_of_ble_eq_true rfl) (Nat.le_of_eq hM14.1) (Nat.le_refl _) (PW.deep (by decide) (c_J9_max_7cf53  hM14 h)) ?_
        rintro _ M15 ⟨hM17, y16, rfl, h⟩
        refine PW.istore (pc := 75) dX7_tells_75 (ls' := [.ref 3, .null, .int x2, .int x3, .int x4, .int x5, .int x6, .int y13, .int y16]) (by decide) rfl rfl ?_
        refine PW.iload (pc := 77) dX7_tells_77 rfl ?_
        refine PW.iconst (pc := 79) dX7_tells_79 (v := (-1)) (by decide) ?_
        refine PW.icmp_eq (pc := 80) dX7_tells_80 (t := 90) (by decide) (fun hc => ?_) (fun hc => ?_)
        · have h := h.1 hc
          refine PW.iload (pc := 90) dX7_tells_90 rfl ?_
          refine PW.istore (pc := 92) dX7_tells_92 (ls' := [.ref 3, .null, .int x2, .int x3, .int x6, .int x5, .int x6, .int y13, .int y16]) (by decide) rfl rfl ?_
          refine PW.iload (pc := 94) dX7_tells_94 rfl ?_
          refine PW.istore (pc := 96) dX7_tells_96 (ls' := [.ref 3, .null, .int x2, .int x3, .int x6, .int y16, .int x6, .int y13, .int y16]) (by decide) rfl rfl ?_
          refine PW.iinc (pc := 98) dX7_tells_98 (v := (x6 + 1)) (ls' := [.ref 3, .null, .int x2, .int x3, .int x6, .int y16, .int (x6 + 1), .int y13, .int y16]) rfl rfl (by decide) rfl rfl ?_
          refine PW.goto (pc := 101) dX7_tells_101 (t := 42) (by decide) ?_
          exact PW.drop (ih _ _ _ _ _ _ hM17 h) ⟨rfl, rfl, rfl, rfl, rfl, rfl, trivial⟩
        · have h := h.2 hc
          refine PW.iload (pc := 83) dX7_tells_83 rfl ?_
          refine PW.iload (pc := 85) dX7_tells_85 rfl ?_
          refine PW.icmp_ge (pc := 87) dX7_tells_87 (t := 98) (by decide) (fun hc => ?_) (fun hc => ?_)
          · have h := h.1 hc
            refine PW.iinc (pc := 98) dX7_tells_98 (v := (x6 + 1)) (ls' := [.ref 3, .null, .int x2, .int x3, .int x4, .int x5, .int (x6 + 1), .int y13, .int y16]) rfl rfl (by decide) rfl rfl ?_
            refine PW.goto (pc := 101) dX7_tells_101 (t := 42) (by decide) ?_
            exact PW.drop (ih _ _ _ _ _ _ hM17 h) ⟨rfl, rfl, rfl, rfl, rfl, rfl, trivial⟩
          · have h := h.2 hc
            refine PW.iload (pc := 90) dX7_tells_90 rfl ?_
            refine PW.istore (pc := 92) dX7_tells_92 (ls' := [.ref 3, .null, .int x2, .int x3, .int x6, .int x5, .int x6, .int y13, .int y16]) (by decide) rfl rfl ?_
            refine PW.iload (pc := 94) dX7_tells_94 rfl ?_
            refine PW.istore (pc := 96) dX7_tells_96 (ls' := [.ref 3, .null, .int x2, .int x3, .int x6, .int y16, .int x6, .int y13, .int y16]) (by decide) rfl rfl ?_
            refine PW.iinc (pc := 98) dX7_tells_98 (v := (x6 + 1)) (ls' := [.ref 3, .null, .int x2, .int x3, .int x6, .int y16, .int (x6 + 1), .int y13, .int y16]) rfl rfl (by decide) rfl rfl ?_
            refine PW.goto (pc := 101) dX7_tells_101 (t := 42) (by decide) ?_
            exact PW.drop (ih _ _ _ _ _ _ hM17 h) ⟨rfl, rfl, rfl, rfl, rfl, rfl, trivial⟩
def w_X7_tells (x1 : Int32) (x2 : Int32) (M : pm) (Q : Int32 → pm → Prop) : Prop := w_X7_isAsker x1 M (fun y2 M1 => ((y2 = 0 → (Q (-1) M1)) ∧ (¬ y2 = 0 → ((x2 < 0 → (Q (-1) M1)) ∧ (¬ x2 < 0 → ((x2 ≤ 1 → (w_X7_findFitting x1 30 M1 (fun y6 M5 => ((¬ y6 = 0 → (∃ n18, w_X7_tells_42 n18 x2 y6 (-1) 0 0 M5  Q)) ∧ (y6 = 0 → (Q (-1) M5)))))) ∧ (¬ x2 ≤ 1 → (Q (-1) M1))))))))
set_option maxRecDepth 4000 in
theorem c_X7_tells {x1 : Int32} {x2 : Int32} {M : pm} {Q : Int32 → pm → Prop}  (hM : pG M) (h : w_X7_tells x1 x2 M Q) : PW mX7_tells 8 350 0 (pfr mX7_tells.2.2.1 [.ref 3, .int x1, .int x2]) [] M (qI Q) := by
  unfold w_X7_tells at h
  show PW mX7_tells 8 350 0 [.ref 3, .int x1, .int x2, .null, .null, .null, .null, .null, .null] [] M (qI Q)
  refine PW.aload_n (pc := 0) dX7_tells_0 rfl ?_
  refine PW.iload_n (pc := 1) dX7_tells_1 rfl ?_
  refine PW.inv (m' := mX7_isAsker) (pc := 2) dX7_tells_2 lm_X7_188 me_X7_isAsker mi_X7_isAsker (ob hM.1 s_3 (by decide)) rfl (As := [.int x1]) (st := []) rfl (Nat.le_of_ble_eq_true rfl) (Nat.le_of_ble_eq_true rfl) (Nat.le_of_eq hM.1) (Nat.le_refl _) (PW.deep (by decide) (c_X7_isAsker  hM h)) ?_
  rintro _ M1 ⟨hM3, y2, rfl, z4, h⟩
  refine PW.if_eq (pc := 5) dX7_tells_5 (t := 17) (by decide) (fun hc => ?_) (fun hc => ?_)
  · have h := h.1 hc
    refine PW.iconst (pc := 17) dX7_tells_17 (v := (-1)) (by decide) ?_
    exact PW.retI (pc := 18) dX7_tells_18 hM3.1 rfl rfl ⟨hM3, _, rfl, h⟩
  · have h := h.2 hc
    refine PW.iload_n (pc := 8) dX7_tells_8 rfl ?_
    refine PW.if_lt (pc := 9) dX7_tells_9 (t := 17) (by decide) (fun hc => ?_) (fun hc => ?_)
    · have h := h.1 hc
      refine PW.iconst (pc := 17) dX7_tells_17 (v := (-1)) (by decide) ?_
      exact PW.retI (pc := 18) dX7_tells_18 hM3.1 rfl rfl ⟨hM3, _, rfl, h⟩
    · have h := h.2 hc
      refine PW.iload_n (pc := 12) dX7_tells_12 rfl ?_
      refine PW.iconst (pc := 13) dX7_tells_13 (v := 1) (by decide) ?_
      refine PW.icmp_le (pc := 14) dX7_tells_14 (t := 19) (by decide) (fun hc => ?_) (fun hc => ?_)
      · have h := h.1 hc
        refine PW.aload_n (pc := 19) dX7_tells_19 rfl ?_
        refine PW.iload_n (pc := 20) dX7_tells_20 rfl ?_
        refine PW.bipush (pc := 21) dX7_tells_21 (v := 30) (by decide) ?_
        refine PW.inv (m' := mX7_findFitting) (pc := 23) dX7_tells_23 lm_X7_292 me_X7_findFitting mi_X7_findFitting (ob hM3.1 s_3 (by decide)) rfl (As := [.int x1, .int 30]) (st := []) rfl (Nat.le_of_ble_eq_true rfl) (Nat.le_of_ble_eq_true rfl) (Nat.le_of_eq hM3.1) (Nat.le_refl _) (PW.deep (by decide) (c_X7_findFitting  hM3 h)) ?_
        rintro _ M5 ⟨hM7, y6, rfl, h⟩
        refine PW.istore_n (pc := 26) dX7_tells_26 (ls' := [.ref 3, .int x1, .int x2, .int y6, .null, .null, .null, .null, .null]) (by decide) rfl rfl ?_
        refine PW.iload_n (pc := 27) dX7_tells_27 rfl ?_
        refine PW.if_ne (pc := 28) dX7_tells_28 (t := 33) (by decide) (fun hc => ?_) (fun hc => ?_)
        · have h := h.1 hc
          refine PW.iconst (pc := 33) dX7_tells_33 (v := (-1)) (by decide) ?_
          refine PW.istore (pc := 34) dX7_tells_34 (ls' := [.ref 3, .int x1, .int x2, .int y6, .int (-1), .null, .null, .null, .null]) (by decide) rfl rfl ?_
          refine PW.iconst (pc := 36) dX7_tells_36 (v := 0) (by decide) ?_
          refine PW.istore (pc := 37) dX7_tells_37 (ls' := [.ref 3, .int x1, .int x2, .int y6, .int (-1), .int 0, .null, .null, .null]) (by decide) rfl rfl ?_
          refine PW.iconst (pc := 39) dX7_tells_39 (v := 0) (by decide) ?_
          refine PW.istore (pc := 40) dX7_tells_40 (ls' := [.ref 3, .int x1, .int x2, .int y6, .int (-1), .int 0, .int 0, .null, .null]) (by decide) rfl rfl ?_
          obtain ⟨n18, h⟩ := h
          refine PW.drop (c_X7_tells_42  n18 _ _ _ _ _ _ hM7 h) ⟨rfl, rfl, rfl, rfl, rfl, rfl, trivial⟩
        · have h := h.2 hc
          refine PW.iconst (pc := 31) dX7_tells_31 (v := (-1)) (by decide) ?_
          exact PW.retI (pc := 32) dX7_tells_32 hM7.1 rfl rfl ⟨hM7, _, rfl, h⟩
      · have h := h.2 hc
        refine PW.iconst (pc := 17) dX7_tells_17 (v := (-1)) (by decide) ?_
        exact PW.retI (pc := 18) dX7_tells_18 hM3.1 rfl rfl ⟨hM3, _, rfl, h⟩
def w_X7_want (x1 : Int32) (x2 : Int32) (M : pm) (Q : Int32 → pm → Prop) : Prop := w_X7_isAsker x1 M (fun y2 M1 => ((y2 = 0 → (w_X7_refuse 2 M1 (fun M5 => Q 0 M5))) ∧ (¬ y2 = 0 → (w_X7_isSong x2 M1 (fun y9 M8 => ((y9 = 0 → (w_X7_refuse 2 M8 (fun M12 => Q 0 M12))) ∧ (¬ y9 = 0 → (vp_in x1 8 ∧ ((¬ (mI M8 58 x1.toNatClampNeg) = x2 → (w_X0_remember 57 M8 (fun M16 => vp_in x1 8 ∧ (Q 1 (sI M16 58 x1.toNatClampNeg x2))))) ∧ ((mI M8 58 x1.toNatClampNeg) = x2 → (w_X7_refuse 2 M8 (fun M20 => Q 0 M20))))))))))))
set_option maxRecDepth 4000 in
theorem c_X7_want {x1 : Int32} {x2 : Int32} {M : pm} {Q : Int32 → pm → Prop}  (hM : pG M) (h : w_X7_want x1 x2 M Q) : PW mX7_want 4 350 0 (pfr mX7_want.2.2.1 [.ref 3, .int x1, .int x2]) [] M (qZ Q) := by
  unfold w_X7_want at h
  show PW mX7_want 4 350 0 [.ref 3, .int x1, .int x2] [] M (qZ Q)
  refine PW.aload_n (pc := 0) dX7_want_0 rfl ?_
  refine PW.iload_n (pc := 1) dX7_want_1 rfl ?_
  refine PW.inv (m' := mX7_isAsker) (pc := 2) dX7_want_2 lm_X7_188 me_X7_isAsker mi_X7_isAsker (ob hM.1 s_3 (by decide)) rfl (As := [.int x1]) (st := []) rfl (Nat.le_of_ble_eq_true rfl) (Nat.le_of_ble_eq_true rfl) (Nat.le_of_eq hM.1) (Nat.le_refl _) (PW.deep (by decide) (c_X7_isAsker  hM h)) ?_
  rintro _ M1 ⟨hM3, y2, rfl, z4, h⟩
  refine PW.if_eq (pc := 5) dX7_want_5 (t := 29) (by decide) (fun hc => ?_) (fun hc => ?_)
  · have h := h.1 hc
    refine PW.aload_n (pc := 29) dX7_want_29 rfl ?_
    refine PW.iconst (pc := 30) dX7_want_30 (v := 2) (by decide) ?_
    refine PW.inv (m' := mX7_refuse) (pc := 31) dX7_want_31 lm_X7_92 me_X7_refuse mi_X7_refuse (ob hM3.1 s_3 (by decide)) rfl (As := [.int 2]) (st := []) rfl (Nat.le_of_ble_eq_true rfl) (Nat.le_of_ble_eq_true rfl) (Nat.le_of_eq hM3.1) (Nat.le_refl _) (PW.deep (by decide) (c_X7_refuse  hM3 h)) ?_
    rintro _ M5 ⟨hM7, rfl, h⟩
    refine PW.iconst (pc := 34) dX7_want_34 (v := 0) (by decide) ?_
    exact PW.retI (pc := 35) dX7_want_35 hM7.1 rfl (bz_n bz0) ⟨hM7, _, rfl, bz0, h⟩
  · have h := h.2 hc
    refine PW.aload_n (pc := 8) dX7_want_8 rfl ?_
    refine PW.iload_n (pc := 9) dX7_want_9 rfl ?_
    refine PW.inv (m' := mX7_isSong) (pc := 10) dX7_want_10 lm_X7_178 me_X7_isSong mi_X7_isSong (ob hM3.1 s_3 (by decide)) rfl (As := [.int x2]) (st := []) rfl (Nat.le_of_ble_eq_true rfl) (Nat.le_of_ble_eq_true rfl) (Nat.le_of_eq hM3.1) (Nat.le_refl _) (PW.deep (by decide) (c_X7_isSong  hM3 h)) ?_
    rintro _ M8 ⟨hM10, y9, rfl, z11, h⟩
    refine PW.if_eq (pc := 13) dX7_want_13 (t := 29) (by decide) (fun hc => ?_) (fun hc => ?_)
    · have h := h.1 hc
      refine PW.aload_n (pc := 29) dX7_want_29 rfl ?_
      refine PW.iconst (pc := 30) dX7_want_30 (v := 2) (by decide) ?_
      refine PW.inv (m' := mX7_refuse) (pc := 31) dX7_want_31 lm_X7_92 me_X7_refuse mi_X7_refuse (ob hM10.1 s_3 (by decide)) rfl (As := [.int 2]) (st := []) rfl (Nat.le_of_ble_eq_true rfl) (Nat.le_of_ble_eq_true rfl) (Nat.le_of_eq hM10.1) (Nat.le_refl _) (PW.deep (by decide) (c_X7_refuse  hM10 h)) ?_
      rintro _ M12 ⟨hM14, rfl, h⟩
      refine PW.iconst (pc := 34) dX7_want_34 (v := 0) (by decide) ?_
      exact PW.retI (pc := 35) dX7_want_35 hM14.1 rfl (bz_n bz0) ⟨hM14, _, rfl, bz0, h⟩
    · have h := h.2 hc
      refine PW.aload_n (pc := 16) dX7_want_16 rfl ?_
      refine PW.getR (pc := 17) dX7_want_17 (r := 57) lf_X7_54 (ob hM10.1 s_3 (by decide)) fx_7_9 (oR_7_9 hM10 s_3) (pS_ne s_57) ?_
      refine PW.getR (pc := 20) dX7_want_20 (r := 58) lf_X7_206 (ob hM10.1 s_57 (by decide)) fx_4_2 (oR_4_2 hM10 s_57) (pS_ne s_58) ?_
      refine PW.iload_n (pc := 23) dX7_want_23 rfl ?_
      obtain ⟨v15, h⟩ := h
      refine PW.iald (pc := 24) dX7_want_24 (ar hM10.1 s_58) (vpl n_58 v15) ?_
      refine PW.iload_n (pc := 25) dX7_want_25 rfl ?_
      refine PW.icmp_ne (pc := 26) dX7_want_26 (t := 36) (by decide) (fun hc => ?_) (fun hc => ?_)
      · have h := h.1 hc
        refine PW.aload_n (pc := 36) dX7_want_36 rfl ?_
        refine PW.getR (pc := 37) dX7_want_37 (r := 75) lf_X7_64 (ob hM10.1 s_3 (by decide)) fx_7_11 (oR_7_11 hM10 s_3) (pS_ne s_75) ?_
        refine PW.aload_n (pc := 40) dX7_want_40 rfl ?_
        refine PW.getR (pc := 41) dX7_want_41 (r := 57) lf_X7_54 (ob hM10.1 s_3 (by decide)) fx_7_9 (oR_7_9 hM10 s_3) (pS_ne s_57) ?_
        refine PW.inv (m' := mX0_remember) (pc := 44) dX7_want_44 lm_X7_308 me_X0_remember mi_X0_remember (ob hM10.1 s_75 (by decide)) rfl (As := [.ref 57]) (st := []) rfl (Nat.le_of_ble_eq_true rfl) (Nat.le_of_ble_eq_true rfl) (Nat.le_of_eq hM10.1) (Nat.le_refl _) (PW.deep (by decide) (c_X0_remember s_57 hM10 h)) ?_
        rintro _ M16 ⟨hM18, rfl, h⟩
        refine PW.aload_n (pc := 47) dX7_want_47 rfl ?_
        refine PW.getR (pc := 48) dX7_want_48 (r := 57) lf_X7_54 (ob hM18.1 s_3 (by decide)) fx_7_9 (oR_7_9 hM18 s_3) (pS_ne s_57) ?_
        refine PW.getR (pc := 51) dX7_want_51 (r := 58) lf_X7_206 (ob hM18.1 s_57 (by decide)) fx_4_2 (oR_4_2 hM18 s_57) (pS_ne s_58) ?_
        refine PW.iload_n (pc := 54) dX7_want_54 rfl ?_
        refine PW.iload_n (pc := 55) dX7_want_55 rfl ?_
        obtain ⟨v19, h⟩ := h
        refine PW.iast (pc := 56) dX7_want_56 (ar hM18.1 s_58) (vpl n_58 v19) ?_
        refine PW.iconst (pc := 57) dX7_want_57 (v := 1) (by decide) ?_
        exact PW.retI (pc := 58) dX7_want_58 hM18.1 rfl (bz_n bz1) ⟨(hM18.same rfl rfl), _, rfl, bz1, h⟩
      · have h := h.2 hc
        refine PW.aload_n (pc := 29) dX7_want_29 rfl ?_
        refine PW.iconst (pc := 30) dX7_want_30 (v := 2) (by decide) ?_
        refine PW.inv (m' := mX7_refuse) (pc := 31) dX7_want_31 lm_X7_92 me_X7_refuse mi_X7_refuse (ob hM10.1 s_3 (by decide)) rfl (As := [.int 2]) (st := []) rfl (Nat.le_of_ble_eq_true rfl) (Nat.le_of_ble_eq_true rfl) (Nat.le_of_eq hM10.1) (Nat.le_refl _) (PW.deep (by decide) (c_X7_refuse  hM10 h)) ?_
        rintro _ M20 ⟨hM22, rfl, h⟩
        refine PW.iconst (pc := 34) dX7_want_34 (v := 0) (by decide) ?_
        exact PW.retI (pc := 35) dX7_want_35 hM22.1 rfl (bz_n bz0) ⟨hM22, _, rfl, bz0, h⟩
def w_X7_mourn (x1 : Int32) (x2 : Int32) (M : pm) (Q : Int32 → pm → Prop) : Prop := w_X7_isAsker x1 M (fun y2 M1 => ((y2 = 0 → (w_X7_refuse 2 M1 (fun M5 => Q (-1) M5))) ∧ (¬ y2 = 0 → ((x2 < 1 → (w_X7_refuse 2 M1 (fun M8 => Q (-1) M8))) ∧ (¬ x2 < 1 → ((99 < x2 → (w_X7_refuse 2 M1 (fun M11 => Q (-1) M11))) ∧ (¬ 99 < x2 → (vp_in x1 8 ∧ (((mI M1 60 x1.toNatClampNeg) < 99 → (w_X0_remember 57 M1 (fun M15 => vp_in x1 8 ∧ (w_J9_min_7cf53 99 ((mI M15 60 x1.toNatClampNeg) + x2) M15 (fun y20 M19 => vp_in x1 8 ∧ (vp_in x1 8 ∧ (Q (mI (sI M19 60 x1.toNatClampNeg y20) 60 x1.toNatClampNeg) (sI M19 60 x1.toNatClampNeg y20)))))))) ∧ (¬ (mI M1 60 x1.toNatClampNeg) < 99 → (w_X7_refuse 2 M1 (fun M24 => Q (-1) M24))))))))))))
set_option maxRecDepth 4000 in
theorem c_X7_mourn {x1 : Int32} {x2 : Int32} {M : pm} {Q : Int32 → pm → Prop}  (hM : pG M) (h : w_X7_mourn x1 x2 M Q) : PW mX7_mourn 4 350 0 (pfr mX7_mourn.2.2.1 [.ref 3, .int x1, .int x2]) [] M (qI Q) := by
  unfold w_X7_mourn at h
  show PW mX7_mourn 4 350 0 [.ref 3, .int x1, .int x2] [] M (qI Q)
  refine PW.aload_n (pc := 0) dX7_mourn_0 rfl ?_
  refine PW.iload_n (pc := 1) dX7_mourn_1 rfl ?_
  refine PW.inv (m' := mX7_isAsker) (pc := 2) dX7_mourn_2 lm_X7_188 me_X7_isAsker mi_X7_isAsker (ob hM.1 s_3 (by decide)) rfl (As := [.int x1]) (st := []) rfl (Nat.le_of_ble_eq_true rfl) (Nat.le_of_ble_eq_true rfl) (Nat.le_of_eq hM.1) (Nat.le_refl _) (PW.deep (by decide) (c_X7_isAsker  hM h)) ?_
  rintro _ M1 ⟨hM3, y2, rfl, z4, h⟩
  refine PW.if_eq (pc := 5) dX7_mourn_5 (t := 33) (by decide) (fun hc => ?_) (fun hc => ?_)
  · have h := h.1 hc
    refine PW.aload_n (pc := 33) dX7_mourn_33 rfl ?_
    refine PW.iconst (pc := 34) dX7_mourn_34 (v := 2) (by decide) ?_
    refine PW.inv (m' := mX7_refuse) (pc := 35) dX7_mourn_35 lm_X7_92 me_X7_refuse mi_X7_refuse (ob hM3.1 s_3 (by decide)) rfl (As := [.int 2]) (st := []) rfl (Nat.le_of_ble_eq_true rfl) (Nat.le_of_ble_eq_true rfl) (Nat.le_of_eq hM3.1) (Nat.le_refl _) (PW.deep (by decide) (c_X7_refuse  hM3 h)) ?_
    rintro _ M5 ⟨hM7, rfl, h⟩
    refine PW.iconst (pc := 38) dX7_mourn_38 (v := (-1)) (by decide) ?_
    exact PW.retI (pc := 39) dX7_mourn_39 hM7.1 rfl rfl ⟨hM7, _, rfl, h⟩
  · have h := h.2 hc
    refine PW.iload_n (pc := 8) dX7_mourn_8 rfl ?_
    refine PW.iconst (pc := 9) dX7_mourn_9 (v := 1) (by decide) ?_
    refine PW.icmp_lt (pc := 10) dX7_mourn_10 (t := 33) (by decide) (fun hc => ?_) (fun hc => ?_)
    · have h := h.1 hc
      refine PW.aload_n (pc := 33) dX7_mourn_33 rfl ?_
      refine PW.iconst (pc := 34) dX7_mourn_34 (v := 2) (by decide) ?_
      refine PW.inv (m' := mX7_refuse) (pc := 35) dX7_mourn_35 lm_X7_92 me_X7_refuse mi_X7_refuse (ob hM3.1 s_3 (by decide)) rfl (As := [.int 2]) (st := []) rfl (Nat.le_of_ble_eq_true rfl) (Nat.le_of_ble_eq_true rfl) (Nat.le_of_eq hM3.1) (Nat.le_refl _) (PW.deep (by decide) (c_X7_refuse  hM3 h)) ?_
      rintro _ M8 ⟨hM10, rfl, h⟩
      refine PW.iconst (pc := 38) dX7_mourn_38 (v := (-1)) (by decide) ?_
      exact PW.retI (pc := 39) dX7_mourn_39 hM10.1 rfl rfl ⟨hM10, _, rfl, h⟩
    · have h := h.2 hc
      refine PW.iload_n (pc := 13) dX7_mourn_13 rfl ?_
      refine PW.bipush (pc := 14) dX7_mourn_14 (v := 99) (by decide) ?_
      refine PW.icmp_gt (pc := 16) dX7_mourn_16 (t := 33) (by decide) (fun hc => ?_) (fun hc => ?_)
      · have h := h.1 hc
        refine PW.aload_n (pc := 33) dX7_mourn_33 rfl ?_
        refine PW.iconst (pc := 34) dX7_mourn_34 (v := 2) (by decide) ?_
        refine PW.inv (m' := mX7_refuse) (pc := 35) dX7_mourn_35 lm_X7_92 me_X7_refuse mi_X7_refuse (ob hM3.1 s_3 (by decide)) rfl (As := [.int 2]) (st := []) rfl (Nat.le_of_ble_eq_true rfl) (Nat.le_of_ble_eq_true rfl) (Nat.le_of_eq hM3.1) (Nat.le_refl _) (PW.deep (by decide) (c_X7_refuse  hM3 h)) ?_
        rintro _ M11 ⟨hM13, rfl, h⟩
        refine PW.iconst (pc := 38) dX7_mourn_38 (v := (-1)) (by decide) ?_
        exact PW.retI (pc := 39) dX7_mourn_39 hM13.1 rfl rfl ⟨hM13, _, rfl, h⟩
      · have h := h.2 hc
        refine PW.aload_n (pc := 19) dX7_mourn_19 rfl ?_
        refine PW.getR (pc := 20) dX7_mourn_20 (r := 57) lf_X7_54 (ob hM3.1 s_3 (by decide)) fx_7_9 (oR_7_9 hM3 s_3) (pS_ne s_57) ?_
        refine PW.getR (pc := 23) dX7_mourn_23 (r := 60) lf_X7_175 (ob hM3.1 s_57 (by decide)) fx_4_4 (oR_4_4 hM3 s_57) (pS_ne s_60) ?_
        refine PW.iload_n (pc := 26) dX7_mourn_26 rfl ?_
        obtain ⟨v14, h⟩ := h
        refine PW.iald (pc := 27) dX7_mourn_27 (ar hM3.1 s_60) (vpl n_60 v14) ?_
        refine PW.bipush (pc := 28) dX7_mourn_28 (v := 99) (by decide) ?_
        refine PW.icmp_lt (pc := 30) dX7_mourn_30 (t := 40) (by decide) (fun hc => ?_) (fun hc => ?_)
        · have h := h.1 hc
          refine PW.aload_n (pc := 40) dX7_mourn_40 rfl ?_
          refine PW.getR (pc := 41) dX7_mourn_41 (r := 75) lf_X7_64 (ob hM3.1 s_3 (by decide)) fx_7_11 (oR_7_11 hM3 s_3) (pS_ne s_75) ?_
          refine PW.aload_n (pc := 44) dX7_mourn_44 rfl ?_
          refine PW.getR (pc := 45) dX7_mourn_45 (r := 57) lf_X7_54 (ob hM3.1 s_3 (by decide)) fx_7_9 (oR_7_9 hM3 s_3) (pS_ne s_57) ?_
          refine PW.inv (m' := mX0_remember) (pc := 48) dX7_mourn_48 lm_X7_308 me_X0_remember mi_X0_remember (ob hM3.1 s_75 (by decide)) rfl (As := [.ref 57]) (st := []) rfl (Nat.le_of_ble_eq_true rfl) (Nat.le_of_ble_eq_true rfl) (Nat.le_of_eq hM3.1) (Nat.le_refl _) (PW.deep (by decide) (c_X0_remember s_57 hM3 h)) ?_
          rintro _ M15 ⟨hM17, rfl, h⟩
          refine PW.aload_n (pc := 51) dX7_mourn_51 rfl ?_
          refine PW.getR (pc := 52) dX7_mourn_52 (r := 57) lf_X7_54 (ob hM17.1 s_3 (by decide)) fx_7_9 (oR_7_9 hM17 s_3) (pS_ne s_57) ?_
          refine PW.getR (pc := 55) dX7_mourn_55 (r := 60) lf_X7_175 (ob hM17.1 s_57 (by decide)) fx_4_4 (oR_4_4 hM17 s_57) (pS_ne s_60) ?_
          refine PW.iload_n (pc := 58) dX7_mourn_58 rfl ?_
          refine PW.bipush (pc := 59) dX7_mourn_59 (v := 99) (by decide) ?_
          refine PW.aload_n (pc := 61) dX7_mourn_61 rfl ?_
          refine PW.getR (pc := 62) dX7_mourn_62 (r := 57) lf_X7_54 (ob hM17.1 s_3 (by decide)) fx_7_9 (oR_7_9 hM17 s_3) (pS_ne s_57) ?_
          refine PW.getR (pc := 65) dX7_mourn_65 (r := 60) lf_X7_175 (ob hM17.1 s_57 (by decide)) fx_4_4 (oR_4_4 hM17 s_57) (pS_ne s_60) ?_
          refine PW.iload_n (pc := 68) dX7_mourn_68 rfl ?_
          obtain ⟨v18, h⟩ := h
          refine PW.iald (pc := 69) dX7_mourn_69 (ar hM17.1 s_60) (vpl n_60 v18) ?_
          refine PW.iload_n (pc := 70) dX7_mourn_70 rfl ?_
          refine PW.iadd (pc := 71) dX7_mourn_71 ?_
          refine PW.ins (m' := mJ9_min_7cf53) (pc := 72) dX7_mourn_72 lm_X7_311 me_J9_min_7cf53 ms_J9_min_7cf53 (As := [.int 99, .int ((mI M15 60 x1.toNatClampNeg) + x2)]) (st := [.int x1, .ref 60]) rfl (Nat.le_of_ble_eq_true rfl) (Nat.le_of_ble_eq_true rfl) (Nat.le_of_eq hM17.1) (Nat.le_refl _) (PW.deep (by decide) (c_J9_min_7cf53  hM17 h)) ?_
          rintro _ M19 ⟨hM21, y20, rfl, h⟩
          obtain ⟨v22, h⟩ := h
          refine PW.iast (pc := 75) dX7_mourn_75 (ar hM21.1 s_60) (vpl n_60 v22) ?_
          refine PW.aload_n (pc := 76) dX7_mourn_76 rfl ?_
          refine PW.getR (pc := 77) dX7_mourn_77 (r := 57) lf_X7_54 (ob hM21.1 s_3 (by decide)) fx_7_9 (oR_7_9 (hM21.same rfl rfl) s_3) (pS_ne s_57) ?_
          refine PW.getR (pc := 80) dX7_mourn_80 (r := 60) lf_X7_175 (ob hM21.1 s_57 (by decide)) fx_4_4 (oR_4_4 (hM21.same rfl rfl) s_57) (pS_ne s_60) ?_
          refine PW.iload_n (pc := 83) dX7_mourn_83 rfl ?_
          obtain ⟨v23, h⟩ := h
          refine PW.iald (pc := 84) dX7_mourn_84 (ar hM21.1 s_60) (vpl n_60 v23) ?_
          exact PW.retI (pc := 85) dX7_mourn_85 hM21.1 rfl rfl ⟨(hM21.same rfl rfl), _, rfl, h⟩
        · have h := h.2 hc
          refine PW.aload_n (pc := 33) dX7_mourn_33 rfl ?_
          refine PW.iconst (pc := 34) dX7_mourn_34 (v := 2) (by decide) ?_
          refine PW.inv (m' := mX7_refuse) (pc := 35) dX7_mourn_35 lm_X7_92 me_X7_refuse mi_X7_refuse (ob hM3.1 s_3 (by decide)) rfl (As := [.int 2]) (st := []) rfl (Nat.le_of_ble_eq_true rfl) (Nat.le_of_ble_eq_true rfl) (Nat.le_of_eq hM3.1) (Nat.le_refl _) (PW.deep (by decide) (c_X7_refuse  hM3 h)) ?_
          rintro _ M24 ⟨hM26, rfl, h⟩
          refine PW.iconst (pc := 38) dX7_mourn_38 (v := (-1)) (by decide) ?_
          exact PW.retI (pc := 39) dX7_mourn_39 hM26.1 rfl rfl ⟨hM26, _, rfl, h⟩
def w_X7_canPass (x1 : Int32) (M : pm) (Q : Int32 → pm → Prop) : Prop := ((x1 < 1 → (Q 0 M)) ∧ (¬ x1 < 1 → ((100 < x1 → (Q 0 M)) ∧ (¬ 100 < x1 → (w_X7_hasDayAhead x1 M (fun y2 M1 => ((y2 = 0 → (Q 0 M1)) ∧ (¬ y2 = 0 → (Q 1 M1)))))))))
set_option maxRecDepth 4000 in
theorem c_X7_canPass {x1 : Int32} {M : pm} {Q : Int32 → pm → Prop}  (hM : pG M) (h : w_X7_canPass x1 M Q) : PW mX7_canPass 2 350 0 (pfr mX7_canPass.2.2.1 [.ref 3, .int x1]) [] M (qZ Q) := by
  unfold w_X7_canPass at h
  show PW mX7_canPass 2 350 0 [.ref 3, .int x1] [] M (qZ Q)
  refine PW.iload_n (pc := 0) dX7_canPass_0 rfl ?_
  refine PW.iconst (pc := 1) dX7_canPass_1 (v := 1) (by decide) ?_
  refine PW.icmp_lt (pc := 2) dX7_canPass_2 (t := 23) (by decide) (fun hc => ?_) (fun hc => ?_)
  · have h := h.1 hc
    refine PW.iconst (pc := 23) dX7_canPass_23 (v := 0) (by decide) ?_
    exact PW.retI (pc := 24) dX7_canPass_24 hM.1 rfl (bz_n bz0) ⟨hM, _, rfl, bz0, h⟩
  · have h := h.2 hc
    refine PW.iload_n (pc := 5) dX7_canPass_5 rfl ?_
    refine PW.bipush (pc := 6) dX7_canPass_6 (v := 100) (by decide) ?_
    refine PW.icmp_gt (pc := 8) dX7_canPass_8 (t := 23) (by decide) (fun hc => ?_) (fun hc => ?_)
    · have h := h.1 hc
      refine PW.iconst (pc := 23) dX7_canPass_23 (v := 0) (by decide) ?_
      exact PW.retI (pc := 24) dX7_canPass_24 hM.1 rfl (bz_n bz0) ⟨hM, _, rfl, bz0, h⟩
    · have h := h.2 hc
      refine PW.aload_n (pc := 11) dX7_canPass_11 rfl ?_
      refine PW.iload_n (pc := 12) dX7_canPass_12 rfl ?_
      refine PW.inv (m' := mX7_hasDayAhead) (pc := 13) dX7_canPass_13 lm_X7_253 me_X7_hasDayAhead mi_X7_hasDayAhead (ob hM.1 s_3 (by decide)) rfl (As := [.int x1]) (st := []) rfl (Nat.le_of_ble_eq_true rfl) (Nat.le_of_ble_eq_true rfl) (Nat.le_of_eq hM.1) (Nat.le_refl _) (PW.deep (by decide) (c_X7_hasDayAhead  hM h)) ?_
      rintro _ M1 ⟨hM3, y2, rfl, z4, h⟩
      refine PW.if_eq (pc := 16) dX7_canPass_16 (t := 23) (by decide) (fun hc => ?_) (fun hc => ?_)
      · have h := h.1 hc
        refine PW.iconst (pc := 23) dX7_canPass_23 (v := 0) (by decide) ?_
        exact PW.retI (pc := 24) dX7_canPass_24 hM3.1 rfl (bz_n bz0) ⟨hM3, _, rfl, bz0, h⟩
      · have h := h.2 hc
        refine PW.iconst (pc := 19) dX7_canPass_19 (v := 1) (by decide) ?_
        refine PW.goto (pc := 20) dX7_canPass_20 (t := 24) (by decide) ?_
        exact PW.retI (pc := 24) dX7_canPass_24 hM3.1 rfl (bz_n bz1) ⟨hM3, _, rfl, bz1, h⟩
def w_X7_passDay  (M : pm) (Q : Int32 → pm → Prop) : Prop := w_X1_bestBits (mR M 3 3) 57 M (fun y2 M1 => w_X1_playDay (mR M1 3 3) 57 y2 M1 (fun y5 M4 => w_X4_keep 57 (mI M1 57 0) y2 y5 M4 (fun M7 => w_J6_bitCount_0f7a4 y2 M7 (fun y11 M10 => Q y11 M10))))
set_option maxRecDepth 4000 in
theorem c_X7_passDay  {M : pm} {Q : Int32 → pm → Prop}  (hM : pG M) (h : w_X7_passDay  M Q) : PW mX7_passDay 7 350 0 (pfr mX7_passDay.2.2.1 [.ref 3]) [] M (qI Q) := by
  unfold w_X7_passDay at h
  show PW mX7_passDay 7 350 0 [.ref 3, .null, .null, .null] [] M (qI Q)
  refine PW.aload_n (pc := 0) dX7_passDay_0 rfl ?_
  refine PW.getR (pc := 1) dX7_passDay_1 (r := 44) lf_X7_47 (ob hM.1 s_3 (by decide)) fx_7_8 (oR_7_8 hM s_3) (pS_ne s_44) ?_
  refine PW.aload_n (pc := 4) dX7_passDay_4 rfl ?_
  refine PW.getR (pc := 5) dX7_passDay_5 (r := (mR M 3 3)) lf_X7_27 (ob hM.1 s_3 (by decide)) fx_7_3 rfl (pS_ne (hM.2.2.2.2.1)) ?_
  refine PW.aload_n (pc := 8) dX7_passDay_8 rfl ?_
  refine PW.getR (pc := 9) dX7_passDay_9 (r := 57) lf_X7_54 (ob hM.1 s_3 (by decide)) fx_7_9 (oR_7_9 hM s_3) (pS_ne s_57) ?_
  refine PW.inv (m' := mX1_bestBits) (pc := 12) dX7_passDay_12 lm_X7_228 me_X1_bestBits mi_X1_bestBits (ob hM.1 s_44 (by decide)) rfl (As := [.ref (mR M 3 3), .ref 57]) (st := []) rfl (Nat.le_of_ble_eq_true rfl) (Nat.le_of_ble_eq_true rfl) (Nat.le_of_eq hM.1) (Nat.le_refl _) (PW.deep (by decide) (c_X1_bestBits (hM.2.2.2.2.1) s_57 hM h)) ?_
  rintro _ M1 ⟨hM3, y2, rfl, h⟩
  refine PW.istore_n (pc := 15) dX7_passDay_15 (ls' := [.ref 3, .int y2, .null, .null]) (by decide) rfl rfl ?_
  refine PW.aload_n (pc := 16) dX7_passDay_16 rfl ?_
  refine PW.getR (pc := 17) dX7_passDay_17 (r := 57) lf_X7_54 (ob hM3.1 s_3 (by decide)) fx_7_9 (oR_7_9 hM3 s_3) (pS_ne s_57) ?_
  refine PW.getI (pc := 20) dX7_passDay_20 lf_X7_144 (ob hM3.1 s_57 (by decide)) fx_4_0 ?_
  refine PW.istore_n (pc := 23) dX7_passDay_23 (ls' := [.ref 3, .int y2, .int (mI M1 57 0), .null]) (by decide) rfl rfl ?_
  refine PW.aload_n (pc := 24) dX7_passDay_24 rfl ?_
  refine PW.getR (pc := 25) dX7_passDay_25 (r := 44) lf_X7_47 (ob hM3.1 s_3 (by decide)) fx_7_8 (oR_7_8 hM3 s_3) (pS_ne s_44) ?_
  refine PW.aload_n (pc := 28) dX7_passDay_28 rfl ?_
  refine PW.getR (pc := 29) dX7_passDay_29 (r := (mR M1 3 3)) lf_X7_27 (ob hM3.1 s_3 (by decide)) fx_7_3 rfl (pS_ne (hM3.2.2.2.2.1)) ?_
  refine PW.aload_n (pc := 32) dX7_passDay_32 rfl ?_
  refine PW.getR (pc := 33) dX7_passDay_33 (r := 57) lf_X7_54 (ob hM3.1 s_3 (by decide)) fx_7_9 (oR_7_9 hM3 s_3) (pS_ne s_57) ?_
  refine PW.iload_n (pc := 36) dX7_passDay_36 rfl ?_
  refine PW.inv (m' := mX1_playDay) (pc := 37) dX7_passDay_37 lm_X7_250 me_X1_playDay mi_X1_playDay (ob hM3.1 s_44 (by decide)) rfl (As := [.ref (mR M1 3 3), .ref 57, .int y2]) (st := []) rfl (Nat.le_of_ble_eq_true rfl) (Nat.le_of_ble_eq_true rfl) (Nat.le_of_eq hM3.1) (Nat.le_refl _) (PW.deep (by decide) (c_X1_playDay (hM3.2.2.2.2.1) s_57 hM3 h)) ?_
  rintro _ M4 ⟨hM6, y5, rfl, h⟩
  refine PW.istore_n (pc := 40) dX7_passDay_40 (ls' := [.ref 3, .int y2, .int (mI M1 57 0), .int y5]) (by decide) rfl rfl ?_
  refine PW.aload_n (pc := 41) dX7_passDay_41 rfl ?_
  refine PW.getR (pc := 42) dX7_passDay_42 (r := 57) lf_X7_54 (ob hM6.1 s_3 (by decide)) fx_7_9 (oR_7_9 hM6 s_3) (pS_ne s_57) ?_
  refine PW.iload_n (pc := 45) dX7_passDay_45 rfl ?_
  refine PW.iload_n (pc := 46) dX7_passDay_46 rfl ?_
  refine PW.iload_n (pc := 47) dX7_passDay_47 rfl ?_
  refine PW.inv (m' := mX4_keep) (pc := 48) dX7_passDay_48 lm_X7_320 me_X4_keep mi_X4_keep (ob hM6.1 s_57 (by decide)) rfl (As := [.int (mI M1 57 0), .int y2, .int y5]) (st := []) rfl (Nat.le_of_ble_eq_true rfl) (Nat.le_of_ble_eq_true rfl) (Nat.le_of_eq hM6.1) (Nat.le_refl _) (PW.deep (by decide) (c_X4_keep s_57 hM6 h)) ?_
  rintro _ M7 ⟨hM9, rfl, h⟩
  refine PW.iload_n (pc := 51) dX7_passDay_51 rfl ?_
  refine PW.ins (m' := mJ6_bitCount_0f7a4) (pc := 52) dX7_passDay_52 lm_X7_160 me_J6_bitCount_0f7a4 ms_J6_bitCount_0f7a4 (As := [.int y2]) (st := []) rfl (Nat.le_of_ble_eq_true rfl) (Nat.le_of_ble_eq_true rfl) (Nat.le_of_eq hM9.1) (Nat.le_refl _) (PW.deep (by decide) (c_J6_bitCount_0f7a4  hM9 h)) ?_
  rintro _ M10 ⟨hM12, y11, rfl, h⟩
  exact PW.retI (pc := 55) dX7_passDay_55 hM12.1 rfl rfl ⟨hM12, _, rfl, h⟩
def w_X7_days_30 : Nat → Int32 → Int32 → Int32 → pm → (Int32 → pm → Prop) → Prop
  | 0, _, _, _, _, _ => False
  | n + 1, x1, x2, x3, M, Q => ((x1 ≤ x3 → (Q x2 M)) ∧ (¬ x1 ≤ x3 → (w_X7_passDay  M (fun y9 M8 => w_X7_days_30 n x1 (x2 + y9) (x3 + 1) M8 Q))))
set_option maxRecDepth 4000 in
theorem c_X7_days_30  {Q : Int32 → pm → Prop}  : ∀ (n : Nat) (x1 : Int32) (x2 : Int32) (x3 : Int32) (M : pm), pG M → w_X7_days_30 n x1 x2 x3 M  Q → PW mX7_days 8 350 30 [.ref 3, .int x1, .int x2, .int x3] [] M (qI Q) := by
  intro n
  induction n with
  | zero => intro x1 x2 x3 M hM h; exact h.elim
  | succ n ih =>
    intro x1 x2 x3 M hM h
    unfold w_X7_days_30 at h
    refine PW.iload_n (pc := 30) dX7_days_30 rfl ?_
    refine PW.iload_n (pc := 31) dX7_days_31 rfl ?_
    refine PW.icmp_ge (pc := 32) dX7_days_32 (t := 48) (by decide) (fun hc => ?_) (fun hc => ?_)
    · have h := h.1 hc
      refine PW.iload_n (pc := 48) dX7_days_48 rfl ?_
      exact PW.retI (pc := 49) dX7_days_49 hM.1 rfl rfl ⟨hM, _, rfl, h⟩
    · have h := h.2 hc
      refine PW.iload_n (pc := 35) dX7_days_35 rfl ?_
      refine PW.aload_n (pc := 36) dX7_days_36 rfl ?_
      refine PW.inv (m' := mX7_passDay) (pc := 37) dX7_days_37 lm_X7_317 me_X7_passDay mi_X7_passDay (ob hM.1 s_3 (by decide)) rfl (As := []) (st := [.int x2]) rfl (Nat.le_of_ble_eq_true rfl) (Nat.le_of_ble_eq_true rfl) (Nat.le_of_eq hM.1) (Nat.le_refl _) (PW.deep (by decide) (c_X7_passDay  hM h)) ?_
      rintro _ M8 ⟨hM10, y9, rfl, h⟩
      refine PW.iadd (pc := 40) dX7_days_40 ?_
      refine PW.istore_n (pc := 41) dX7_days_41 (ls' := [.ref 3, .int x1, .int (x2 + y9), .int x3]) (by decide) rfl rfl ?_
      refine PW.iinc (pc := 42) dX7_days_42 (v := (x3 + 1)) (ls' := [.ref 3, .int x1, .int (x2 + y9), .int (x3 + 1)]) rfl rfl (by decide) rfl rfl ?_
      refine PW.goto (pc := 45) dX7_days_45 (t := 30) (by decide) ?_
      exact PW.drop (ih _ _ _ _ hM10 h) ⟨rfl, rfl, rfl, rfl, trivial⟩
def w_X7_days (x1 : Int32) (M : pm) (Q : Int32 → pm → Prop) : Prop := w_X7_canPass x1 M (fun y2 M1 => ((¬ y2 = 0 → (w_X0_remember 57 M1 (fun M5 => ∃ n11, w_X7_days_30 n11 x1 0 0 M5  Q))) ∧ (y2 = 0 → (w_X7_refuse 3 M1 (fun M12 => Q (-1) M12)))))
set_option maxRecDepth 4000 in
theorem c_X7_days {x1 : Int32} {M : pm} {Q : Int32 → pm → Prop}  (hM : pG M) (h : w_X7_days x1 M Q) : PW mX7_days 8 350 0 (pfr mX7_days.2.2.1 [.ref 3, .int x1]) [] M (qI Q) := by
  unfold w_X7_days at h
  show PW mX7_days 8 350 0 [.ref 3, .int x1, .null, .null] [] M (qI Q)
  refine PW.aload_n (pc := 0) dX7_days_0 rfl ?_
  refine PW.iload_n (pc := 1) dX7_days_1 rfl ?_
  refine PW.inv (m' := mX7_canPass) (pc := 2) dX7_days_2 lm_X7_314 me_X7_canPass mi_X7_canPass (ob hM.1 s_3 (by decide)) rfl (As := [.int x1]) (st := []) rfl (Nat.le_of_ble_eq_true rfl) (Nat.le_of_ble_eq_true rfl) (Nat.le_of_eq hM.1) (Nat.le_refl _) (PW.deep (by decide) (c_X7_canPass  hM h)) ?_
  rintro _ M1 ⟨hM3, y2, rfl, z4, h⟩
  refine PW.if_ne (pc := 5) dX7_days_5 (t := 15) (by decide) (fun hc => ?_) (fun hc => ?_)
  · have h := h.1 hc
    refine PW.aload_n (pc := 15) dX7_days_15 rfl ?_
    refine PW.getR (pc := 16) dX7_days_16 (r := 75) lf_X7_64 (ob hM3.1 s_3 (by decide)) fx_7_11 (oR_7_11 hM3 s_3) (pS_ne s_75) ?_
    refine PW.aload_n (pc := 19) dX7_days_19 rfl ?_
    refine PW.getR (pc := 20) dX7_days_20 (r := 57) lf_X7_54 (ob hM3.1 s_3 (by decide)) fx_7_9 (oR_7_9 hM3 s_3) (pS_ne s_57) ?_
    refine PW.inv (m' := mX0_remember) (pc := 23) dX7_days_23 lm_X7_308 me_X0_remember mi_X0_remember (ob hM3.1 s_75 (by decide)) rfl (As := [.ref 57]) (st := []) rfl (Nat.le_of_ble_eq_true rfl) (Nat.le_of_ble_eq_true rfl) (Nat.le_of_eq hM3.1) (Nat.le_refl _) (PW.deep (by decide) (c_X0_remember s_57 hM3 h)) ?_
    rintro _ M5 ⟨hM7, rfl, h⟩
    refine PW.iconst (pc := 26) dX7_days_26 (v := 0) (by decide) ?_
    refine PW.istore_n (pc := 27) dX7_days_27 (ls' := [.ref 3, .int x1, .int 0, .null]) (by decide) rfl rfl ?_
    refine PW.iconst (pc := 28) dX7_days_28 (v := 0) (by decide) ?_
    refine PW.istore_n (pc := 29) dX7_days_29 (ls' := [.ref 3, .int x1, .int 0, .int 0]) (by decide) rfl rfl ?_
    obtain ⟨n11, h⟩ := h
    refine PW.drop (c_X7_days_30  n11 _ _ _ _ hM7 h) ⟨rfl, rfl, rfl, rfl, trivial⟩
  · have h := h.2 hc
    refine PW.aload_n (pc := 8) dX7_days_8 rfl ?_
    refine PW.iconst (pc := 9) dX7_days_9 (v := 3) (by decide) ?_
    refine PW.inv (m' := mX7_refuse) (pc := 10) dX7_days_10 lm_X7_92 me_X7_refuse mi_X7_refuse (ob hM3.1 s_3 (by decide)) rfl (As := [.int 3]) (st := []) rfl (Nat.le_of_ble_eq_true rfl) (Nat.le_of_ble_eq_true rfl) (Nat.le_of_eq hM3.1) (Nat.le_refl _) (PW.deep (by decide) (c_X7_refuse  hM3 h)) ?_
    rintro _ M12 ⟨hM14, rfl, h⟩
    refine PW.iconst (pc := 13) dX7_days_13 (v := (-1)) (by decide) ?_
    exact PW.retI (pc := 14) dX7_days_14 hM14.1 rfl rfl ⟨hM14, _, rfl, h⟩
def w_X7_draw (x1 : Int32) (M : pm) (Q : Int32 → pm → Prop) : Prop := ((x1 ≤ 0 → (Q 0 (sI M 3 18 (Int64.toInt32 ((((1103515245 : Int64) * (Int32.toInt64 (mI M 3 18))) + (12345 : Int64)) &&& (2147483647 : Int64)))))) ∧ (¬ x1 ≤ 0 → (¬ x1 = 0 ∧ (Q (irm ((Int64.toInt32 ((((1103515245 : Int64) * (Int32.toInt64 (mI M 3 18))) + (12345 : Int64)) &&& (2147483647 : Int64))) / 64) x1) (sI M 3 18 (Int64.toInt32 ((((1103515245 : Int64) * (Int32.toInt64 (mI M 3 18))) + (12345 : Int64)) &&& (2147483647 : Int64))))))))
set_option maxRecDepth 4000 in
theorem c_X7_draw {x1 : Int32} {M : pm} {Q : Int32 → pm → Prop}  (hM : pG M) (h : w_X7_draw x1 M Q) : PW mX7_draw 1 350 0 (pfr mX7_draw.2.2.1 [.ref 3, .int x1]) [] M (qI Q) := by
  unfold w_X7_draw at h
  show PW mX7_draw 1 350 0 [.ref 3, .int x1] [] M (qI Q)
  refine PW.aload_n (pc := 0) dX7_draw_0 rfl ?_
  refine PW.ldc2 (pc := 1) dX7_draw_1 lk_X7_333 ?_
  refine PW.aload_n (pc := 4) dX7_draw_4 rfl ?_
  refine PW.getI (pc := 5) dX7_draw_5 lf_X7_89 (ob hM.1 s_3 (by decide)) fx_7_18 ?_
  refine PW.i2l (pc := 8) dX7_draw_8 ?_
  refine PW.lmul (pc := 9) dX7_draw_9 ?_
  refine PW.ldc2 (pc := 10) dX7_draw_10 lk_X7_335 ?_
  refine PW.ladd (pc := 13) dX7_draw_13 ?_
  refine PW.ldc2 (pc := 14) dX7_draw_14 lk_X7_337 ?_
  refine PW.land (pc := 17) dX7_draw_17 ?_
  refine PW.l2i (pc := 18) dX7_draw_18 ?_
  refine PW.putI (pc := 19) dX7_draw_19 lf_X7_89 (ob hM.1 s_3 (by decide)) fx_7_18 fw_7_18 rfl rfl ?_
  refine PW.iload_n (pc := 22) dX7_draw_22 rfl ?_
  refine PW.if_le (pc := 23) dX7_draw_23 (t := 38) (by decide) (fun hc => ?_) (fun hc => ?_)
  · have h := h.1 hc
    refine PW.iconst (pc := 38) dX7_draw_38 (v := 0) (by decide) ?_
    exact PW.retI (pc := 39) dX7_draw_39 hM.1 rfl rfl ⟨(hM.same rfl rfl), _, rfl, h⟩
  · have h := h.2 hc
    refine PW.aload_n (pc := 26) dX7_draw_26 rfl ?_
    refine PW.getI (pc := 27) dX7_draw_27 lf_X7_89 (ob hM.1 s_3 (by decide)) fx_7_18 ?_
    refine PW.bipush (pc := 30) dX7_draw_30 (v := 64) (by decide) ?_
    refine PW.idiv (pc := 32) dX7_draw_32 (by decide) ?_
    refine PW.iload_n (pc := 33) dX7_draw_33 rfl ?_
    obtain ⟨v1, h⟩ := h
    refine PW.irem (pc := 34) dX7_draw_34 v1 ?_
    refine PW.goto (pc := 35) dX7_draw_35 (t := 39) (by decide) ?_
    exact PW.retI (pc := 39) dX7_draw_39 hM.1 rfl rfl ⟨(hM.same rfl rfl), _, rfl, h⟩
def w_X7_drawDeath_38 : Nat → Int32 → Int32 → pm → (Int32 → pm → Prop) → Prop
  | 0, _, _, _, _ => False
  | n + 1, x3, x4, M, Q => (((mI M (mR M 3 3) 8) ≤ x4 → (Q 0 M)) ∧ (¬ (mI M (mR M 3 3) 8) ≤ x4 → (w_X4_isDead 57 x4 M (fun y11 M10 => ((¬ y11 = 0 → (w_X7_drawDeath_38 n x3 (x4 + 1) M10 Q)) ∧ (y11 = 0 → ((¬ x3 = 0 → (w_X7_drawDeath_38 n (x3 + (-1)) (x4 + 1) M10 Q)) ∧ (x3 = 0 → (vp_in x4 8 ∧ (Q 1 (sI M10 59 x4.toNatClampNeg (mI M10 57 0))))))))))))
set_option maxRecDepth 4000 in
theorem c_X7_drawDeath_38  {Q : Int32 → pm → Prop}  : ∀ (n : Nat) (x3 : Int32) (x4 : Int32) (M : pm), pG M → w_X7_drawDeath_38 n x3 x4 M  Q → PW mX7_drawDeath 3 350 38 [.ref 3, .null, .null, .int x3, .int x4] [] M (qI Q) := by
  intro n
  induction n with
  | zero => intro x3 x4 M hM h; exact h.elim
  | succ n ih =>
    intro x3 x4 M hM h
    unfold w_X7_drawDeath_38 at h
    refine PW.iload (pc := 38) dX7_drawDeath_38 rfl ?_
    refine PW.aload_n (pc := 40) dX7_drawDeath_40 rfl ?_
    refine PW.getR (pc := 41) dX7_drawDeath_41 (r := (mR M 3 3)) lf_X7_27 (ob hM.1 s_3 (by decide)) fx_7_3 rfl (pS_ne (hM.2.2.2.2.1)) ?_
    refine PW.getI (pc := 44) dX7_drawDeath_44 lf_X7_138 (ob hM.1 (hM.2.2.2.2.1) (by decide)) fx_5_8 ?_
    refine PW.icmp_ge (pc := 47) dX7_drawDeath_47 (t := 94) (by decide) (fun hc => ?_) (fun hc => ?_)
    · have h := h.1 hc
      refine PW.iconst (pc := 94) dX7_drawDeath_94 (v := 0) (by decide) ?_
      exact PW.retI (pc := 95) dX7_drawDeath_95 hM.1 rfl rfl ⟨hM, _, rfl, h⟩
    · have h := h.2 hc
      refine PW.aload_n (pc := 50) dX7_drawDeath_50 rfl ?_
      refine PW.getR (pc := 51) dX7_drawDeath_51 (r := 57) lf_X7_54 (ob hM.1 s_3 (by decide)) fx_7_9 (oR_7_9 hM s_3) (pS_ne s_57) ?_
      refine PW.iload (pc := 54) dX7_drawDeath_54 rfl ?_
      refine PW.inv (m' := mX4_isDead) (pc := 56) dX7_drawDeath_56 lm_X7_171 me_X4_isDead mi_X4_isDead (ob hM.1 s_57 (by decide)) rfl (As := [.int x4]) (st := []) rfl (Nat.le_of_ble_eq_true rfl) (Nat.le_of_ble_eq_true rfl) (Nat.le_of_eq hM.1) (Nat.le_refl _) (PW.deep (by decide) (c_X4_isDead s_57 hM h)) ?_
      rintro _ M10 ⟨hM12, y11, rfl, z13, h⟩
      refine PW.if_ne (pc := 59) dX7_drawDeath_59 (t := 88) (by decide) (fun hc => ?_) (fun hc => ?_)
      · have h := h.1 hc
        refine PW.iinc (pc := 88) dX7_drawDeath_88 (v := (x4 + 1)) (ls' := [.ref 3, .null, .null, .int x3, .int (x4 + 1)]) rfl rfl (by decide) rfl rfl ?_
        refine PW.goto (pc := 91) dX7_drawDeath_91 (t := 38) (by decide) ?_
        exact PW.drop (ih _ _ _ hM12 h) ⟨rfl, rfl, rfl, trivial⟩
      · have h := h.2 hc
        refine PW.iload_n (pc := 62) dX7_drawDeath_62 rfl ?_
        refine PW.if_ne (pc := 63) dX7_drawDeath_63 (t := 85) (by decide) (fun hc => ?_) (fun hc => ?_)
        · have h := h.1 hc
          refine PW.iinc (pc := 85) dX7_drawDeath_85 (v := (x3 + (-1))) (ls' := [.ref 3, .null, .null, .int (x3 + (-1)), .int x4]) rfl rfl (by decide) rfl rfl ?_
          refine PW.iinc (pc := 88) dX7_drawDeath_88 (v := (x4 + 1)) (ls' := [.ref 3, .null, .null, .int (x3 + (-1)), .int (x4 + 1)]) rfl rfl (by decide) rfl rfl ?_
          refine PW.goto (pc := 91) dX7_drawDeath_91 (t := 38) (by decide) ?_
          exact PW.drop (ih _ _ _ hM12 h) ⟨rfl, rfl, rfl, trivial⟩
        · have h := h.2 hc
          refine PW.aload_n (pc := 66) dX7_drawDeath_66 rfl ?_
          refine PW.getR (pc := 67) dX7_drawDeath_67 (r := 57) lf_X7_54 (ob hM12.1 s_3 (by decide)) fx_7_9 (oR_7_9 hM12 s_3) (pS_ne s_57) ?_
          refine PW.getR (pc := 70) dX7_drawDeath_70 (r := 59) lf_X7_209 (ob hM12.1 s_57 (by decide)) fx_4_3 (oR_4_3 hM12 s_57) (pS_ne s_59) ?_
          refine PW.iload (pc := 73) dX7_drawDeath_73 rfl ?_
          refine PW.aload_n (pc := 75) dX7_drawDeath_75 rfl ?_
          refine PW.getR (pc := 76) dX7_drawDeath_76 (r := 57) lf_X7_54 (ob hM12.1 s_3 (by decide)) fx_7_9 (oR_7_9 hM12 s_3) (pS_ne s_57) ?_
          refine PW.getI (pc := 79) dX7_drawDeath_79 lf_X7_144 (ob hM12.1 s_57 (by decide)) fx_4_0 ?_
          obtain ⟨v14, h⟩ := h
          refine PW.iast (pc := 82) dX7_drawDeath_82 (ar hM12.1 s_59) (vpl n_59 v14) ?_
          refine PW.iconst (pc := 83) dX7_drawDeath_83 (v := 1) (by decide) ?_
          exact PW.retI (pc := 84) dX7_drawDeath_84 hM12.1 rfl rfl ⟨(hM12.same rfl rfl), _, rfl, h⟩
def w_X7_drawDeath  (M : pm) (Q : Int32 → pm → Prop) : Prop := w_X7_draw 100 M (fun y2 M1 => w_X7_countLiving  M1 (fun y5 M4 => (((mI M4 (mR M4 3 3) 3) ≤ y2 → (Q 0 M4)) ∧ (¬ (mI M4 (mR M4 3 3) 3) ≤ y2 → ((¬ y5 = 0 → (w_X7_draw y5 M4 (fun y8 M7 => ∃ n15, w_X7_drawDeath_38 n15 y8 0 M7  Q))) ∧ (y5 = 0 → (Q 0 M4)))))))
set_option maxRecDepth 4000 in
theorem c_X7_drawDeath  {M : pm} {Q : Int32 → pm → Prop}  (hM : pG M) (h : w_X7_drawDeath  M Q) : PW mX7_drawDeath 3 350 0 (pfr mX7_drawDeath.2.2.1 [.ref 3]) [] M (qI Q) := by
  unfold w_X7_drawDeath at h
  show PW mX7_drawDeath 3 350 0 [.ref 3, .null, .null, .null, .null] [] M (qI Q)
  refine PW.aload_n (pc := 0) dX7_drawDeath_0 rfl ?_
  refine PW.bipush (pc := 1) dX7_drawDeath_1 (v := 100) (by decide) ?_
  refine PW.inv (m' := mX7_draw) (pc := 3) dX7_drawDeath_3 lm_X7_327 me_X7_draw mi_X7_draw (ob hM.1 s_3 (by decide)) rfl (As := [.int 100]) (st := []) rfl (Nat.le_of_ble_eq_true rfl) (Nat.le_of_ble_eq_true rfl) (Nat.le_of_eq hM.1) (Nat.le_refl _) (PW.deep (by decide) (c_X7_draw  hM h)) ?_
  rintro _ M1 ⟨hM3, y2, rfl, h⟩
  refine PW.istore_n (pc := 6) dX7_drawDeath_6 (ls' := [.ref 3, .int y2, .null, .null, .null]) (by decide) rfl rfl ?_
  refine PW.aload_n (pc := 7) dX7_drawDeath_7 rfl ?_
  refine PW.inv (m' := mX7_countLiving) (pc := 8) dX7_drawDeath_8 lm_X7_150 me_X7_countLiving mi_X7_countLiving (ob hM3.1 s_3 (by decide)) rfl (As := []) (st := []) rfl (Nat.le_of_ble_eq_true rfl) (Nat.le_of_ble_eq_true rfl) (Nat.le_of_eq hM3.1) (Nat.le_refl _) (PW.deep (by decide) (c_X7_countLiving  hM3 h)) ?_
  rintro _ M4 ⟨hM6, y5, rfl, h⟩
  refine PW.istore_n (pc := 11) dX7_drawDeath_11 (ls' := [.ref 3, .int y2, .int y5, .null, .null]) (by decide) rfl rfl ?_
  refine PW.iload_n (pc := 12) dX7_drawDeath_12 rfl ?_
  refine PW.aload_n (pc := 13) dX7_drawDeath_13 rfl ?_
  refine PW.getR (pc := 14) dX7_drawDeath_14 (r := (mR M4 3 3)) lf_X7_27 (ob hM6.1 s_3 (by decide)) fx_7_3 rfl (pS_ne (hM6.2.2.2.2.1)) ?_
  refine PW.getI (pc := 17) dX7_drawDeath_17 lf_X7_330 (ob hM6.1 (hM6.2.2.2.2.1) (by decide)) fx_5_3 ?_
  refine PW.icmp_ge (pc := 20) dX7_drawDeath_20 (t := 27) (by decide) (fun hc => ?_) (fun hc => ?_)
  · have h := h.1 hc
    refine PW.iconst (pc := 27) dX7_drawDeath_27 (v := 0) (by decide) ?_
    exact PW.retI (pc := 28) dX7_drawDeath_28 hM6.1 rfl rfl ⟨hM6, _, rfl, h⟩
  · have h := h.2 hc
    refine PW.iload_n (pc := 23) dX7_drawDeath_23 rfl ?_
    refine PW.if_ne (pc := 24) dX7_drawDeath_24 (t := 29) (by decide) (fun hc => ?_) (fun hc => ?_)
    · have h := h.1 hc
      refine PW.aload_n (pc := 29) dX7_drawDeath_29 rfl ?_
      refine PW.iload_n (pc := 30) dX7_drawDeath_30 rfl ?_
      refine PW.inv (m' := mX7_draw) (pc := 31) dX7_drawDeath_31 lm_X7_327 me_X7_draw mi_X7_draw (ob hM6.1 s_3 (by decide)) rfl (As := [.int y5]) (st := []) rfl (Nat.le_of_ble_eq_true rfl) (Nat.le_of_ble_eq_true rfl) (Nat.le_of_eq hM6.1) (Nat.le_refl _) (PW.deep (by decide) (c_X7_draw  hM6 h)) ?_
      rintro _ M7 ⟨hM9, y8, rfl, h⟩
      refine PW.istore_n (pc := 34) dX7_drawDeath_34 (ls' := [.ref 3, .int y2, .int y5, .int y8, .null]) (by decide) rfl rfl ?_
      refine PW.iconst (pc := 35) dX7_drawDeath_35 (v := 0) (by decide) ?_
      refine PW.istore (pc := 36) dX7_drawDeath_36 (ls' := [.ref 3, .int y2, .int y5, .int y8, .int 0]) (by decide) rfl rfl ?_
      obtain ⟨n15, h⟩ := h
      refine PW.drop (c_X7_drawDeath_38  n15 _ _ _ hM9 h) ⟨rfl, rfl, rfl, trivial⟩
    · have h := h.2 hc
      refine PW.iconst (pc := 27) dX7_drawDeath_27 (v := 0) (by decide) ?_
      exact PW.retI (pc := 28) dX7_drawDeath_28 hM6.1 rfl rfl ⟨hM6, _, rfl, h⟩
def w_X7_chance_30 : Nat → Int32 → Int32 → Int32 → pm → (Int32 → pm → Prop) → Prop
  | 0, _, _, _, _, _ => False
  | n + 1, x1, x2, x3, M, Q => ((x1 ≤ x3 → (Q x2 M)) ∧ (¬ x1 ≤ x3 → (w_X7_drawDeath  M (fun y9 M8 => w_X7_passDay  M8 (fun y12 M11 => w_X7_chance_30 n x1 (x2 + y9) (x3 + 1) M11 Q)))))
set_option maxRecDepth 4000 in
theorem c_X7_chance_30  {Q : Int32 → pm → Prop}  : ∀ (n : Nat) (x1 : Int32) (x2 : Int32) (x3 : Int32) (M : pm), pG M → w_X7_chance_30 n x1 x2 x3 M  Q → PW mX7_chance 8 350 30 [.ref 3, .int x1, .int x2, .int x3] [] M (qI Q) := by
  intro n
  induction n with
  | zero => intro x1 x2 x3 M hM h; exact h.elim
  | succ n ih =>
    intro x1 x2 x3 M hM h
    unfold w_X7_chance_30 at h
    refine PW.iload_n (pc := 30) dX7_chance_30 rfl ?_
    refine PW.iload_n (pc := 31) dX7_chance_31 rfl ?_
    refine PW.icmp_ge (pc := 32) dX7_chance_32 (t := 53) (by decide) (fun hc => ?_) (fun hc => ?_)
    · have h := h.1 hc
      refine PW.iload_n (pc := 53) dX7_chance_53 rfl ?_
      exact PW.retI (pc := 54) dX7_chance_54 hM.1 rfl rfl ⟨hM, _, rfl, h⟩
    · have h := h.2 hc
      refine PW.iload_n (pc := 35) dX7_chance_35 rfl ?_
      refine PW.aload_n (pc := 36) dX7_chance_36 rfl ?_
      refine PW.inv (m' := mX7_drawDeath) (pc := 37) dX7_chance_37 lm_X7_324 me_X7_drawDeath mi_X7_drawDeath (ob hM.1 s_3 (by decide)) rfl (As := []) (st := [.int x2]) rfl (Nat.le_of_ble_eq_true rfl) (Nat.le_of_ble_eq_true rfl) (Nat.le_of_eq hM.1) (Nat.le_refl _) (PW.deep (by decide) (c_X7_drawDeath  hM h)) ?_
      rintro _ M8 ⟨hM10, y9, rfl, h⟩
      refine PW.iadd (pc := 40) dX7_chance_40 ?_
      refine PW.istore_n (pc := 41) dX7_chance_41 (ls' := [.ref 3, .int x1, .int (x2 + y9), .int x3]) (by decide) rfl rfl ?_
      refine PW.aload_n (pc := 42) dX7_chance_42 rfl ?_
      refine PW.inv (m' := mX7_passDay) (pc := 43) dX7_chance_43 lm_X7_317 me_X7_passDay mi_X7_passDay (ob hM10.1 s_3 (by decide)) rfl (As := []) (st := []) rfl (Nat.le_of_ble_eq_true rfl) (Nat.le_of_ble_eq_true rfl) (Nat.le_of_eq hM10.1) (Nat.le_refl _) (PW.deep (by decide) (c_X7_passDay  hM10 h)) ?_
      rintro _ M11 ⟨hM13, y12, rfl, h⟩
      refine PW.popI (pc := 46) dX7_chance_46 ?_
      refine PW.iinc (pc := 47) dX7_chance_47 (v := (x3 + 1)) (ls' := [.ref 3, .int x1, .int (x2 + y9), .int (x3 + 1)]) rfl rfl (by decide) rfl rfl ?_
      refine PW.goto (pc := 50) dX7_chance_50 (t := 30) (by decide) ?_
      exact PW.drop (ih _ _ _ _ hM13 h) ⟨rfl, rfl, rfl, rfl, trivial⟩
def w_X7_chance (x1 : Int32) (M : pm) (Q : Int32 → pm → Prop) : Prop := w_X7_canPass x1 M (fun y2 M1 => ((¬ y2 = 0 → (w_X0_remember 57 M1 (fun M5 => ∃ n14, w_X7_chance_30 n14 x1 0 0 M5  Q))) ∧ (y2 = 0 → (w_X7_refuse 3 M1 (fun M15 => Q (-1) M15)))))
set_option maxRecDepth 4000 in
theorem c_X7_chance {x1 : Int32} {M : pm} {Q : Int32 → pm → Prop}  (hM : pG M) (h : w_X7_chance x1 M Q) : PW mX7_chance 8 350 0 (pfr mX7_chance.2.2.1 [.ref 3, .int x1]) [] M (qI Q) := by
  unfold w_X7_chance at h
  show PW mX7_chance 8 350 0 [.ref 3, .int x1, .null, .null] [] M (qI Q)
  refine PW.aload_n (pc := 0) dX7_chance_0 rfl ?_
  refine PW.iload_n (pc := 1) dX7_chance_1 rfl ?_
  refine PW.inv (m' := mX7_canPass) (pc := 2) dX7_chance_2 lm_X7_314 me_X7_canPass mi_X7_canPass (ob hM.1 s_3 (by decide)) rfl (As := [.int x1]) (st := []) rfl (Nat.le_of_ble_eq_true rfl) (Nat.le_of_ble_eq_true rfl) (Nat.le_of_eq hM.1) (Nat.le_refl _) (PW.deep (by decide) (c_X7_canPass  hM h)) ?_
  rintro _ M1 ⟨hM3, y2, rfl, z4, h⟩
  refine PW.if_ne (pc := 5) dX7_chance_5 (t := 15) (by decide) (fun hc => ?_) (fun hc => ?_)
  · have h := h.1 hc
    refine PW.aload_n (pc := 15) dX7_chance_15 rfl ?_
    refine PW.getR (pc := 16) dX7_chance_16 (r := 75) lf_X7_64 (ob hM3.1 s_3 (by decide)) fx_7_11 (oR_7_11 hM3 s_3) (pS_ne s_75) ?_
    refine PW.aload_n (pc := 19) dX7_chance_19 rfl ?_
    refine PW.getR (pc := 20) dX7_chance_20 (r := 57) lf_X7_54 (ob hM3.1 s_3 (by decide)) fx_7_9 (oR_7_9 hM3 s_3) (pS_ne s_57) ?_
    refine PW.inv (m' := mX0_remember) (pc := 23) dX7_chance_23 lm_X7_308 me_X0_remember mi_X0_remember (ob hM3.1 s_75 (by decide)) rfl (As := [.ref 57]) (st := []) rfl (Nat.le_of_ble_eq_true rfl) (Nat.le_of_ble_eq_true rfl) (Nat.le_of_eq hM3.1) (Nat.le_refl _) (PW.deep (by decide) (c_X0_remember s_57 hM3 h)) ?_
    rintro _ M5 ⟨hM7, rfl, h⟩
    refine PW.iconst (pc := 26) dX7_chance_26 (v := 0) (by decide) ?_
    refine PW.istore_n (pc := 27) dX7_chance_27 (ls' := [.ref 3, .int x1, .int 0, .null]) (by decide) rfl rfl ?_
    refine PW.iconst (pc := 28) dX7_chance_28 (v := 0) (by decide) ?_
    refine PW.istore_n (pc := 29) dX7_chance_29 (ls' := [.ref 3, .int x1, .int 0, .int 0]) (by decide) rfl rfl ?_
    obtain ⟨n14, h⟩ := h
    refine PW.drop (c_X7_chance_30  n14 _ _ _ _ hM7 h) ⟨rfl, rfl, rfl, rfl, trivial⟩
  · have h := h.2 hc
    refine PW.aload_n (pc := 8) dX7_chance_8 rfl ?_
    refine PW.iconst (pc := 9) dX7_chance_9 (v := 3) (by decide) ?_
    refine PW.inv (m' := mX7_refuse) (pc := 10) dX7_chance_10 lm_X7_92 me_X7_refuse mi_X7_refuse (ob hM3.1 s_3 (by decide)) rfl (As := [.int 3]) (st := []) rfl (Nat.le_of_ble_eq_true rfl) (Nat.le_of_ble_eq_true rfl) (Nat.le_of_eq hM3.1) (Nat.le_refl _) (PW.deep (by decide) (c_X7_refuse  hM3 h)) ?_
    rintro _ M15 ⟨hM17, rfl, h⟩
    refine PW.iconst (pc := 13) dX7_chance_13 (v := (-1)) (by decide) ?_
    exact PW.retI (pc := 14) dX7_chance_14 hM17.1 rfl rfl ⟨hM17, _, rfl, h⟩
def w_X7_undo  (M : pm) (Q : Int32 → pm → Prop) : Prop := ((¬ (mI M 75 1) = 0 → (w_X0_takeBack 57 M (fun M1 => Q 1 M1))) ∧ ((mI M 75 1) = 0 → (w_X7_refuse 4 M (fun M4 => Q 0 M4))))
set_option maxRecDepth 4000 in
theorem c_X7_undo  {M : pm} {Q : Int32 → pm → Prop}  (hM : pG M) (h : w_X7_undo  M Q) : PW mX7_undo 4 350 0 (pfr mX7_undo.2.2.1 [.ref 3]) [] M (qZ Q) := by
  unfold w_X7_undo at h
  show PW mX7_undo 4 350 0 [.ref 3] [] M (qZ Q)
  refine PW.aload_n (pc := 0) dX7_undo_0 rfl ?_
  refine PW.getR (pc := 1) dX7_undo_1 (r := 75) lf_X7_64 (ob hM.1 s_3 (by decide)) fx_7_11 (oR_7_11 hM s_3) (pS_ne s_75) ?_
  refine PW.getI (pc := 4) dX7_undo_4 lf_X7_168 (ob hM.1 s_75 (by decide)) fx_0_1 ?_
  refine PW.if_ne (pc := 7) dX7_undo_7 (t := 17) (by decide) (fun hc => ?_) (fun hc => ?_)
  · have h := h.1 hc
    refine PW.aload_n (pc := 17) dX7_undo_17 rfl ?_
    refine PW.getR (pc := 18) dX7_undo_18 (r := 75) lf_X7_64 (ob hM.1 s_3 (by decide)) fx_7_11 (oR_7_11 hM s_3) (pS_ne s_75) ?_
    refine PW.aload_n (pc := 21) dX7_undo_21 rfl ?_
    refine PW.getR (pc := 22) dX7_undo_22 (r := 57) lf_X7_54 (ob hM.1 s_3 (by decide)) fx_7_9 (oR_7_9 hM s_3) (pS_ne s_57) ?_
    refine PW.inv (m' := mX0_takeBack) (pc := 25) dX7_undo_25 lm_X7_339 me_X0_takeBack mi_X0_takeBack (ob hM.1 s_75 (by decide)) rfl (As := [.ref 57]) (st := []) rfl (Nat.le_of_ble_eq_true rfl) (Nat.le_of_ble_eq_true rfl) (Nat.le_of_eq hM.1) (Nat.le_refl _) (PW.deep (by decide) (c_X0_takeBack s_57 hM h)) ?_
    rintro _ M1 ⟨hM3, rfl, h⟩
    refine PW.iconst (pc := 28) dX7_undo_28 (v := 1) (by decide) ?_
    exact PW.retI (pc := 29) dX7_undo_29 hM3.1 rfl (bz_n bz1) ⟨hM3, _, rfl, bz1, h⟩
  · have h := h.2 hc
    refine PW.aload_n (pc := 10) dX7_undo_10 rfl ?_
    refine PW.iconst (pc := 11) dX7_undo_11 (v := 4) (by decide) ?_
    refine PW.inv (m' := mX7_refuse) (pc := 12) dX7_undo_12 lm_X7_92 me_X7_refuse mi_X7_refuse (ob hM.1 s_3 (by decide)) rfl (As := [.int 4]) (st := []) rfl (Nat.le_of_ble_eq_true rfl) (Nat.le_of_ble_eq_true rfl) (Nat.le_of_eq hM.1) (Nat.le_refl _) (PW.deep (by decide) (c_X7_refuse  hM h)) ?_
    rintro _ M4 ⟨hM6, rfl, h⟩
    refine PW.iconst (pc := 15) dX7_undo_15 (v := 0) (by decide) ?_
    exact PW.retI (pc := 16) dX7_undo_16 hM6.1 rfl (bz_n bz0) ⟨hM6, _, rfl, bz0, h⟩
def w_X7_seed (x1 : Int32) (M : pm) (Q : Int32 → pm → Prop) : Prop := ((0 ≤ x1 → (Q 1 (sI M 3 18 x1))) ∧ (¬ 0 ≤ x1 → (w_X7_refuse 5 M (fun M1 => Q 0 M1))))
set_option maxRecDepth 4000 in
theorem c_X7_seed {x1 : Int32} {M : pm} {Q : Int32 → pm → Prop}  (hM : pG M) (h : w_X7_seed x1 M Q) : PW mX7_seed 2 350 0 (pfr mX7_seed.2.2.1 [.ref 3, .int x1]) [] M (qZ Q) := by
  unfold w_X7_seed at h
  show PW mX7_seed 2 350 0 [.ref 3, .int x1] [] M (qZ Q)
  refine PW.iload_n (pc := 0) dX7_seed_0 rfl ?_
  refine PW.if_ge (pc := 1) dX7_seed_1 (t := 11) (by decide) (fun hc => ?_) (fun hc => ?_)
  · have h := h.1 hc
    refine PW.aload_n (pc := 11) dX7_seed_11 rfl ?_
    refine PW.iload_n (pc := 12) dX7_seed_12 rfl ?_
    refine PW.putI (pc := 13) dX7_seed_13 lf_X7_89 (ob hM.1 s_3 (by decide)) fx_7_18 fw_7_18 rfl rfl ?_
    refine PW.iconst (pc := 16) dX7_seed_16 (v := 1) (by decide) ?_
    exact PW.retI (pc := 17) dX7_seed_17 hM.1 rfl (bz_n bz1) ⟨(hM.same rfl rfl), _, rfl, bz1, h⟩
  · have h := h.2 hc
    refine PW.aload_n (pc := 4) dX7_seed_4 rfl ?_
    refine PW.iconst (pc := 5) dX7_seed_5 (v := 5) (by decide) ?_
    refine PW.inv (m' := mX7_refuse) (pc := 6) dX7_seed_6 lm_X7_92 me_X7_refuse mi_X7_refuse (ob hM.1 s_3 (by decide)) rfl (As := [.int 5]) (st := []) rfl (Nat.le_of_ble_eq_true rfl) (Nat.le_of_ble_eq_true rfl) (Nat.le_of_eq hM.1) (Nat.le_refl _) (PW.deep (by decide) (c_X7_refuse  hM h)) ?_
    rintro _ M1 ⟨hM3, rfl, h⟩
    refine PW.iconst (pc := 9) dX7_seed_9 (v := 0) (by decide) ?_
    exact PW.retI (pc := 10) dX7_seed_10 hM3.1 rfl (bz_n bz0) ⟨hM3, _, rfl, bz0, h⟩
