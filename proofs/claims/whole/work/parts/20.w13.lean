/-! methods, walked by program: w_ what must hold before, c_ its proof -/
def w_X8_qTest_2 : Nat → Int32 → pm → (pm → Prop) → (pm → Prop) → Prop
  | 0, _, _, _, _ => False
  | n + 1, x1, M, k110, Q => ((x1 = 0 → (k110  M)) ∧ (¬ x1 = 0 → ((¬ (mI M 277 5) = 0 → (k110  M)) ∧ ((mI M 277 5) = 0 → (w_X8_look  M (fun y2 M1 => ((¬ y2 = 91 → (w_X8_isHere 332 M1 (fun y5 M4 => ((y5 = 0 → (w_X8_qFact  M4 (fun M8 => w_X8_qDropsNots  M8 (fun M11 => ((¬ (mI M11 277 5) = 0 → (w_X8_qTest_2 n 0 M11 k110 Q)) ∧ ((mI M11 277 5) = 0 → (w_X8_qGoesOnTest  M11 (fun y15 M14 => ((y15 = 0 → (w_X8_qTest_2 n 0 M14 k110 Q)) ∧ (¬ y15 = 0 → (w_X8_qTest_2 n 1 M14 k110 Q))))))))))) ∧ (¬ y5 = 0 → (w_X8_qOpens 12 (mI M4 277 2) M4 (fun M18 => w_X8_asks 332 M18 (fun M21 => w_X8_qTest_2 n x1 M21 k110 Q)))))))) ∧ (y2 = 91 → (w_X8_qOpens 25 (mI M1 277 2) M1 (fun M24 => w_X8_qTest_2 n x1 (sI M24 277 2 ((mI M24 277 2) + 1)) k110 Q))))))))))
set_option maxRecDepth 4000 in
theorem c_X8_qTest_2 {k110 : pm → Prop} {Q : pm → Prop} (hk110 : ∀  (M : pm), pG M → k110  M → PW mX8_qTest 9 350 110 [.ref 277, .null, .null] [] M (qV Q)) : ∀ (n : Nat) (x1 : Int32) (M : pm), pG M → w_X8_qTest_2 n x1 M k110 Q → PW mX8_qTest 9 350 2 [.ref 277, .int x1, .null] [] M (qV Q) := by
  intro n
  induction n with
  | zero => intro x1 M hM h; exact h.elim
  | succ n ih =>
    intro x1 M hM h
    unfold w_X8_qTest_2 at h
    refine PW.iload_n (pc := 2) dX8_qTest_2 rfl ?_
    refine PW.if_eq (pc := 3) dX8_qTest_3 (t := 110) (by decide) (fun hc => ?_) (fun hc => ?_)
    · have h := h.1 hc
      exact PW.drop (hk110 _ hM h) ⟨rfl, trivial⟩
    · have h := h.2 hc
      refine PW.aload_n (pc := 6) dX8_qTest_6 rfl ?_
      refine PW.getI (pc := 7) dX8_qTest_7 lf_X8_249 (ob hM.1 s_277 (by decide)) fx_8_5 ?_
      refine PW.if_ne (pc := 10) dX8_qTest_10 (t := 110) (by decide) (fun hc => ?_) (fun hc => ?_)
      · have h := h.1 hc
        exact PW.drop (hk110 _ hM h) ⟨rfl, trivial⟩
      · have h := h.2 hc
        refine PW.aload_n (pc := 13) dX8_qTest_13 rfl ?_
        refine PW.inv (m' := mX8_look) (pc := 14) dX8_qTest_14 lm_X8_261 me_X8_look mi_X8_look (ob hM.1 s_277 (by decide)) rfl (As := []) (st := []) rfl (Nat.le_of_ble_eq_true rfl) (Nat.le_of_ble_eq_true rfl) (Nat.le_of_eq hM.1) (Nat.le_refl _) (PW.deep (by decide) (c_X8_look  hM h)) ?_
        rintro _ M1 ⟨hM3, y2, rfl, h⟩
        refine PW.istore_n (pc := 17) dX8_qTest_17 (ls' := [.ref 277, .int x1, .int y2]) (by decide) rfl rfl ?_
        refine PW.iload_n (pc := 18) dX8_qTest_18 rfl ?_
        refine PW.bipush (pc := 19) dX8_qTest_19 (v := 91) (by decide) ?_
        refine PW.icmp_ne (pc := 21) dX8_qTest_21 (t := 47) (by decide) (fun hc => ?_) (fun hc => ?_)
        · have h := h.1 hc
          refine PW.aload_n (pc := 47) dX8_qTest_47 rfl ?_
          refine PW.aload_n (pc := 48) dX8_qTest_48 rfl ?_
          refine PW.getR (pc := 49) dX8_qTest_49 (r := 332) lf_X8_183 (ob hM3.1 s_277 (by decide)) fx_8_78 (oR_8_78 hM3 s_277) (pS_ne s_332) ?_
          refine PW.inv (m' := mX8_isHere) (pc := 52) dX8_qTest_52 lm_X8_272 me_X8_isHere mi_X8_isHere (ob hM3.1 s_277 (by decide)) rfl (As := [.ref 332]) (st := []) rfl (Nat.le_of_ble_eq_true rfl) (Nat.le_of_ble_eq_true rfl) (Nat.le_of_eq hM3.1) (Nat.le_refl _) (PW.deep (by decide) (c_X8_isHere s_332 hM3 h)) ?_
          rintro _ M4 ⟨hM6, y5, rfl, z7, h⟩
          refine PW.if_eq (pc := 55) dX8_qTest_55 (t := 79) (by decide) (fun hc => ?_) (fun hc => ?_)
          · have h := h.1 hc
            refine PW.aload_n (pc := 79) dX8_qTest_79 rfl ?_
            refine PW.inv (m' := mX8_qFact) (pc := 80) dX8_qTest_80 lm_X8_625 me_X8_qFact mi_X8_qFact (ob hM6.1 s_277 (by decide)) rfl (As := []) (st := []) rfl (Nat.le_of_ble_eq_true rfl) (Nat.le_of_ble_eq_true rfl) (Nat.le_of_eq hM6.1) (Nat.le_refl _) (PW.deep (by decide) (c_X8_qFact  hM6 h)) ?_
            rintro _ M8 ⟨hM10, rfl, h⟩
            refine PW.aload_n (pc := 83) dX8_qTest_83 rfl ?_
            refine PW.inv (m' := mX8_qDropsNots) (pc := 84) dX8_qTest_84 lm_X8_628 me_X8_qDropsNots mi_X8_qDropsNots (ob hM10.1 s_277 (by decide)) rfl (As := []) (st := []) rfl (Nat.le_of_ble_eq_true rfl) (Nat.le_of_ble_eq_true rfl) (Nat.le_of_eq hM10.1) (Nat.le_refl _) (PW.deep (by decide) (c_X8_qDropsNots  hM10 h)) ?_
            rintro _ M11 ⟨hM13, rfl, h⟩
            refine PW.aload_n (pc := 87) dX8_qTest_87 rfl ?_
            refine PW.getI (pc := 88) dX8_qTest_88 lf_X8_249 (ob hM13.1 s_277 (by decide)) fx_8_5 ?_
            refine PW.if_ne (pc := 91) dX8_qTest_91 (t := 105) (by decide) (fun hc => ?_) (fun hc => ?_)
            · have h := h.1 hc
              refine PW.iconst (pc := 105) dX8_qTest_105 (v := 0) (by decide) ?_
              refine PW.istore_n (pc := 106) dX8_qTest_106 (ls' := [.ref 277, .int 0, .int y2]) (by decide) rfl rfl ?_
              refine PW.goto (pc := 107) dX8_qTest_107 (t := 2) (by decide) ?_
              exact PW.drop (ih _ _ hM13 h) ⟨rfl, rfl, trivial⟩
            · have h := h.2 hc
              refine PW.aload_n (pc := 94) dX8_qTest_94 rfl ?_
              refine PW.inv (m' := mX8_qGoesOnTest) (pc := 95) dX8_qTest_95 lm_X8_631 me_X8_qGoesOnTest mi_X8_qGoesOnTest (ob hM13.1 s_277 (by decide)) rfl (As := []) (st := []) rfl (Nat.le_of_ble_eq_true rfl) (Nat.le_of_ble_eq_true rfl) (Nat.le_of_eq hM13.1) (Nat.le_refl _) (PW.deep (by decide) (c_X8_qGoesOnTest  hM13 h)) ?_
              rintro _ M14 ⟨hM16, y15, rfl, z17, h⟩
              refine PW.if_eq (pc := 98) dX8_qTest_98 (t := 105) (by decide) (fun hc => ?_) (fun hc => ?_)
              · have h := h.1 hc
                refine PW.iconst (pc := 105) dX8_qTest_105 (v := 0) (by decide) ?_
                refine PW.istore_n (pc := 106) dX8_qTest_106 (ls' := [.ref 277, .int 0, .int y2]) (by decide) rfl rfl ?_
                refine PW.goto (pc := 107) dX8_qTest_107 (t := 2) (by decide) ?_
                exact PW.drop (ih _ _ hM16 h) ⟨rfl, rfl, trivial⟩
              · have h := h.2 hc
                refine PW.iconst (pc := 101) dX8_qTest_101 (v := 1) (by decide) ?_
                refine PW.goto (pc := 102) dX8_qTest_102 (t := 106) (by decide) ?_
                refine PW.istore_n (pc := 106) dX8_qTest_106 (ls' := [.ref 277, .int 1, .int y2]) (by decide) rfl rfl ?_
                refine PW.goto (pc := 107) dX8_qTest_107 (t := 2) (by decide) ?_
                exact PW.drop (ih _ _ hM16 h) ⟨rfl, rfl, trivial⟩
          · have h := h.2 hc
            refine PW.aload_n (pc := 58) dX8_qTest_58 rfl ?_
            refine PW.bipush (pc := 59) dX8_qTest_59 (v := 12) (by decide) ?_
            refine PW.aload_n (pc := 61) dX8_qTest_61 rfl ?_
            refine PW.getI (pc := 62) dX8_qTest_62 lf_X8_255 (ob hM6.1 s_277 (by decide)) fx_8_2 ?_
            refine PW.inv (m' := mX8_qOpens) (pc := 65) dX8_qTest_65 lm_X8_601 me_X8_qOpens mi_X8_qOpens (ob hM6.1 s_277 (by decide)) rfl (As := [.int 12, .int (mI M4 277 2)]) (st := []) rfl (Nat.le_of_ble_eq_true rfl) (Nat.le_of_ble_eq_true rfl) (Nat.le_of_eq hM6.1) (Nat.le_refl _) (PW.deep (by decide) (c_X8_qOpens  hM6 h)) ?_
            rintro _ M18 ⟨hM20, rfl, h⟩
            refine PW.aload_n (pc := 68) dX8_qTest_68 rfl ?_
            refine PW.aload_n (pc := 69) dX8_qTest_69 rfl ?_
            refine PW.getR (pc := 70) dX8_qTest_70 (r := 332) lf_X8_183 (ob hM20.1 s_277 (by decide)) fx_8_78 (oR_8_78 hM20 s_277) (pS_ne s_332) ?_
            refine PW.inv (m' := mX8_asks) (pc := 73) dX8_qTest_73 lm_X8_311 me_X8_asks mi_X8_asks (ob hM20.1 s_277 (by decide)) rfl (As := [.ref 332]) (st := []) rfl (Nat.le_of_ble_eq_true rfl) (Nat.le_of_ble_eq_true rfl) (Nat.le_of_eq hM20.1) (Nat.le_refl _) (PW.deep (by decide) (c_X8_asks s_332 hM20 h)) ?_
            rintro _ M21 ⟨hM23, rfl, h⟩
            refine PW.goto (pc := 76) dX8_qTest_76 (t := 2) (by decide) ?_
            exact PW.drop (ih _ _ hM23 h) ⟨rfl, rfl, trivial⟩
        · have h := h.2 hc
          refine PW.aload_n (pc := 24) dX8_qTest_24 rfl ?_
          refine PW.bipush (pc := 25) dX8_qTest_25 (v := 25) (by decide) ?_
          refine PW.aload_n (pc := 27) dX8_qTest_27 rfl ?_
          refine PW.getI (pc := 28) dX8_qTest_28 lf_X8_255 (ob hM3.1 s_277 (by decide)) fx_8_2 ?_
          refine PW.inv (m' := mX8_qOpens) (pc := 31) dX8_qTest_31 lm_X8_601 me_X8_qOpens mi_X8_qOpens (ob hM3.1 s_277 (by decide)) rfl (As := [.int 25, .int (mI M1 277 2)]) (st := []) rfl (Nat.le_of_ble_eq_true rfl) (Nat.le_of_ble_eq_true rfl) (Nat.le_of_eq hM3.1) (Nat.le_refl _) (PW.deep (by decide) (c_X8_qOpens  hM3 h)) ?_
          rintro _ M24 ⟨hM26, rfl, h⟩
          refine PW.aload_n (pc := 34) dX8_qTest_34 rfl ?_
          refine PW.dupR (pc := 35) dX8_qTest_35 ?_
          refine PW.getI (pc := 36) dX8_qTest_36 lf_X8_255 (ob hM26.1 s_277 (by decide)) fx_8_2 ?_
          refine PW.iconst (pc := 39) dX8_qTest_39 (v := 1) (by decide) ?_
          refine PW.iadd (pc := 40) dX8_qTest_40 ?_
          refine PW.putI (pc := 41) dX8_qTest_41 lf_X8_255 (ob hM26.1 s_277 (by decide)) fx_8_2 fw_8_2 rfl rfl ?_
          refine PW.goto (pc := 44) dX8_qTest_44 (t := 2) (by decide) ?_
          exact PW.drop (ih _ _ (hM26.same rfl rfl) h) ⟨rfl, rfl, trivial⟩
def w_X8_qTest_110 : Nat → pm → (pm → Prop) → Prop
  | 0, _, _ => False
  | n + 1, M, Q => ((¬ (mI M 277 5) = 0 → (Q M)) ∧ ((mI M 277 5) = 0 → (((mI M 277 98) ≤ 0 → (Q M)) ∧ (¬ (mI M 277 98) ≤ 0 → (w_X8_qDrops  M (fun M29 => w_X8_qTest_110 n M29 Q))))))
set_option maxRecDepth 4000 in
theorem c_X8_qTest_110  {Q : pm → Prop}  : ∀ (n : Nat)  (M : pm), pG M → w_X8_qTest_110 n  M  Q → PW mX8_qTest 9 350 110 [.ref 277, .null, .null] [] M (qV Q) := by
  intro n
  induction n with
  | zero => intro M hM h; exact h.elim
  | succ n ih =>
    intro M hM h
    unfold w_X8_qTest_110 at h
    refine PW.aload_n (pc := 110) dX8_qTest_110 rfl ?_
    refine PW.getI (pc := 111) dX8_qTest_111 lf_X8_249 (ob hM.1 s_277 (by decide)) fx_8_5 ?_
    refine PW.if_ne (pc := 114) dX8_qTest_114 (t := 131) (by decide) (fun hc => ?_) (fun hc => ?_)
    · have h := h.1 hc
      exact PW.ret0 (pc := 131) dX8_qTest_131 hM.1 rfl ⟨hM, rfl, h⟩
    · have h := h.2 hc
      refine PW.aload_n (pc := 117) dX8_qTest_117 rfl ?_
      refine PW.getI (pc := 118) dX8_qTest_118 lf_X8_340 (ob hM.1 s_277 (by decide)) fx_8_98 ?_
      refine PW.if_le (pc := 121) dX8_qTest_121 (t := 131) (by decide) (fun hc => ?_) (fun hc => ?_)
      · have h := h.1 hc
        exact PW.ret0 (pc := 131) dX8_qTest_131 hM.1 rfl ⟨hM, rfl, h⟩
      · have h := h.2 hc
        refine PW.aload_n (pc := 124) dX8_qTest_124 rfl ?_
        refine PW.inv (m' := mX8_qDrops) (pc := 125) dX8_qTest_125 lm_X8_589 me_X8_qDrops mi_X8_qDrops (ob hM.1 s_277 (by decide)) rfl (As := []) (st := []) rfl (Nat.le_of_ble_eq_true rfl) (Nat.le_of_ble_eq_true rfl) (Nat.le_of_eq hM.1) (Nat.le_refl _) (PW.deep (by decide) (c_X8_qDrops  hM h)) ?_
        rintro _ M29 ⟨hM31, rfl, h⟩
        refine PW.goto (pc := 128) dX8_qTest_128 (t := 110) (by decide) ?_
        exact PW.drop (ih _ hM31 h) ⟨rfl, trivial⟩
def w_X8_qTest  (M : pm) (Q : pm → Prop) : Prop := ∃ n27, w_X8_qTest_2 n27 1 M (fun M28 => ∃ n32, w_X8_qTest_110 n32  M28  Q) Q
set_option maxRecDepth 4000 in
theorem c_X8_qTest  {M : pm} {Q : pm → Prop}  (hM : pG M) (h : w_X8_qTest  M Q) : PW mX8_qTest 9 350 0 (pfr mX8_qTest.2.2.1 [.ref 277]) [] M (qV Q) := by
  unfold w_X8_qTest at h
  show PW mX8_qTest 9 350 0 [.ref 277, .null, .null] [] M (qV Q)
  refine PW.iconst (pc := 0) dX8_qTest_0 (v := 1) (by decide) ?_
  refine PW.istore_n (pc := 1) dX8_qTest_1 (ls' := [.ref 277, .int 1, .null]) (by decide) rfl rfl ?_
  obtain ⟨n27, h⟩ := h
  refine PW.drop (c_X8_qTest_2 ?_ n27 _ _ hM h) ⟨rfl, rfl, trivial⟩
  · intro M28 hM h
    obtain ⟨n32, h⟩ := h
    refine PW.drop (c_X8_qTest_110  n32 _ hM h) ⟨rfl, trivial⟩
def w_X8_codesTold_100 : Nat → Int32 → Int32 → pm → (pm → Prop) → Prop
  | 0, _, _, _, _ => False
  | n + 1, x1, x3, M, Q => (((mI M 277 96) ≤ x3 → (vp_in x1 6 ∧ (Q (sI M 315 x1.toNatClampNeg (mI M 277 48))))) ∧ (¬ (mI M 277 96) ≤ x3 → (vp_in x3 1700 ∧ (vp_in (mI M 277 48) 3200 ∧ (w_X8_codesTold_100 n x1 (x3 + 1) (sI (sI M 316 ((mI M 277 48).toNatClampNeg) (mI M 349 x3.toNatClampNeg)) 277 48 ((mI M 277 48) + 1)) Q)))))
set_option maxRecDepth 4000 in
theorem c_X8_codesTold_100  {Q : pm → Prop}  : ∀ (n : Nat) (x1 : Int32) (x3 : Int32) (M : pm), pG M → w_X8_codesTold_100 n x1 x3 M  Q → PW mX8_codesTold 10 350 100 [.ref 277, .int x1, .null, .int x3] [] M (qV Q) := by
  intro n
  induction n with
  | zero => intro x1 x3 M hM h; exact h.elim
  | succ n ih =>
    intro x1 x3 M hM h
    unfold w_X8_codesTold_100 at h
    refine PW.iload_n (pc := 100) dX8_codesTold_100 rfl ?_
    refine PW.aload_n (pc := 101) dX8_codesTold_101 rfl ?_
    refine PW.getI (pc := 102) dX8_codesTold_102 lf_X8_337 (ob hM.1 s_277 (by decide)) fx_8_96 ?_
    refine PW.icmp_ge (pc := 105) dX8_codesTold_105 (t := 139) (by decide) (fun hc => ?_) (fun hc => ?_)
    · have h := h.1 hc
      refine PW.aload_n (pc := 139) dX8_codesTold_139 rfl ?_
      refine PW.getR (pc := 140) dX8_codesTold_140 (r := 315) lf_X8_127 (ob hM.1 s_277 (by decide)) fx_8_46 (oR_8_46 hM s_277) (pS_ne s_315) ?_
      refine PW.iload_n (pc := 143) dX8_codesTold_143 rfl ?_
      refine PW.aload_n (pc := 144) dX8_codesTold_144 rfl ?_
      refine PW.getI (pc := 145) dX8_codesTold_145 lf_X8_355 (ob hM.1 s_277 (by decide)) fx_8_48 ?_
      obtain ⟨v5, h⟩ := h
      refine PW.iast (pc := 148) dX8_codesTold_148 (ar hM.1 s_315) (vpl n_315 v5) ?_
      exact PW.ret0 (pc := 149) dX8_codesTold_149 hM.1 rfl ⟨(hM.same rfl rfl), rfl, h⟩
    · have h := h.2 hc
      refine PW.aload_n (pc := 108) dX8_codesTold_108 rfl ?_
      refine PW.getR (pc := 109) dX8_codesTold_109 (r := 316) lf_X8_130 (ob hM.1 s_277 (by decide)) fx_8_47 (oR_8_47 hM s_277) (pS_ne s_316) ?_
      refine PW.aload_n (pc := 112) dX8_codesTold_112 rfl ?_
      refine PW.getI (pc := 113) dX8_codesTold_113 lf_X8_355 (ob hM.1 s_277 (by decide)) fx_8_48 ?_
      refine PW.aload_n (pc := 116) dX8_codesTold_116 rfl ?_
      refine PW.getR (pc := 117) dX8_codesTold_117 (r := 349) lf_X8_234 (ob hM.1 s_277 (by decide)) fx_8_95 (oR_8_95 hM s_277) (pS_ne s_349) ?_
      refine PW.iload_n (pc := 120) dX8_codesTold_120 rfl ?_
      obtain ⟨v6, h⟩ := h
      refine PW.iald (pc := 121) dX8_codesTold_121 (ar hM.1 s_349) (vpl n_349 v6) ?_
      obtain ⟨v7, h⟩ := h
      refine PW.iast (pc := 122) dX8_codesTold_122 (ar hM.1 s_316) (vpl n_316 v7) ?_
      refine PW.aload_n (pc := 123) dX8_codesTold_123 rfl ?_
      refine PW.dupR (pc := 124) dX8_codesTold_124 ?_
      refine PW.getI (pc := 125) dX8_codesTold_125 lf_X8_355 (ob hM.1 s_277 (by decide)) fx_8_48 ?_
      refine PW.iconst (pc := 128) dX8_codesTold_128 (v := 1) (by decide) ?_
      refine PW.iadd (pc := 129) dX8_codesTold_129 ?_
      refine PW.putI (pc := 130) dX8_codesTold_130 lf_X8_355 (ob hM.1 s_277 (by decide)) fx_8_48 fw_8_48 rfl rfl ?_
      refine PW.iinc (pc := 133) dX8_codesTold_133 (v := (x3 + 1)) (ls' := [.ref 277, .int x1, .null, .int (x3 + 1)]) rfl rfl (by decide) rfl rfl ?_
      refine PW.goto (pc := 136) dX8_codesTold_136 (t := 100) (by decide) ?_
      exact PW.drop (ih _ _ _ (hM.same rfl rfl) h) ⟨rfl, rfl, rfl, trivial⟩
def w_X8_codesTold_80  (x1 : Int32) (M : pm)  (Q : pm → Prop) : Prop := (((mI M 277 5) = 0 → (vp_in x1 6 ∧ (∃ n8, w_X8_codesTold_100 n8 x1 0 (sI M 314 x1.toNatClampNeg (mI M 277 48))  Q))) ∧ (¬ (mI M 277 5) = 0 → (Q M)))
set_option maxRecDepth 4000 in
theorem c_X8_codesTold_80  {Q : pm → Prop}  : ∀ (x1 : Int32) (M : pm), pG M → w_X8_codesTold_80 x1 M  Q → PW mX8_codesTold 10 350 80 [.ref 277, .int x1, .null, .null] [] M (qV Q) := by
  intro x1 M hM h
  unfold w_X8_codesTold_80 at h
  refine PW.aload_n (pc := 80) dX8_codesTold_80 rfl ?_
  refine PW.getI (pc := 81) dX8_codesTold_81 lf_X8_249 (ob hM.1 s_277 (by decide)) fx_8_5 ?_
  refine PW.if_eq (pc := 84) dX8_codesTold_84 (t := 88) (by decide) (fun hc => ?_) (fun hc => ?_)
  · have h := h.1 hc
    refine PW.aload_n (pc := 88) dX8_codesTold_88 rfl ?_
    refine PW.getR (pc := 89) dX8_codesTold_89 (r := 314) lf_X8_124 (ob hM.1 s_277 (by decide)) fx_8_45 (oR_8_45 hM s_277) (pS_ne s_314) ?_
    refine PW.iload_n (pc := 92) dX8_codesTold_92 rfl ?_
    refine PW.aload_n (pc := 93) dX8_codesTold_93 rfl ?_
    refine PW.getI (pc := 94) dX8_codesTold_94 lf_X8_355 (ob hM.1 s_277 (by decide)) fx_8_48 ?_
    obtain ⟨v4, h⟩ := h
    refine PW.iast (pc := 97) dX8_codesTold_97 (ar hM.1 s_314) (vpl n_314 v4) ?_
    refine PW.iconst (pc := 98) dX8_codesTold_98 (v := 0) (by decide) ?_
    refine PW.istore_n (pc := 99) dX8_codesTold_99 (ls' := [.ref 277, .int x1, .null, .int 0]) (by decide) rfl rfl ?_
    obtain ⟨n8, h⟩ := h
    refine PW.drop (c_X8_codesTold_100  n8 _ _ _ (hM.same rfl rfl) h) ⟨rfl, rfl, rfl, trivial⟩
  · have h := h.2 hc
    exact PW.ret0 (pc := 87) dX8_codesTold_87 hM.1 rfl ⟨hM, rfl, h⟩
def w_X8_codesTold_41  (x1 : Int32) (t1 : Int32) (M : pm)  (Q : pm → Prop) : Prop := ((¬ x1 = 1 → (w_X8_qSums  (sI (sI (sI (sI (sI M 277 51 t1) 277 96 0) 277 98 0) 277 99 0) 277 100 0) (fun M1 => w_X8_codesTold_80 x1 M1  Q))) ∧ (x1 = 1 → (w_X8_qTest  (sI (sI (sI (sI (sI M 277 51 t1) 277 96 0) 277 98 0) 277 99 0) 277 100 0) (fun M9 => w_X8_codesTold_80 x1 M9  Q))))
set_option maxRecDepth 4000 in
theorem c_X8_codesTold_41  {Q : pm → Prop}  : ∀ (x1 : Int32) (t1 : Int32) (M : pm), pG M → w_X8_codesTold_41 x1 t1 M  Q → PW mX8_codesTold 10 350 41 [.ref 277, .int x1, .null, .null] [.int t1, .ref 277] M (qV Q) := by
  intro x1 t1 M hM h
  unfold w_X8_codesTold_41 at h
  refine PW.putI (pc := 41) dX8_codesTold_41 lf_X8_304 (ob hM.1 s_277 (by decide)) fx_8_51 fw_8_51 rfl rfl ?_
  refine PW.aload_n (pc := 44) dX8_codesTold_44 rfl ?_
  refine PW.iconst (pc := 45) dX8_codesTold_45 (v := 0) (by decide) ?_
  refine PW.putI (pc := 46) dX8_codesTold_46 lf_X8_337 (ob hM.1 s_277 (by decide)) fx_8_96 fw_8_96 rfl rfl ?_
  refine PW.aload_n (pc := 49) dX8_codesTold_49 rfl ?_
  refine PW.iconst (pc := 50) dX8_codesTold_50 (v := 0) (by decide) ?_
  refine PW.putI (pc := 51) dX8_codesTold_51 lf_X8_340 (ob hM.1 s_277 (by decide)) fx_8_98 fw_8_98 rfl rfl ?_
  refine PW.aload_n (pc := 54) dX8_codesTold_54 rfl ?_
  refine PW.iconst (pc := 55) dX8_codesTold_55 (v := 0) (by decide) ?_
  refine PW.putI (pc := 56) dX8_codesTold_56 lf_X8_343 (ob hM.1 s_277 (by decide)) fx_8_99 fw_8_99 rfl rfl ?_
  refine PW.aload_n (pc := 59) dX8_codesTold_59 rfl ?_
  refine PW.iconst (pc := 60) dX8_codesTold_60 (v := 0) (by decide) ?_
  refine PW.putI (pc := 61) dX8_codesTold_61 lf_X8_346 (ob hM.1 s_277 (by decide)) fx_8_100 fw_8_100 rfl rfl ?_
  refine PW.iload_n (pc := 64) dX8_codesTold_64 rfl ?_
  refine PW.iconst (pc := 65) dX8_codesTold_65 (v := 1) (by decide) ?_
  refine PW.icmp_ne (pc := 66) dX8_codesTold_66 (t := 76) (by decide) (fun hc => ?_) (fun hc => ?_)
  · have h := h.1 hc
    refine PW.aload_n (pc := 76) dX8_codesTold_76 rfl ?_
    refine PW.inv (m' := mX8_qSums) (pc := 77) dX8_codesTold_77 lm_X8_352 me_X8_qSums mi_X8_qSums (ob hM.1 s_277 (by decide)) rfl (As := []) (st := []) rfl (Nat.le_of_ble_eq_true rfl) (Nat.le_of_ble_eq_true rfl) (Nat.le_of_eq hM.1) (Nat.le_refl _) (PW.deep (by decide) (c_X8_qSums  (hM.same rfl rfl) h)) ?_
    rintro _ M1 ⟨hM3, rfl, h⟩
    exact PW.drop (c_X8_codesTold_80  _ _ hM3 h) ⟨rfl, rfl, trivial⟩
  · have h := h.2 hc
    refine PW.aload_n (pc := 69) dX8_codesTold_69 rfl ?_
    refine PW.inv (m' := mX8_qTest) (pc := 70) dX8_codesTold_70 lm_X8_349 me_X8_qTest mi_X8_qTest (ob hM.1 s_277 (by decide)) rfl (As := []) (st := []) rfl (Nat.le_of_ble_eq_true rfl) (Nat.le_of_ble_eq_true rfl) (Nat.le_of_eq hM.1) (Nat.le_refl _) (PW.deep (by decide) (c_X8_qTest  (hM.same rfl rfl) h)) ?_
    rintro _ M9 ⟨hM11, rfl, h⟩
    refine PW.goto (pc := 73) dX8_codesTold_73 (t := 80) (by decide) ?_
    exact PW.drop (c_X8_codesTold_80  _ _ hM11 h) ⟨rfl, rfl, trivial⟩
def w_X8_codesTold (x1 : Int32) (x2 : Int32) (M : pm) (Q : pm → Prop) : Prop := ((¬ (mI M 277 5) = 0 → (((mI M 277 5) = 0 → ((¬ x1 = 0 → (w_X8_codesTold_41 x1 1 M  Q)) ∧ (x1 = 0 → (w_X8_codesTold_41 x1 0 M  Q)))) ∧ (¬ (mI M 277 5) = 0 → (Q M)))) ∧ ((mI M 277 5) = 0 → (vp_in x1 6 ∧ (((mI M 314 x1.toNatClampNeg) = (-1) → (((mI M 277 5) = 0 → ((¬ x1 = 0 → (w_X8_codesTold_41 x1 1 M  Q)) ∧ (x1 = 0 → (w_X8_codesTold_41 x1 0 M  Q)))) ∧ (¬ (mI M 277 5) = 0 → (Q M)))) ∧ (¬ (mI M 314 x1.toNatClampNeg) = (-1) → (w_X8_fail 5 x2 M (fun M13 => (((mI M13 277 5) = 0 → ((¬ x1 = 0 → (w_X8_codesTold_41 x1 1 M13  Q)) ∧ (x1 = 0 → (w_X8_codesTold_41 x1 0 M13  Q)))) ∧ (¬ (mI M13 277 5) = 0 → (Q M13))))))))))
set_option maxRecDepth 4000 in
theorem c_X8_codesTold {x1 : Int32} {x2 : Int32} {M : pm} {Q : pm → Prop}  (hM : pG M) (h : w_X8_codesTold x1 x2 M Q) : PW mX8_codesTold 10 350 0 (pfr mX8_codesTold.2.2.1 [.ref 277, .int x1, .int x2]) [] M (qV Q) := by
  unfold w_X8_codesTold at h
  show PW mX8_codesTold 10 350 0 [.ref 277, .int x1, .int x2, .null] [] M (qV Q)
  refine PW.aload_n (pc := 0) dX8_codesTold_0 rfl ?_
  refine PW.getI (pc := 1) dX8_codesTold_1 lf_X8_249 (ob hM.1 s_277 (by decide)) fx_8_5 ?_
  refine PW.if_ne (pc := 4) dX8_codesTold_4 (t := 23) (by decide) (fun hc => ?_) (fun hc => ?_)
  · have h := h.1 hc
    refine PW.aload_n (pc := 23) dX8_codesTold_23 rfl ?_
    refine PW.getI (pc := 24) dX8_codesTold_24 lf_X8_249 (ob hM.1 s_277 (by decide)) fx_8_5 ?_
    refine PW.if_eq (pc := 27) dX8_codesTold_27 (t := 31) (by decide) (fun hc => ?_) (fun hc => ?_)
    · have h := h.1 hc
      refine PW.aload_n (pc := 31) dX8_codesTold_31 rfl ?_
      refine PW.iload_n (pc := 32) dX8_codesTold_32 rfl ?_
      refine PW.if_ne (pc := 33) dX8_codesTold_33 (t := 40) (by decide) (fun hc => ?_) (fun hc => ?_)
      · have h := h.1 hc
        refine PW.iconst (pc := 40) dX8_codesTold_40 (v := 1) (by decide) ?_
        exact PW.drop (c_X8_codesTold_41  _ _ _ hM h) ⟨rfl, rfl, trivial⟩
      · have h := h.2 hc
        refine PW.iconst (pc := 36) dX8_codesTold_36 (v := 0) (by decide) ?_
        refine PW.goto (pc := 37) dX8_codesTold_37 (t := 41) (by decide) ?_
        exact PW.drop (c_X8_codesTold_41  _ _ _ hM h) ⟨rfl, rfl, trivial⟩
    · have h := h.2 hc
      exact PW.ret0 (pc := 30) dX8_codesTold_30 hM.1 rfl ⟨hM, rfl, h⟩
  · have h := h.2 hc
    refine PW.aload_n (pc := 7) dX8_codesTold_7 rfl ?_
    refine PW.getR (pc := 8) dX8_codesTold_8 (r := 314) lf_X8_124 (ob hM.1 s_277 (by decide)) fx_8_45 (oR_8_45 hM s_277) (pS_ne s_314) ?_
    refine PW.iload_n (pc := 11) dX8_codesTold_11 rfl ?_
    obtain ⟨v12, h⟩ := h
    refine PW.iald (pc := 12) dX8_codesTold_12 (ar hM.1 s_314) (vpl n_314 v12) ?_
    refine PW.iconst (pc := 13) dX8_codesTold_13 (v := (-1)) (by decide) ?_
    refine PW.icmp_eq (pc := 14) dX8_codesTold_14 (t := 23) (by decide) (fun hc => ?_) (fun hc => ?_)
    · have h := h.1 hc
      refine PW.aload_n (pc := 23) dX8_codesTold_23 rfl ?_
      refine PW.getI (pc := 24) dX8_codesTold_24 lf_X8_249 (ob hM.1 s_277 (by decide)) fx_8_5 ?_
      refine PW.if_eq (pc := 27) dX8_codesTold_27 (t := 31) (by decide) (fun hc => ?_) (fun hc => ?_)
      · have h := h.1 hc
        refine PW.aload_n (pc := 31) dX8_codesTold_31 rfl ?_
        refine PW.iload_n (pc := 32) dX8_codesTold_32 rfl ?_
        refine PW.if_ne (pc := 33) dX8_codesTold_33 (t := 40) (by decide) (fun hc => ?_) (fun hc => ?_)
        · have h := h.1 hc
          refine PW.iconst (pc := 40) dX8_codesTold_40 (v := 1) (by decide) ?_
          exact PW.drop (c_X8_codesTold_41  _ _ _ hM h) ⟨rfl, rfl, trivial⟩
        · have h := h.2 hc
          refine PW.iconst (pc := 36) dX8_codesTold_36 (v := 0) (by decide) ?_
          refine PW.goto (pc := 37) dX8_codesTold_37 (t := 41) (by decide) ?_
          exact PW.drop (c_X8_codesTold_41  _ _ _ hM h) ⟨rfl, rfl, trivial⟩
      · have h := h.2 hc
        exact PW.ret0 (pc := 30) dX8_codesTold_30 hM.1 rfl ⟨hM, rfl, h⟩
    · have h := h.2 hc
      refine PW.aload_n (pc := 17) dX8_codesTold_17 rfl ?_
      refine PW.iconst (pc := 18) dX8_codesTold_18 (v := 5) (by decide) ?_
      refine PW.iload_n (pc := 19) dX8_codesTold_19 rfl ?_
      refine PW.inv (m' := mX8_fail) (pc := 20) dX8_codesTold_20 lm_X8_279 me_X8_fail mi_X8_fail (ob hM.1 s_277 (by decide)) rfl (As := [.int 5, .int x2]) (st := []) rfl (Nat.le_of_ble_eq_true rfl) (Nat.le_of_ble_eq_true rfl) (Nat.le_of_eq hM.1) (Nat.le_refl _) (PW.deep (by decide) (c_X8_fail  hM h)) ?_
      rintro _ M13 ⟨hM15, rfl, h⟩
      refine PW.aload_n (pc := 23) dX8_codesTold_23 rfl ?_
      refine PW.getI (pc := 24) dX8_codesTold_24 lf_X8_249 (ob hM15.1 s_277 (by decide)) fx_8_5 ?_
      refine PW.if_eq (pc := 27) dX8_codesTold_27 (t := 31) (by decide) (fun hc => ?_) (fun hc => ?_)
      · have h := h.1 hc
        refine PW.aload_n (pc := 31) dX8_codesTold_31 rfl ?_
        refine PW.iload_n (pc := 32) dX8_codesTold_32 rfl ?_
        refine PW.if_ne (pc := 33) dX8_codesTold_33 (t := 40) (by decide) (fun hc => ?_) (fun hc => ?_)
        · have h := h.1 hc
          refine PW.iconst (pc := 40) dX8_codesTold_40 (v := 1) (by decide) ?_
          exact PW.drop (c_X8_codesTold_41  _ _ _ hM15 h) ⟨rfl, rfl, trivial⟩
        · have h := h.2 hc
          refine PW.iconst (pc := 36) dX8_codesTold_36 (v := 0) (by decide) ?_
          refine PW.goto (pc := 37) dX8_codesTold_37 (t := 41) (by decide) ?_
          exact PW.drop (c_X8_codesTold_41  _ _ _ hM15 h) ⟨rfl, rfl, trivial⟩
      · have h := h.2 hc
        exact PW.ret0 (pc := 30) dX8_codesTold_30 hM15.1 rfl ⟨hM15, rfl, h⟩
def w_X8_statementTold  (M : pm) (Q : pm → Prop) : Prop := ((¬ (mI M 277 49) = 80 → (w_X8_takes 281 M (fun y2 M1 => ((y2 = 0 → (w_X8_takes 284 M1 (fun y6 M5 => ((y6 = 0 → (w_X8_takes 288 M5 (fun y10 M9 => ((y10 = 0 → (w_X8_takes 290 M9 (fun y14 M13 => ((y14 = 0 → (w_X8_takes 291 M13 (fun y18 M17 => ((y18 = 0 → (w_X8_takes 292 M17 (fun y22 M21 => ((y22 = 0 → (w_X8_takes 293 M21 (fun y26 M25 => ((y26 = 0 → (w_X8_asks 294 M25 (fun M29 => w_X8_number 0 100 M29 (fun y33 M32 => w_X8_asksSign 59 (sI M32 308 2 y33) (fun M35 => Q (sI M35 277 49 ((mI M35 277 49) + 1))))))) ∧ (¬ y26 = 0 → (w_X8_number 0 999 M25 (fun y39 M38 => w_X8_asksSign 59 (sI M38 308 1 y39) (fun M41 => Q (sI M41 277 49 ((mI M41 277 49) + 1)))))))))) ∧ (¬ y22 = 0 → (w_X8_codesTold 2 (mI M 277 2) M21 (fun M44 => w_X8_asksSign 59 M44 (fun M47 => Q (sI M47 277 49 ((mI M47 277 49) + 1)))))))))) ∧ (¬ y18 = 0 → (w_X8_codesTold 1 (mI M 277 2) M17 (fun M50 => w_X8_asksSign 59 M50 (fun M53 => Q (sI M53 277 49 ((mI M53 277 49) + 1)))))))))) ∧ (¬ y14 = 0 → (w_X8_codesTold 0 (mI M 277 2) M13 (fun M56 => w_X8_asksSign 59 M56 (fun M59 => Q (sI M59 277 49 ((mI M59 277 49) + 1)))))))))) ∧ (¬ y10 = 0 → (w_X8_earTold (mI M 277 2) M9 (fun M62 => w_X8_asksSign 59 M62 (fun M65 => Q (sI M65 277 49 ((mI M65 277 49) + 1)))))))))) ∧ (¬ y6 = 0 → (w_X8_askerTold (mI M 277 2) M5 (fun M68 => w_X8_asksSign 59 M68 (fun M71 => Q (sI M71 277 49 ((mI M71 277 49) + 1)))))))))) ∧ (¬ y2 = 0 → (w_X8_songTold (mI M 277 2) M1 (fun M74 => w_X8_asksSign 59 M74 (fun M77 => Q (sI M77 277 49 ((mI M77 277 49) + 1)))))))))) ∧ ((mI M 277 49) = 80 → (w_X8_fail 5 (mI M 277 2) M (fun M80 => Q M80))))
set_option maxRecDepth 4000 in
theorem c_X8_statementTold  {M : pm} {Q : pm → Prop}  (hM : pG M) (h : w_X8_statementTold  M Q) : PW mX8_statementTold 11 350 0 (pfr mX8_statementTold.2.2.1 [.ref 277]) [] M (qV Q) := by
  unfold w_X8_statementTold at h
  show PW mX8_statementTold 11 350 0 [.ref 277, .null] [] M (qV Q)
  refine PW.aload_n (pc := 0) dX8_statementTold_0 rfl ?_
  refine PW.getI (pc := 1) dX8_statementTold_1 lf_X8_255 (ob hM.1 s_277 (by decide)) fx_8_2 ?_
  refine PW.istore_n (pc := 4) dX8_statementTold_4 (ls' := [.ref 277, .int (mI M 277 2)]) (by decide) rfl rfl ?_
  refine PW.aload_n (pc := 5) dX8_statementTold_5 rfl ?_
  refine PW.getI (pc := 6) dX8_statementTold_6 lf_X8_358 (ob hM.1 s_277 (by decide)) fx_8_49 ?_
  refine PW.bipush (pc := 9) dX8_statementTold_9 (v := 80) (by decide) ?_
  refine PW.icmp_ne (pc := 11) dX8_statementTold_11 (t := 21) (by decide) (fun hc => ?_) (fun hc => ?_)
  · have h := h.1 hc
    refine PW.aload_n (pc := 21) dX8_statementTold_21 rfl ?_
    refine PW.aload_n (pc := 22) dX8_statementTold_22 rfl ?_
    refine PW.getR (pc := 23) dX8_statementTold_23 (r := 281) lf_X8_24 (ob hM.1 s_277 (by decide)) fx_8_11 (oR_8_11 hM s_277) (pS_ne s_281) ?_
    refine PW.inv (m' := mX8_takes) (pc := 26) dX8_statementTold_26 lm_X8_276 me_X8_takes mi_X8_takes (ob hM.1 s_277 (by decide)) rfl (As := [.ref 281]) (st := []) rfl (Nat.le_of_ble_eq_true rfl) (Nat.le_of_ble_eq_true rfl) (Nat.le_of_eq hM.1) (Nat.le_refl _) (PW.deep (by decide) (c_X8_takes s_281 hM h)) ?_
    rintro _ M1 ⟨hM3, y2, rfl, z4, h⟩
    refine PW.if_eq (pc := 29) dX8_statementTold_29 (t := 40) (by decide) (fun hc => ?_) (fun hc => ?_)
    · have h := h.1 hc
      refine PW.aload_n (pc := 40) dX8_statementTold_40 rfl ?_
      refine PW.aload_n (pc := 41) dX8_statementTold_41 rfl ?_
      refine PW.getR (pc := 42) dX8_statementTold_42 (r := 284) lf_X8_33 (ob hM3.1 s_277 (by decide)) fx_8_14 (oR_8_14 hM3 s_277) (pS_ne s_284) ?_
      refine PW.inv (m' := mX8_takes) (pc := 45) dX8_statementTold_45 lm_X8_276 me_X8_takes mi_X8_takes (ob hM3.1 s_277 (by decide)) rfl (As := [.ref 284]) (st := []) rfl (Nat.le_of_ble_eq_true rfl) (Nat.le_of_ble_eq_true rfl) (Nat.le_of_eq hM3.1) (Nat.le_refl _) (PW.deep (by decide) (c_X8_takes s_284 hM3 h)) ?_
      rintro _ M5 ⟨hM7, y6, rfl, z8, h⟩
      refine PW.if_eq (pc := 48) dX8_statementTold_48 (t := 59) (by decide) (fun hc => ?_) (fun hc => ?_)
      · have h := h.1 hc
        refine PW.aload_n (pc := 59) dX8_statementTold_59 rfl ?_
        refine PW.aload_n (pc := 60) dX8_statementTold_60 rfl ?_
        refine PW.getR (pc := 61) dX8_statementTold_61 (r := 288) lf_X8_45 (ob hM7.1 s_277 (by decide)) fx_8_18 (oR_8_18 hM7 s_277) (pS_ne s_288) ?_
        refine PW.inv (m' := mX8_takes) (pc := 64) dX8_statementTold_64 lm_X8_276 me_X8_takes mi_X8_takes (ob hM7.1 s_277 (by decide)) rfl (As := [.ref 288]) (st := []) rfl (Nat.le_of_ble_eq_true rfl) (Nat.le_of_ble_eq_true rfl) (Nat.le_of_eq hM7.1) (Nat.le_refl _) (PW.deep (by decide) (c_X8_takes s_288 hM7 h)) ?_
        rintro _ M9 ⟨hM11, y10, rfl, z12, h⟩
        refine PW.if_eq (pc := 67) dX8_statementTold_67 (t := 78) (by decide) (fun hc => ?_) (fun hc => ?_)
        · have h := h.1 hc
          refine PW.aload_n (pc := 78) dX8_statementTold_78 rfl ?_
          refine PW.aload_n (pc := 79) dX8_statementTold_79 rfl ?_
          refine PW.getR (pc := 80) dX8_statementTold_80 (r := 290) lf_X8_51 (ob hM11.1 s_277 (by decide)) fx_8_20 (oR_8_20 hM11 s_277) (pS_ne s_290) ?_
          refine PW.inv (m' := mX8_takes) (pc := 83) dX8_statementTold_83 lm_X8_276 me_X8_takes mi_X8_takes (ob hM11.1 s_277 (by decide)) rfl (As := [.ref 290]) (st := []) rfl (Nat.le_of_ble_eq_true rfl) (Nat.le_of_ble_eq_true rfl) (Nat.le_of_eq hM11.1) (Nat.le_refl _) (PW.deep (by decide) (c_X8_takes s_290 hM11 h)) ?_
          rintro _ M13 ⟨hM15, y14, rfl, z16, h⟩
          refine PW.if_eq (pc := 86) dX8_statementTold_86 (t := 98) (by decide) (fun hc => ?_) (fun hc => ?_)
          · have h := h.1 hc
            refine PW.aload_n (pc := 98) dX8_statementTold_98 rfl ?_
            refine PW.aload_n (pc := 99) dX8_statementTold_99 rfl ?_
            refine PW.getR (pc := 100) dX8_statementTold_100 (r := 291) lf_X8_54 (ob hM15.1 s_277 (by decide)) fx_8_21 (oR_8_21 hM15 s_277) (pS_ne s_291) ?_
            refine PW.inv (m' := mX8_takes) (pc := 103) dX8_statementTold_103 lm_X8_276 me_X8_takes mi_X8_takes (ob hM15.1 s_277 (by decide)) rfl (As := [.ref 291]) (st := []) rfl (Nat.le_of_ble_eq_true rfl) (Nat.le_of_ble_eq_true rfl) (Nat.le_of_eq hM15.1) (Nat.le_refl _) (PW.deep (by decide) (c_X8_takes s_291 hM15 h)) ?_
            rintro _ M17 ⟨hM19, y18, rfl, z20, h⟩
            refine PW.if_eq (pc := 106) dX8_statementTold_106 (t := 118) (by decide) (fun hc => ?_) (fun hc => ?_)
            · have h := h.1 hc
              refine PW.aload_n (pc := 118) dX8_statementTold_118 rfl ?_
              refine PW.aload_n (pc := 119) dX8_statementTold_119 rfl ?_
              refine PW.getR (pc := 120) dX8_statementTold_120 (r := 292) lf_X8_57 (ob hM19.1 s_277 (by decide)) fx_8_22 (oR_8_22 hM19 s_277) (pS_ne s_292) ?_
              refine PW.inv (m' := mX8_takes) (pc := 123) dX8_statementTold_123 lm_X8_276 me_X8_takes mi_X8_takes (ob hM19.1 s_277 (by decide)) rfl (As := [.ref 292]) (st := []) rfl (Nat.le_of_ble_eq_true rfl) (Nat.le_of_ble_eq_true rfl) (Nat.le_of_eq hM19.1) (Nat.le_refl _) (PW.deep (by decide) (c_X8_takes s_292 hM19 h)) ?_
              rintro _ M21 ⟨hM23, y22, rfl, z24, h⟩
              refine PW.if_eq (pc := 126) dX8_statementTold_126 (t := 138) (by decide) (fun hc => ?_) (fun hc => ?_)
              · have h := h.1 hc
                refine PW.aload_n (pc := 138) dX8_statementTold_138 rfl ?_
                refine PW.aload_n (pc := 139) dX8_statementTold_139 rfl ?_
                refine PW.getR (pc := 140) dX8_statementTold_140 (r := 293) lf_X8_60 (ob hM23.1 s_277 (by decide)) fx_8_23 (oR_8_23 hM23 s_277) (pS_ne s_293) ?_
                refine PW.inv (m' := mX8_takes) (pc := 143) dX8_statementTold_143 lm_X8_276 me_X8_takes mi_X8_takes (ob hM23.1 s_277 (by decide)) rfl (As := [.ref 293]) (st := []) rfl (Nat.le_of_ble_eq_true rfl) (Nat.le_of_ble_eq_true rfl) (Nat.le_of_eq hM23.1) (Nat.le_refl _) (PW.deep (by decide) (c_X8_takes s_293 hM23 h)) ?_
                rintro _ M25 ⟨hM27, y26, rfl, z28, h⟩
                refine PW.if_eq (pc := 146) dX8_statementTold_146 (t := 166) (by decide) (fun hc => ?_) (fun hc => ?_)
                · have h := h.1 hc
                  refine PW.aload_n (pc := 166) dX8_statementTold_166 rfl ?_
                  refine PW.aload_n (pc := 167) dX8_statementTold_167 rfl ?_
                  refine PW.getR (pc := 168) dX8_statementTold_168 (r := 294) lf_X8_63 (ob hM27.1 s_277 (by decide)) fx_8_24 (oR_8_24 hM27 s_277) (pS_ne s_294) ?_
                  refine PW.inv (m' := mX8_asks) (pc := 171) dX8_statementTold_171 lm_X8_311 me_X8_asks mi_X8_asks (ob hM27.1 s_277 (by decide)) rfl (As := [.ref 294]) (st := []) rfl (Nat.le_of_ble_eq_true rfl) (Nat.le_of_ble_eq_true rfl) (Nat.le_of_eq hM27.1) (Nat.le_refl _) (PW.deep (by decide) (c_X8_asks s_294 hM27 h)) ?_
                  rintro _ M29 ⟨hM31, rfl, h⟩
                  refine PW.aload_n (pc := 174) dX8_statementTold_174 rfl ?_
                  refine PW.getR (pc := 175) dX8_statementTold_175 (r := 308) lf_X8_105 (ob hM31.1 s_277 (by decide)) fx_8_39 (oR_8_39 hM31 s_277) (pS_ne s_308) ?_
                  refine PW.iconst (pc := 178) dX8_statementTold_178 (v := 2) (by decide) ?_
                  refine PW.aload_n (pc := 179) dX8_statementTold_179 rfl ?_
                  refine PW.iconst (pc := 180) dX8_statementTold_180 (v := 0) (by decide) ?_
                  refine PW.bipush (pc := 181) dX8_statementTold_181 (v := 100) (by decide) ?_
                  refine PW.inv (m' := mX8_number) (pc := 183) dX8_statementTold_183 lm_X8_315 me_X8_number mi_X8_number (ob hM31.1 s_277 (by decide)) rfl (As := [.int 0, .int 100]) (st := [.int 2, .ref 308]) rfl (Nat.le_of_ble_eq_true rfl) (Nat.le_of_ble_eq_true rfl) (Nat.le_of_eq hM31.1) (Nat.le_refl _) (PW.deep (by decide) (c_X8_number  hM31 h)) ?_
                  rintro _ M32 ⟨hM34, y33, rfl, h⟩
                  refine PW.iast (pc := 186) dX8_statementTold_186 (ar hM34.1 s_308) (vpl n_308 (vp_c (i := 2) (n := 6) (by decide))) ?_
                  refine PW.aload_n (pc := 187) dX8_statementTold_187 rfl ?_
                  refine PW.bipush (pc := 188) dX8_statementTold_188 (v := 59) (by decide) ?_
                  refine PW.inv (m' := mX8_asksSign) (pc := 190) dX8_statementTold_190 lm_X8_319 me_X8_asksSign mi_X8_asksSign (ob hM34.1 s_277 (by decide)) rfl (As := [.int 59]) (st := []) rfl (Nat.le_of_ble_eq_true rfl) (Nat.le_of_ble_eq_true rfl) (Nat.le_of_eq hM34.1) (Nat.le_refl _) (PW.deep (by decide) (c_X8_asksSign  (hM34.same rfl rfl) h)) ?_
                  rintro _ M35 ⟨hM37, rfl, h⟩
                  refine PW.aload_n (pc := 193) dX8_statementTold_193 rfl ?_
                  refine PW.dupR (pc := 194) dX8_statementTold_194 ?_
                  refine PW.getI (pc := 195) dX8_statementTold_195 lf_X8_358 (ob hM37.1 s_277 (by decide)) fx_8_49 ?_
                  refine PW.iconst (pc := 198) dX8_statementTold_198 (v := 1) (by decide) ?_
                  refine PW.iadd (pc := 199) dX8_statementTold_199 ?_
                  refine PW.putI (pc := 200) dX8_statementTold_200 lf_X8_358 (ob hM37.1 s_277 (by decide)) fx_8_49 fw_8_49 rfl rfl ?_
                  exact PW.ret0 (pc := 203) dX8_statementTold_203 hM37.1 rfl ⟨(hM37.same rfl rfl), rfl, h⟩
                · have h := h.2 hc
                  refine PW.aload_n (pc := 149) dX8_statementTold_149 rfl ?_
                  refine PW.getR (pc := 150) dX8_statementTold_150 (r := 308) lf_X8_105 (ob hM27.1 s_277 (by decide)) fx_8_39 (oR_8_39 hM27 s_277) (pS_ne s_308) ?_
                  refine PW.iconst (pc := 153) dX8_statementTold_153 (v := 1) (by decide) ?_
                  refine PW.aload_n (pc := 154) dX8_statementTold_154 rfl ?_
                  refine PW.iconst (pc := 155) dX8_statementTold_155 (v := 0) (by decide) ?_
                  refine PW.sipush (pc := 156) dX8_statementTold_156 (v := 999) (by decide) ?_
                  refine PW.inv (m' := mX8_number) (pc := 159) dX8_statementTold_159 lm_X8_315 me_X8_number mi_X8_number (ob hM27.1 s_277 (by decide)) rfl (As := [.int 0, .int 999]) (st := [.int 1, .ref 308]) rfl (Nat.le_of_ble_eq_true rfl) (Nat.le_of_ble_eq_true rfl) (Nat.le_of_eq hM27.1) (Nat.le_refl _) (PW.deep (by decide) (c_X8_number  hM27 h)) ?_
                  rintro _ M38 ⟨hM40, y39, rfl, h⟩
                  refine PW.iast (pc := 162) dX8_statementTold_162 (ar hM40.1 s_308) (vpl n_308 (vp_c (i := 1) (n := 6) (by decide))) ?_
                  refine PW.goto (pc := 163) dX8_statementTold_163 (t := 187) (by decide) ?_
                  refine PW.aload_n (pc := 187) dX8_statementTold_187 rfl ?_
                  refine PW.bipush (pc := 188) dX8_statementTold_188 (v := 59) (by decide) ?_
                  refine PW.inv (m' := mX8_asksSign) (pc := 190) dX8_statementTold_190 lm_X8_319 me_X8_asksSign mi_X8_asksSign (ob hM40.1 s_277 (by decide)) rfl (As := [.int 59]) (st := []) rfl (Nat.le_of_ble_eq_true rfl) (Nat.le_of_ble_eq_true rfl) (Nat.le_of_eq hM40.1) (Nat.le_refl _) (PW.deep (by decide) (c_X8_asksSign  (hM40.same rfl rfl) h)) ?_
                  rintro _ M41 ⟨hM43, rfl, h⟩
                  refine PW.aload_n (pc := 193) dX8_statementTold_193 rfl ?_
                  refine PW.dupR (pc := 194) dX8_statementTold_194 ?_
                  refine PW.getI (pc := 195) dX8_statementTold_195 lf_X8_358 (ob hM43.1 s_277 (by decide)) fx_8_49 ?_
                  refine PW.iconst (pc := 198) dX8_statementTold_198 (v := 1) (by decide) ?_
                  refine PW.iadd (pc := 199) dX8_statementTold_199 ?_
                  refine PW.putI (pc := 200) dX8_statementTold_200 lf_X8_358 (ob hM43.1 s_277 (by decide)) fx_8_49 fw_8_49 rfl rfl ?_
                  exact PW.ret0 (pc := 203) dX8_statementTold_203 hM43.1 rfl ⟨(hM43.same rfl rfl), rfl, h⟩
              · have h := h.2 hc
                refine PW.aload_n (pc := 129) dX8_statementTold_129 rfl ?_
                refine PW.iconst (pc := 130) dX8_statementTold_130 (v := 2) (by decide) ?_
                refine PW.iload_n (pc := 131) dX8_statementTold_131 rfl ?_
                refine PW.inv (m' := mX8_codesTold) (pc := 132) dX8_statementTold_132 lm_X8_370 me_X8_codesTold mi_X8_codesTold (ob hM23.1 s_277 (by decide)) rfl (As := [.int 2, .int (mI M 277 2)]) (st := []) rfl (Nat.le_of_ble_eq_true rfl) (Nat.le_of_ble_eq_true rfl) (Nat.le_of_eq hM23.1) (Nat.le_refl _) (PW.deep (by decide) (c_X8_codesTold  hM23 h)) ?_
                rintro _ M44 ⟨hM46, rfl, h⟩
                refine PW.goto (pc := 135) dX8_statementTold_135 (t := 187) (by decide) ?_
                refine PW.aload_n (pc := 187) dX8_statementTold_187 rfl ?_
                refine PW.bipush (pc := 188) dX8_statementTold_188 (v := 59) (by decide) ?_
                refine PW.inv (m' := mX8_asksSign) (pc := 190) dX8_statementTold_190 lm_X8_319 me_X8_asksSign mi_X8_asksSign (ob hM46.1 s_277 (by decide)) rfl (As := [.int 59]) (st := []) rfl (Nat.le_of_ble_eq_true rfl) (Nat.le_of_ble_eq_true rfl) (Nat.le_of_eq hM46.1) (Nat.le_refl _) (PW.deep (by decide) (c_X8_asksSign  hM46 h)) ?_
                rintro _ M47 ⟨hM49, rfl, h⟩
                refine PW.aload_n (pc := 193) dX8_statementTold_193 rfl ?_
                refine PW.dupR (pc := 194) dX8_statementTold_194 ?_
                refine PW.getI (pc := 195) dX8_statementTold_195 lf_X8_358 (ob hM49.1 s_277 (by decide)) fx_8_49 ?_
                refine PW.iconst (pc := 198) dX8_statementTold_198 (v := 1) (by decide) ?_
                refine PW.iadd (pc := 199) dX8_statementTold_199 ?_
                refine PW.putI (pc := 200) dX8_statementTold_200 lf_X8_358 (ob hM49.1 s_277 (by decide)) fx_8_49 fw_8_49 rfl rfl ?_
                exact PW.ret0 (pc := 203) dX8_statementTold_203 hM49.1 rfl ⟨(hM49.same rfl rfl), rfl, h⟩
            · have h := h.2 hc
              refine PW.aload_n (pc := 109) dX8_statementTold_109 rfl ?_
              refine PW.iconst (pc := 110) dX8_statementTold_110 (v := 1) (by decide) ?_
              refine PW.iload_n (pc := 111) dX8_statementTold_111 rfl ?_
              refine PW.inv (m' := mX8_codesTold) (pc := 112) dX8_statementTold_112 lm_X8_370 me_X8_codesTold mi_X8_codesTold (ob hM19.1 s_277 (by decide)) rfl (As := [.int 1, .int (mI M 277 2)]) (st := []) rfl (Nat.le_of_ble_eq_true rfl) (Nat.le_of_ble_eq_true rfl) (Nat.le_of_eq hM19.1) (Nat.le_refl _) (PW.deep (by decide) (c_X8_codesTold  hM19 h)) ?_
              rintro _ M50 ⟨hM52, rfl, h⟩
              refine PW.goto (pc := 115) dX8_statementTold_115 (t := 187) (by decide) ?_
              refine PW.aload_n (pc := 187) dX8_statementTold_187 rfl ?_
              refine PW.bipush (pc := 188) dX8_statementTold_188 (v := 59) (by decide) ?_
              refine PW.inv (m' := mX8_asksSign) (pc := 190) dX8_statementTold_190 lm_X8_319 me_X8_asksSign mi_X8_asksSign (ob hM52.1 s_277 (by decide)) rfl (As := [.int 59]) (st := []) rfl (Nat.le_of_ble_eq_true rfl) (Nat.le_of_ble_eq_true rfl) (Nat.le_of_eq hM52.1) (Nat.le_refl _) (PW.deep (by decide) (c_X8_asksSign  hM52 h)) ?_
              rintro _ M53 ⟨hM55, rfl, h⟩
              refine PW.aload_n (pc := 193) dX8_statementTold_193 rfl ?_
              refine PW.dupR (pc := 194) dX8_statementTold_194 ?_
              refine PW.getI (pc := 195) dX8_statementTold_195 lf_X8_358 (ob hM55.1 s_277 (by decide)) fx_8_49 ?_
              refine PW.iconst (pc := 198) dX8_statementTold_198 (v := 1) (by decide) ?_
              refine PW.iadd (pc := 199) dX8_statementTold_199 ?_
              refine PW.putI (pc := 200) dX8_statementTold_200 lf_X8_358 (ob hM55.1 s_277 (by decide)) fx_8_49 fw_8_49 rfl rfl ?_
              exact PW.ret0 (pc := 203) dX8_statementTold_203 hM55.1 rfl ⟨(hM55.same rfl rfl), rfl, h⟩
          · have h := h.2 hc
            refine PW.aload_n (pc := 89) dX8_statementTold_89 rfl ?_
            refine PW.iconst (pc := 90) dX8_statementTold_90 (v := 0) (by decide) ?_
            refine PW.iload_n (pc := 91) dX8_statementTold_91 rfl ?_
            refine PW.inv (m' := mX8_codesTold) (pc := 92) dX8_statementTold_92 lm_X8_370 me_X8_codesTold mi_X8_codesTold (ob hM15.1 s_277 (by decide)) rfl (As := [.int 0, .int (mI M 277 2)]) (st := []) rfl (Nat.le_of_ble_eq_true rfl) (Nat.le_of_ble_eq_true rfl) (Nat.le_of_eq hM15.1) (Nat.le_refl _) (PW.deep (by decide) (c_X8_codesTold  hM15 h)) ?_
            rintro _ M56 ⟨hM58, rfl, h⟩
            refine PW.goto (pc := 95) dX8_statementTold_95 (t := 187) (by decide) ?_
            refine PW.aload_n (pc := 187) dX8_statementTold_187 rfl ?_
            refine PW.bipush (pc := 188) dX8_statementTold_188 (v := 59) (by decide) ?_
            refine PW.inv (m' := mX8_asksSign) (pc := 190) dX8_statementTold_190 lm_X8_319 me_X8_asksSign mi_X8_asksSign (ob hM58.1 s_277 (by decide)) rfl (As := [.int 59]) (st := []) rfl (Nat.le_of_ble_eq_true rfl) (Nat.le_of_ble_eq_true rfl) (Nat.le_of_eq hM58.1) (Nat.le_refl _) (PW.deep (by decide) (c_X8_asksSign  hM58 h)) ?_
            rintro _ M59 ⟨hM61, rfl, h⟩
            refine PW.aload_n (pc := 193) dX8_statementTold_193 rfl ?_
            refine PW.dupR (pc := 194) dX8_statementTold_194 ?_
            refine PW.getI (pc := 195) dX8_statementTold_195 lf_X8_358 (ob hM61.1 s_277 (by decide)) fx_8_49 ?_
            refine PW.iconst (pc := 198) dX8_statementTold_198 (v := 1) (by decide) ?_
            refine PW.iadd (pc := 199) dX8_statementTold_199 ?_
            refine PW.putI (pc := 200) dX8_statementTold_200 lf_X8_358 (ob hM61.1 s_277 (by decide)) fx_8_49 fw_8_49 rfl rfl ?_
            exact PW.ret0 (pc := 203) dX8_statementTold_203 hM61.1 rfl ⟨(hM61.same rfl rfl), rfl, h⟩
        · have h := h.2 hc
          refine PW.aload_n (pc := 70) dX8_statementTold_70 rfl ?_
          refine PW.iload_n (pc := 71) dX8_statementTold_71 rfl ?_
          refine PW.inv (m' := mX8_earTold) (pc := 72) dX8_statementTold_72 lm_X8_367 me_X8_earTold mi_X8_earTold (ob hM11.1 s_277 (by decide)) rfl (As := [.int (mI M 277 2)]) (st := []) rfl (Nat.le_of_ble_eq_true rfl) (Nat.le_of_ble_eq_true rfl) (Nat.le_of_eq hM11.1) (Nat.le_refl _) (PW.deep (by decide) (c_X8_earTold  hM11 h)) ?_
          rintro _ M62 ⟨hM64, rfl, h⟩
          refine PW.goto (pc := 75) dX8_statementTold_75 (t := 187) (by decide) ?_
          refine PW.aload_n (pc := 187) dX8_statementTold_187 rfl ?_
          refine PW.bipush (pc := 188) dX8_statementTold_188 (v := 59) (by decide) ?_
          refine PW.inv (m' := mX8_asksSign) (pc := 190) dX8_statementTold_190 lm_X8_319 me_X8_asksSign mi_X8_asksSign (ob hM64.1 s_277 (by decide)) rfl (As := [.int 59]) (st := []) rfl (Nat.le_of_ble_eq_true rfl) (Nat.le_of_ble_eq_true rfl) (Nat.le_of_eq hM64.1) (Nat.le_refl _) (PW.deep (by decide) (c_X8_asksSign  hM64 h)) ?_
          rintro _ M65 ⟨hM67, rfl, h⟩
          refine PW.aload_n (pc := 193) dX8_statementTold_193 rfl ?_
          refine PW.dupR (pc := 194) dX8_statementTold_194 ?_
          refine PW.getI (pc := 195) dX8_statementTold_195 lf_X8_358 (ob hM67.1 s_277 (by decide)) fx_8_49 ?_
          refine PW.iconst (pc := 198) dX8_statementTold_198 (v := 1) (by decide) ?_
          refine PW.iadd (pc := 199) dX8_statementTold_199 ?_
          refine PW.putI (pc := 200) dX8_statementTold_200 lf_X8_358 (ob hM67.1 s_277 (by decide)) fx_8_49 fw_8_49 rfl rfl ?_
          exact PW.ret0 (pc := 203) dX8_statementTold_203 hM67.1 rfl ⟨(hM67.same rfl rfl), rfl, h⟩
      · have h := h.2 hc
        refine PW.aload_n (pc := 51) dX8_statementTold_51 rfl ?_
        refine PW.iload_n (pc := 52) dX8_statementTold_52 rfl ?_
        refine PW.inv (m' := mX8_askerTold) (pc := 53) dX8_statementTold_53 lm_X8_364 me_X8_askerTold mi_X8_askerTold (ob hM7.1 s_277 (by decide)) rfl (As := [.int (mI M 277 2)]) (st := []) rfl (Nat.le_of_ble_eq_true rfl) (Nat.le_of_ble_eq_true rfl) (Nat.le_of_eq hM7.1) (Nat.le_refl _) (PW.deep (by decide) (c_X8_askerTold  hM7 h)) ?_
        rintro _ M68 ⟨hM70, rfl, h⟩
        refine PW.goto (pc := 56) dX8_statementTold_56 (t := 187) (by decide) ?_
        refine PW.aload_n (pc := 187) dX8_statementTold_187 rfl ?_
        refine PW.bipush (pc := 188) dX8_statementTold_188 (v := 59) (by decide) ?_
        refine PW.inv (m' := mX8_asksSign) (pc := 190) dX8_statementTold_190 lm_X8_319 me_X8_asksSign mi_X8_asksSign (ob hM70.1 s_277 (by decide)) rfl (As := [.int 59]) (st := []) rfl (Nat.le_of_ble_eq_true rfl) (Nat.le_of_ble_eq_true rfl) (Nat.le_of_eq hM70.1) (Nat.le_refl _) (PW.deep (by decide) (c_X8_asksSign  hM70 h)) ?_
        rintro _ M71 ⟨hM73, rfl, h⟩
        refine PW.aload_n (pc := 193) dX8_statementTold_193 rfl ?_
        refine PW.dupR (pc := 194) dX8_statementTold_194 ?_
        refine PW.getI (pc := 195) dX8_statementTold_195 lf_X8_358 (ob hM73.1 s_277 (by decide)) fx_8_49 ?_
        refine PW.iconst (pc := 198) dX8_statementTold_198 (v := 1) (by decide) ?_
        refine PW.iadd (pc := 199) dX8_statementTold_199 ?_
        refine PW.putI (pc := 200) dX8_statementTold_200 lf_X8_358 (ob hM73.1 s_277 (by decide)) fx_8_49 fw_8_49 rfl rfl ?_
        exact PW.ret0 (pc := 203) dX8_statementTold_203 hM73.1 rfl ⟨(hM73.same rfl rfl), rfl, h⟩
    · have h := h.2 hc
      refine PW.aload_n (pc := 32) dX8_statementTold_32 rfl ?_
      refine PW.iload_n (pc := 33) dX8_statementTold_33 rfl ?_
      refine PW.inv (m' := mX8_songTold) (pc := 34) dX8_statementTold_34 lm_X8_361 me_X8_songTold mi_X8_songTold (ob hM3.1 s_277 (by decide)) rfl (As := [.int (mI M 277 2)]) (st := []) rfl (Nat.le_of_ble_eq_true rfl) (Nat.le_of_ble_eq_true rfl) (Nat.le_of_eq hM3.1) (Nat.le_refl _) (PW.deep (by decide) (c_X8_songTold  hM3 h)) ?_
      rintro _ M74 ⟨hM76, rfl, h⟩
      refine PW.goto (pc := 37) dX8_statementTold_37 (t := 187) (by decide) ?_
      refine PW.aload_n (pc := 187) dX8_statementTold_187 rfl ?_
      refine PW.bipush (pc := 188) dX8_statementTold_188 (v := 59) (by decide) ?_
      refine PW.inv (m' := mX8_asksSign) (pc := 190) dX8_statementTold_190 lm_X8_319 me_X8_asksSign mi_X8_asksSign (ob hM76.1 s_277 (by decide)) rfl (As := [.int 59]) (st := []) rfl (Nat.le_of_ble_eq_true rfl) (Nat.le_of_ble_eq_true rfl) (Nat.le_of_eq hM76.1) (Nat.le_refl _) (PW.deep (by decide) (c_X8_asksSign  hM76 h)) ?_
      rintro _ M77 ⟨hM79, rfl, h⟩
      refine PW.aload_n (pc := 193) dX8_statementTold_193 rfl ?_
      refine PW.dupR (pc := 194) dX8_statementTold_194 ?_
      refine PW.getI (pc := 195) dX8_statementTold_195 lf_X8_358 (ob hM79.1 s_277 (by decide)) fx_8_49 ?_
      refine PW.iconst (pc := 198) dX8_statementTold_198 (v := 1) (by decide) ?_
      refine PW.iadd (pc := 199) dX8_statementTold_199 ?_
      refine PW.putI (pc := 200) dX8_statementTold_200 lf_X8_358 (ob hM79.1 s_277 (by decide)) fx_8_49 fw_8_49 rfl rfl ?_
      exact PW.ret0 (pc := 203) dX8_statementTold_203 hM79.1 rfl ⟨(hM79.same rfl rfl), rfl, h⟩
  · have h := h.2 hc
    refine PW.aload_n (pc := 14) dX8_statementTold_14 rfl ?_
    refine PW.iconst (pc := 15) dX8_statementTold_15 (v := 5) (by decide) ?_
    refine PW.iload_n (pc := 16) dX8_statementTold_16 rfl ?_
    refine PW.inv (m' := mX8_fail) (pc := 17) dX8_statementTold_17 lm_X8_279 me_X8_fail mi_X8_fail (ob hM.1 s_277 (by decide)) rfl (As := [.int 5, .int (mI M 277 2)]) (st := []) rfl (Nat.le_of_ble_eq_true rfl) (Nat.le_of_ble_eq_true rfl) (Nat.le_of_eq hM.1) (Nat.le_refl _) (PW.deep (by decide) (c_X8_fail  hM h)) ?_
    rintro _ M80 ⟨hM82, rfl, h⟩
    exact PW.ret0 (pc := 20) dX8_statementTold_20 hM82.1 rfl ⟨hM82, rfl, h⟩
def w_X8_stands_7 : Nat → Int32 → pm → (pm → Prop) → (pm → Prop) → Prop
  | 0, _, _, _, _ => False
  | n + 1, x1, M, k74, Q => ((3 ≤ x1 → (k74  M)) ∧ (¬ 3 ≤ x1 → (vp_in x1 6 ∧ (vp_in (3 + x1) 6 ∧ (vp_in x1 6 ∧ (vp_in (3 + x1) 6 ∧ (vp_in x1 6 ∧ (vp_in (3 + x1) 6 ∧ (vp_in x1 6 ∧ (vp_in (3 + x1) 6 ∧ (w_X8_stands_7 n (x1 + 1) (sI (sI (sI (sI M 308 ((3 + x1).toNatClampNeg) (mI M 308 x1.toNatClampNeg)) 309 ((3 + x1).toNatClampNeg) (mI M 309 x1.toNatClampNeg)) 314 ((3 + x1).toNatClampNeg) (mI M 314 x1.toNatClampNeg)) 315 ((3 + x1).toNatClampNeg) (mI M 315 x1.toNatClampNeg)) k74 Q)))))))))))
set_option maxRecDepth 4000 in
theorem c_X8_stands_7 {k74 : pm → Prop} {Q : pm → Prop} (hk74 : ∀  (M : pm), pG M → k74  M → PW mX8_stands 1 350 74 [.ref 277, .null, .null] [] M (qV Q)) : ∀ (n : Nat) (x1 : Int32) (M : pm), pG M → w_X8_stands_7 n x1 M k74 Q → PW mX8_stands 1 350 7 [.ref 277, .int x1, .null] [] M (qV Q) := by
  intro n
  induction n with
  | zero => intro x1 M hM h; exact h.elim
  | succ n ih =>
    intro x1 M hM h
    unfold w_X8_stands_7 at h
    refine PW.iload_n (pc := 7) dX8_stands_7 rfl ?_
    refine PW.iconst (pc := 8) dX8_stands_8 (v := 3) (by decide) ?_
    refine PW.icmp_ge (pc := 9) dX8_stands_9 (t := 74) (by decide) (fun hc => ?_) (fun hc => ?_)
    · have h := h.1 hc
      exact PW.drop (hk74 _ hM h) ⟨rfl, trivial⟩
    · have h := h.2 hc
      refine PW.aload_n (pc := 12) dX8_stands_12 rfl ?_
      refine PW.getR (pc := 13) dX8_stands_13 (r := 308) lf_X8_105 (ob hM.1 s_277 (by decide)) fx_8_39 (oR_8_39 hM s_277) (pS_ne s_308) ?_
      refine PW.iconst (pc := 16) dX8_stands_16 (v := 3) (by decide) ?_
      refine PW.iload_n (pc := 17) dX8_stands_17 rfl ?_
      refine PW.iadd (pc := 18) dX8_stands_18 ?_
      refine PW.aload_n (pc := 19) dX8_stands_19 rfl ?_
      refine PW.getR (pc := 20) dX8_stands_20 (r := 308) lf_X8_105 (ob hM.1 s_277 (by decide)) fx_8_39 (oR_8_39 hM s_277) (pS_ne s_308) ?_
      refine PW.iload_n (pc := 23) dX8_stands_23 rfl ?_
      obtain ⟨v1, h⟩ := h
      refine PW.iald (pc := 24) dX8_stands_24 (ar hM.1 s_308) (vpl n_308 v1) ?_
      obtain ⟨v2, h⟩ := h
      refine PW.iast (pc := 25) dX8_stands_25 (ar hM.1 s_308) (vpl n_308 v2) ?_
      refine PW.aload_n (pc := 26) dX8_stands_26 rfl ?_
      refine PW.getR (pc := 27) dX8_stands_27 (r := 309) lf_X8_108 (ob hM.1 s_277 (by decide)) fx_8_40 (oR_8_40 (hM.same rfl rfl) s_277) (pS_ne s_309) ?_
      refine PW.iconst (pc := 30) dX8_stands_30 (v := 3) (by decide) ?_
      refine PW.iload_n (pc := 31) dX8_stands_31 rfl ?_
      refine PW.iadd (pc := 32) dX8_stands_32 ?_
      refine PW.aload_n (pc := 33) dX8_stands_33 rfl ?_
      refine PW.getR (pc := 34) dX8_stands_34 (r := 309) lf_X8_108 (ob hM.1 s_277 (by decide)) fx_8_40 (oR_8_40 (hM.same rfl rfl) s_277) (pS_ne s_309) ?_
      refine PW.iload_n (pc := 37) dX8_stands_37 rfl ?_
      obtain ⟨v3, h⟩ := h
      refine PW.iald (pc := 38) dX8_stands_38 (ar hM.1 s_309) (vpl n_309 v3) ?_
      obtain ⟨v4, h⟩ := h
      refine PW.iast (pc := 39) dX8_stands_39 (ar hM.1 s_309) (vpl n_309 v4) ?_
      refine PW.aload_n (pc := 40) dX8_stands_40 rfl ?_
      refine PW.getR (pc := 41) dX8_stands_41 (r := 314) lf_X8_124 (ob hM.1 s_277 (by decide)) fx_8_45 (oR_8_45 (hM.same rfl rfl) s_277) (pS_ne s_314) ?_
      refine PW.iconst (pc := 44) dX8_stands_44 (v := 3) (by decide) ?_
      refine PW.iload_n (pc := 45) dX8_stands_45 rfl ?_
      refine PW.iadd (pc := 46) dX8_stands_46 ?_
      refine PW.aload_n (pc := 47) dX8_stands_47 rfl ?_
      refine PW.getR (pc := 48) dX8_stands_48 (r := 314) lf_X8_124 (ob hM.1 s_277 (by decide)) fx_8_45 (oR_8_45 (hM.same rfl rfl) s_277) (pS_ne s_314) ?_
      refine PW.iload_n (pc := 51) dX8_stands_51 rfl ?_
      obtain ⟨v5, h⟩ := h
      refine PW.iald (pc := 52) dX8_stands_52 (ar hM.1 s_314) (vpl n_314 v5) ?_
      obtain ⟨v6, h⟩ := h
      refine PW.iast (pc := 53) dX8_stands_53 (ar hM.1 s_314) (vpl n_314 v6) ?_
      refine PW.aload_n (pc := 54) dX8_stands_54 rfl ?_
      refine PW.getR (pc := 55) dX8_stands_55 (r := 315) lf_X8_127 (ob hM.1 s_277 (by decide)) fx_8_46 (oR_8_46 (hM.same rfl rfl) s_277) (pS_ne s_315) ?_
      refine PW.iconst (pc := 58) dX8_stands_58 (v := 3) (by decide) ?_
      refine PW.iload_n (pc := 59) dX8_stands_59 rfl ?_
      refine PW.iadd (pc := 60) dX8_stands_60 ?_
      refine PW.aload_n (pc := 61) dX8_stands_61 rfl ?_
      refine PW.getR (pc := 62) dX8_stands_62 (r := 315) lf_X8_127 (ob hM.1 s_277 (by decide)) fx_8_46 (oR_8_46 (hM.same rfl rfl) s_277) (pS_ne s_315) ?_
      refine PW.iload_n (pc := 65) dX8_stands_65 rfl ?_
      obtain ⟨v7, h⟩ := h
      refine PW.iald (pc := 66) dX8_stands_66 (ar hM.1 s_315) (vpl n_315 v7) ?_
      obtain ⟨v8, h⟩ := h
      refine PW.iast (pc := 67) dX8_stands_67 (ar hM.1 s_315) (vpl n_315 v8) ?_
      refine PW.iinc (pc := 68) dX8_stands_68 (v := (x1 + 1)) (ls' := [.ref 277, .int (x1 + 1), .null]) rfl rfl (by decide) rfl rfl ?_
      refine PW.goto (pc := 71) dX8_stands_71 (t := 7) (by decide) ?_
      exact PW.drop (ih _ _ (hM.same rfl rfl) h) ⟨rfl, rfl, trivial⟩
def w_X8_stands_76 : Nat → Int32 → pm → (pm → Prop) → (pm → Prop) → Prop
  | 0, _, _, _, _ => False
  | n + 1, x1, M, k103, Q => ((24 ≤ x1 → (k103  M)) ∧ (¬ 24 ≤ x1 → (vp_in x1 48 ∧ (vp_in (24 + x1) 48 ∧ (w_X8_stands_76 n (x1 + 1) (sJ M 310 ((24 + x1).toNatClampNeg) (mJ M 310 x1.toNatClampNeg)) k103 Q)))))
set_option maxRecDepth 4000 in
theorem c_X8_stands_76 {k103 : pm → Prop} {Q : pm → Prop} (hk103 : ∀  (M : pm), pG M → k103  M → PW mX8_stands 1 350 103 [.ref 277, .null, .null] [] M (qV Q)) : ∀ (n : Nat) (x1 : Int32) (M : pm), pG M → w_X8_stands_76 n x1 M k103 Q → PW mX8_stands 1 350 76 [.ref 277, .int x1, .null] [] M (qV Q) := by
  intro n
  induction n with
  | zero => intro x1 M hM h; exact h.elim
  | succ n ih =>
    intro x1 M hM h
    unfold w_X8_stands_76 at h
    refine PW.iload_n (pc := 76) dX8_stands_76 rfl ?_
    refine PW.bipush (pc := 77) dX8_stands_77 (v := 24) (by decide) ?_
    refine PW.icmp_ge (pc := 79) dX8_stands_79 (t := 103) (by decide) (fun hc => ?_) (fun hc => ?_)
    · have h := h.1 hc
      exact PW.drop (hk103 _ hM h) ⟨rfl, trivial⟩
    · have h := h.2 hc
      refine PW.aload_n (pc := 82) dX8_stands_82 rfl ?_
      refine PW.getR (pc := 83) dX8_stands_83 (r := 310) lf_X8_111 (ob hM.1 s_277 (by decide)) fx_8_41 (oR_8_41 hM s_277) (pS_ne s_310) ?_
      refine PW.bipush (pc := 86) dX8_stands_86 (v := 24) (by decide) ?_
      refine PW.iload_n (pc := 88) dX8_stands_88 rfl ?_
      refine PW.iadd (pc := 89) dX8_stands_89 ?_
      refine PW.aload_n (pc := 90) dX8_stands_90 rfl ?_
      refine PW.getR (pc := 91) dX8_stands_91 (r := 310) lf_X8_111 (ob hM.1 s_277 (by decide)) fx_8_41 (oR_8_41 hM s_277) (pS_ne s_310) ?_
      refine PW.iload_n (pc := 94) dX8_stands_94 rfl ?_
      obtain ⟨v11, h⟩ := h
      refine PW.lald (pc := 95) dX8_stands_95 (ar hM.1 s_310) (vpl n_310 v11) ?_
      obtain ⟨v12, h⟩ := h
      refine PW.last (pc := 96) dX8_stands_96 (ar hM.1 s_310) (vpl n_310 v12) ?_
      refine PW.iinc (pc := 97) dX8_stands_97 (v := (x1 + 1)) (ls' := [.ref 277, .int (x1 + 1), .null]) rfl rfl (by decide) rfl rfl ?_
      refine PW.goto (pc := 100) dX8_stands_100 (t := 76) (by decide) ?_
      exact PW.drop (ih _ _ (hM.same rfl rfl) h) ⟨rfl, rfl, trivial⟩
def w_X8_stands_105 : Nat → Int32 → pm → (pm → Prop) → (pm → Prop) → Prop
  | 0, _, _, _, _ => False
  | n + 1, x1, M, k132, Q => ((12 ≤ x1 → (k132  M)) ∧ (¬ 12 ≤ x1 → (vp_in x1 24 ∧ (vp_in (12 + x1) 24 ∧ (w_X8_stands_105 n (x1 + 1) (sI M 311 ((12 + x1).toNatClampNeg) (mI M 311 x1.toNatClampNeg)) k132 Q)))))
set_option maxRecDepth 4000 in
theorem c_X8_stands_105 {k132 : pm → Prop} {Q : pm → Prop} (hk132 : ∀  (M : pm), pG M → k132  M → PW mX8_stands 1 350 132 [.ref 277, .null, .null] [] M (qV Q)) : ∀ (n : Nat) (x1 : Int32) (M : pm), pG M → w_X8_stands_105 n x1 M k132 Q → PW mX8_stands 1 350 105 [.ref 277, .int x1, .null] [] M (qV Q) := by
  intro n
  induction n with
  | zero => intro x1 M hM h; exact h.elim
  | succ n ih =>
    intro x1 M hM h
    unfold w_X8_stands_105 at h
    refine PW.iload_n (pc := 105) dX8_stands_105 rfl ?_
    refine PW.bipush (pc := 106) dX8_stands_106 (v := 12) (by decide) ?_
    refine PW.icmp_ge (pc := 108) dX8_stands_108 (t := 132) (by decide) (fun hc => ?_) (fun hc => ?_)
    · have h := h.1 hc
      exact PW.drop (hk132 _ hM h) ⟨rfl, trivial⟩
    · have h := h.2 hc
      refine PW.aload_n (pc := 111) dX8_stands_111 rfl ?_
      refine PW.getR (pc := 112) dX8_stands_112 (r := 311) lf_X8_115 (ob hM.1 s_277 (by decide)) fx_8_42 (oR_8_42 hM s_277) (pS_ne s_311) ?_
      refine PW.bipush (pc := 115) dX8_stands_115 (v := 12) (by decide) ?_
      refine PW.iload_n (pc := 117) dX8_stands_117 rfl ?_
      refine PW.iadd (pc := 118) dX8_stands_118 ?_
      refine PW.aload_n (pc := 119) dX8_stands_119 rfl ?_
      refine PW.getR (pc := 120) dX8_stands_120 (r := 311) lf_X8_115 (ob hM.1 s_277 (by decide)) fx_8_42 (oR_8_42 hM s_277) (pS_ne s_311) ?_
      refine PW.iload_n (pc := 123) dX8_stands_123 rfl ?_
      obtain ⟨v15, h⟩ := h
      refine PW.iald (pc := 124) dX8_stands_124 (ar hM.1 s_311) (vpl n_311 v15) ?_
      obtain ⟨v16, h⟩ := h
      refine PW.iast (pc := 125) dX8_stands_125 (ar hM.1 s_311) (vpl n_311 v16) ?_
      refine PW.iinc (pc := 126) dX8_stands_126 (v := (x1 + 1)) (ls' := [.ref 277, .int (x1 + 1), .null]) rfl rfl (by decide) rfl rfl ?_
      refine PW.goto (pc := 129) dX8_stands_129 (t := 105) (by decide) ?_
      exact PW.drop (ih _ _ (hM.same rfl rfl) h) ⟨rfl, rfl, trivial⟩
def w_X8_stands_134 : Nat → Int32 → pm → (pm → Prop) → (pm → Prop) → Prop
  | 0, _, _, _, _ => False
  | n + 1, x1, M, k159, Q => ((5 ≤ x1 → (k159  M)) ∧ (¬ 5 ≤ x1 → (vp_in x1 10 ∧ (vp_in (5 + x1) 10 ∧ (w_X8_stands_134 n (x1 + 1) (sI M 313 ((5 + x1).toNatClampNeg) (mI M 313 x1.toNatClampNeg)) k159 Q)))))
set_option maxRecDepth 4000 in
theorem c_X8_stands_134 {k159 : pm → Prop} {Q : pm → Prop} (hk159 : ∀  (M : pm), pG M → k159  M → PW mX8_stands 1 350 159 [.ref 277, .null, .null] [] M (qV Q)) : ∀ (n : Nat) (x1 : Int32) (M : pm), pG M → w_X8_stands_134 n x1 M k159 Q → PW mX8_stands 1 350 134 [.ref 277, .int x1, .null] [] M (qV Q) := by
  intro n
  induction n with
  | zero => intro x1 M hM h; exact h.elim
  | succ n ih =>
    intro x1 M hM h
    unfold w_X8_stands_134 at h
    refine PW.iload_n (pc := 134) dX8_stands_134 rfl ?_
    refine PW.iconst (pc := 135) dX8_stands_135 (v := 5) (by decide) ?_
    refine PW.icmp_ge (pc := 136) dX8_stands_136 (t := 159) (by decide) (fun hc => ?_) (fun hc => ?_)
    · have h := h.1 hc
      exact PW.drop (hk159 _ hM h) ⟨rfl, trivial⟩
    · have h := h.2 hc
      refine PW.aload_n (pc := 139) dX8_stands_139 rfl ?_
      refine PW.getR (pc := 140) dX8_stands_140 (r := 313) lf_X8_121 (ob hM.1 s_277 (by decide)) fx_8_44 (oR_8_44 hM s_277) (pS_ne s_313) ?_
      refine PW.iconst (pc := 143) dX8_stands_143 (v := 5) (by decide) ?_
      refine PW.iload_n (pc := 144) dX8_stands_144 rfl ?_
      refine PW.iadd (pc := 145) dX8_stands_145 ?_
      refine PW.aload_n (pc := 146) dX8_stands_146 rfl ?_
      refine PW.getR (pc := 147) dX8_stands_147 (r := 313) lf_X8_121 (ob hM.1 s_277 (by decide)) fx_8_44 (oR_8_44 hM s_277) (pS_ne s_313) ?_
      refine PW.iload_n (pc := 150) dX8_stands_150 rfl ?_
      obtain ⟨v19, h⟩ := h
      refine PW.iald (pc := 151) dX8_stands_151 (ar hM.1 s_313) (vpl n_313 v19) ?_
      obtain ⟨v20, h⟩ := h
      refine PW.iast (pc := 152) dX8_stands_152 (ar hM.1 s_313) (vpl n_313 v20) ?_
      refine PW.iinc (pc := 153) dX8_stands_153 (v := (x1 + 1)) (ls' := [.ref 277, .int (x1 + 1), .null]) rfl rfl (by decide) rfl rfl ?_
      refine PW.goto (pc := 156) dX8_stands_156 (t := 134) (by decide) ?_
      exact PW.drop (ih _ _ (hM.same rfl rfl) h) ⟨rfl, rfl, trivial⟩
def w_X8_stands_161 : Nat → Int32 → pm → (pm → Prop) → (pm → Prop) → Prop
  | 0, _, _, _, _ => False
  | n + 1, x1, M, k191, Q => (((mI M 277 48) ≤ x1 → (k191  M)) ∧ (¬ (mI M 277 48) ≤ x1 → (vp_in x1 3200 ∧ (vp_in (1600 + x1) 3200 ∧ (w_X8_stands_161 n (x1 + 1) (sI M 316 ((1600 + x1).toNatClampNeg) (mI M 316 x1.toNatClampNeg)) k191 Q)))))
set_option maxRecDepth 4000 in
theorem c_X8_stands_161 {k191 : pm → Prop} {Q : pm → Prop} (hk191 : ∀  (M : pm), pG M → k191  M → PW mX8_stands 1 350 191 [.ref 277, .null, .null] [] M (qV Q)) : ∀ (n : Nat) (x1 : Int32) (M : pm), pG M → w_X8_stands_161 n x1 M k191 Q → PW mX8_stands 1 350 161 [.ref 277, .int x1, .null] [] M (qV Q) := by
  intro n
  induction n with
  | zero => intro x1 M hM h; exact h.elim
  | succ n ih =>
    intro x1 M hM h
    unfold w_X8_stands_161 at h
    refine PW.iload_n (pc := 161) dX8_stands_161 rfl ?_
    refine PW.aload_n (pc := 162) dX8_stands_162 rfl ?_
    refine PW.getI (pc := 163) dX8_stands_163 lf_X8_355 (ob hM.1 s_277 (by decide)) fx_8_48 ?_
    refine PW.icmp_ge (pc := 166) dX8_stands_166 (t := 191) (by decide) (fun hc => ?_) (fun hc => ?_)
    · have h := h.1 hc
      exact PW.drop (hk191 _ hM h) ⟨rfl, trivial⟩
    · have h := h.2 hc
      refine PW.aload_n (pc := 169) dX8_stands_169 rfl ?_
      refine PW.getR (pc := 170) dX8_stands_170 (r := 316) lf_X8_130 (ob hM.1 s_277 (by decide)) fx_8_47 (oR_8_47 hM s_277) (pS_ne s_316) ?_
      refine PW.sipush (pc := 173) dX8_stands_173 (v := 1600) (by decide) ?_
      refine PW.iload_n (pc := 176) dX8_stands_176 rfl ?_
      refine PW.iadd (pc := 177) dX8_stands_177 ?_
      refine PW.aload_n (pc := 178) dX8_stands_178 rfl ?_
      refine PW.getR (pc := 179) dX8_stands_179 (r := 316) lf_X8_130 (ob hM.1 s_277 (by decide)) fx_8_47 (oR_8_47 hM s_277) (pS_ne s_316) ?_
      refine PW.iload_n (pc := 182) dX8_stands_182 rfl ?_
      obtain ⟨v23, h⟩ := h
      refine PW.iald (pc := 183) dX8_stands_183 (ar hM.1 s_316) (vpl n_316 v23) ?_
      obtain ⟨v24, h⟩ := h
      refine PW.iast (pc := 184) dX8_stands_184 (ar hM.1 s_316) (vpl n_316 v24) ?_
      refine PW.iinc (pc := 185) dX8_stands_185 (v := (x1 + 1)) (ls' := [.ref 277, .int (x1 + 1), .null]) rfl rfl (by decide) rfl rfl ?_
      refine PW.goto (pc := 188) dX8_stands_188 (t := 161) (by decide) ?_
      exact PW.drop (ih _ _ (hM.same rfl rfl) h) ⟨rfl, rfl, trivial⟩
def w_X8_stands_193 : Nat → Int32 → pm → (pm → Prop) → (pm → Prop) → Prop
  | 0, _, _, _, _ => False
  | n + 1, x1, M, k213, Q => ((163 ≤ x1 → (k213  M)) ∧ (¬ 163 ≤ x1 → (vp_in x1 163 ∧ (w_X8_stands_193 n (x1 + 1) (sI M 317 x1.toNatClampNeg 0) k213 Q))))
set_option maxRecDepth 4000 in
theorem c_X8_stands_193 {k213 : pm → Prop} {Q : pm → Prop} (hk213 : ∀  (M : pm), pG M → k213  M → PW mX8_stands 1 350 213 [.ref 277, .null, .null] [] M (qV Q)) : ∀ (n : Nat) (x1 : Int32) (M : pm), pG M → w_X8_stands_193 n x1 M k213 Q → PW mX8_stands 1 350 193 [.ref 277, .int x1, .null] [] M (qV Q) := by
  intro n
  induction n with
  | zero => intro x1 M hM h; exact h.elim
  | succ n ih =>
    intro x1 M hM h
    unfold w_X8_stands_193 at h
    refine PW.iload_n (pc := 193) dX8_stands_193 rfl ?_
    refine PW.sipush (pc := 194) dX8_stands_194 (v := 163) (by decide) ?_
    refine PW.icmp_ge (pc := 197) dX8_stands_197 (t := 213) (by decide) (fun hc => ?_) (fun hc => ?_)
    · have h := h.1 hc
      exact PW.drop (hk213 _ hM h) ⟨rfl, trivial⟩
    · have h := h.2 hc
      refine PW.aload_n (pc := 200) dX8_stands_200 rfl ?_
      refine PW.getR (pc := 201) dX8_stands_201 (r := 317) lf_X8_133 (ob hM.1 s_277 (by decide)) fx_8_52 (oR_8_52 hM s_277) (pS_ne s_317) ?_
      refine PW.iload_n (pc := 204) dX8_stands_204 rfl ?_
      refine PW.iconst (pc := 205) dX8_stands_205 (v := 0) (by decide) ?_
      obtain ⟨v27, h⟩ := h
      refine PW.iast (pc := 206) dX8_stands_206 (ar hM.1 s_317) (vpl n_317 v27) ?_
      refine PW.iinc (pc := 207) dX8_stands_207 (v := (x1 + 1)) (ls' := [.ref 277, .int (x1 + 1), .null]) rfl rfl (by decide) rfl rfl ?_
      refine PW.goto (pc := 210) dX8_stands_210 (t := 193) (by decide) ?_
      exact PW.drop (ih _ _ (hM.same rfl rfl) h) ⟨rfl, rfl, trivial⟩
def w_X8_stands_239 : Nat → Int32 → Int32 → pm → (Int32 → pm → Prop) → (pm → Prop) → Prop
  | 0, _, _, _, _, _ => False
  | n + 1, x1, x2, M, k272, Q => ((3 ≤ x2 → (k272 x1 M)) ∧ (¬ 3 ≤ x2 → (vp_in ((3 * x1) + x2) 24 ∧ (vp_in ((2 + (5 * x1)) + x2) 163 ∧ (w_X8_stands_239 n x1 (x2 + 1) (sI M 317 (((2 + (5 * x1)) + x2).toNatClampNeg) (mI M 312 (((3 * x1) + x2).toNatClampNeg))) k272 Q)))))
set_option maxRecDepth 4000 in
theorem c_X8_stands_239 {k272 : Int32 → pm → Prop} {Q : pm → Prop} (hk272 : ∀ (x1 : Int32) (M : pm), pG M → k272 x1 M → PW mX8_stands 1 350 272 [.ref 277, .int x1, .null] [] M (qV Q)) : ∀ (n : Nat) (x1 : Int32) (x2 : Int32) (M : pm), pG M → w_X8_stands_239 n x1 x2 M k272 Q → PW mX8_stands 1 350 239 [.ref 277, .int x1, .int x2] [] M (qV Q) := by
  intro n
  induction n with
  | zero => intro x1 x2 M hM h; exact h.elim
  | succ n ih =>
    intro x1 x2 M hM h
    unfold w_X8_stands_239 at h
    refine PW.iload_n (pc := 239) dX8_stands_239 rfl ?_
    refine PW.iconst (pc := 240) dX8_stands_240 (v := 3) (by decide) ?_
    refine PW.icmp_ge (pc := 241) dX8_stands_241 (t := 272) (by decide) (fun hc => ?_) (fun hc => ?_)
    · have h := h.1 hc
      exact PW.drop (hk272 _ _ hM h) ⟨rfl, rfl, trivial⟩
    · have h := h.2 hc
      refine PW.aload_n (pc := 244) dX8_stands_244 rfl ?_
      refine PW.getR (pc := 245) dX8_stands_245 (r := 317) lf_X8_133 (ob hM.1 s_277 (by decide)) fx_8_52 (oR_8_52 hM s_277) (pS_ne s_317) ?_
      refine PW.iconst (pc := 248) dX8_stands_248 (v := 2) (by decide) ?_
      refine PW.iconst (pc := 249) dX8_stands_249 (v := 5) (by decide) ?_
      refine PW.iload_n (pc := 250) dX8_stands_250 rfl ?_
      refine PW.imul (pc := 251) dX8_stands_251 ?_
      refine PW.iadd (pc := 252) dX8_stands_252 ?_
      refine PW.iload_n (pc := 253) dX8_stands_253 rfl ?_
      refine PW.iadd (pc := 254) dX8_stands_254 ?_
      refine PW.aload_n (pc := 255) dX8_stands_255 rfl ?_
      refine PW.getR (pc := 256) dX8_stands_256 (r := 312) lf_X8_118 (ob hM.1 s_277 (by decide)) fx_8_43 (oR_8_43 hM s_277) (pS_ne s_312) ?_
      refine PW.iconst (pc := 259) dX8_stands_259 (v := 3) (by decide) ?_
      refine PW.iload_n (pc := 260) dX8_stands_260 rfl ?_
      refine PW.imul (pc := 261) dX8_stands_261 ?_
      refine PW.iload_n (pc := 262) dX8_stands_262 rfl ?_
      refine PW.iadd (pc := 263) dX8_stands_263 ?_
      obtain ⟨v30, h⟩ := h
      refine PW.iald (pc := 264) dX8_stands_264 (ar hM.1 s_312) (vpl n_312 v30) ?_
      obtain ⟨v31, h⟩ := h
      refine PW.iast (pc := 265) dX8_stands_265 (ar hM.1 s_317) (vpl n_317 v31) ?_
      refine PW.iinc (pc := 266) dX8_stands_266 (v := (x2 + 1)) (ls' := [.ref 277, .int x1, .int (x2 + 1)]) rfl rfl (by decide) rfl rfl ?_
      refine PW.goto (pc := 269) dX8_stands_269 (t := 239) (by decide) ?_
      exact PW.drop (ih _ _ _ (hM.same rfl rfl) h) ⟨rfl, rfl, rfl, trivial⟩
def w_X8_stands_227 : Nat → Int32 → pm → (pm → Prop) → Prop
  | 0, _, _, _ => False
  | n + 1, x1, M, Q => (((mI M 309 1) ≤ x1 → (Q (sI (sI M 277 69 0) 277 63 0))) ∧ (¬ (mI M 309 1) ≤ x1 → (∃ n32, w_X8_stands_239 n32 x1 0 M (fun x1 M33 => w_X8_stands_227 n (x1 + 1) M33 Q) Q)))
set_option maxRecDepth 4000 in
theorem c_X8_stands_227  {Q : pm → Prop}  : ∀ (n : Nat) (x1 : Int32) (M : pm), pG M → w_X8_stands_227 n x1 M  Q → PW mX8_stands 1 350 227 [.ref 277, .int x1, .null] [] M (qV Q) := by
  intro n
  induction n with
  | zero => intro x1 M hM h; exact h.elim
  | succ n ih =>
    intro x1 M hM h
    unfold w_X8_stands_227 at h
    refine PW.iload_n (pc := 227) dX8_stands_227 rfl ?_
    refine PW.aload_n (pc := 228) dX8_stands_228 rfl ?_
    refine PW.getR (pc := 229) dX8_stands_229 (r := 309) lf_X8_108 (ob hM.1 s_277 (by decide)) fx_8_40 (oR_8_40 hM s_277) (pS_ne s_309) ?_
    refine PW.iconst (pc := 232) dX8_stands_232 (v := 1) (by decide) ?_
    refine PW.iald (pc := 233) dX8_stands_233 (ar hM.1 s_309) (vpl n_309 (vp_c (i := 1) (n := 6) (by decide))) ?_
    refine PW.icmp_ge (pc := 234) dX8_stands_234 (t := 278) (by decide) (fun hc => ?_) (fun hc => ?_)
    · have h := h.1 hc
      refine PW.aload_n (pc := 278) dX8_stands_278 rfl ?_
      refine PW.iconst (pc := 279) dX8_stands_279 (v := 0) (by decide) ?_
      refine PW.putI (pc := 280) dX8_stands_280 lf_X8_389 (ob hM.1 s_277 (by decide)) fx_8_69 fw_8_69 rfl rfl ?_
      refine PW.aload_n (pc := 283) dX8_stands_283 rfl ?_
      refine PW.iconst (pc := 284) dX8_stands_284 (v := 0) (by decide) ?_
      refine PW.putI (pc := 285) dX8_stands_285 lf_X8_392 (ob hM.1 s_277 (by decide)) fx_8_63 fw_8_63 rfl rfl ?_
      exact PW.ret0 (pc := 288) dX8_stands_288 hM.1 rfl ⟨(hM.same rfl rfl), rfl, h⟩
    · have h := h.2 hc
      refine PW.iconst (pc := 237) dX8_stands_237 (v := 0) (by decide) ?_
      refine PW.istore_n (pc := 238) dX8_stands_238 (ls' := [.ref 277, .int x1, .int 0]) (by decide) rfl rfl ?_
      obtain ⟨n32, h⟩ := h
      refine PW.drop (c_X8_stands_239 ?_ n32 _ _ _ hM h) ⟨rfl, rfl, rfl, trivial⟩
      · intro x1 M33 hM h
        refine PW.iinc (pc := 272) dX8_stands_272 (v := (x1 + 1)) (ls' := [.ref 277, .int (x1 + 1), .null]) rfl rfl (by decide) rfl rfl ?_
        refine PW.goto (pc := 275) dX8_stands_275 (t := 227) (by decide) ?_
        exact PW.drop (ih _ _ hM h) ⟨rfl, rfl, trivial⟩
def w_X8_stands  (M : pm) (Q : pm → Prop) : Prop := ∃ n9, w_X8_stands_7 n9 0 (sI M 277 50 1) (fun M10 => ∃ n13, w_X8_stands_76 n13 0 M10 (fun M14 => ∃ n17, w_X8_stands_105 n17 0 M14 (fun M18 => ∃ n21, w_X8_stands_134 n21 0 M18 (fun M22 => ∃ n25, w_X8_stands_161 n25 0 M22 (fun M26 => ∃ n28, w_X8_stands_193 n28 0 M26 (fun M29 => ∃ n34, w_X8_stands_227 n34 0 (sI M29 317 1 (mI M29 308 1))  Q) Q) Q) Q) Q) Q) Q
set_option maxRecDepth 4000 in
theorem c_X8_stands  {M : pm} {Q : pm → Prop}  (hM : pG M) (h : w_X8_stands  M Q) : PW mX8_stands 1 350 0 (pfr mX8_stands.2.2.1 [.ref 277]) [] M (qV Q) := by
  unfold w_X8_stands at h
  show PW mX8_stands 1 350 0 [.ref 277, .null, .null] [] M (qV Q)
  refine PW.aload_n (pc := 0) dX8_stands_0 rfl ?_
  refine PW.iconst (pc := 1) dX8_stands_1 (v := 1) (by decide) ?_
  refine PW.putI (pc := 2) dX8_stands_2 lf_X8_385 (ob hM.1 s_277 (by decide)) fx_8_50 fw_8_50 (bz_n bz1) (bz_f bz1) ?_
  refine PW.iconst (pc := 5) dX8_stands_5 (v := 0) (by decide) ?_
  refine PW.istore_n (pc := 6) dX8_stands_6 (ls' := [.ref 277, .int 0, .null]) (by decide) rfl rfl ?_
  obtain ⟨n9, h⟩ := h
  refine PW.drop (c_X8_stands_7 ?_ n9 _ _ (hM.same rfl rfl) h) ⟨rfl, rfl, trivial⟩
  · intro M10 hM h
    refine PW.iconst (pc := 74) dX8_stands_74 (v := 0) (by decide) ?_
    refine PW.istore_n (pc := 75) dX8_stands_75 (ls' := [.ref 277, .int 0, .null]) (by decide) rfl rfl ?_
    obtain ⟨n13, h⟩ := h
    refine PW.drop (c_X8_stands_76 ?_ n13 _ _ hM h) ⟨rfl, rfl, trivial⟩
    · intro M14 hM h
      refine PW.iconst (pc := 103) dX8_stands_103 (v := 0) (by decide) ?_
      refine PW.istore_n (pc := 104) dX8_stands_104 (ls' := [.ref 277, .int 0, .null]) (by decide) rfl rfl ?_
      obtain ⟨n17, h⟩ := h
      refine PW.drop (c_X8_stands_105 ?_ n17 _ _ hM h) ⟨rfl, rfl, trivial⟩
      · intro M18 hM h
        refine PW.iconst (pc := 132) dX8_stands_132 (v := 0) (by decide) ?_
        refine PW.istore_n (pc := 133) dX8_stands_133 (ls' := [.ref 277, .int 0, .null]) (by decide) rfl rfl ?_
        obtain ⟨n21, h⟩ := h
        refine PW.drop (c_X8_stands_134 ?_ n21 _ _ hM h) ⟨rfl, rfl, trivial⟩
        · intro M22 hM h
          refine PW.iconst (pc := 159) dX8_stands_159 (v := 0) (by decide) ?_
          refine PW.istore_n (pc := 160) dX8_stands_160 (ls' := [.ref 277, .int 0, .null]) (by decide) rfl rfl ?_
          obtain ⟨n25, h⟩ := h
          refine PW.drop (c_X8_stands_161 ?_ n25 _ _ hM h) ⟨rfl, rfl, trivial⟩
          · intro M26 hM h
            refine PW.iconst (pc := 191) dX8_stands_191 (v := 0) (by decide) ?_
            refine PW.istore_n (pc := 192) dX8_stands_192 (ls' := [.ref 277, .int 0, .null]) (by decide) rfl rfl ?_
            obtain ⟨n28, h⟩ := h
            refine PW.drop (c_X8_stands_193 ?_ n28 _ _ hM h) ⟨rfl, rfl, trivial⟩
            · intro M29 hM h
              refine PW.aload_n (pc := 213) dX8_stands_213 rfl ?_
              refine PW.getR (pc := 214) dX8_stands_214 (r := 317) lf_X8_133 (ob hM.1 s_277 (by decide)) fx_8_52 (oR_8_52 hM s_277) (pS_ne s_317) ?_
              refine PW.iconst (pc := 217) dX8_stands_217 (v := 1) (by decide) ?_
              refine PW.aload_n (pc := 218) dX8_stands_218 rfl ?_
              refine PW.getR (pc := 219) dX8_stands_219 (r := 308) lf_X8_105 (ob hM.1 s_277 (by decide)) fx_8_39 (oR_8_39 hM s_277) (pS_ne s_308) ?_
              refine PW.iconst (pc := 222) dX8_stands_222 (v := 1) (by decide) ?_
              refine PW.iald (pc := 223) dX8_stands_223 (ar hM.1 s_308) (vpl n_308 (vp_c (i := 1) (n := 6) (by decide))) ?_
              refine PW.iast (pc := 224) dX8_stands_224 (ar hM.1 s_317) (vpl n_317 (vp_c (i := 1) (n := 163) (by decide))) ?_
              refine PW.iconst (pc := 225) dX8_stands_225 (v := 0) (by decide) ?_
              refine PW.istore_n (pc := 226) dX8_stands_226 (ls' := [.ref 277, .int 0, .null]) (by decide) rfl rfl ?_
              obtain ⟨n34, h⟩ := h
              refine PW.drop (c_X8_stands_227  n34 _ _ (hM.same rfl rfl) h) ⟨rfl, rfl, trivial⟩
def w_X8_station_40 : Nat → Int32 → pm → (pm → Prop) → (Int32 → pm → Prop) → Prop
  | 0, _, _, _, _ => False
  | n + 1, x1, M, k65, Q => ((3 ≤ x1 → (k65  M)) ∧ (¬ 3 ≤ x1 → (vp_in x1 6 ∧ (vp_in x1 6 ∧ (w_X8_station_40 n (x1 + 1) (sI (sI M 309 x1.toNatClampNeg 0) 314 x1.toNatClampNeg (-1)) k65 Q)))))
set_option maxRecDepth 4000 in
theorem c_X8_station_40 {k65 : pm → Prop} {Q : Int32 → pm → Prop} (hk65 : ∀  (M : pm), pG M → k65  M → PW mX8_station 12 350 65 [.ref 277, .null] [] M (qI Q)) : ∀ (n : Nat) (x1 : Int32) (M : pm), pG M → w_X8_station_40 n x1 M k65 Q → PW mX8_station 12 350 40 [.ref 277, .int x1] [] M (qI Q) := by
  intro n
  induction n with
  | zero => intro x1 M hM h; exact h.elim
  | succ n ih =>
    intro x1 M hM h
    unfold w_X8_station_40 at h
    refine PW.iload_n (pc := 40) dX8_station_40 rfl ?_
    refine PW.iconst (pc := 41) dX8_station_41 (v := 3) (by decide) ?_
    refine PW.icmp_ge (pc := 42) dX8_station_42 (t := 65) (by decide) (fun hc => ?_) (fun hc => ?_)
    · have h := h.1 hc
      exact PW.drop (hk65 _ hM h) ⟨rfl, trivial⟩
    · have h := h.2 hc
      refine PW.aload_n (pc := 45) dX8_station_45 rfl ?_
      refine PW.getR (pc := 46) dX8_station_46 (r := 309) lf_X8_108 (ob hM.1 s_277 (by decide)) fx_8_40 (oR_8_40 hM s_277) (pS_ne s_309) ?_
      refine PW.iload_n (pc := 49) dX8_station_49 rfl ?_
      refine PW.iconst (pc := 50) dX8_station_50 (v := 0) (by decide) ?_
      obtain ⟨v1, h⟩ := h
      refine PW.iast (pc := 51) dX8_station_51 (ar hM.1 s_309) (vpl n_309 v1) ?_
      refine PW.aload_n (pc := 52) dX8_station_52 rfl ?_
      refine PW.getR (pc := 53) dX8_station_53 (r := 314) lf_X8_124 (ob hM.1 s_277 (by decide)) fx_8_45 (oR_8_45 (hM.same rfl rfl) s_277) (pS_ne s_314) ?_
      refine PW.iload_n (pc := 56) dX8_station_56 rfl ?_
      refine PW.iconst (pc := 57) dX8_station_57 (v := (-1)) (by decide) ?_
      obtain ⟨v2, h⟩ := h
      refine PW.iast (pc := 58) dX8_station_58 (ar hM.1 s_314) (vpl n_314 v2) ?_
      refine PW.iinc (pc := 59) dX8_station_59 (v := (x1 + 1)) (ls' := [.ref 277, .int (x1 + 1)]) rfl rfl (by decide) rfl rfl ?_
      refine PW.goto (pc := 62) dX8_station_62 (t := 40) (by decide) ?_
      exact PW.drop (ih _ _ (hM.same rfl rfl) h) ⟨rfl, rfl, trivial⟩
def w_X8_station_88 : Nat → pm → (pm → Prop) → (Int32 → pm → Prop) → Prop
  | 0, _, _, _ => False
  | n + 1, M, k110, Q => ((¬ (mI M 277 5) = 0 → (k110  M)) ∧ ((mI M 277 5) = 0 → (w_X8_look  M (fun y9 M8 => ((y9 = (-1) → (k110  M8)) ∧ (¬ y9 = (-1) → (w_X8_statementTold  M8 (fun M11 => w_X8_station_88 n M11 k110 Q))))))))
set_option maxRecDepth 4000 in
theorem c_X8_station_88 {k110 : pm → Prop} {Q : Int32 → pm → Prop} (hk110 : ∀  (M : pm), pG M → k110  M → PW mX8_station 12 350 110 [.ref 277, .null] [] M (qI Q)) : ∀ (n : Nat)  (M : pm), pG M → w_X8_station_88 n  M k110 Q → PW mX8_station 12 350 88 [.ref 277, .null] [] M (qI Q) := by
  intro n
  induction n with
  | zero => intro M hM h; exact h.elim
  | succ n ih =>
    intro M hM h
    unfold w_X8_station_88 at h
    refine PW.aload_n (pc := 88) dX8_station_88 rfl ?_
    refine PW.getI (pc := 89) dX8_station_89 lf_X8_249 (ob hM.1 s_277 (by decide)) fx_8_5 ?_
    refine PW.if_ne (pc := 92) dX8_station_92 (t := 110) (by decide) (fun hc => ?_) (fun hc => ?_)
    · have h := h.1 hc
      exact PW.drop (hk110 _ hM h) ⟨rfl, trivial⟩
    · have h := h.2 hc
      refine PW.aload_n (pc := 95) dX8_station_95 rfl ?_
      refine PW.inv (m' := mX8_look) (pc := 96) dX8_station_96 lm_X8_261 me_X8_look mi_X8_look (ob hM.1 s_277 (by decide)) rfl (As := []) (st := []) rfl (Nat.le_of_ble_eq_true rfl) (Nat.le_of_ble_eq_true rfl) (Nat.le_of_eq hM.1) (Nat.le_refl _) (PW.deep (by decide) (c_X8_look  hM h)) ?_
      rintro _ M8 ⟨hM10, y9, rfl, h⟩
      refine PW.iconst (pc := 99) dX8_station_99 (v := (-1)) (by decide) ?_
      refine PW.icmp_eq (pc := 100) dX8_station_100 (t := 110) (by decide) (fun hc => ?_) (fun hc => ?_)
      · have h := h.1 hc
        exact PW.drop (hk110 _ hM10 h) ⟨rfl, trivial⟩
      · have h := h.2 hc
        refine PW.aload_n (pc := 103) dX8_station_103 rfl ?_
        refine PW.inv (m' := mX8_statementTold) (pc := 104) dX8_station_104 lm_X8_376 me_X8_statementTold mi_X8_statementTold (ob hM10.1 s_277 (by decide)) rfl (As := []) (st := []) rfl (Nat.le_of_ble_eq_true rfl) (Nat.le_of_ble_eq_true rfl) (Nat.le_of_eq hM10.1) (Nat.le_refl _) (PW.deep (by decide) (c_X8_statementTold  hM10 h)) ?_
        rintro _ M11 ⟨hM13, rfl, h⟩
        refine PW.goto (pc := 107) dX8_station_107 (t := 88) (by decide) ?_
        exact PW.drop (ih _ hM13 h) ⟨rfl, trivial⟩
def w_X8_station_110   (M : pm)  (Q : Int32 → pm → Prop) : Prop := (((mI M 277 5) = 0 → (w_X8_stands  (sI (sI M 277 7 (mI M 277 5)) 277 8 (mI M 277 6)) (fun M16 => Q (mI M16 277 49) M16))) ∧ (¬ (mI M 277 5) = 0 → (Q (-1) (sI (sI (sI M 277 7 (mI M 277 5)) 277 8 (mI M 277 6)) 279 1 ((mI M 279 1) + 1)))))
set_option maxRecDepth 4000 in
theorem c_X8_station_110  {Q : Int32 → pm → Prop}  : ∀  (M : pm), pG M → w_X8_station_110  M  Q → PW mX8_station 12 350 110 [.ref 277, .null] [] M (qI Q) := by
  intro M hM h
  unfold w_X8_station_110 at h
  refine PW.aload_n (pc := 110) dX8_station_110 rfl ?_
  refine PW.aload_n (pc := 111) dX8_station_111 rfl ?_
  refine PW.getI (pc := 112) dX8_station_112 lf_X8_249 (ob hM.1 s_277 (by decide)) fx_8_5 ?_
  refine PW.putI (pc := 115) dX8_station_115 lf_X8_379 (ob hM.1 s_277 (by decide)) fx_8_7 fw_8_7 rfl rfl ?_
  refine PW.aload_n (pc := 118) dX8_station_118 rfl ?_
  refine PW.aload_n (pc := 119) dX8_station_119 rfl ?_
  refine PW.getI (pc := 120) dX8_station_120 lf_X8_252 (ob hM.1 s_277 (by decide)) fx_8_6 ?_
  refine PW.putI (pc := 123) dX8_station_123 lf_X8_13 (ob hM.1 s_277 (by decide)) fx_8_8 fw_8_8 rfl rfl ?_
  refine PW.aload_n (pc := 126) dX8_station_126 rfl ?_
  refine PW.getI (pc := 127) dX8_station_127 lf_X8_249 (ob hM.1 s_277 (by decide)) fx_8_5 ?_
  refine PW.if_eq (pc := 130) dX8_station_130 (t := 145) (by decide) (fun hc => ?_) (fun hc => ?_)
  · have h := h.1 hc
    refine PW.aload_n (pc := 145) dX8_station_145 rfl ?_
    refine PW.inv (m' := mX8_stands) (pc := 146) dX8_station_146 lm_X8_382 me_X8_stands mi_X8_stands (ob hM.1 s_277 (by decide)) rfl (As := []) (st := []) rfl (Nat.le_of_ble_eq_true rfl) (Nat.le_of_ble_eq_true rfl) (Nat.le_of_eq hM.1) (Nat.le_refl _) (PW.deep (by decide) (c_X8_stands  (hM.same rfl rfl) h)) ?_
    rintro _ M16 ⟨hM18, rfl, h⟩
    refine PW.aload_n (pc := 149) dX8_station_149 rfl ?_
    refine PW.getI (pc := 150) dX8_station_150 lf_X8_358 (ob hM18.1 s_277 (by decide)) fx_8_49 ?_
    exact PW.retI (pc := 153) dX8_station_153 hM18.1 rfl rfl ⟨hM18, _, rfl, h⟩
  · have h := h.2 hc
    refine PW.aload_n (pc := 133) dX8_station_133 rfl ?_
    refine PW.getR (pc := 134) dX8_station_134 (r := 279) lf_X8_17 (ob hM.1 s_277 (by decide)) fx_8_9 (oR_8_9 (hM.same rfl rfl) s_277) (pS_ne s_279) ?_
    refine PW.iconst (pc := 137) dX8_station_137 (v := 1) (by decide) ?_
    refine PW.dup2IR (pc := 138) dX8_station_138 ?_
    refine PW.iald (pc := 139) dX8_station_139 (ar hM.1 s_279) (vpl n_279 (vp_c (i := 1) (n := 6) (by decide))) ?_
    refine PW.iconst (pc := 140) dX8_station_140 (v := 1) (by decide) ?_
    refine PW.iadd (pc := 141) dX8_station_141 ?_
    refine PW.iast (pc := 142) dX8_station_142 (ar hM.1 s_279) (vpl n_279 (vp_c (i := 1) (n := 6) (by decide))) ?_
    refine PW.iconst (pc := 143) dX8_station_143 (v := (-1)) (by decide) ?_
    exact PW.retI (pc := 144) dX8_station_144 hM.1 rfl rfl ⟨(hM.same rfl rfl), _, rfl, h⟩
def w_X8_station  (M : pm) (Q : Int32 → pm → Prop) : Prop := ∃ n3, w_X8_station_40 n3 0 (sI (sI (sI (sI (sI (sI (sI M 277 3 (mI M 277 1)) 277 1 0) 277 2 0) 277 4 (-1)) 277 5 0) 277 6 (-1)) 277 48 0) (fun M4 => w_X8_hourTold  (sI (sI M4 308 1 0) 308 2 0) (fun M5 => ∃ n14, w_X8_station_88 n14  (sI M5 277 49 1) (fun M15 => w_X8_station_110  M15  Q) Q)) Q
set_option maxRecDepth 4000 in
theorem c_X8_station  {M : pm} {Q : Int32 → pm → Prop}  (hM : pG M) (h : w_X8_station  M Q) : PW mX8_station 12 350 0 (pfr mX8_station.2.2.1 [.ref 277]) [] M (qI Q) := by
  unfold w_X8_station at h
  show PW mX8_station 12 350 0 [.ref 277, .null] [] M (qI Q)
  refine PW.aload_n (pc := 0) dX8_station_0 rfl ?_
  refine PW.aload_n (pc := 1) dX8_station_1 rfl ?_
  refine PW.getI (pc := 2) dX8_station_2 lf_X8_246 (ob hM.1 s_277 (by decide)) fx_8_1 ?_
  refine PW.putI (pc := 5) dX8_station_5 lf_X8_258 (ob hM.1 s_277 (by decide)) fx_8_3 fw_8_3 rfl rfl ?_
  refine PW.aload_n (pc := 8) dX8_station_8 rfl ?_
  refine PW.iconst (pc := 9) dX8_station_9 (v := 0) (by decide) ?_
  refine PW.putI (pc := 10) dX8_station_10 lf_X8_246 (ob hM.1 s_277 (by decide)) fx_8_1 fw_8_1 rfl rfl ?_
  refine PW.aload_n (pc := 13) dX8_station_13 rfl ?_
  refine PW.iconst (pc := 14) dX8_station_14 (v := 0) (by decide) ?_
  refine PW.putI (pc := 15) dX8_station_15 lf_X8_255 (ob hM.1 s_277 (by decide)) fx_8_2 fw_8_2 rfl rfl ?_
  refine PW.aload_n (pc := 18) dX8_station_18 rfl ?_
  refine PW.iconst (pc := 19) dX8_station_19 (v := (-1)) (by decide) ?_
  refine PW.putI (pc := 20) dX8_station_20 lf_X8_269 (ob hM.1 s_277 (by decide)) fx_8_4 fw_8_4 rfl rfl ?_
  refine PW.aload_n (pc := 23) dX8_station_23 rfl ?_
  refine PW.iconst (pc := 24) dX8_station_24 (v := 0) (by decide) ?_
  refine PW.putI (pc := 25) dX8_station_25 lf_X8_249 (ob hM.1 s_277 (by decide)) fx_8_5 fw_8_5 rfl rfl ?_
  refine PW.aload_n (pc := 28) dX8_station_28 rfl ?_
  refine PW.iconst (pc := 29) dX8_station_29 (v := (-1)) (by decide) ?_
  refine PW.putI (pc := 30) dX8_station_30 lf_X8_252 (ob hM.1 s_277 (by decide)) fx_8_6 fw_8_6 rfl rfl ?_
  refine PW.aload_n (pc := 33) dX8_station_33 rfl ?_
  refine PW.iconst (pc := 34) dX8_station_34 (v := 0) (by decide) ?_
  refine PW.putI (pc := 35) dX8_station_35 lf_X8_355 (ob hM.1 s_277 (by decide)) fx_8_48 fw_8_48 rfl rfl ?_
  refine PW.iconst (pc := 38) dX8_station_38 (v := 0) (by decide) ?_
  refine PW.istore_n (pc := 39) dX8_station_39 (ls' := [.ref 277, .int 0]) (by decide) rfl rfl ?_
  obtain ⟨n3, h⟩ := h
  refine PW.drop (c_X8_station_40 ?_ n3 _ _ (hM.same rfl rfl) h) ⟨rfl, rfl, trivial⟩
  · intro M4 hM h
    refine PW.aload_n (pc := 65) dX8_station_65 rfl ?_
    refine PW.getR (pc := 66) dX8_station_66 (r := 308) lf_X8_105 (ob hM.1 s_277 (by decide)) fx_8_39 (oR_8_39 hM s_277) (pS_ne s_308) ?_
    refine PW.iconst (pc := 69) dX8_station_69 (v := 1) (by decide) ?_
    refine PW.iconst (pc := 70) dX8_station_70 (v := 0) (by decide) ?_
    refine PW.iast (pc := 71) dX8_station_71 (ar hM.1 s_308) (vpl n_308 (vp_c (i := 1) (n := 6) (by decide))) ?_
    refine PW.aload_n (pc := 72) dX8_station_72 rfl ?_
    refine PW.getR (pc := 73) dX8_station_73 (r := 308) lf_X8_105 (ob hM.1 s_277 (by decide)) fx_8_39 (oR_8_39 (hM.same rfl rfl) s_277) (pS_ne s_308) ?_
    refine PW.iconst (pc := 76) dX8_station_76 (v := 2) (by decide) ?_
    refine PW.iconst (pc := 77) dX8_station_77 (v := 0) (by decide) ?_
    refine PW.iast (pc := 78) dX8_station_78 (ar hM.1 s_308) (vpl n_308 (vp_c (i := 2) (n := 6) (by decide))) ?_
    refine PW.aload_n (pc := 79) dX8_station_79 rfl ?_
    refine PW.inv (m' := mX8_hourTold) (pc := 80) dX8_station_80 lm_X8_373 me_X8_hourTold mi_X8_hourTold (ob hM.1 s_277 (by decide)) rfl (As := []) (st := []) rfl (Nat.le_of_ble_eq_true rfl) (Nat.le_of_ble_eq_true rfl) (Nat.le_of_eq hM.1) (Nat.le_refl _) (PW.deep (by decide) (c_X8_hourTold  (hM.same rfl rfl) h)) ?_
    rintro _ M5 ⟨hM7, rfl, h⟩
    refine PW.aload_n (pc := 83) dX8_station_83 rfl ?_
    refine PW.iconst (pc := 84) dX8_station_84 (v := 1) (by decide) ?_
    refine PW.putI (pc := 85) dX8_station_85 lf_X8_358 (ob hM7.1 s_277 (by decide)) fx_8_49 fw_8_49 rfl rfl ?_
    obtain ⟨n14, h⟩ := h
    refine PW.drop (c_X8_station_88 ?_ n14 _ (hM7.same rfl rfl) h) ⟨rfl, trivial⟩
    · intro M15 hM h
      exact PW.drop (c_X8_station_110  _ hM h) ⟨rfl, trivial⟩
def w_X8_fault (x1 : Int32) (M : pm) (Q : Int32 → pm → Prop) : Prop := ((¬ x1 = 0 → ((¬ x1 = 1 → (Q (-1) M)) ∧ (x1 = 1 → (Q (mI M 277 8) M)))) ∧ (x1 = 0 → (Q (mI M 277 7) M)))
set_option maxRecDepth 4000 in
theorem c_X8_fault {x1 : Int32} {M : pm} {Q : Int32 → pm → Prop}  (hM : pG M) (h : w_X8_fault x1 M Q) : PW mX8_fault 1 350 0 (pfr mX8_fault.2.2.1 [.ref 277, .int x1]) [] M (qI Q) := by
  unfold w_X8_fault at h
  show PW mX8_fault 1 350 0 [.ref 277, .int x1] [] M (qI Q)
  refine PW.iload_n (pc := 0) dX8_fault_0 rfl ?_
  refine PW.if_ne (pc := 1) dX8_fault_1 (t := 11) (by decide) (fun hc => ?_) (fun hc => ?_)
  · have h := h.1 hc
    refine PW.iload_n (pc := 11) dX8_fault_11 rfl ?_
    refine PW.iconst (pc := 12) dX8_fault_12 (v := 1) (by decide) ?_
    refine PW.icmp_ne (pc := 13) dX8_fault_13 (t := 23) (by decide) (fun hc => ?_) (fun hc => ?_)
    · have h := h.1 hc
      refine PW.iconst (pc := 23) dX8_fault_23 (v := (-1)) (by decide) ?_
      exact PW.retI (pc := 24) dX8_fault_24 hM.1 rfl rfl ⟨hM, _, rfl, h⟩
    · have h := h.2 hc
      refine PW.aload_n (pc := 16) dX8_fault_16 rfl ?_
      refine PW.getI (pc := 17) dX8_fault_17 lf_X8_13 (ob hM.1 s_277 (by decide)) fx_8_8 ?_
      refine PW.goto (pc := 20) dX8_fault_20 (t := 24) (by decide) ?_
      exact PW.retI (pc := 24) dX8_fault_24 hM.1 rfl rfl ⟨hM, _, rfl, h⟩
  · have h := h.2 hc
    refine PW.aload_n (pc := 4) dX8_fault_4 rfl ?_
    refine PW.getI (pc := 5) dX8_fault_5 lf_X8_379 (ob hM.1 s_277 (by decide)) fx_8_7 ?_
    refine PW.goto (pc := 8) dX8_fault_8 (t := 24) (by decide) ?_
    exact PW.retI (pc := 24) dX8_fault_24 hM.1 rfl rfl ⟨hM, _, rfl, h⟩
