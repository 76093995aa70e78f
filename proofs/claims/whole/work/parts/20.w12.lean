/-! methods, walked by program: w_ what must hold before, c_ its proof -/
def w_X8_qGoesOn_43   (M : pm) (r : pm → Prop) (k122 : pm → Prop) (Q : Int32 → pm → Prop) : Prop := w_X8_qDropsToBracket  (sI M 277 2 ((mI M 277 2) + 1)) (fun M7 => vp_in ((mI M7 277 98) - 1) 1700 ∧ (((mI M7 350 (((mI M7 277 98) - 1).toNatClampNeg)) = 20 → (w_X8_qEndsPart  (sI (sI M7 277 98 ((mI M7 277 98) - 1)) 277 99 ((mI M7 277 99) - 1)) (fun M11 => r  M11))) ∧ (¬ (mI M7 350 (((mI M7 277 98) - 1).toNatClampNeg)) = 20 → (vp_in ((mI M7 277 98) - 1) 1700 ∧ ((¬ (mI M7 350 (((mI M7 277 98) - 1).toNatClampNeg)) = 23 → (w_X8_qCode 6 (sI (sI M7 277 98 ((mI M7 277 98) - 1)) 277 99 ((mI M7 277 99) - 1)) (fun M15 => w_X8_qEndsPart  M15 (fun M18 => r  M18)))) ∧ ((mI M7 350 (((mI M7 277 98) - 1).toNatClampNeg)) = 23 → (w_X8_qCode 5 (sI (sI M7 277 98 ((mI M7 277 98) - 1)) 277 99 ((mI M7 277 99) - 1)) (fun M21 => w_X8_qEndsPart  M21 (fun M24 => r  M24)))))))))
set_option maxRecDepth 4000 in
theorem c_X8_qGoesOn_43 {r : pm → Prop} {k122 : pm → Prop} {Q : Int32 → pm → Prop} (hr : ∀  (M : pm), pG M → r  M → PW mX8_qGoesOn 4 350 0 [.ref 277, .null] [] M (qZ Q)) (hk122 : ∀  (M : pm), pG M → k122  M → PW mX8_qGoesOn 4 350 122 [.ref 277, .null] [] M (qZ Q)) : ∀  (M : pm), pG M → w_X8_qGoesOn_43  M r k122 Q → PW mX8_qGoesOn 4 350 43 [.ref 277, .null] [] M (qZ Q) := by
  intro M hM h
  unfold w_X8_qGoesOn_43 at h
  refine PW.aload_n (pc := 43) dX8_qGoesOn_43 rfl ?_
  refine PW.dupR (pc := 44) dX8_qGoesOn_44 ?_
  refine PW.getI (pc := 45) dX8_qGoesOn_45 lf_X8_255 (ob hM.1 s_277 (by decide)) fx_8_2 ?_
  refine PW.iconst (pc := 48) dX8_qGoesOn_48 (v := 1) (by decide) ?_
  refine PW.iadd (pc := 49) dX8_qGoesOn_49 ?_
  refine PW.putI (pc := 50) dX8_qGoesOn_50 lf_X8_255 (ob hM.1 s_277 (by decide)) fx_8_2 fw_8_2 rfl rfl ?_
  refine PW.aload_n (pc := 53) dX8_qGoesOn_53 rfl ?_
  refine PW.inv (m' := mX8_qDropsToBracket) (pc := 54) dX8_qGoesOn_54 lm_X8_613 me_X8_qDropsToBracket mi_X8_qDropsToBracket (ob hM.1 s_277 (by decide)) rfl (As := []) (st := []) rfl (Nat.le_of_ble_eq_true rfl) (Nat.le_of_ble_eq_true rfl) (Nat.le_of_eq hM.1) (Nat.le_refl _) (PW.deep (by decide) (c_X8_qDropsToBracket  (hM.same rfl rfl) h)) ?_
  rintro _ M7 ⟨hM9, rfl, h⟩
  refine PW.aload_n (pc := 57) dX8_qGoesOn_57 rfl ?_
  refine PW.dupR (pc := 58) dX8_qGoesOn_58 ?_
  refine PW.getI (pc := 59) dX8_qGoesOn_59 lf_X8_340 (ob hM9.1 s_277 (by decide)) fx_8_98 ?_
  refine PW.iconst (pc := 62) dX8_qGoesOn_62 (v := 1) (by decide) ?_
  refine PW.isub (pc := 63) dX8_qGoesOn_63 ?_
  refine PW.putI (pc := 64) dX8_qGoesOn_64 lf_X8_340 (ob hM9.1 s_277 (by decide)) fx_8_98 fw_8_98 rfl rfl ?_
  refine PW.aload_n (pc := 67) dX8_qGoesOn_67 rfl ?_
  refine PW.dupR (pc := 68) dX8_qGoesOn_68 ?_
  refine PW.getI (pc := 69) dX8_qGoesOn_69 lf_X8_343 (ob hM9.1 s_277 (by decide)) fx_8_99 ?_
  refine PW.iconst (pc := 72) dX8_qGoesOn_72 (v := 1) (by decide) ?_
  refine PW.isub (pc := 73) dX8_qGoesOn_73 ?_
  refine PW.putI (pc := 74) dX8_qGoesOn_74 lf_X8_343 (ob hM9.1 s_277 (by decide)) fx_8_99 fw_8_99 rfl rfl ?_
  refine PW.aload_n (pc := 77) dX8_qGoesOn_77 rfl ?_
  refine PW.getR (pc := 78) dX8_qGoesOn_78 (r := 350) lf_X8_237 (ob hM9.1 s_277 (by decide)) fx_8_97 (oR_8_97 (hM9.same rfl rfl) s_277) (pS_ne s_350) ?_
  refine PW.aload_n (pc := 81) dX8_qGoesOn_81 rfl ?_
  refine PW.getI (pc := 82) dX8_qGoesOn_82 lf_X8_340 (ob hM9.1 s_277 (by decide)) fx_8_98 ?_
  obtain ⟨v10, h⟩ := h
  refine PW.iald (pc := 85) dX8_qGoesOn_85 (ar hM9.1 s_350) (vpl n_350 v10) ?_
  refine PW.bipush (pc := 86) dX8_qGoesOn_86 (v := 20) (by decide) ?_
  refine PW.icmp_eq (pc := 88) dX8_qGoesOn_88 (t := 115) (by decide) (fun hc => ?_) (fun hc => ?_)
  · have h := h.1 hc
    refine PW.aload_n (pc := 115) dX8_qGoesOn_115 rfl ?_
    refine PW.inv (m' := mX8_qEndsPart) (pc := 116) dX8_qGoesOn_116 lm_X8_607 me_X8_qEndsPart mi_X8_qEndsPart (ob hM9.1 s_277 (by decide)) rfl (As := []) (st := []) rfl (Nat.le_of_ble_eq_true rfl) (Nat.le_of_ble_eq_true rfl) (Nat.le_of_eq hM9.1) (Nat.le_refl _) (PW.deep (by decide) (c_X8_qEndsPart  (hM9.same rfl rfl) h)) ?_
    rintro _ M11 ⟨hM13, rfl, h⟩
    refine PW.goto (pc := 119) dX8_qGoesOn_119 (t := 0) (by decide) ?_
    exact PW.drop (hr _ hM13 h) ⟨rfl, trivial⟩
  · have h := h.2 hc
    refine PW.aload_n (pc := 91) dX8_qGoesOn_91 rfl ?_
    refine PW.aload_n (pc := 92) dX8_qGoesOn_92 rfl ?_
    refine PW.getR (pc := 93) dX8_qGoesOn_93 (r := 350) lf_X8_237 (ob hM9.1 s_277 (by decide)) fx_8_97 (oR_8_97 (hM9.same rfl rfl) s_277) (pS_ne s_350) ?_
    refine PW.aload_n (pc := 96) dX8_qGoesOn_96 rfl ?_
    refine PW.getI (pc := 97) dX8_qGoesOn_97 lf_X8_340 (ob hM9.1 s_277 (by decide)) fx_8_98 ?_
    obtain ⟨v14, h⟩ := h
    refine PW.iald (pc := 100) dX8_qGoesOn_100 (ar hM9.1 s_350) (vpl n_350 v14) ?_
    refine PW.bipush (pc := 101) dX8_qGoesOn_101 (v := 23) (by decide) ?_
    refine PW.icmp_ne (pc := 103) dX8_qGoesOn_103 (t := 110) (by decide) (fun hc => ?_) (fun hc => ?_)
    · have h := h.1 hc
      refine PW.bipush (pc := 110) dX8_qGoesOn_110 (v := 6) (by decide) ?_
      refine PW.inv (m' := mX8_qCode) (pc := 112) dX8_qGoesOn_112 lm_X8_583 me_X8_qCode mi_X8_qCode (ob hM9.1 s_277 (by decide)) rfl (As := [.int 6]) (st := []) rfl (Nat.le_of_ble_eq_true rfl) (Nat.le_of_ble_eq_true rfl) (Nat.le_of_eq hM9.1) (Nat.le_refl _) (PW.deep (by decide) (c_X8_qCode  (hM9.same rfl rfl) h)) ?_
      rintro _ M15 ⟨hM17, rfl, h⟩
      refine PW.aload_n (pc := 115) dX8_qGoesOn_115 rfl ?_
      refine PW.inv (m' := mX8_qEndsPart) (pc := 116) dX8_qGoesOn_116 lm_X8_607 me_X8_qEndsPart mi_X8_qEndsPart (ob hM17.1 s_277 (by decide)) rfl (As := []) (st := []) rfl (Nat.le_of_ble_eq_true rfl) (Nat.le_of_ble_eq_true rfl) (Nat.le_of_eq hM17.1) (Nat.le_refl _) (PW.deep (by decide) (c_X8_qEndsPart  hM17 h)) ?_
      rintro _ M18 ⟨hM20, rfl, h⟩
      refine PW.goto (pc := 119) dX8_qGoesOn_119 (t := 0) (by decide) ?_
      exact PW.drop (hr _ hM20 h) ⟨rfl, trivial⟩
    · have h := h.2 hc
      refine PW.iconst (pc := 106) dX8_qGoesOn_106 (v := 5) (by decide) ?_
      refine PW.goto (pc := 107) dX8_qGoesOn_107 (t := 112) (by decide) ?_
      refine PW.inv (m' := mX8_qCode) (pc := 112) dX8_qGoesOn_112 lm_X8_583 me_X8_qCode mi_X8_qCode (ob hM9.1 s_277 (by decide)) rfl (As := [.int 5]) (st := []) rfl (Nat.le_of_ble_eq_true rfl) (Nat.le_of_ble_eq_true rfl) (Nat.le_of_eq hM9.1) (Nat.le_refl _) (PW.deep (by decide) (c_X8_qCode  (hM9.same rfl rfl) h)) ?_
      rintro _ M21 ⟨hM23, rfl, h⟩
      refine PW.aload_n (pc := 115) dX8_qGoesOn_115 rfl ?_
      refine PW.inv (m' := mX8_qEndsPart) (pc := 116) dX8_qGoesOn_116 lm_X8_607 me_X8_qEndsPart mi_X8_qEndsPart (ob hM23.1 s_277 (by decide)) rfl (As := []) (st := []) rfl (Nat.le_of_ble_eq_true rfl) (Nat.le_of_ble_eq_true rfl) (Nat.le_of_eq hM23.1) (Nat.le_refl _) (PW.deep (by decide) (c_X8_qEndsPart  hM23 h)) ?_
      rintro _ M24 ⟨hM26, rfl, h⟩
      refine PW.goto (pc := 119) dX8_qGoesOn_119 (t := 0) (by decide) ?_
      exact PW.drop (hr _ hM26 h) ⟨rfl, trivial⟩
def w_X8_qGoesOn_0 : Nat → pm → (pm → Prop) → (Int32 → pm → Prop) → Prop
  | 0, _, _, _ => False
  | n + 1, M, k122, Q => ((¬ (mI M 277 5) = 0 → (k122  M)) ∧ ((mI M 277 5) = 0 → (w_X8_look  M (fun y2 M1 => ((¬ y2 = 41 → (k122  M1)) ∧ (y2 = 41 → (w_X8_qBracket  M1 (fun y5 M4 => ((y5 = 20 → (w_X8_qGoesOn_43  M4 (fun  M => w_X8_qGoesOn_0 n  M k122 Q) k122 Q)) ∧ (¬ y5 = 20 → (w_X8_qBracket  M4 (fun y28 M27 => ((y28 = 23 → (w_X8_qGoesOn_43  M27 (fun  M => w_X8_qGoesOn_0 n  M k122 Q) k122 Q)) ∧ (¬ y28 = 23 → (w_X8_qBracket  M27 (fun y31 M30 => ((¬ y31 = 24 → (k122  M30)) ∧ (y31 = 24 → (w_X8_qGoesOn_43  M30 (fun  M => w_X8_qGoesOn_0 n  M k122 Q) k122 Q)))))))))))))))))))
set_option maxRecDepth 4000 in
theorem c_X8_qGoesOn_0 {k122 : pm → Prop} {Q : Int32 → pm → Prop} (hk122 : ∀  (M : pm), pG M → k122  M → PW mX8_qGoesOn 4 350 122 [.ref 277, .null] [] M (qZ Q)) : ∀ (n : Nat)  (M : pm), pG M → w_X8_qGoesOn_0 n  M k122 Q → PW mX8_qGoesOn 4 350 0 [.ref 277, .null] [] M (qZ Q) := by
  intro n
  induction n with
  | zero => intro M hM h; exact h.elim
  | succ n ih =>
    intro M hM h
    unfold w_X8_qGoesOn_0 at h
    refine PW.aload_n (pc := 0) dX8_qGoesOn_0 rfl ?_
    refine PW.getI (pc := 1) dX8_qGoesOn_1 lf_X8_249 (ob hM.1 s_277 (by decide)) fx_8_5 ?_
    refine PW.if_ne (pc := 4) dX8_qGoesOn_4 (t := 122) (by decide) (fun hc => ?_) (fun hc => ?_)
    · have h := h.1 hc
      exact PW.drop (hk122 _ hM h) ⟨rfl, trivial⟩
    · have h := h.2 hc
      refine PW.aload_n (pc := 7) dX8_qGoesOn_7 rfl ?_
      refine PW.inv (m' := mX8_look) (pc := 8) dX8_qGoesOn_8 lm_X8_261 me_X8_look mi_X8_look (ob hM.1 s_277 (by decide)) rfl (As := []) (st := []) rfl (Nat.le_of_ble_eq_true rfl) (Nat.le_of_ble_eq_true rfl) (Nat.le_of_eq hM.1) (Nat.le_refl _) (PW.deep (by decide) (c_X8_look  hM h)) ?_
      rintro _ M1 ⟨hM3, y2, rfl, h⟩
      refine PW.bipush (pc := 11) dX8_qGoesOn_11 (v := 41) (by decide) ?_
      refine PW.icmp_ne (pc := 13) dX8_qGoesOn_13 (t := 122) (by decide) (fun hc => ?_) (fun hc => ?_)
      · have h := h.1 hc
        exact PW.drop (hk122 _ hM3 h) ⟨rfl, trivial⟩
      · have h := h.2 hc
        refine PW.aload_n (pc := 16) dX8_qGoesOn_16 rfl ?_
        refine PW.inv (m' := mX8_qBracket) (pc := 17) dX8_qGoesOn_17 lm_X8_610 me_X8_qBracket mi_X8_qBracket (ob hM3.1 s_277 (by decide)) rfl (As := []) (st := []) rfl (Nat.le_of_ble_eq_true rfl) (Nat.le_of_ble_eq_true rfl) (Nat.le_of_eq hM3.1) (Nat.le_refl _) (PW.deep (by decide) (c_X8_qBracket  hM3 h)) ?_
        rintro _ M4 ⟨hM6, y5, rfl, h⟩
        refine PW.bipush (pc := 20) dX8_qGoesOn_20 (v := 20) (by decide) ?_
        refine PW.icmp_eq (pc := 22) dX8_qGoesOn_22 (t := 43) (by decide) (fun hc => ?_) (fun hc => ?_)
        · have h := h.1 hc
          exact PW.drop (c_X8_qGoesOn_43 ih hk122 _ hM6 h) ⟨rfl, trivial⟩
        · have h := h.2 hc
          refine PW.aload_n (pc := 25) dX8_qGoesOn_25 rfl ?_
          refine PW.inv (m' := mX8_qBracket) (pc := 26) dX8_qGoesOn_26 lm_X8_610 me_X8_qBracket mi_X8_qBracket (ob hM6.1 s_277 (by decide)) rfl (As := []) (st := []) rfl (Nat.le_of_ble_eq_true rfl) (Nat.le_of_ble_eq_true rfl) (Nat.le_of_eq hM6.1) (Nat.le_refl _) (PW.deep (by decide) (c_X8_qBracket  hM6 h)) ?_
          rintro _ M27 ⟨hM29, y28, rfl, h⟩
          refine PW.bipush (pc := 29) dX8_qGoesOn_29 (v := 23) (by decide) ?_
          refine PW.icmp_eq (pc := 31) dX8_qGoesOn_31 (t := 43) (by decide) (fun hc => ?_) (fun hc => ?_)
          · have h := h.1 hc
            exact PW.drop (c_X8_qGoesOn_43 ih hk122 _ hM29 h) ⟨rfl, trivial⟩
          · have h := h.2 hc
            refine PW.aload_n (pc := 34) dX8_qGoesOn_34 rfl ?_
            refine PW.inv (m' := mX8_qBracket) (pc := 35) dX8_qGoesOn_35 lm_X8_610 me_X8_qBracket mi_X8_qBracket (ob hM29.1 s_277 (by decide)) rfl (As := []) (st := []) rfl (Nat.le_of_ble_eq_true rfl) (Nat.le_of_ble_eq_true rfl) (Nat.le_of_eq hM29.1) (Nat.le_refl _) (PW.deep (by decide) (c_X8_qBracket  hM29 h)) ?_
            rintro _ M30 ⟨hM32, y31, rfl, h⟩
            refine PW.bipush (pc := 38) dX8_qGoesOn_38 (v := 24) (by decide) ?_
            refine PW.icmp_ne (pc := 40) dX8_qGoesOn_40 (t := 122) (by decide) (fun hc => ?_) (fun hc => ?_)
            · have h := h.1 hc
              exact PW.drop (hk122 _ hM32 h) ⟨rfl, trivial⟩
            · have h := h.2 hc
              exact PW.drop (c_X8_qGoesOn_43 ih hk122 _ hM32 h) ⟨rfl, trivial⟩
def w_X8_qGoesOn_162 : Nat → Int32 → pm → (Int32 → pm → Prop) → (Int32 → pm → Prop) → Prop
  | 0, _, _, _, _ => False
  | n + 1, x1, M, k185, Q => w_X8_qIsOn 3 M (fun y41 M40 => ((¬ y41 = 0 → (w_X8_qDrops  M40 (fun M44 => w_X8_qGoesOn_162 n x1 M44 k185 Q))) ∧ (y41 = 0 → (w_X8_qIsOn 4 M40 (fun y48 M47 => ((y48 = 0 → (k185 x1 M47)) ∧ (¬ y48 = 0 → (w_X8_qDrops  M47 (fun M51 => w_X8_qGoesOn_162 n x1 M51 k185 Q)))))))))
set_option maxRecDepth 4000 in
theorem c_X8_qGoesOn_162 {k185 : Int32 → pm → Prop} {Q : Int32 → pm → Prop} (hk185 : ∀ (x1 : Int32) (M : pm), pG M → k185 x1 M → PW mX8_qGoesOn 4 350 185 [.ref 277, .int x1] [] M (qZ Q)) : ∀ (n : Nat) (x1 : Int32) (M : pm), pG M → w_X8_qGoesOn_162 n x1 M k185 Q → PW mX8_qGoesOn 4 350 162 [.ref 277, .int x1] [] M (qZ Q) := by
  intro n
  induction n with
  | zero => intro x1 M hM h; exact h.elim
  | succ n ih =>
    intro x1 M hM h
    unfold w_X8_qGoesOn_162 at h
    refine PW.aload_n (pc := 162) dX8_qGoesOn_162 rfl ?_
    refine PW.iconst (pc := 163) dX8_qGoesOn_163 (v := 3) (by decide) ?_
    refine PW.inv (m' := mX8_qIsOn) (pc := 164) dX8_qGoesOn_164 lm_X8_616 me_X8_qIsOn mi_X8_qIsOn (ob hM.1 s_277 (by decide)) rfl (As := [.int 3]) (st := []) rfl (Nat.le_of_ble_eq_true rfl) (Nat.le_of_ble_eq_true rfl) (Nat.le_of_eq hM.1) (Nat.le_refl _) (PW.deep (by decide) (c_X8_qIsOn  hM h)) ?_
    rintro _ M40 ⟨hM42, y41, rfl, z43, h⟩
    refine PW.if_ne (pc := 167) dX8_qGoesOn_167 (t := 178) (by decide) (fun hc => ?_) (fun hc => ?_)
    · have h := h.1 hc
      refine PW.aload_n (pc := 178) dX8_qGoesOn_178 rfl ?_
      refine PW.inv (m' := mX8_qDrops) (pc := 179) dX8_qGoesOn_179 lm_X8_589 me_X8_qDrops mi_X8_qDrops (ob hM42.1 s_277 (by decide)) rfl (As := []) (st := []) rfl (Nat.le_of_ble_eq_true rfl) (Nat.le_of_ble_eq_true rfl) (Nat.le_of_eq hM42.1) (Nat.le_refl _) (PW.deep (by decide) (c_X8_qDrops  hM42 h)) ?_
      rintro _ M44 ⟨hM46, rfl, h⟩
      refine PW.goto (pc := 182) dX8_qGoesOn_182 (t := 162) (by decide) ?_
      exact PW.drop (ih _ _ hM46 h) ⟨rfl, rfl, trivial⟩
    · have h := h.2 hc
      refine PW.aload_n (pc := 170) dX8_qGoesOn_170 rfl ?_
      refine PW.iconst (pc := 171) dX8_qGoesOn_171 (v := 4) (by decide) ?_
      refine PW.inv (m' := mX8_qIsOn) (pc := 172) dX8_qGoesOn_172 lm_X8_616 me_X8_qIsOn mi_X8_qIsOn (ob hM42.1 s_277 (by decide)) rfl (As := [.int 4]) (st := []) rfl (Nat.le_of_ble_eq_true rfl) (Nat.le_of_ble_eq_true rfl) (Nat.le_of_eq hM42.1) (Nat.le_refl _) (PW.deep (by decide) (c_X8_qIsOn  hM42 h)) ?_
      rintro _ M47 ⟨hM49, y48, rfl, z50, h⟩
      refine PW.if_eq (pc := 175) dX8_qGoesOn_175 (t := 185) (by decide) (fun hc => ?_) (fun hc => ?_)
      · have h := h.1 hc
        exact PW.drop (hk185 _ _ hM49 h) ⟨rfl, rfl, trivial⟩
      · have h := h.2 hc
        refine PW.aload_n (pc := 178) dX8_qGoesOn_178 rfl ?_
        refine PW.inv (m' := mX8_qDrops) (pc := 179) dX8_qGoesOn_179 lm_X8_589 me_X8_qDrops mi_X8_qDrops (ob hM49.1 s_277 (by decide)) rfl (As := []) (st := []) rfl (Nat.le_of_ble_eq_true rfl) (Nat.le_of_ble_eq_true rfl) (Nat.le_of_eq hM49.1) (Nat.le_refl _) (PW.deep (by decide) (c_X8_qDrops  hM49 h)) ?_
        rintro _ M51 ⟨hM53, rfl, h⟩
        refine PW.goto (pc := 182) dX8_qGoesOn_182 (t := 162) (by decide) ?_
        exact PW.drop (ih _ _ hM53 h) ⟨rfl, rfl, trivial⟩
def w_X8_qGoesOn_140   (M : pm)  (Q : Int32 → pm → Prop) : Prop := vp_in ((mI M 277 2) - 1) 1600 ∧ ((¬ (mI M 278 (((mI M 277 2) - 1).toNatClampNeg)) = 42 → (∃ n54, w_X8_qGoesOn_162 n54 4 M (fun x1 M55 => vp_in (mI M55 277 98) 1700 ∧ (Q 1 (sI (sI M55 350 ((mI M55 277 98).toNatClampNeg) x1) 277 98 ((mI M55 277 98) + 1)))) Q)) ∧ ((mI M 278 (((mI M 277 2) - 1).toNatClampNeg)) = 42 → (∃ n57, w_X8_qGoesOn_162 n57 3 M (fun x1 M58 => vp_in (mI M58 277 98) 1700 ∧ (Q 1 (sI (sI M58 350 ((mI M58 277 98).toNatClampNeg) x1) 277 98 ((mI M58 277 98) + 1)))) Q)))
set_option maxRecDepth 4000 in
theorem c_X8_qGoesOn_140  {Q : Int32 → pm → Prop}  : ∀  (M : pm), pG M → w_X8_qGoesOn_140  M  Q → PW mX8_qGoesOn 4 350 140 [.ref 277, .null] [] M (qZ Q) := by
  intro M hM h
  unfold w_X8_qGoesOn_140 at h
  refine PW.aload_n (pc := 140) dX8_qGoesOn_140 rfl ?_
  refine PW.getR (pc := 141) dX8_qGoesOn_141 (r := 278) lf_X8_7 (ob hM.1 s_277 (by decide)) fx_8_0 (oR_8_0 hM s_277) (pS_ne s_278) ?_
  refine PW.aload_n (pc := 144) dX8_qGoesOn_144 rfl ?_
  refine PW.getI (pc := 145) dX8_qGoesOn_145 lf_X8_255 (ob hM.1 s_277 (by decide)) fx_8_2 ?_
  refine PW.iconst (pc := 148) dX8_qGoesOn_148 (v := 1) (by decide) ?_
  refine PW.isub (pc := 149) dX8_qGoesOn_149 ?_
  obtain ⟨v39, h⟩ := h
  refine PW.iald (pc := 150) dX8_qGoesOn_150 (ar hM.1 s_278) (vpl n_278 v39) ?_
  refine PW.bipush (pc := 151) dX8_qGoesOn_151 (v := 42) (by decide) ?_
  refine PW.icmp_ne (pc := 153) dX8_qGoesOn_153 (t := 160) (by decide) (fun hc => ?_) (fun hc => ?_)
  · have h := h.1 hc
    refine PW.iconst (pc := 160) dX8_qGoesOn_160 (v := 4) (by decide) ?_
    refine PW.istore_n (pc := 161) dX8_qGoesOn_161 (ls' := [.ref 277, .int 4]) (by decide) rfl rfl ?_
    obtain ⟨n54, h⟩ := h
    refine PW.drop (c_X8_qGoesOn_162 ?_ n54 _ _ hM h) ⟨rfl, rfl, trivial⟩
    · intro x1 M55 hM h
      refine PW.aload_n (pc := 185) dX8_qGoesOn_185 rfl ?_
      refine PW.getR (pc := 186) dX8_qGoesOn_186 (r := 350) lf_X8_237 (ob hM.1 s_277 (by decide)) fx_8_97 (oR_8_97 hM s_277) (pS_ne s_350) ?_
      refine PW.aload_n (pc := 189) dX8_qGoesOn_189 rfl ?_
      refine PW.getI (pc := 190) dX8_qGoesOn_190 lf_X8_340 (ob hM.1 s_277 (by decide)) fx_8_98 ?_
      refine PW.iload_n (pc := 193) dX8_qGoesOn_193 rfl ?_
      obtain ⟨v56, h⟩ := h
      refine PW.iast (pc := 194) dX8_qGoesOn_194 (ar hM.1 s_350) (vpl n_350 v56) ?_
      refine PW.aload_n (pc := 195) dX8_qGoesOn_195 rfl ?_
      refine PW.dupR (pc := 196) dX8_qGoesOn_196 ?_
      refine PW.getI (pc := 197) dX8_qGoesOn_197 lf_X8_340 (ob hM.1 s_277 (by decide)) fx_8_98 ?_
      refine PW.iconst (pc := 200) dX8_qGoesOn_200 (v := 1) (by decide) ?_
      refine PW.iadd (pc := 201) dX8_qGoesOn_201 ?_
      refine PW.putI (pc := 202) dX8_qGoesOn_202 lf_X8_340 (ob hM.1 s_277 (by decide)) fx_8_98 fw_8_98 rfl rfl ?_
      refine PW.iconst (pc := 205) dX8_qGoesOn_205 (v := 1) (by decide) ?_
      exact PW.retI (pc := 206) dX8_qGoesOn_206 hM.1 rfl (bz_n bz1) ⟨(hM.same rfl rfl), _, rfl, bz1, h⟩
  · have h := h.2 hc
    refine PW.iconst (pc := 156) dX8_qGoesOn_156 (v := 3) (by decide) ?_
    refine PW.goto (pc := 157) dX8_qGoesOn_157 (t := 161) (by decide) ?_
    refine PW.istore_n (pc := 161) dX8_qGoesOn_161 (ls' := [.ref 277, .int 3]) (by decide) rfl rfl ?_
    obtain ⟨n57, h⟩ := h
    refine PW.drop (c_X8_qGoesOn_162 ?_ n57 _ _ hM h) ⟨rfl, rfl, trivial⟩
    · intro x1 M58 hM h
      refine PW.aload_n (pc := 185) dX8_qGoesOn_185 rfl ?_
      refine PW.getR (pc := 186) dX8_qGoesOn_186 (r := 350) lf_X8_237 (ob hM.1 s_277 (by decide)) fx_8_97 (oR_8_97 hM s_277) (pS_ne s_350) ?_
      refine PW.aload_n (pc := 189) dX8_qGoesOn_189 rfl ?_
      refine PW.getI (pc := 190) dX8_qGoesOn_190 lf_X8_340 (ob hM.1 s_277 (by decide)) fx_8_98 ?_
      refine PW.iload_n (pc := 193) dX8_qGoesOn_193 rfl ?_
      obtain ⟨v59, h⟩ := h
      refine PW.iast (pc := 194) dX8_qGoesOn_194 (ar hM.1 s_350) (vpl n_350 v59) ?_
      refine PW.aload_n (pc := 195) dX8_qGoesOn_195 rfl ?_
      refine PW.dupR (pc := 196) dX8_qGoesOn_196 ?_
      refine PW.getI (pc := 197) dX8_qGoesOn_197 lf_X8_340 (ob hM.1 s_277 (by decide)) fx_8_98 ?_
      refine PW.iconst (pc := 200) dX8_qGoesOn_200 (v := 1) (by decide) ?_
      refine PW.iadd (pc := 201) dX8_qGoesOn_201 ?_
      refine PW.putI (pc := 202) dX8_qGoesOn_202 lf_X8_340 (ob hM.1 s_277 (by decide)) fx_8_98 fw_8_98 rfl rfl ?_
      refine PW.iconst (pc := 205) dX8_qGoesOn_205 (v := 1) (by decide) ?_
      exact PW.retI (pc := 206) dX8_qGoesOn_206 hM.1 rfl (bz_n bz1) ⟨(hM.same rfl rfl), _, rfl, bz1, h⟩
def w_X8_qGoesOn_247 : Nat → Int32 → pm → (Int32 → pm → Prop) → (Int32 → pm → Prop) → Prop
  | 0, _, _, _, _ => False
  | n + 1, x1, M, k286, Q => w_X8_qIsOn 3 M (fun y70 M69 => ((¬ y70 = 0 → (w_X8_qDrops  M69 (fun M73 => w_X8_qGoesOn_247 n x1 M73 k286 Q))) ∧ (y70 = 0 → (w_X8_qIsOn 4 M69 (fun y77 M76 => ((¬ y77 = 0 → (w_X8_qDrops  M76 (fun M80 => w_X8_qGoesOn_247 n x1 M80 k286 Q))) ∧ (y77 = 0 → (w_X8_qIsOn 1 M76 (fun y84 M83 => ((¬ y84 = 0 → (w_X8_qDrops  M83 (fun M87 => w_X8_qGoesOn_247 n x1 M87 k286 Q))) ∧ (y84 = 0 → (w_X8_qIsOn 2 M83 (fun y91 M90 => ((y91 = 0 → (k286 x1 M90)) ∧ (¬ y91 = 0 → (w_X8_qDrops  M90 (fun M94 => w_X8_qGoesOn_247 n x1 M94 k286 Q)))))))))))))))))
set_option maxRecDepth 4000 in
theorem c_X8_qGoesOn_247 {k286 : Int32 → pm → Prop} {Q : Int32 → pm → Prop} (hk286 : ∀ (x1 : Int32) (M : pm), pG M → k286 x1 M → PW mX8_qGoesOn 4 350 286 [.ref 277, .int x1] [] M (qZ Q)) : ∀ (n : Nat) (x1 : Int32) (M : pm), pG M → w_X8_qGoesOn_247 n x1 M k286 Q → PW mX8_qGoesOn 4 350 247 [.ref 277, .int x1] [] M (qZ Q) := by
  intro n
  induction n with
  | zero => intro x1 M hM h; exact h.elim
  | succ n ih =>
    intro x1 M hM h
    unfold w_X8_qGoesOn_247 at h
    refine PW.aload_n (pc := 247) dX8_qGoesOn_247 rfl ?_
    refine PW.iconst (pc := 248) dX8_qGoesOn_248 (v := 3) (by decide) ?_
    refine PW.inv (m' := mX8_qIsOn) (pc := 249) dX8_qGoesOn_249 lm_X8_616 me_X8_qIsOn mi_X8_qIsOn (ob hM.1 s_277 (by decide)) rfl (As := [.int 3]) (st := []) rfl (Nat.le_of_ble_eq_true rfl) (Nat.le_of_ble_eq_true rfl) (Nat.le_of_eq hM.1) (Nat.le_refl _) (PW.deep (by decide) (c_X8_qIsOn  hM h)) ?_
    rintro _ M69 ⟨hM71, y70, rfl, z72, h⟩
    refine PW.if_ne (pc := 252) dX8_qGoesOn_252 (t := 279) (by decide) (fun hc => ?_) (fun hc => ?_)
    · have h := h.1 hc
      refine PW.aload_n (pc := 279) dX8_qGoesOn_279 rfl ?_
      refine PW.inv (m' := mX8_qDrops) (pc := 280) dX8_qGoesOn_280 lm_X8_589 me_X8_qDrops mi_X8_qDrops (ob hM71.1 s_277 (by decide)) rfl (As := []) (st := []) rfl (Nat.le_of_ble_eq_true rfl) (Nat.le_of_ble_eq_true rfl) (Nat.le_of_eq hM71.1) (Nat.le_refl _) (PW.deep (by decide) (c_X8_qDrops  hM71 h)) ?_
      rintro _ M73 ⟨hM75, rfl, h⟩
      refine PW.goto (pc := 283) dX8_qGoesOn_283 (t := 247) (by decide) ?_
      exact PW.drop (ih _ _ hM75 h) ⟨rfl, rfl, trivial⟩
    · have h := h.2 hc
      refine PW.aload_n (pc := 255) dX8_qGoesOn_255 rfl ?_
      refine PW.iconst (pc := 256) dX8_qGoesOn_256 (v := 4) (by decide) ?_
      refine PW.inv (m' := mX8_qIsOn) (pc := 257) dX8_qGoesOn_257 lm_X8_616 me_X8_qIsOn mi_X8_qIsOn (ob hM71.1 s_277 (by decide)) rfl (As := [.int 4]) (st := []) rfl (Nat.le_of_ble_eq_true rfl) (Nat.le_of_ble_eq_true rfl) (Nat.le_of_eq hM71.1) (Nat.le_refl _) (PW.deep (by decide) (c_X8_qIsOn  hM71 h)) ?_
      rintro _ M76 ⟨hM78, y77, rfl, z79, h⟩
      refine PW.if_ne (pc := 260) dX8_qGoesOn_260 (t := 279) (by decide) (fun hc => ?_) (fun hc => ?_)
      · have h := h.1 hc
        refine PW.aload_n (pc := 279) dX8_qGoesOn_279 rfl ?_
        refine PW.inv (m' := mX8_qDrops) (pc := 280) dX8_qGoesOn_280 lm_X8_589 me_X8_qDrops mi_X8_qDrops (ob hM78.1 s_277 (by decide)) rfl (As := []) (st := []) rfl (Nat.le_of_ble_eq_true rfl) (Nat.le_of_ble_eq_true rfl) (Nat.le_of_eq hM78.1) (Nat.le_refl _) (PW.deep (by decide) (c_X8_qDrops  hM78 h)) ?_
        rintro _ M80 ⟨hM82, rfl, h⟩
        refine PW.goto (pc := 283) dX8_qGoesOn_283 (t := 247) (by decide) ?_
        exact PW.drop (ih _ _ hM82 h) ⟨rfl, rfl, trivial⟩
      · have h := h.2 hc
        refine PW.aload_n (pc := 263) dX8_qGoesOn_263 rfl ?_
        refine PW.iconst (pc := 264) dX8_qGoesOn_264 (v := 1) (by decide) ?_
        refine PW.inv (m' := mX8_qIsOn) (pc := 265) dX8_qGoesOn_265 lm_X8_616 me_X8_qIsOn mi_X8_qIsOn (ob hM78.1 s_277 (by decide)) rfl (As := [.int 1]) (st := []) rfl (Nat.le_of_ble_eq_true rfl) (Nat.le_of_ble_eq_true rfl) (Nat.le_of_eq hM78.1) (Nat.le_refl _) (PW.deep (by decide) (c_X8_qIsOn  hM78 h)) ?_
        rintro _ M83 ⟨hM85, y84, rfl, z86, h⟩
        refine PW.if_ne (pc := 268) dX8_qGoesOn_268 (t := 279) (by decide) (fun hc => ?_) (fun hc => ?_)
        · have h := h.1 hc
          refine PW.aload_n (pc := 279) dX8_qGoesOn_279 rfl ?_
          refine PW.inv (m' := mX8_qDrops) (pc := 280) dX8_qGoesOn_280 lm_X8_589 me_X8_qDrops mi_X8_qDrops (ob hM85.1 s_277 (by decide)) rfl (As := []) (st := []) rfl (Nat.le_of_ble_eq_true rfl) (Nat.le_of_ble_eq_true rfl) (Nat.le_of_eq hM85.1) (Nat.le_refl _) (PW.deep (by decide) (c_X8_qDrops  hM85 h)) ?_
          rintro _ M87 ⟨hM89, rfl, h⟩
          refine PW.goto (pc := 283) dX8_qGoesOn_283 (t := 247) (by decide) ?_
          exact PW.drop (ih _ _ hM89 h) ⟨rfl, rfl, trivial⟩
        · have h := h.2 hc
          refine PW.aload_n (pc := 271) dX8_qGoesOn_271 rfl ?_
          refine PW.iconst (pc := 272) dX8_qGoesOn_272 (v := 2) (by decide) ?_
          refine PW.inv (m' := mX8_qIsOn) (pc := 273) dX8_qGoesOn_273 lm_X8_616 me_X8_qIsOn mi_X8_qIsOn (ob hM85.1 s_277 (by decide)) rfl (As := [.int 2]) (st := []) rfl (Nat.le_of_ble_eq_true rfl) (Nat.le_of_ble_eq_true rfl) (Nat.le_of_eq hM85.1) (Nat.le_refl _) (PW.deep (by decide) (c_X8_qIsOn  hM85 h)) ?_
          rintro _ M90 ⟨hM92, y91, rfl, z93, h⟩
          refine PW.if_eq (pc := 276) dX8_qGoesOn_276 (t := 286) (by decide) (fun hc => ?_) (fun hc => ?_)
          · have h := h.1 hc
            exact PW.drop (hk286 _ _ hM92 h) ⟨rfl, rfl, trivial⟩
          · have h := h.2 hc
            refine PW.aload_n (pc := 279) dX8_qGoesOn_279 rfl ?_
            refine PW.inv (m' := mX8_qDrops) (pc := 280) dX8_qGoesOn_280 lm_X8_589 me_X8_qDrops mi_X8_qDrops (ob hM92.1 s_277 (by decide)) rfl (As := []) (st := []) rfl (Nat.le_of_ble_eq_true rfl) (Nat.le_of_ble_eq_true rfl) (Nat.le_of_eq hM92.1) (Nat.le_refl _) (PW.deep (by decide) (c_X8_qDrops  hM92 h)) ?_
            rintro _ M94 ⟨hM96, rfl, h⟩
            refine PW.goto (pc := 283) dX8_qGoesOn_283 (t := 247) (by decide) ?_
            exact PW.drop (ih _ _ hM96 h) ⟨rfl, rfl, trivial⟩
def w_X8_qGoesOn_225   (M : pm)  (Q : Int32 → pm → Prop) : Prop := vp_in ((mI M 277 2) - 1) 1600 ∧ ((¬ (mI M 278 (((mI M 277 2) - 1).toNatClampNeg)) = 43 → (∃ n97, w_X8_qGoesOn_247 n97 2 M (fun x1 M98 => vp_in (mI M98 277 98) 1700 ∧ (Q 1 (sI (sI M98 350 ((mI M98 277 98).toNatClampNeg) x1) 277 98 ((mI M98 277 98) + 1)))) Q)) ∧ ((mI M 278 (((mI M 277 2) - 1).toNatClampNeg)) = 43 → (∃ n100, w_X8_qGoesOn_247 n100 1 M (fun x1 M101 => vp_in (mI M101 277 98) 1700 ∧ (Q 1 (sI (sI M101 350 ((mI M101 277 98).toNatClampNeg) x1) 277 98 ((mI M101 277 98) + 1)))) Q)))
set_option maxRecDepth 4000 in
theorem c_X8_qGoesOn_225  {Q : Int32 → pm → Prop}  : ∀  (M : pm), pG M → w_X8_qGoesOn_225  M  Q → PW mX8_qGoesOn 4 350 225 [.ref 277, .null] [] M (qZ Q) := by
  intro M hM h
  unfold w_X8_qGoesOn_225 at h
  refine PW.aload_n (pc := 225) dX8_qGoesOn_225 rfl ?_
  refine PW.getR (pc := 226) dX8_qGoesOn_226 (r := 278) lf_X8_7 (ob hM.1 s_277 (by decide)) fx_8_0 (oR_8_0 hM s_277) (pS_ne s_278) ?_
  refine PW.aload_n (pc := 229) dX8_qGoesOn_229 rfl ?_
  refine PW.getI (pc := 230) dX8_qGoesOn_230 lf_X8_255 (ob hM.1 s_277 (by decide)) fx_8_2 ?_
  refine PW.iconst (pc := 233) dX8_qGoesOn_233 (v := 1) (by decide) ?_
  refine PW.isub (pc := 234) dX8_qGoesOn_234 ?_
  obtain ⟨v68, h⟩ := h
  refine PW.iald (pc := 235) dX8_qGoesOn_235 (ar hM.1 s_278) (vpl n_278 v68) ?_
  refine PW.bipush (pc := 236) dX8_qGoesOn_236 (v := 43) (by decide) ?_
  refine PW.icmp_ne (pc := 238) dX8_qGoesOn_238 (t := 245) (by decide) (fun hc => ?_) (fun hc => ?_)
  · have h := h.1 hc
    refine PW.iconst (pc := 245) dX8_qGoesOn_245 (v := 2) (by decide) ?_
    refine PW.istore_n (pc := 246) dX8_qGoesOn_246 (ls' := [.ref 277, .int 2]) (by decide) rfl rfl ?_
    obtain ⟨n97, h⟩ := h
    refine PW.drop (c_X8_qGoesOn_247 ?_ n97 _ _ hM h) ⟨rfl, rfl, trivial⟩
    · intro x1 M98 hM h
      refine PW.aload_n (pc := 286) dX8_qGoesOn_286 rfl ?_
      refine PW.getR (pc := 287) dX8_qGoesOn_287 (r := 350) lf_X8_237 (ob hM.1 s_277 (by decide)) fx_8_97 (oR_8_97 hM s_277) (pS_ne s_350) ?_
      refine PW.aload_n (pc := 290) dX8_qGoesOn_290 rfl ?_
      refine PW.getI (pc := 291) dX8_qGoesOn_291 lf_X8_340 (ob hM.1 s_277 (by decide)) fx_8_98 ?_
      refine PW.iload_n (pc := 294) dX8_qGoesOn_294 rfl ?_
      obtain ⟨v99, h⟩ := h
      refine PW.iast (pc := 295) dX8_qGoesOn_295 (ar hM.1 s_350) (vpl n_350 v99) ?_
      refine PW.aload_n (pc := 296) dX8_qGoesOn_296 rfl ?_
      refine PW.dupR (pc := 297) dX8_qGoesOn_297 ?_
      refine PW.getI (pc := 298) dX8_qGoesOn_298 lf_X8_340 (ob hM.1 s_277 (by decide)) fx_8_98 ?_
      refine PW.iconst (pc := 301) dX8_qGoesOn_301 (v := 1) (by decide) ?_
      refine PW.iadd (pc := 302) dX8_qGoesOn_302 ?_
      refine PW.putI (pc := 303) dX8_qGoesOn_303 lf_X8_340 (ob hM.1 s_277 (by decide)) fx_8_98 fw_8_98 rfl rfl ?_
      refine PW.iconst (pc := 306) dX8_qGoesOn_306 (v := 1) (by decide) ?_
      exact PW.retI (pc := 307) dX8_qGoesOn_307 hM.1 rfl (bz_n bz1) ⟨(hM.same rfl rfl), _, rfl, bz1, h⟩
  · have h := h.2 hc
    refine PW.iconst (pc := 241) dX8_qGoesOn_241 (v := 1) (by decide) ?_
    refine PW.goto (pc := 242) dX8_qGoesOn_242 (t := 246) (by decide) ?_
    refine PW.istore_n (pc := 246) dX8_qGoesOn_246 (ls' := [.ref 277, .int 1]) (by decide) rfl rfl ?_
    obtain ⟨n100, h⟩ := h
    refine PW.drop (c_X8_qGoesOn_247 ?_ n100 _ _ hM h) ⟨rfl, rfl, trivial⟩
    · intro x1 M101 hM h
      refine PW.aload_n (pc := 286) dX8_qGoesOn_286 rfl ?_
      refine PW.getR (pc := 287) dX8_qGoesOn_287 (r := 350) lf_X8_237 (ob hM.1 s_277 (by decide)) fx_8_97 (oR_8_97 hM s_277) (pS_ne s_350) ?_
      refine PW.aload_n (pc := 290) dX8_qGoesOn_290 rfl ?_
      refine PW.getI (pc := 291) dX8_qGoesOn_291 lf_X8_340 (ob hM.1 s_277 (by decide)) fx_8_98 ?_
      refine PW.iload_n (pc := 294) dX8_qGoesOn_294 rfl ?_
      obtain ⟨v102, h⟩ := h
      refine PW.iast (pc := 295) dX8_qGoesOn_295 (ar hM.1 s_350) (vpl n_350 v102) ?_
      refine PW.aload_n (pc := 296) dX8_qGoesOn_296 rfl ?_
      refine PW.dupR (pc := 297) dX8_qGoesOn_297 ?_
      refine PW.getI (pc := 298) dX8_qGoesOn_298 lf_X8_340 (ob hM.1 s_277 (by decide)) fx_8_98 ?_
      refine PW.iconst (pc := 301) dX8_qGoesOn_301 (v := 1) (by decide) ?_
      refine PW.iadd (pc := 302) dX8_qGoesOn_302 ?_
      refine PW.putI (pc := 303) dX8_qGoesOn_303 lf_X8_340 (ob hM.1 s_277 (by decide)) fx_8_98 fw_8_98 rfl rfl ?_
      refine PW.iconst (pc := 306) dX8_qGoesOn_306 (v := 1) (by decide) ?_
      exact PW.retI (pc := 307) dX8_qGoesOn_307 hM.1 rfl (bz_n bz1) ⟨(hM.same rfl rfl), _, rfl, bz1, h⟩
def w_X8_qGoesOn_326   (M : pm)  (Q : Int32 → pm → Prop) : Prop := w_X8_asksSign 44 M (fun M110 => (((mI M110 277 5) = 0 → (w_X8_qDropsToBracket  M110 (fun M113 => vp_in ((mI M113 277 98) - 1) 1700 ∧ (vp_in ((mI M113 277 98) - 1) 1700 ∧ (Q 1 (sI M113 350 (((mI M113 277 98) - 1).toNatClampNeg) ((mI M113 350 (((mI M113 277 98) - 1).toNatClampNeg)) + 2))))))) ∧ (¬ (mI M110 277 5) = 0 → (Q 0 M110))))
set_option maxRecDepth 4000 in
theorem c_X8_qGoesOn_326  {Q : Int32 → pm → Prop}  : ∀  (M : pm), pG M → w_X8_qGoesOn_326  M  Q → PW mX8_qGoesOn 4 350 326 [.ref 277, .null] [] M (qZ Q) := by
  intro M hM h
  unfold w_X8_qGoesOn_326 at h
  refine PW.aload_n (pc := 326) dX8_qGoesOn_326 rfl ?_
  refine PW.bipush (pc := 327) dX8_qGoesOn_327 (v := 44) (by decide) ?_
  refine PW.inv (m' := mX8_asksSign) (pc := 329) dX8_qGoesOn_329 lm_X8_319 me_X8_asksSign mi_X8_asksSign (ob hM.1 s_277 (by decide)) rfl (As := [.int 44]) (st := []) rfl (Nat.le_of_ble_eq_true rfl) (Nat.le_of_ble_eq_true rfl) (Nat.le_of_eq hM.1) (Nat.le_refl _) (PW.deep (by decide) (c_X8_asksSign  hM h)) ?_
  rintro _ M110 ⟨hM112, rfl, h⟩
  refine PW.aload_n (pc := 332) dX8_qGoesOn_332 rfl ?_
  refine PW.getI (pc := 333) dX8_qGoesOn_333 lf_X8_249 (ob hM112.1 s_277 (by decide)) fx_8_5 ?_
  refine PW.if_eq (pc := 336) dX8_qGoesOn_336 (t := 341) (by decide) (fun hc => ?_) (fun hc => ?_)
  · have h := h.1 hc
    refine PW.aload_n (pc := 341) dX8_qGoesOn_341 rfl ?_
    refine PW.inv (m' := mX8_qDropsToBracket) (pc := 342) dX8_qGoesOn_342 lm_X8_613 me_X8_qDropsToBracket mi_X8_qDropsToBracket (ob hM112.1 s_277 (by decide)) rfl (As := []) (st := []) rfl (Nat.le_of_ble_eq_true rfl) (Nat.le_of_ble_eq_true rfl) (Nat.le_of_eq hM112.1) (Nat.le_refl _) (PW.deep (by decide) (c_X8_qDropsToBracket  hM112 h)) ?_
    rintro _ M113 ⟨hM115, rfl, h⟩
    refine PW.aload_n (pc := 345) dX8_qGoesOn_345 rfl ?_
    refine PW.getR (pc := 346) dX8_qGoesOn_346 (r := 350) lf_X8_237 (ob hM115.1 s_277 (by decide)) fx_8_97 (oR_8_97 hM115 s_277) (pS_ne s_350) ?_
    refine PW.aload_n (pc := 349) dX8_qGoesOn_349 rfl ?_
    refine PW.getI (pc := 350) dX8_qGoesOn_350 lf_X8_340 (ob hM115.1 s_277 (by decide)) fx_8_98 ?_
    refine PW.iconst (pc := 353) dX8_qGoesOn_353 (v := 1) (by decide) ?_
    refine PW.isub (pc := 354) dX8_qGoesOn_354 ?_
    refine PW.dup2IR (pc := 355) dX8_qGoesOn_355 ?_
    obtain ⟨v116, h⟩ := h
    refine PW.iald (pc := 356) dX8_qGoesOn_356 (ar hM115.1 s_350) (vpl n_350 v116) ?_
    refine PW.iconst (pc := 357) dX8_qGoesOn_357 (v := 2) (by decide) ?_
    refine PW.iadd (pc := 358) dX8_qGoesOn_358 ?_
    obtain ⟨v117, h⟩ := h
    refine PW.iast (pc := 359) dX8_qGoesOn_359 (ar hM115.1 s_350) (vpl n_350 v117) ?_
    refine PW.iconst (pc := 360) dX8_qGoesOn_360 (v := 1) (by decide) ?_
    exact PW.retI (pc := 361) dX8_qGoesOn_361 hM115.1 rfl (bz_n bz1) ⟨(hM115.same rfl rfl), _, rfl, bz1, h⟩
  · have h := h.2 hc
    refine PW.iconst (pc := 339) dX8_qGoesOn_339 (v := 0) (by decide) ?_
    exact PW.retI (pc := 340) dX8_qGoesOn_340 hM112.1 rfl (bz_n bz0) ⟨hM112, _, rfl, bz0, h⟩
def w_X8_qGoesOn_122   (M : pm)  (Q : Int32 → pm → Prop) : Prop := w_X8_takesSign 42 M (fun y36 M35 => ((¬ y36 = 0 → (w_X8_qGoesOn_140  M35  Q)) ∧ (y36 = 0 → (w_X8_takesSign 47 M35 (fun y61 M60 => ((y61 = 0 → (w_X8_takesSign 43 M60 (fun y65 M64 => ((¬ y65 = 0 → (w_X8_qGoesOn_225  M64  Q)) ∧ (y65 = 0 → (w_X8_takesSign 45 M64 (fun y104 M103 => ((y104 = 0 → (w_X8_qBracket  M103 (fun y108 M107 => ((y108 = 21 → (w_X8_qGoesOn_326  M107  Q)) ∧ (¬ y108 = 21 → (w_X8_qBracket  M107 (fun y119 M118 => ((¬ y119 = 22 → (w_X8_qBracket  M118 (fun y122 M121 => ((y122 = (-1) → (Q 0 M121)) ∧ (¬ y122 = (-1) → ((¬ (mI M121 277 5) = 0 → (Q 0 M121)) ∧ ((mI M121 277 5) = 0 → (w_X8_fail 1 (mI M121 277 2) M121 (fun M124 => Q 0 M124))))))))) ∧ (y119 = 22 → (w_X8_qGoesOn_326  M118  Q)))))))))) ∧ (¬ y104 = 0 → (w_X8_qGoesOn_225  M103  Q)))))))))) ∧ (¬ y61 = 0 → (w_X8_qGoesOn_140  M60  Q))))))))
set_option maxRecDepth 4000 in
theorem c_X8_qGoesOn_122  {Q : Int32 → pm → Prop}  : ∀  (M : pm), pG M → w_X8_qGoesOn_122  M  Q → PW mX8_qGoesOn 4 350 122 [.ref 277, .null] [] M (qZ Q) := by
  intro M hM h
  unfold w_X8_qGoesOn_122 at h
  refine PW.aload_n (pc := 122) dX8_qGoesOn_122 rfl ?_
  refine PW.bipush (pc := 123) dX8_qGoesOn_123 (v := 42) (by decide) ?_
  refine PW.inv (m' := mX8_takesSign) (pc := 125) dX8_qGoesOn_125 lm_X8_283 me_X8_takesSign mi_X8_takesSign (ob hM.1 s_277 (by decide)) rfl (As := [.int 42]) (st := []) rfl (Nat.le_of_ble_eq_true rfl) (Nat.le_of_ble_eq_true rfl) (Nat.le_of_eq hM.1) (Nat.le_refl _) (PW.deep (by decide) (c_X8_takesSign  hM h)) ?_
  rintro _ M35 ⟨hM37, y36, rfl, z38, h⟩
  refine PW.if_ne (pc := 128) dX8_qGoesOn_128 (t := 140) (by decide) (fun hc => ?_) (fun hc => ?_)
  · have h := h.1 hc
    exact PW.drop (c_X8_qGoesOn_140  _ hM37 h) ⟨rfl, trivial⟩
  · have h := h.2 hc
    refine PW.aload_n (pc := 131) dX8_qGoesOn_131 rfl ?_
    refine PW.bipush (pc := 132) dX8_qGoesOn_132 (v := 47) (by decide) ?_
    refine PW.inv (m' := mX8_takesSign) (pc := 134) dX8_qGoesOn_134 lm_X8_283 me_X8_takesSign mi_X8_takesSign (ob hM37.1 s_277 (by decide)) rfl (As := [.int 47]) (st := []) rfl (Nat.le_of_ble_eq_true rfl) (Nat.le_of_ble_eq_true rfl) (Nat.le_of_eq hM37.1) (Nat.le_refl _) (PW.deep (by decide) (c_X8_takesSign  hM37 h)) ?_
    rintro _ M60 ⟨hM62, y61, rfl, z63, h⟩
    refine PW.if_eq (pc := 137) dX8_qGoesOn_137 (t := 207) (by decide) (fun hc => ?_) (fun hc => ?_)
    · have h := h.1 hc
      refine PW.aload_n (pc := 207) dX8_qGoesOn_207 rfl ?_
      refine PW.bipush (pc := 208) dX8_qGoesOn_208 (v := 43) (by decide) ?_
      refine PW.inv (m' := mX8_takesSign) (pc := 210) dX8_qGoesOn_210 lm_X8_283 me_X8_takesSign mi_X8_takesSign (ob hM62.1 s_277 (by decide)) rfl (As := [.int 43]) (st := []) rfl (Nat.le_of_ble_eq_true rfl) (Nat.le_of_ble_eq_true rfl) (Nat.le_of_eq hM62.1) (Nat.le_refl _) (PW.deep (by decide) (c_X8_takesSign  hM62 h)) ?_
      rintro _ M64 ⟨hM66, y65, rfl, z67, h⟩
      refine PW.if_ne (pc := 213) dX8_qGoesOn_213 (t := 225) (by decide) (fun hc => ?_) (fun hc => ?_)
      · have h := h.1 hc
        exact PW.drop (c_X8_qGoesOn_225  _ hM66 h) ⟨rfl, trivial⟩
      · have h := h.2 hc
        refine PW.aload_n (pc := 216) dX8_qGoesOn_216 rfl ?_
        refine PW.bipush (pc := 217) dX8_qGoesOn_217 (v := 45) (by decide) ?_
        refine PW.inv (m' := mX8_takesSign) (pc := 219) dX8_qGoesOn_219 lm_X8_283 me_X8_takesSign mi_X8_takesSign (ob hM66.1 s_277 (by decide)) rfl (As := [.int 45]) (st := []) rfl (Nat.le_of_ble_eq_true rfl) (Nat.le_of_ble_eq_true rfl) (Nat.le_of_eq hM66.1) (Nat.le_refl _) (PW.deep (by decide) (c_X8_takesSign  hM66 h)) ?_
        rintro _ M103 ⟨hM105, y104, rfl, z106, h⟩
        refine PW.if_eq (pc := 222) dX8_qGoesOn_222 (t := 308) (by decide) (fun hc => ?_) (fun hc => ?_)
        · have h := h.1 hc
          refine PW.aload_n (pc := 308) dX8_qGoesOn_308 rfl ?_
          refine PW.inv (m' := mX8_qBracket) (pc := 309) dX8_qGoesOn_309 lm_X8_610 me_X8_qBracket mi_X8_qBracket (ob hM105.1 s_277 (by decide)) rfl (As := []) (st := []) rfl (Nat.le_of_ble_eq_true rfl) (Nat.le_of_ble_eq_true rfl) (Nat.le_of_eq hM105.1) (Nat.le_refl _) (PW.deep (by decide) (c_X8_qBracket  hM105 h)) ?_
          rintro _ M107 ⟨hM109, y108, rfl, h⟩
          refine PW.bipush (pc := 312) dX8_qGoesOn_312 (v := 21) (by decide) ?_
          refine PW.icmp_eq (pc := 314) dX8_qGoesOn_314 (t := 326) (by decide) (fun hc => ?_) (fun hc => ?_)
          · have h := h.1 hc
            exact PW.drop (c_X8_qGoesOn_326  _ hM109 h) ⟨rfl, trivial⟩
          · have h := h.2 hc
            refine PW.aload_n (pc := 317) dX8_qGoesOn_317 rfl ?_
            refine PW.inv (m' := mX8_qBracket) (pc := 318) dX8_qGoesOn_318 lm_X8_610 me_X8_qBracket mi_X8_qBracket (ob hM109.1 s_277 (by decide)) rfl (As := []) (st := []) rfl (Nat.le_of_ble_eq_true rfl) (Nat.le_of_ble_eq_true rfl) (Nat.le_of_eq hM109.1) (Nat.le_refl _) (PW.deep (by decide) (c_X8_qBracket  hM109 h)) ?_
            rintro _ M118 ⟨hM120, y119, rfl, h⟩
            refine PW.bipush (pc := 321) dX8_qGoesOn_321 (v := 22) (by decide) ?_
            refine PW.icmp_ne (pc := 323) dX8_qGoesOn_323 (t := 362) (by decide) (fun hc => ?_) (fun hc => ?_)
            · have h := h.1 hc
              refine PW.aload_n (pc := 362) dX8_qGoesOn_362 rfl ?_
              refine PW.inv (m' := mX8_qBracket) (pc := 363) dX8_qGoesOn_363 lm_X8_610 me_X8_qBracket mi_X8_qBracket (ob hM120.1 s_277 (by decide)) rfl (As := []) (st := []) rfl (Nat.le_of_ble_eq_true rfl) (Nat.le_of_ble_eq_true rfl) (Nat.le_of_eq hM120.1) (Nat.le_refl _) (PW.deep (by decide) (c_X8_qBracket  hM120 h)) ?_
              rintro _ M121 ⟨hM123, y122, rfl, h⟩
              refine PW.iconst (pc := 366) dX8_qGoesOn_366 (v := (-1)) (by decide) ?_
              refine PW.icmp_eq (pc := 367) dX8_qGoesOn_367 (t := 386) (by decide) (fun hc => ?_) (fun hc => ?_)
              · have h := h.1 hc
                refine PW.iconst (pc := 386) dX8_qGoesOn_386 (v := 0) (by decide) ?_
                exact PW.retI (pc := 387) dX8_qGoesOn_387 hM123.1 rfl (bz_n bz0) ⟨hM123, _, rfl, bz0, h⟩
              · have h := h.2 hc
                refine PW.aload_n (pc := 370) dX8_qGoesOn_370 rfl ?_
                refine PW.getI (pc := 371) dX8_qGoesOn_371 lf_X8_249 (ob hM123.1 s_277 (by decide)) fx_8_5 ?_
                refine PW.if_ne (pc := 374) dX8_qGoesOn_374 (t := 386) (by decide) (fun hc => ?_) (fun hc => ?_)
                · have h := h.1 hc
                  refine PW.iconst (pc := 386) dX8_qGoesOn_386 (v := 0) (by decide) ?_
                  exact PW.retI (pc := 387) dX8_qGoesOn_387 hM123.1 rfl (bz_n bz0) ⟨hM123, _, rfl, bz0, h⟩
                · have h := h.2 hc
                  refine PW.aload_n (pc := 377) dX8_qGoesOn_377 rfl ?_
                  refine PW.iconst (pc := 378) dX8_qGoesOn_378 (v := 1) (by decide) ?_
                  refine PW.aload_n (pc := 379) dX8_qGoesOn_379 rfl ?_
                  refine PW.getI (pc := 380) dX8_qGoesOn_380 lf_X8_255 (ob hM123.1 s_277 (by decide)) fx_8_2 ?_
                  refine PW.inv (m' := mX8_fail) (pc := 383) dX8_qGoesOn_383 lm_X8_279 me_X8_fail mi_X8_fail (ob hM123.1 s_277 (by decide)) rfl (As := [.int 1, .int (mI M121 277 2)]) (st := []) rfl (Nat.le_of_ble_eq_true rfl) (Nat.le_of_ble_eq_true rfl) (Nat.le_of_eq hM123.1) (Nat.le_refl _) (PW.deep (by decide) (c_X8_fail  hM123 h)) ?_
                  rintro _ M124 ⟨hM126, rfl, h⟩
                  refine PW.iconst (pc := 386) dX8_qGoesOn_386 (v := 0) (by decide) ?_
                  exact PW.retI (pc := 387) dX8_qGoesOn_387 hM126.1 rfl (bz_n bz0) ⟨hM126, _, rfl, bz0, h⟩
            · have h := h.2 hc
              exact PW.drop (c_X8_qGoesOn_326  _ hM120 h) ⟨rfl, trivial⟩
        · have h := h.2 hc
          exact PW.drop (c_X8_qGoesOn_225  _ hM105 h) ⟨rfl, trivial⟩
    · have h := h.2 hc
      exact PW.drop (c_X8_qGoesOn_140  _ hM62 h) ⟨rfl, trivial⟩
def w_X8_qGoesOn  (M : pm) (Q : Int32 → pm → Prop) : Prop := ∃ n33, w_X8_qGoesOn_0 n33  M (fun M34 => w_X8_qGoesOn_122  M34  Q) Q
set_option maxRecDepth 4000 in
theorem c_X8_qGoesOn  {M : pm} {Q : Int32 → pm → Prop}  (hM : pG M) (h : w_X8_qGoesOn  M Q) : PW mX8_qGoesOn 4 350 0 (pfr mX8_qGoesOn.2.2.1 [.ref 277]) [] M (qZ Q) := by
  unfold w_X8_qGoesOn at h
  show PW mX8_qGoesOn 4 350 0 [.ref 277, .null] [] M (qZ Q)
  obtain ⟨n33, h⟩ := h
  refine PW.drop (c_X8_qGoesOn_0 ?_ n33 _ hM h) ⟨rfl, trivial⟩
  · intro M34 hM h
    exact PW.drop (c_X8_qGoesOn_122  _ hM h) ⟨rfl, trivial⟩
def w_X8_qSums_15 : Nat → Int32 → Int32 → pm → (Int32 → pm → Prop) → (pm → Prop) → Prop
  | 0, _, _, _, _, _ => False
  | n + 1, x1, x2, M, k53, Q => ((x2 = 0 → (k53 x1 M)) ∧ (¬ x2 = 0 → ((¬ (mI M 277 5) = 0 → (k53 x1 M)) ∧ ((mI M 277 5) = 0 → (w_X8_qPartTold  M (fun M1 => ((¬ (mI M1 277 5) = 0 → (w_X8_qSums_15 n x1 0 M1 k53 Q)) ∧ ((mI M1 277 5) = 0 → (w_X8_qGoesOn  M1 (fun y5 M4 => ((y5 = 0 → (w_X8_qSums_15 n x1 0 M4 k53 Q)) ∧ (¬ y5 = 0 → (w_X8_qSums_15 n x1 1 M4 k53 Q)))))))))))))
set_option maxRecDepth 4000 in
theorem c_X8_qSums_15 {k53 : Int32 → pm → Prop} {Q : pm → Prop} (hk53 : ∀ (x1 : Int32) (M : pm), pG M → k53 x1 M → PW mX8_qSums 7 350 53 [.ref 277, .int x1, .null] [] M (qV Q)) : ∀ (n : Nat) (x1 : Int32) (x2 : Int32) (M : pm), pG M → w_X8_qSums_15 n x1 x2 M k53 Q → PW mX8_qSums 7 350 15 [.ref 277, .int x1, .int x2] [] M (qV Q) := by
  intro n
  induction n with
  | zero => intro x1 x2 M hM h; exact h.elim
  | succ n ih =>
    intro x1 x2 M hM h
    unfold w_X8_qSums_15 at h
    refine PW.iload_n (pc := 15) dX8_qSums_15 rfl ?_
    refine PW.if_eq (pc := 16) dX8_qSums_16 (t := 53) (by decide) (fun hc => ?_) (fun hc => ?_)
    · have h := h.1 hc
      exact PW.drop (hk53 _ _ hM h) ⟨rfl, rfl, trivial⟩
    · have h := h.2 hc
      refine PW.aload_n (pc := 19) dX8_qSums_19 rfl ?_
      refine PW.getI (pc := 20) dX8_qSums_20 lf_X8_249 (ob hM.1 s_277 (by decide)) fx_8_5 ?_
      refine PW.if_ne (pc := 23) dX8_qSums_23 (t := 53) (by decide) (fun hc => ?_) (fun hc => ?_)
      · have h := h.1 hc
        exact PW.drop (hk53 _ _ hM h) ⟨rfl, rfl, trivial⟩
      · have h := h.2 hc
        refine PW.aload_n (pc := 26) dX8_qSums_26 rfl ?_
        refine PW.inv (m' := mX8_qPartTold) (pc := 27) dX8_qSums_27 lm_X8_619 me_X8_qPartTold mi_X8_qPartTold (ob hM.1 s_277 (by decide)) rfl (As := []) (st := []) rfl (Nat.le_of_ble_eq_true rfl) (Nat.le_of_ble_eq_true rfl) (Nat.le_of_eq hM.1) (Nat.le_refl _) (PW.deep (by decide) (c_X8_qPartTold  hM h)) ?_
        rintro _ M1 ⟨hM3, rfl, h⟩
        refine PW.aload_n (pc := 30) dX8_qSums_30 rfl ?_
        refine PW.getI (pc := 31) dX8_qSums_31 lf_X8_249 (ob hM3.1 s_277 (by decide)) fx_8_5 ?_
        refine PW.if_ne (pc := 34) dX8_qSums_34 (t := 48) (by decide) (fun hc => ?_) (fun hc => ?_)
        · have h := h.1 hc
          refine PW.iconst (pc := 48) dX8_qSums_48 (v := 0) (by decide) ?_
          refine PW.istore_n (pc := 49) dX8_qSums_49 (ls' := [.ref 277, .int x1, .int 0]) (by decide) rfl rfl ?_
          refine PW.goto (pc := 50) dX8_qSums_50 (t := 15) (by decide) ?_
          exact PW.drop (ih _ _ _ hM3 h) ⟨rfl, rfl, rfl, trivial⟩
        · have h := h.2 hc
          refine PW.aload_n (pc := 37) dX8_qSums_37 rfl ?_
          refine PW.inv (m' := mX8_qGoesOn) (pc := 38) dX8_qSums_38 lm_X8_622 me_X8_qGoesOn mi_X8_qGoesOn (ob hM3.1 s_277 (by decide)) rfl (As := []) (st := []) rfl (Nat.le_of_ble_eq_true rfl) (Nat.le_of_ble_eq_true rfl) (Nat.le_of_eq hM3.1) (Nat.le_refl _) (PW.deep (by decide) (c_X8_qGoesOn  hM3 h)) ?_
          rintro _ M4 ⟨hM6, y5, rfl, z7, h⟩
          refine PW.if_eq (pc := 41) dX8_qSums_41 (t := 48) (by decide) (fun hc => ?_) (fun hc => ?_)
          · have h := h.1 hc
            refine PW.iconst (pc := 48) dX8_qSums_48 (v := 0) (by decide) ?_
            refine PW.istore_n (pc := 49) dX8_qSums_49 (ls' := [.ref 277, .int x1, .int 0]) (by decide) rfl rfl ?_
            refine PW.goto (pc := 50) dX8_qSums_50 (t := 15) (by decide) ?_
            exact PW.drop (ih _ _ _ hM6 h) ⟨rfl, rfl, rfl, trivial⟩
          · have h := h.2 hc
            refine PW.iconst (pc := 44) dX8_qSums_44 (v := 1) (by decide) ?_
            refine PW.goto (pc := 45) dX8_qSums_45 (t := 49) (by decide) ?_
            refine PW.istore_n (pc := 49) dX8_qSums_49 (ls' := [.ref 277, .int x1, .int 1]) (by decide) rfl rfl ?_
            refine PW.goto (pc := 50) dX8_qSums_50 (t := 15) (by decide) ?_
            exact PW.drop (ih _ _ _ hM6 h) ⟨rfl, rfl, rfl, trivial⟩
def w_X8_qSums_53 : Nat → Int32 → pm → (pm → Prop) → Prop
  | 0, _, _, _ => False
  | n + 1, x1, M, Q => ((¬ (mI M 277 5) = 0 → (Q (sI M 277 100 x1))) ∧ ((mI M 277 5) = 0 → (((mI M 277 98) ≤ (mI M 277 100) → (Q (sI M 277 100 x1))) ∧ (¬ (mI M 277 98) ≤ (mI M 277 100) → (w_X8_qDrops  M (fun M10 => w_X8_qSums_53 n x1 M10 Q))))))
set_option maxRecDepth 4000 in
theorem c_X8_qSums_53  {Q : pm → Prop}  : ∀ (n : Nat) (x1 : Int32) (M : pm), pG M → w_X8_qSums_53 n x1 M  Q → PW mX8_qSums 7 350 53 [.ref 277, .int x1, .null] [] M (qV Q) := by
  intro n
  induction n with
  | zero => intro x1 M hM h; exact h.elim
  | succ n ih =>
    intro x1 M hM h
    unfold w_X8_qSums_53 at h
    refine PW.aload_n (pc := 53) dX8_qSums_53 rfl ?_
    refine PW.getI (pc := 54) dX8_qSums_54 lf_X8_249 (ob hM.1 s_277 (by decide)) fx_8_5 ?_
    refine PW.if_ne (pc := 57) dX8_qSums_57 (t := 78) (by decide) (fun hc => ?_) (fun hc => ?_)
    · have h := h.1 hc
      refine PW.aload_n (pc := 78) dX8_qSums_78 rfl ?_
      refine PW.iload_n (pc := 79) dX8_qSums_79 rfl ?_
      refine PW.putI (pc := 80) dX8_qSums_80 lf_X8_346 (ob hM.1 s_277 (by decide)) fx_8_100 fw_8_100 rfl rfl ?_
      exact PW.ret0 (pc := 83) dX8_qSums_83 hM.1 rfl ⟨(hM.same rfl rfl), rfl, h⟩
    · have h := h.2 hc
      refine PW.aload_n (pc := 60) dX8_qSums_60 rfl ?_
      refine PW.getI (pc := 61) dX8_qSums_61 lf_X8_340 (ob hM.1 s_277 (by decide)) fx_8_98 ?_
      refine PW.aload_n (pc := 64) dX8_qSums_64 rfl ?_
      refine PW.getI (pc := 65) dX8_qSums_65 lf_X8_346 (ob hM.1 s_277 (by decide)) fx_8_100 ?_
      refine PW.icmp_le (pc := 68) dX8_qSums_68 (t := 78) (by decide) (fun hc => ?_) (fun hc => ?_)
      · have h := h.1 hc
        refine PW.aload_n (pc := 78) dX8_qSums_78 rfl ?_
        refine PW.iload_n (pc := 79) dX8_qSums_79 rfl ?_
        refine PW.putI (pc := 80) dX8_qSums_80 lf_X8_346 (ob hM.1 s_277 (by decide)) fx_8_100 fw_8_100 rfl rfl ?_
        exact PW.ret0 (pc := 83) dX8_qSums_83 hM.1 rfl ⟨(hM.same rfl rfl), rfl, h⟩
      · have h := h.2 hc
        refine PW.aload_n (pc := 71) dX8_qSums_71 rfl ?_
        refine PW.inv (m' := mX8_qDrops) (pc := 72) dX8_qSums_72 lm_X8_589 me_X8_qDrops mi_X8_qDrops (ob hM.1 s_277 (by decide)) rfl (As := []) (st := []) rfl (Nat.le_of_ble_eq_true rfl) (Nat.le_of_ble_eq_true rfl) (Nat.le_of_eq hM.1) (Nat.le_refl _) (PW.deep (by decide) (c_X8_qDrops  hM h)) ?_
        rintro _ M10 ⟨hM12, rfl, h⟩
        refine PW.goto (pc := 75) dX8_qSums_75 (t := 53) (by decide) ?_
        exact PW.drop (ih _ _ hM12 h) ⟨rfl, rfl, trivial⟩
def w_X8_qSums  (M : pm) (Q : pm → Prop) : Prop := ∃ n8, w_X8_qSums_15 n8 (mI M 277 100) 1 (sI M 277 100 (mI M 277 98)) (fun x1 M9 => ∃ n13, w_X8_qSums_53 n13 x1 M9  Q) Q
set_option maxRecDepth 4000 in
theorem c_X8_qSums  {M : pm} {Q : pm → Prop}  (hM : pG M) (h : w_X8_qSums  M Q) : PW mX8_qSums 7 350 0 (pfr mX8_qSums.2.2.1 [.ref 277]) [] M (qV Q) := by
  unfold w_X8_qSums at h
  show PW mX8_qSums 7 350 0 [.ref 277, .null, .null] [] M (qV Q)
  refine PW.aload_n (pc := 0) dX8_qSums_0 rfl ?_
  refine PW.getI (pc := 1) dX8_qSums_1 lf_X8_346 (ob hM.1 s_277 (by decide)) fx_8_100 ?_
  refine PW.istore_n (pc := 4) dX8_qSums_4 (ls' := [.ref 277, .int (mI M 277 100), .null]) (by decide) rfl rfl ?_
  refine PW.aload_n (pc := 5) dX8_qSums_5 rfl ?_
  refine PW.aload_n (pc := 6) dX8_qSums_6 rfl ?_
  refine PW.getI (pc := 7) dX8_qSums_7 lf_X8_340 (ob hM.1 s_277 (by decide)) fx_8_98 ?_
  refine PW.putI (pc := 10) dX8_qSums_10 lf_X8_346 (ob hM.1 s_277 (by decide)) fx_8_100 fw_8_100 rfl rfl ?_
  refine PW.iconst (pc := 13) dX8_qSums_13 (v := 1) (by decide) ?_
  refine PW.istore_n (pc := 14) dX8_qSums_14 (ls' := [.ref 277, .int (mI M 277 100), .int 1]) (by decide) rfl rfl ?_
  obtain ⟨n8, h⟩ := h
  refine PW.drop (c_X8_qSums_15 ?_ n8 _ _ _ (hM.same rfl rfl) h) ⟨rfl, rfl, rfl, trivial⟩
  · intro x1 M9 hM h
    obtain ⟨n13, h⟩ := h
    refine PW.drop (c_X8_qSums_53  n13 _ _ hM h) ⟨rfl, rfl, trivial⟩
def w_X8_qFact_63  (x1 : Int32) (M : pm)  (Q : pm → Prop) : Prop := w_X8_qSums  (sI M 277 2 ((mI M 277 2) + 1)) (fun M11 => ((¬ x1 = 60 → ((¬ x1 = 62 → (w_X8_qCode 9 M11 (fun M14 => Q M14))) ∧ (x1 = 62 → (w_X8_qCode 8 M11 (fun M17 => Q M17))))) ∧ (x1 = 60 → (w_X8_qCode 7 M11 (fun M20 => Q M20)))))
set_option maxRecDepth 4000 in
theorem c_X8_qFact_63  {Q : pm → Prop}  : ∀ (x1 : Int32) (M : pm), pG M → w_X8_qFact_63 x1 M  Q → PW mX8_qFact 8 350 63 [.ref 277, .int x1] [] M (qV Q) := by
  intro x1 M hM h
  unfold w_X8_qFact_63 at h
  refine PW.aload_n (pc := 63) dX8_qFact_63 rfl ?_
  refine PW.dupR (pc := 64) dX8_qFact_64 ?_
  refine PW.getI (pc := 65) dX8_qFact_65 lf_X8_255 (ob hM.1 s_277 (by decide)) fx_8_2 ?_
  refine PW.iconst (pc := 68) dX8_qFact_68 (v := 1) (by decide) ?_
  refine PW.iadd (pc := 69) dX8_qFact_69 ?_
  refine PW.putI (pc := 70) dX8_qFact_70 lf_X8_255 (ob hM.1 s_277 (by decide)) fx_8_2 fw_8_2 rfl rfl ?_
  refine PW.aload_n (pc := 73) dX8_qFact_73 rfl ?_
  refine PW.inv (m' := mX8_qSums) (pc := 74) dX8_qFact_74 lm_X8_352 me_X8_qSums mi_X8_qSums (ob hM.1 s_277 (by decide)) rfl (As := []) (st := []) rfl (Nat.le_of_ble_eq_true rfl) (Nat.le_of_ble_eq_true rfl) (Nat.le_of_eq hM.1) (Nat.le_refl _) (PW.deep (by decide) (c_X8_qSums  (hM.same rfl rfl) h)) ?_
  rintro _ M11 ⟨hM13, rfl, h⟩
  refine PW.aload_n (pc := 77) dX8_qFact_77 rfl ?_
  refine PW.iload_n (pc := 78) dX8_qFact_78 rfl ?_
  refine PW.bipush (pc := 79) dX8_qFact_79 (v := 60) (by decide) ?_
  refine PW.icmp_ne (pc := 81) dX8_qFact_81 (t := 89) (by decide) (fun hc => ?_) (fun hc => ?_)
  · have h := h.1 hc
    refine PW.iload_n (pc := 89) dX8_qFact_89 rfl ?_
    refine PW.bipush (pc := 90) dX8_qFact_90 (v := 62) (by decide) ?_
    refine PW.icmp_ne (pc := 92) dX8_qFact_92 (t := 100) (by decide) (fun hc => ?_) (fun hc => ?_)
    · have h := h.1 hc
      refine PW.bipush (pc := 100) dX8_qFact_100 (v := 9) (by decide) ?_
      refine PW.inv (m' := mX8_qCode) (pc := 102) dX8_qFact_102 lm_X8_583 me_X8_qCode mi_X8_qCode (ob hM13.1 s_277 (by decide)) rfl (As := [.int 9]) (st := []) rfl (Nat.le_of_ble_eq_true rfl) (Nat.le_of_ble_eq_true rfl) (Nat.le_of_eq hM13.1) (Nat.le_refl _) (PW.deep (by decide) (c_X8_qCode  hM13 h)) ?_
      rintro _ M14 ⟨hM16, rfl, h⟩
      exact PW.ret0 (pc := 105) dX8_qFact_105 hM16.1 rfl ⟨hM16, rfl, h⟩
    · have h := h.2 hc
      refine PW.bipush (pc := 95) dX8_qFact_95 (v := 8) (by decide) ?_
      refine PW.goto (pc := 97) dX8_qFact_97 (t := 102) (by decide) ?_
      refine PW.inv (m' := mX8_qCode) (pc := 102) dX8_qFact_102 lm_X8_583 me_X8_qCode mi_X8_qCode (ob hM13.1 s_277 (by decide)) rfl (As := [.int 8]) (st := []) rfl (Nat.le_of_ble_eq_true rfl) (Nat.le_of_ble_eq_true rfl) (Nat.le_of_eq hM13.1) (Nat.le_refl _) (PW.deep (by decide) (c_X8_qCode  hM13 h)) ?_
      rintro _ M17 ⟨hM19, rfl, h⟩
      exact PW.ret0 (pc := 105) dX8_qFact_105 hM19.1 rfl ⟨hM19, rfl, h⟩
  · have h := h.2 hc
    refine PW.bipush (pc := 84) dX8_qFact_84 (v := 7) (by decide) ?_
    refine PW.goto (pc := 86) dX8_qFact_86 (t := 102) (by decide) ?_
    refine PW.inv (m' := mX8_qCode) (pc := 102) dX8_qFact_102 lm_X8_583 me_X8_qCode mi_X8_qCode (ob hM13.1 s_277 (by decide)) rfl (As := [.int 7]) (st := []) rfl (Nat.le_of_ble_eq_true rfl) (Nat.le_of_ble_eq_true rfl) (Nat.le_of_eq hM13.1) (Nat.le_refl _) (PW.deep (by decide) (c_X8_qCode  hM13 h)) ?_
    rintro _ M20 ⟨hM22, rfl, h⟩
    exact PW.ret0 (pc := 105) dX8_qFact_105 hM22.1 rfl ⟨hM22, rfl, h⟩
def w_X8_qFact  (M : pm) (Q : pm → Prop) : Prop := w_X8_takes 335 M (fun y2 M1 => ((y2 = 0 → (w_X8_qSums  M1 (fun M5 => (((mI M5 277 5) = 0 → (w_X8_look  M5 (fun y9 M8 => ((y9 = 60 → (w_X8_qFact_63 y9 M8  Q)) ∧ (¬ y9 = 60 → ((y9 = 62 → (w_X8_qFact_63 y9 M8  Q)) ∧ (¬ y9 = 62 → ((y9 = 61 → (w_X8_qFact_63 y9 M8  Q)) ∧ (¬ y9 = 61 → (w_X8_fail 1 (mI M8 277 2) M8 (fun M23 => Q M23))))))))))) ∧ (¬ (mI M5 277 5) = 0 → (Q M5)))))) ∧ (¬ y2 = 0 → (w_X8_qCode 13 M1 (fun M26 => Q M26)))))
set_option maxRecDepth 4000 in
theorem c_X8_qFact  {M : pm} {Q : pm → Prop}  (hM : pG M) (h : w_X8_qFact  M Q) : PW mX8_qFact 8 350 0 (pfr mX8_qFact.2.2.1 [.ref 277]) [] M (qV Q) := by
  unfold w_X8_qFact at h
  show PW mX8_qFact 8 350 0 [.ref 277, .null] [] M (qV Q)
  refine PW.aload_n (pc := 0) dX8_qFact_0 rfl ?_
  refine PW.aload_n (pc := 1) dX8_qFact_1 rfl ?_
  refine PW.getR (pc := 2) dX8_qFact_2 (r := 335) lf_X8_192 (ob hM.1 s_277 (by decide)) fx_8_81 (oR_8_81 hM s_277) (pS_ne s_335) ?_
  refine PW.inv (m' := mX8_takes) (pc := 5) dX8_qFact_5 lm_X8_276 me_X8_takes mi_X8_takes (ob hM.1 s_277 (by decide)) rfl (As := [.ref 335]) (st := []) rfl (Nat.le_of_ble_eq_true rfl) (Nat.le_of_ble_eq_true rfl) (Nat.le_of_eq hM.1) (Nat.le_refl _) (PW.deep (by decide) (c_X8_takes s_335 hM h)) ?_
  rintro _ M1 ⟨hM3, y2, rfl, z4, h⟩
  refine PW.if_eq (pc := 8) dX8_qFact_8 (t := 18) (by decide) (fun hc => ?_) (fun hc => ?_)
  · have h := h.1 hc
    refine PW.aload_n (pc := 18) dX8_qFact_18 rfl ?_
    refine PW.inv (m' := mX8_qSums) (pc := 19) dX8_qFact_19 lm_X8_352 me_X8_qSums mi_X8_qSums (ob hM3.1 s_277 (by decide)) rfl (As := []) (st := []) rfl (Nat.le_of_ble_eq_true rfl) (Nat.le_of_ble_eq_true rfl) (Nat.le_of_eq hM3.1) (Nat.le_refl _) (PW.deep (by decide) (c_X8_qSums  hM3 h)) ?_
    rintro _ M5 ⟨hM7, rfl, h⟩
    refine PW.aload_n (pc := 22) dX8_qFact_22 rfl ?_
    refine PW.getI (pc := 23) dX8_qFact_23 lf_X8_249 (ob hM7.1 s_277 (by decide)) fx_8_5 ?_
    refine PW.if_eq (pc := 26) dX8_qFact_26 (t := 30) (by decide) (fun hc => ?_) (fun hc => ?_)
    · have h := h.1 hc
      refine PW.aload_n (pc := 30) dX8_qFact_30 rfl ?_
      refine PW.inv (m' := mX8_look) (pc := 31) dX8_qFact_31 lm_X8_261 me_X8_look mi_X8_look (ob hM7.1 s_277 (by decide)) rfl (As := []) (st := []) rfl (Nat.le_of_ble_eq_true rfl) (Nat.le_of_ble_eq_true rfl) (Nat.le_of_eq hM7.1) (Nat.le_refl _) (PW.deep (by decide) (c_X8_look  hM7 h)) ?_
      rintro _ M8 ⟨hM10, y9, rfl, h⟩
      refine PW.istore_n (pc := 34) dX8_qFact_34 (ls' := [.ref 277, .int y9]) (by decide) rfl rfl ?_
      refine PW.iload_n (pc := 35) dX8_qFact_35 rfl ?_
      refine PW.bipush (pc := 36) dX8_qFact_36 (v := 60) (by decide) ?_
      refine PW.icmp_eq (pc := 38) dX8_qFact_38 (t := 63) (by decide) (fun hc => ?_) (fun hc => ?_)
      · have h := h.1 hc
        exact PW.drop (c_X8_qFact_63  _ _ hM10 h) ⟨rfl, rfl, trivial⟩
      · have h := h.2 hc
        refine PW.iload_n (pc := 41) dX8_qFact_41 rfl ?_
        refine PW.bipush (pc := 42) dX8_qFact_42 (v := 62) (by decide) ?_
        refine PW.icmp_eq (pc := 44) dX8_qFact_44 (t := 63) (by decide) (fun hc => ?_) (fun hc => ?_)
        · have h := h.1 hc
          exact PW.drop (c_X8_qFact_63  _ _ hM10 h) ⟨rfl, rfl, trivial⟩
        · have h := h.2 hc
          refine PW.iload_n (pc := 47) dX8_qFact_47 rfl ?_
          refine PW.bipush (pc := 48) dX8_qFact_48 (v := 61) (by decide) ?_
          refine PW.icmp_eq (pc := 50) dX8_qFact_50 (t := 63) (by decide) (fun hc => ?_) (fun hc => ?_)
          · have h := h.1 hc
            exact PW.drop (c_X8_qFact_63  _ _ hM10 h) ⟨rfl, rfl, trivial⟩
          · have h := h.2 hc
            refine PW.aload_n (pc := 53) dX8_qFact_53 rfl ?_
            refine PW.iconst (pc := 54) dX8_qFact_54 (v := 1) (by decide) ?_
            refine PW.aload_n (pc := 55) dX8_qFact_55 rfl ?_
            refine PW.getI (pc := 56) dX8_qFact_56 lf_X8_255 (ob hM10.1 s_277 (by decide)) fx_8_2 ?_
            refine PW.inv (m' := mX8_fail) (pc := 59) dX8_qFact_59 lm_X8_279 me_X8_fail mi_X8_fail (ob hM10.1 s_277 (by decide)) rfl (As := [.int 1, .int (mI M8 277 2)]) (st := []) rfl (Nat.le_of_ble_eq_true rfl) (Nat.le_of_ble_eq_true rfl) (Nat.le_of_eq hM10.1) (Nat.le_refl _) (PW.deep (by decide) (c_X8_fail  hM10 h)) ?_
            rintro _ M23 ⟨hM25, rfl, h⟩
            exact PW.ret0 (pc := 62) dX8_qFact_62 hM25.1 rfl ⟨hM25, rfl, h⟩
    · have h := h.2 hc
      exact PW.ret0 (pc := 29) dX8_qFact_29 hM7.1 rfl ⟨hM7, rfl, h⟩
  · have h := h.2 hc
    refine PW.aload_n (pc := 11) dX8_qFact_11 rfl ?_
    refine PW.bipush (pc := 12) dX8_qFact_12 (v := 13) (by decide) ?_
    refine PW.inv (m' := mX8_qCode) (pc := 14) dX8_qFact_14 lm_X8_583 me_X8_qCode mi_X8_qCode (ob hM3.1 s_277 (by decide)) rfl (As := [.int 13]) (st := []) rfl (Nat.le_of_ble_eq_true rfl) (Nat.le_of_ble_eq_true rfl) (Nat.le_of_eq hM3.1) (Nat.le_refl _) (PW.deep (by decide) (c_X8_qCode  hM3 h)) ?_
    rintro _ M26 ⟨hM28, rfl, h⟩
    exact PW.ret0 (pc := 17) dX8_qFact_17 hM28.1 rfl ⟨hM28, rfl, h⟩
def w_X8_qDropsNots_0 : Nat → pm → (pm → Prop) → Prop
  | 0, _, _ => False
  | n + 1, M, Q => ((¬ (mI M 277 5) = 0 → (Q M)) ∧ ((mI M 277 5) = 0 → (w_X8_qIsOn 12 M (fun y2 M1 => ((y2 = 0 → (Q M1)) ∧ (¬ y2 = 0 → (w_X8_qDrops  (sI M1 277 99 ((mI M1 277 99) - 1)) (fun M5 => w_X8_qDropsNots_0 n M5 Q))))))))
set_option maxRecDepth 4000 in
theorem c_X8_qDropsNots_0  {Q : pm → Prop}  : ∀ (n : Nat)  (M : pm), pG M → w_X8_qDropsNots_0 n  M  Q → PW mX8_qDropsNots 3 350 0 [.ref 277] [] M (qV Q) := by
  intro n
  induction n with
  | zero => intro M hM h; exact h.elim
  | succ n ih =>
    intro M hM h
    unfold w_X8_qDropsNots_0 at h
    refine PW.aload_n (pc := 0) dX8_qDropsNots_0 rfl ?_
    refine PW.getI (pc := 1) dX8_qDropsNots_1 lf_X8_249 (ob hM.1 s_277 (by decide)) fx_8_5 ?_
    refine PW.if_ne (pc := 4) dX8_qDropsNots_4 (t := 33) (by decide) (fun hc => ?_) (fun hc => ?_)
    · have h := h.1 hc
      exact PW.ret0 (pc := 33) dX8_qDropsNots_33 hM.1 rfl ⟨hM, rfl, h⟩
    · have h := h.2 hc
      refine PW.aload_n (pc := 7) dX8_qDropsNots_7 rfl ?_
      refine PW.bipush (pc := 8) dX8_qDropsNots_8 (v := 12) (by decide) ?_
      refine PW.inv (m' := mX8_qIsOn) (pc := 10) dX8_qDropsNots_10 lm_X8_616 me_X8_qIsOn mi_X8_qIsOn (ob hM.1 s_277 (by decide)) rfl (As := [.int 12]) (st := []) rfl (Nat.le_of_ble_eq_true rfl) (Nat.le_of_ble_eq_true rfl) (Nat.le_of_eq hM.1) (Nat.le_refl _) (PW.deep (by decide) (c_X8_qIsOn  hM h)) ?_
      rintro _ M1 ⟨hM3, y2, rfl, z4, h⟩
      refine PW.if_eq (pc := 13) dX8_qDropsNots_13 (t := 33) (by decide) (fun hc => ?_) (fun hc => ?_)
      · have h := h.1 hc
        exact PW.ret0 (pc := 33) dX8_qDropsNots_33 hM3.1 rfl ⟨hM3, rfl, h⟩
      · have h := h.2 hc
        refine PW.aload_n (pc := 16) dX8_qDropsNots_16 rfl ?_
        refine PW.dupR (pc := 17) dX8_qDropsNots_17 ?_
        refine PW.getI (pc := 18) dX8_qDropsNots_18 lf_X8_343 (ob hM3.1 s_277 (by decide)) fx_8_99 ?_
        refine PW.iconst (pc := 21) dX8_qDropsNots_21 (v := 1) (by decide) ?_
        refine PW.isub (pc := 22) dX8_qDropsNots_22 ?_
        refine PW.putI (pc := 23) dX8_qDropsNots_23 lf_X8_343 (ob hM3.1 s_277 (by decide)) fx_8_99 fw_8_99 rfl rfl ?_
        refine PW.aload_n (pc := 26) dX8_qDropsNots_26 rfl ?_
        refine PW.inv (m' := mX8_qDrops) (pc := 27) dX8_qDropsNots_27 lm_X8_589 me_X8_qDrops mi_X8_qDrops (ob hM3.1 s_277 (by decide)) rfl (As := []) (st := []) rfl (Nat.le_of_ble_eq_true rfl) (Nat.le_of_ble_eq_true rfl) (Nat.le_of_eq hM3.1) (Nat.le_refl _) (PW.deep (by decide) (c_X8_qDrops  (hM3.same rfl rfl) h)) ?_
        rintro _ M5 ⟨hM7, rfl, h⟩
        refine PW.goto (pc := 30) dX8_qDropsNots_30 (t := 0) (by decide) ?_
        exact PW.drop (ih _ hM7 h) ⟨rfl, trivial⟩
def w_X8_qDropsNots  (M : pm) (Q : pm → Prop) : Prop := ∃ n8, w_X8_qDropsNots_0 n8  M  Q
set_option maxRecDepth 4000 in
theorem c_X8_qDropsNots  {M : pm} {Q : pm → Prop}  (hM : pG M) (h : w_X8_qDropsNots  M Q) : PW mX8_qDropsNots 3 350 0 (pfr mX8_qDropsNots.2.2.1 [.ref 277]) [] M (qV Q) := by
  unfold w_X8_qDropsNots at h
  show PW mX8_qDropsNots 3 350 0 [.ref 277] [] M (qV Q)
  obtain ⟨n8, h⟩ := h
  refine PW.drop (c_X8_qDropsNots_0  n8 _ hM h) ⟨rfl, trivial⟩
def w_X8_qHasSquare_2 : Nat → Int32 → pm → (Int32 → pm → Prop) → Prop
  | 0, _, _, _ => False
  | n + 1, x1, M, Q => (((mI M 277 98) ≤ x1 → (Q 0 M)) ∧ (¬ (mI M 277 98) ≤ x1 → (vp_in x1 1700 ∧ ((¬ (mI M 350 x1.toNatClampNeg) = 25 → (w_X8_qHasSquare_2 n (x1 + 1) M Q)) ∧ ((mI M 350 x1.toNatClampNeg) = 25 → (Q 1 M))))))
set_option maxRecDepth 4000 in
theorem c_X8_qHasSquare_2  {Q : Int32 → pm → Prop}  : ∀ (n : Nat) (x1 : Int32) (M : pm), pG M → w_X8_qHasSquare_2 n x1 M  Q → PW mX8_qHasSquare 1 350 2 [.ref 277, .int x1] [] M (qZ Q) := by
  intro n
  induction n with
  | zero => intro x1 M hM h; exact h.elim
  | succ n ih =>
    intro x1 M hM h
    unfold w_X8_qHasSquare_2 at h
    refine PW.iload_n (pc := 2) dX8_qHasSquare_2 rfl ?_
    refine PW.aload_n (pc := 3) dX8_qHasSquare_3 rfl ?_
    refine PW.getI (pc := 4) dX8_qHasSquare_4 lf_X8_340 (ob hM.1 s_277 (by decide)) fx_8_98 ?_
    refine PW.icmp_ge (pc := 7) dX8_qHasSquare_7 (t := 29) (by decide) (fun hc => ?_) (fun hc => ?_)
    · have h := h.1 hc
      refine PW.iconst (pc := 29) dX8_qHasSquare_29 (v := 0) (by decide) ?_
      exact PW.retI (pc := 30) dX8_qHasSquare_30 hM.1 rfl (bz_n bz0) ⟨hM, _, rfl, bz0, h⟩
    · have h := h.2 hc
      refine PW.aload_n (pc := 10) dX8_qHasSquare_10 rfl ?_
      refine PW.getR (pc := 11) dX8_qHasSquare_11 (r := 350) lf_X8_237 (ob hM.1 s_277 (by decide)) fx_8_97 (oR_8_97 hM s_277) (pS_ne s_350) ?_
      refine PW.iload_n (pc := 14) dX8_qHasSquare_14 rfl ?_
      obtain ⟨v1, h⟩ := h
      refine PW.iald (pc := 15) dX8_qHasSquare_15 (ar hM.1 s_350) (vpl n_350 v1) ?_
      refine PW.bipush (pc := 16) dX8_qHasSquare_16 (v := 25) (by decide) ?_
      refine PW.icmp_ne (pc := 18) dX8_qHasSquare_18 (t := 23) (by decide) (fun hc => ?_) (fun hc => ?_)
      · have h := h.1 hc
        refine PW.iinc (pc := 23) dX8_qHasSquare_23 (v := (x1 + 1)) (ls' := [.ref 277, .int (x1 + 1)]) rfl rfl (by decide) rfl rfl ?_
        refine PW.goto (pc := 26) dX8_qHasSquare_26 (t := 2) (by decide) ?_
        exact PW.drop (ih _ _ hM h) ⟨rfl, rfl, trivial⟩
      · have h := h.2 hc
        refine PW.iconst (pc := 21) dX8_qHasSquare_21 (v := 1) (by decide) ?_
        exact PW.retI (pc := 22) dX8_qHasSquare_22 hM.1 rfl (bz_n bz1) ⟨hM, _, rfl, bz1, h⟩
def w_X8_qHasSquare  (M : pm) (Q : Int32 → pm → Prop) : Prop := ∃ n2, w_X8_qHasSquare_2 n2 0 M  Q
set_option maxRecDepth 4000 in
theorem c_X8_qHasSquare  {M : pm} {Q : Int32 → pm → Prop}  (hM : pG M) (h : w_X8_qHasSquare  M Q) : PW mX8_qHasSquare 1 350 0 (pfr mX8_qHasSquare.2.2.1 [.ref 277]) [] M (qZ Q) := by
  unfold w_X8_qHasSquare at h
  show PW mX8_qHasSquare 1 350 0 [.ref 277, .null] [] M (qZ Q)
  refine PW.iconst (pc := 0) dX8_qHasSquare_0 (v := 0) (by decide) ?_
  refine PW.istore_n (pc := 1) dX8_qHasSquare_1 (ls' := [.ref 277, .int 0]) (by decide) rfl rfl ?_
  obtain ⟨n2, h⟩ := h
  refine PW.drop (c_X8_qHasSquare_2  n2 _ _ hM h) ⟨rfl, rfl, trivial⟩
def w_X8_qGoesOnTest_33 : Nat → pm → (pm → Prop) → (Int32 → pm → Prop) → Prop
  | 0, _, _, _ => False
  | n + 1, M, k49, Q => w_X8_qIsOn 25 M (fun y9 M8 => ((¬ y9 = 0 → (k49  M8)) ∧ (y9 = 0 → (w_X8_qDrops  M8 (fun M12 => w_X8_qGoesOnTest_33 n M12 k49 Q)))))
set_option maxRecDepth 4000 in
theorem c_X8_qGoesOnTest_33 {k49 : pm → Prop} {Q : Int32 → pm → Prop} (hk49 : ∀  (M : pm), pG M → k49  M → PW mX8_qGoesOnTest 4 350 49 [.ref 277] [] M (qZ Q)) : ∀ (n : Nat)  (M : pm), pG M → w_X8_qGoesOnTest_33 n  M k49 Q → PW mX8_qGoesOnTest 4 350 33 [.ref 277] [] M (qZ Q) := by
  intro n
  induction n with
  | zero => intro M hM h; exact h.elim
  | succ n ih =>
    intro M hM h
    unfold w_X8_qGoesOnTest_33 at h
    refine PW.aload_n (pc := 33) dX8_qGoesOnTest_33 rfl ?_
    refine PW.bipush (pc := 34) dX8_qGoesOnTest_34 (v := 25) (by decide) ?_
    refine PW.inv (m' := mX8_qIsOn) (pc := 36) dX8_qGoesOnTest_36 lm_X8_616 me_X8_qIsOn mi_X8_qIsOn (ob hM.1 s_277 (by decide)) rfl (As := [.int 25]) (st := []) rfl (Nat.le_of_ble_eq_true rfl) (Nat.le_of_ble_eq_true rfl) (Nat.le_of_eq hM.1) (Nat.le_refl _) (PW.deep (by decide) (c_X8_qIsOn  hM h)) ?_
    rintro _ M8 ⟨hM10, y9, rfl, z11, h⟩
    refine PW.if_ne (pc := 39) dX8_qGoesOnTest_39 (t := 49) (by decide) (fun hc => ?_) (fun hc => ?_)
    · have h := h.1 hc
      exact PW.drop (hk49 _ hM10 h) ⟨rfl, trivial⟩
    · have h := h.2 hc
      refine PW.aload_n (pc := 42) dX8_qGoesOnTest_42 rfl ?_
      refine PW.inv (m' := mX8_qDrops) (pc := 43) dX8_qGoesOnTest_43 lm_X8_589 me_X8_qDrops mi_X8_qDrops (ob hM10.1 s_277 (by decide)) rfl (As := []) (st := []) rfl (Nat.le_of_ble_eq_true rfl) (Nat.le_of_ble_eq_true rfl) (Nat.le_of_eq hM10.1) (Nat.le_refl _) (PW.deep (by decide) (c_X8_qDrops  hM10 h)) ?_
      rintro _ M12 ⟨hM14, rfl, h⟩
      refine PW.goto (pc := 46) dX8_qGoesOnTest_46 (t := 33) (by decide) ?_
      exact PW.drop (ih _ hM14 h) ⟨rfl, trivial⟩
def w_X8_qGoesOnTest_0 : Nat → pm → (pm → Prop) → (Int32 → pm → Prop) → Prop
  | 0, _, _, _ => False
  | n + 1, M, k76, Q => ((¬ (mI M 277 5) = 0 → (k76  M)) ∧ ((mI M 277 5) = 0 → (w_X8_look  M (fun y2 M1 => ((¬ y2 = 93 → (k76  M1)) ∧ (y2 = 93 → (w_X8_qHasSquare  M1 (fun y5 M4 => ((y5 = 0 → (k76  M4)) ∧ (¬ y5 = 0 → (∃ n15, w_X8_qGoesOnTest_33 n15  (sI M4 277 2 ((mI M4 277 2) + 1)) (fun M16 => w_X8_qDropsNots  (sI (sI M16 277 98 ((mI M16 277 98) - 1)) 277 99 ((mI M16 277 99) - 1)) (fun M17 => w_X8_qGoesOnTest_0 n M17 k76 Q)) Q)))))))))))
set_option maxRecDepth 4000 in
theorem c_X8_qGoesOnTest_0 {k76 : pm → Prop} {Q : Int32 → pm → Prop} (hk76 : ∀  (M : pm), pG M → k76  M → PW mX8_qGoesOnTest 4 350 76 [.ref 277] [] M (qZ Q)) : ∀ (n : Nat)  (M : pm), pG M → w_X8_qGoesOnTest_0 n  M k76 Q → PW mX8_qGoesOnTest 4 350 0 [.ref 277] [] M (qZ Q) := by
  intro n
  induction n with
  | zero => intro M hM h; exact h.elim
  | succ n ih =>
    intro M hM h
    unfold w_X8_qGoesOnTest_0 at h
    refine PW.aload_n (pc := 0) dX8_qGoesOnTest_0 rfl ?_
    refine PW.getI (pc := 1) dX8_qGoesOnTest_1 lf_X8_249 (ob hM.1 s_277 (by decide)) fx_8_5 ?_
    refine PW.if_ne (pc := 4) dX8_qGoesOnTest_4 (t := 76) (by decide) (fun hc => ?_) (fun hc => ?_)
    · have h := h.1 hc
      exact PW.drop (hk76 _ hM h) ⟨rfl, trivial⟩
    · have h := h.2 hc
      refine PW.aload_n (pc := 7) dX8_qGoesOnTest_7 rfl ?_
      refine PW.inv (m' := mX8_look) (pc := 8) dX8_qGoesOnTest_8 lm_X8_261 me_X8_look mi_X8_look (ob hM.1 s_277 (by decide)) rfl (As := []) (st := []) rfl (Nat.le_of_ble_eq_true rfl) (Nat.le_of_ble_eq_true rfl) (Nat.le_of_eq hM.1) (Nat.le_refl _) (PW.deep (by decide) (c_X8_look  hM h)) ?_
      rintro _ M1 ⟨hM3, y2, rfl, h⟩
      refine PW.bipush (pc := 11) dX8_qGoesOnTest_11 (v := 93) (by decide) ?_
      refine PW.icmp_ne (pc := 13) dX8_qGoesOnTest_13 (t := 76) (by decide) (fun hc => ?_) (fun hc => ?_)
      · have h := h.1 hc
        exact PW.drop (hk76 _ hM3 h) ⟨rfl, trivial⟩
      · have h := h.2 hc
        refine PW.aload_n (pc := 16) dX8_qGoesOnTest_16 rfl ?_
        refine PW.inv (m' := mX8_qHasSquare) (pc := 17) dX8_qGoesOnTest_17 lm_X8_634 me_X8_qHasSquare mi_X8_qHasSquare (ob hM3.1 s_277 (by decide)) rfl (As := []) (st := []) rfl (Nat.le_of_ble_eq_true rfl) (Nat.le_of_ble_eq_true rfl) (Nat.le_of_eq hM3.1) (Nat.le_refl _) (PW.deep (by decide) (c_X8_qHasSquare  hM3 h)) ?_
        rintro _ M4 ⟨hM6, y5, rfl, z7, h⟩
        refine PW.if_eq (pc := 20) dX8_qGoesOnTest_20 (t := 76) (by decide) (fun hc => ?_) (fun hc => ?_)
        · have h := h.1 hc
          exact PW.drop (hk76 _ hM6 h) ⟨rfl, trivial⟩
        · have h := h.2 hc
          refine PW.aload_n (pc := 23) dX8_qGoesOnTest_23 rfl ?_
          refine PW.dupR (pc := 24) dX8_qGoesOnTest_24 ?_
          refine PW.getI (pc := 25) dX8_qGoesOnTest_25 lf_X8_255 (ob hM6.1 s_277 (by decide)) fx_8_2 ?_
          refine PW.iconst (pc := 28) dX8_qGoesOnTest_28 (v := 1) (by decide) ?_
          refine PW.iadd (pc := 29) dX8_qGoesOnTest_29 ?_
          refine PW.putI (pc := 30) dX8_qGoesOnTest_30 lf_X8_255 (ob hM6.1 s_277 (by decide)) fx_8_2 fw_8_2 rfl rfl ?_
          obtain ⟨n15, h⟩ := h
          refine PW.drop (c_X8_qGoesOnTest_33 ?_ n15 _ (hM6.same rfl rfl) h) ⟨rfl, trivial⟩
          · intro M16 hM h
            refine PW.aload_n (pc := 49) dX8_qGoesOnTest_49 rfl ?_
            refine PW.dupR (pc := 50) dX8_qGoesOnTest_50 ?_
            refine PW.getI (pc := 51) dX8_qGoesOnTest_51 lf_X8_340 (ob hM.1 s_277 (by decide)) fx_8_98 ?_
            refine PW.iconst (pc := 54) dX8_qGoesOnTest_54 (v := 1) (by decide) ?_
            refine PW.isub (pc := 55) dX8_qGoesOnTest_55 ?_
            refine PW.putI (pc := 56) dX8_qGoesOnTest_56 lf_X8_340 (ob hM.1 s_277 (by decide)) fx_8_98 fw_8_98 rfl rfl ?_
            refine PW.aload_n (pc := 59) dX8_qGoesOnTest_59 rfl ?_
            refine PW.dupR (pc := 60) dX8_qGoesOnTest_60 ?_
            refine PW.getI (pc := 61) dX8_qGoesOnTest_61 lf_X8_343 (ob hM.1 s_277 (by decide)) fx_8_99 ?_
            refine PW.iconst (pc := 64) dX8_qGoesOnTest_64 (v := 1) (by decide) ?_
            refine PW.isub (pc := 65) dX8_qGoesOnTest_65 ?_
            refine PW.putI (pc := 66) dX8_qGoesOnTest_66 lf_X8_343 (ob hM.1 s_277 (by decide)) fx_8_99 fw_8_99 rfl rfl ?_
            refine PW.aload_n (pc := 69) dX8_qGoesOnTest_69 rfl ?_
            refine PW.inv (m' := mX8_qDropsNots) (pc := 70) dX8_qGoesOnTest_70 lm_X8_628 me_X8_qDropsNots mi_X8_qDropsNots (ob hM.1 s_277 (by decide)) rfl (As := []) (st := []) rfl (Nat.le_of_ble_eq_true rfl) (Nat.le_of_ble_eq_true rfl) (Nat.le_of_eq hM.1) (Nat.le_refl _) (PW.deep (by decide) (c_X8_qDropsNots  (hM.same rfl rfl) h)) ?_
            rintro _ M17 ⟨hM19, rfl, h⟩
            refine PW.goto (pc := 73) dX8_qGoesOnTest_73 (t := 0) (by decide) ?_
            exact PW.drop (ih _ hM19 h) ⟨rfl, trivial⟩
def w_X8_qGoesOnTest_137 : Nat → pm → (pm → Prop) → (Int32 → pm → Prop) → Prop
  | 0, _, _, _ => False
  | n + 1, M, k162, Q => w_X8_qIsOn 10 M (fun y38 M37 => ((¬ y38 = 0 → (w_X8_qDrops  M37 (fun M41 => w_X8_qGoesOnTest_137 n M41 k162 Q))) ∧ (y38 = 0 → (w_X8_qIsOn 11 M37 (fun y45 M44 => ((y45 = 0 → (k162  M44)) ∧ (¬ y45 = 0 → (w_X8_qDrops  M44 (fun M48 => w_X8_qGoesOnTest_137 n M48 k162 Q)))))))))
set_option maxRecDepth 4000 in
theorem c_X8_qGoesOnTest_137 {k162 : pm → Prop} {Q : Int32 → pm → Prop} (hk162 : ∀  (M : pm), pG M → k162  M → PW mX8_qGoesOnTest 4 350 162 [.ref 277] [] M (qZ Q)) : ∀ (n : Nat)  (M : pm), pG M → w_X8_qGoesOnTest_137 n  M k162 Q → PW mX8_qGoesOnTest 4 350 137 [.ref 277] [] M (qZ Q) := by
  intro n
  induction n with
  | zero => intro M hM h; exact h.elim
  | succ n ih =>
    intro M hM h
    unfold w_X8_qGoesOnTest_137 at h
    refine PW.aload_n (pc := 137) dX8_qGoesOnTest_137 rfl ?_
    refine PW.bipush (pc := 138) dX8_qGoesOnTest_138 (v := 10) (by decide) ?_
    refine PW.inv (m' := mX8_qIsOn) (pc := 140) dX8_qGoesOnTest_140 lm_X8_616 me_X8_qIsOn mi_X8_qIsOn (ob hM.1 s_277 (by decide)) rfl (As := [.int 10]) (st := []) rfl (Nat.le_of_ble_eq_true rfl) (Nat.le_of_ble_eq_true rfl) (Nat.le_of_eq hM.1) (Nat.le_refl _) (PW.deep (by decide) (c_X8_qIsOn  hM h)) ?_
    rintro _ M37 ⟨hM39, y38, rfl, z40, h⟩
    refine PW.if_ne (pc := 143) dX8_qGoesOnTest_143 (t := 155) (by decide) (fun hc => ?_) (fun hc => ?_)
    · have h := h.1 hc
      refine PW.aload_n (pc := 155) dX8_qGoesOnTest_155 rfl ?_
      refine PW.inv (m' := mX8_qDrops) (pc := 156) dX8_qGoesOnTest_156 lm_X8_589 me_X8_qDrops mi_X8_qDrops (ob hM39.1 s_277 (by decide)) rfl (As := []) (st := []) rfl (Nat.le_of_ble_eq_true rfl) (Nat.le_of_ble_eq_true rfl) (Nat.le_of_eq hM39.1) (Nat.le_refl _) (PW.deep (by decide) (c_X8_qDrops  hM39 h)) ?_
      rintro _ M41 ⟨hM43, rfl, h⟩
      refine PW.goto (pc := 159) dX8_qGoesOnTest_159 (t := 137) (by decide) ?_
      exact PW.drop (ih _ hM43 h) ⟨rfl, trivial⟩
    · have h := h.2 hc
      refine PW.aload_n (pc := 146) dX8_qGoesOnTest_146 rfl ?_
      refine PW.bipush (pc := 147) dX8_qGoesOnTest_147 (v := 11) (by decide) ?_
      refine PW.inv (m' := mX8_qIsOn) (pc := 149) dX8_qGoesOnTest_149 lm_X8_616 me_X8_qIsOn mi_X8_qIsOn (ob hM39.1 s_277 (by decide)) rfl (As := [.int 11]) (st := []) rfl (Nat.le_of_ble_eq_true rfl) (Nat.le_of_ble_eq_true rfl) (Nat.le_of_eq hM39.1) (Nat.le_refl _) (PW.deep (by decide) (c_X8_qIsOn  hM39 h)) ?_
      rintro _ M44 ⟨hM46, y45, rfl, z47, h⟩
      refine PW.if_eq (pc := 152) dX8_qGoesOnTest_152 (t := 162) (by decide) (fun hc => ?_) (fun hc => ?_)
      · have h := h.1 hc
        exact PW.drop (hk162 _ hM46 h) ⟨rfl, trivial⟩
      · have h := h.2 hc
        refine PW.aload_n (pc := 155) dX8_qGoesOnTest_155 rfl ?_
        refine PW.inv (m' := mX8_qDrops) (pc := 156) dX8_qGoesOnTest_156 lm_X8_589 me_X8_qDrops mi_X8_qDrops (ob hM46.1 s_277 (by decide)) rfl (As := []) (st := []) rfl (Nat.le_of_ble_eq_true rfl) (Nat.le_of_ble_eq_true rfl) (Nat.le_of_eq hM46.1) (Nat.le_refl _) (PW.deep (by decide) (c_X8_qDrops  hM46 h)) ?_
        rintro _ M48 ⟨hM50, rfl, h⟩
        refine PW.goto (pc := 159) dX8_qGoesOnTest_159 (t := 137) (by decide) ?_
        exact PW.drop (ih _ hM50 h) ⟨rfl, trivial⟩
def w_X8_qGoesOnTest_87 : Nat → pm → (pm → Prop) → (Int32 → pm → Prop) → Prop
  | 0, _, _, _ => False
  | n + 1, M, k103, Q => w_X8_qIsOn 10 M (fun y55 M54 => ((y55 = 0 → (k103  M54)) ∧ (¬ y55 = 0 → (w_X8_qDrops  M54 (fun M58 => w_X8_qGoesOnTest_87 n M58 k103 Q)))))
set_option maxRecDepth 4000 in
theorem c_X8_qGoesOnTest_87 {k103 : pm → Prop} {Q : Int32 → pm → Prop} (hk103 : ∀  (M : pm), pG M → k103  M → PW mX8_qGoesOnTest 4 350 103 [.ref 277] [] M (qZ Q)) : ∀ (n : Nat)  (M : pm), pG M → w_X8_qGoesOnTest_87 n  M k103 Q → PW mX8_qGoesOnTest 4 350 87 [.ref 277] [] M (qZ Q) := by
  intro n
  induction n with
  | zero => intro M hM h; exact h.elim
  | succ n ih =>
    intro M hM h
    unfold w_X8_qGoesOnTest_87 at h
    refine PW.aload_n (pc := 87) dX8_qGoesOnTest_87 rfl ?_
    refine PW.bipush (pc := 88) dX8_qGoesOnTest_88 (v := 10) (by decide) ?_
    refine PW.inv (m' := mX8_qIsOn) (pc := 90) dX8_qGoesOnTest_90 lm_X8_616 me_X8_qIsOn mi_X8_qIsOn (ob hM.1 s_277 (by decide)) rfl (As := [.int 10]) (st := []) rfl (Nat.le_of_ble_eq_true rfl) (Nat.le_of_ble_eq_true rfl) (Nat.le_of_eq hM.1) (Nat.le_refl _) (PW.deep (by decide) (c_X8_qIsOn  hM h)) ?_
    rintro _ M54 ⟨hM56, y55, rfl, z57, h⟩
    refine PW.if_eq (pc := 93) dX8_qGoesOnTest_93 (t := 103) (by decide) (fun hc => ?_) (fun hc => ?_)
    · have h := h.1 hc
      exact PW.drop (hk103 _ hM56 h) ⟨rfl, trivial⟩
    · have h := h.2 hc
      refine PW.aload_n (pc := 96) dX8_qGoesOnTest_96 rfl ?_
      refine PW.inv (m' := mX8_qDrops) (pc := 97) dX8_qGoesOnTest_97 lm_X8_589 me_X8_qDrops mi_X8_qDrops (ob hM56.1 s_277 (by decide)) rfl (As := []) (st := []) rfl (Nat.le_of_ble_eq_true rfl) (Nat.le_of_ble_eq_true rfl) (Nat.le_of_eq hM56.1) (Nat.le_refl _) (PW.deep (by decide) (c_X8_qDrops  hM56 h)) ?_
      rintro _ M58 ⟨hM60, rfl, h⟩
      refine PW.goto (pc := 100) dX8_qGoesOnTest_100 (t := 87) (by decide) ?_
      exact PW.drop (ih _ hM60 h) ⟨rfl, trivial⟩
def w_X8_qGoesOnTest_76   (M : pm)  (Q : Int32 → pm → Prop) : Prop := w_X8_takes 333 M (fun y23 M22 => ((y23 = 0 → (w_X8_takes 334 M22 (fun y27 M26 => ((y27 = 0 → ((¬ (mI M26 277 5) = 0 → (Q 0 M26)) ∧ ((mI M26 277 5) = 0 → (w_X8_qHasSquare  M26 (fun y31 M30 => ((y31 = 0 → (Q 0 M30)) ∧ (¬ y31 = 0 → (w_X8_fail 1 (mI M30 277 2) M30 (fun M34 => Q 0 M34))))))))) ∧ (¬ y27 = 0 → (∃ n51, w_X8_qGoesOnTest_137 n51  M26 (fun M52 => vp_in (mI M52 277 98) 1700 ∧ (Q 1 (sI (sI M52 350 ((mI M52 277 98).toNatClampNeg) 11) 277 98 ((mI M52 277 98) + 1)))) Q)))))) ∧ (¬ y23 = 0 → (∃ n61, w_X8_qGoesOnTest_87 n61  M22 (fun M62 => vp_in (mI M62 277 98) 1700 ∧ (Q 1 (sI (sI M62 350 ((mI M62 277 98).toNatClampNeg) 10) 277 98 ((mI M62 277 98) + 1)))) Q))))
set_option maxRecDepth 4000 in
theorem c_X8_qGoesOnTest_76  {Q : Int32 → pm → Prop}  : ∀  (M : pm), pG M → w_X8_qGoesOnTest_76  M  Q → PW mX8_qGoesOnTest 4 350 76 [.ref 277] [] M (qZ Q) := by
  intro M hM h
  unfold w_X8_qGoesOnTest_76 at h
  refine PW.aload_n (pc := 76) dX8_qGoesOnTest_76 rfl ?_
  refine PW.aload_n (pc := 77) dX8_qGoesOnTest_77 rfl ?_
  refine PW.getR (pc := 78) dX8_qGoesOnTest_78 (r := 333) lf_X8_186 (ob hM.1 s_277 (by decide)) fx_8_79 (oR_8_79 hM s_277) (pS_ne s_333) ?_
  refine PW.inv (m' := mX8_takes) (pc := 81) dX8_qGoesOnTest_81 lm_X8_276 me_X8_takes mi_X8_takes (ob hM.1 s_277 (by decide)) rfl (As := [.ref 333]) (st := []) rfl (Nat.le_of_ble_eq_true rfl) (Nat.le_of_ble_eq_true rfl) (Nat.le_of_eq hM.1) (Nat.le_refl _) (PW.deep (by decide) (c_X8_takes s_333 hM h)) ?_
  rintro _ M22 ⟨hM24, y23, rfl, z25, h⟩
  refine PW.if_eq (pc := 84) dX8_qGoesOnTest_84 (t := 126) (by decide) (fun hc => ?_) (fun hc => ?_)
  · have h := h.1 hc
    refine PW.aload_n (pc := 126) dX8_qGoesOnTest_126 rfl ?_
    refine PW.aload_n (pc := 127) dX8_qGoesOnTest_127 rfl ?_
    refine PW.getR (pc := 128) dX8_qGoesOnTest_128 (r := 334) lf_X8_189 (ob hM24.1 s_277 (by decide)) fx_8_80 (oR_8_80 hM24 s_277) (pS_ne s_334) ?_
    refine PW.inv (m' := mX8_takes) (pc := 131) dX8_qGoesOnTest_131 lm_X8_276 me_X8_takes mi_X8_takes (ob hM24.1 s_277 (by decide)) rfl (As := [.ref 334]) (st := []) rfl (Nat.le_of_ble_eq_true rfl) (Nat.le_of_ble_eq_true rfl) (Nat.le_of_eq hM24.1) (Nat.le_refl _) (PW.deep (by decide) (c_X8_takes s_334 hM24 h)) ?_
    rintro _ M26 ⟨hM28, y27, rfl, z29, h⟩
    refine PW.if_eq (pc := 134) dX8_qGoesOnTest_134 (t := 185) (by decide) (fun hc => ?_) (fun hc => ?_)
    · have h := h.1 hc
      refine PW.aload_n (pc := 185) dX8_qGoesOnTest_185 rfl ?_
      refine PW.getI (pc := 186) dX8_qGoesOnTest_186 lf_X8_249 (ob hM28.1 s_277 (by decide)) fx_8_5 ?_
      refine PW.if_ne (pc := 189) dX8_qGoesOnTest_189 (t := 208) (by decide) (fun hc => ?_) (fun hc => ?_)
      · have h := h.1 hc
        refine PW.iconst (pc := 208) dX8_qGoesOnTest_208 (v := 0) (by decide) ?_
        exact PW.retI (pc := 209) dX8_qGoesOnTest_209 hM28.1 rfl (bz_n bz0) ⟨hM28, _, rfl, bz0, h⟩
      · have h := h.2 hc
        refine PW.aload_n (pc := 192) dX8_qGoesOnTest_192 rfl ?_
        refine PW.inv (m' := mX8_qHasSquare) (pc := 193) dX8_qGoesOnTest_193 lm_X8_634 me_X8_qHasSquare mi_X8_qHasSquare (ob hM28.1 s_277 (by decide)) rfl (As := []) (st := []) rfl (Nat.le_of_ble_eq_true rfl) (Nat.le_of_ble_eq_true rfl) (Nat.le_of_eq hM28.1) (Nat.le_refl _) (PW.deep (by decide) (c_X8_qHasSquare  hM28 h)) ?_
        rintro _ M30 ⟨hM32, y31, rfl, z33, h⟩
        refine PW.if_eq (pc := 196) dX8_qGoesOnTest_196 (t := 208) (by decide) (fun hc => ?_) (fun hc => ?_)
        · have h := h.1 hc
          refine PW.iconst (pc := 208) dX8_qGoesOnTest_208 (v := 0) (by decide) ?_
          exact PW.retI (pc := 209) dX8_qGoesOnTest_209 hM32.1 rfl (bz_n bz0) ⟨hM32, _, rfl, bz0, h⟩
        · have h := h.2 hc
          refine PW.aload_n (pc := 199) dX8_qGoesOnTest_199 rfl ?_
          refine PW.iconst (pc := 200) dX8_qGoesOnTest_200 (v := 1) (by decide) ?_
          refine PW.aload_n (pc := 201) dX8_qGoesOnTest_201 rfl ?_
          refine PW.getI (pc := 202) dX8_qGoesOnTest_202 lf_X8_255 (ob hM32.1 s_277 (by decide)) fx_8_2 ?_
          refine PW.inv (m' := mX8_fail) (pc := 205) dX8_qGoesOnTest_205 lm_X8_279 me_X8_fail mi_X8_fail (ob hM32.1 s_277 (by decide)) rfl (As := [.int 1, .int (mI M30 277 2)]) (st := []) rfl (Nat.le_of_ble_eq_true rfl) (Nat.le_of_ble_eq_true rfl) (Nat.le_of_eq hM32.1) (Nat.le_refl _) (PW.deep (by decide) (c_X8_fail  hM32 h)) ?_
          rintro _ M34 ⟨hM36, rfl, h⟩
          refine PW.iconst (pc := 208) dX8_qGoesOnTest_208 (v := 0) (by decide) ?_
          exact PW.retI (pc := 209) dX8_qGoesOnTest_209 hM36.1 rfl (bz_n bz0) ⟨hM36, _, rfl, bz0, h⟩
    · have h := h.2 hc
      obtain ⟨n51, h⟩ := h
      refine PW.drop (c_X8_qGoesOnTest_137 ?_ n51 _ hM28 h) ⟨rfl, trivial⟩
      · intro M52 hM h
        refine PW.aload_n (pc := 162) dX8_qGoesOnTest_162 rfl ?_
        refine PW.getR (pc := 163) dX8_qGoesOnTest_163 (r := 350) lf_X8_237 (ob hM.1 s_277 (by decide)) fx_8_97 (oR_8_97 hM s_277) (pS_ne s_350) ?_
        refine PW.aload_n (pc := 166) dX8_qGoesOnTest_166 rfl ?_
        refine PW.getI (pc := 167) dX8_qGoesOnTest_167 lf_X8_340 (ob hM.1 s_277 (by decide)) fx_8_98 ?_
        refine PW.bipush (pc := 170) dX8_qGoesOnTest_170 (v := 11) (by decide) ?_
        obtain ⟨v53, h⟩ := h
        refine PW.iast (pc := 172) dX8_qGoesOnTest_172 (ar hM.1 s_350) (vpl n_350 v53) ?_
        refine PW.aload_n (pc := 173) dX8_qGoesOnTest_173 rfl ?_
        refine PW.dupR (pc := 174) dX8_qGoesOnTest_174 ?_
        refine PW.getI (pc := 175) dX8_qGoesOnTest_175 lf_X8_340 (ob hM.1 s_277 (by decide)) fx_8_98 ?_
        refine PW.iconst (pc := 178) dX8_qGoesOnTest_178 (v := 1) (by decide) ?_
        refine PW.iadd (pc := 179) dX8_qGoesOnTest_179 ?_
        refine PW.putI (pc := 180) dX8_qGoesOnTest_180 lf_X8_340 (ob hM.1 s_277 (by decide)) fx_8_98 fw_8_98 rfl rfl ?_
        refine PW.iconst (pc := 183) dX8_qGoesOnTest_183 (v := 1) (by decide) ?_
        exact PW.retI (pc := 184) dX8_qGoesOnTest_184 hM.1 rfl (bz_n bz1) ⟨(hM.same rfl rfl), _, rfl, bz1, h⟩
  · have h := h.2 hc
    obtain ⟨n61, h⟩ := h
    refine PW.drop (c_X8_qGoesOnTest_87 ?_ n61 _ hM24 h) ⟨rfl, trivial⟩
    · intro M62 hM h
      refine PW.aload_n (pc := 103) dX8_qGoesOnTest_103 rfl ?_
      refine PW.getR (pc := 104) dX8_qGoesOnTest_104 (r := 350) lf_X8_237 (ob hM.1 s_277 (by decide)) fx_8_97 (oR_8_97 hM s_277) (pS_ne s_350) ?_
      refine PW.aload_n (pc := 107) dX8_qGoesOnTest_107 rfl ?_
      refine PW.getI (pc := 108) dX8_qGoesOnTest_108 lf_X8_340 (ob hM.1 s_277 (by decide)) fx_8_98 ?_
      refine PW.bipush (pc := 111) dX8_qGoesOnTest_111 (v := 10) (by decide) ?_
      obtain ⟨v63, h⟩ := h
      refine PW.iast (pc := 113) dX8_qGoesOnTest_113 (ar hM.1 s_350) (vpl n_350 v63) ?_
      refine PW.aload_n (pc := 114) dX8_qGoesOnTest_114 rfl ?_
      refine PW.dupR (pc := 115) dX8_qGoesOnTest_115 ?_
      refine PW.getI (pc := 116) dX8_qGoesOnTest_116 lf_X8_340 (ob hM.1 s_277 (by decide)) fx_8_98 ?_
      refine PW.iconst (pc := 119) dX8_qGoesOnTest_119 (v := 1) (by decide) ?_
      refine PW.iadd (pc := 120) dX8_qGoesOnTest_120 ?_
      refine PW.putI (pc := 121) dX8_qGoesOnTest_121 lf_X8_340 (ob hM.1 s_277 (by decide)) fx_8_98 fw_8_98 rfl rfl ?_
      refine PW.iconst (pc := 124) dX8_qGoesOnTest_124 (v := 1) (by decide) ?_
      exact PW.retI (pc := 125) dX8_qGoesOnTest_125 hM.1 rfl (bz_n bz1) ⟨(hM.same rfl rfl), _, rfl, bz1, h⟩
def w_X8_qGoesOnTest  (M : pm) (Q : Int32 → pm → Prop) : Prop := ∃ n20, w_X8_qGoesOnTest_0 n20  M (fun M21 => w_X8_qGoesOnTest_76  M21  Q) Q
set_option maxRecDepth 4000 in
theorem c_X8_qGoesOnTest  {M : pm} {Q : Int32 → pm → Prop}  (hM : pG M) (h : w_X8_qGoesOnTest  M Q) : PW mX8_qGoesOnTest 4 350 0 (pfr mX8_qGoesOnTest.2.2.1 [.ref 277]) [] M (qZ Q) := by
  unfold w_X8_qGoesOnTest at h
  show PW mX8_qGoesOnTest 4 350 0 [.ref 277] [] M (qZ Q)
  obtain ⟨n20, h⟩ := h
  refine PW.drop (c_X8_qGoesOnTest_0 ?_ n20 _ hM h) ⟨rfl, trivial⟩
  · intro M21 hM h
    exact PW.drop (c_X8_qGoesOnTest_76  _ hM h) ⟨rfl, trivial⟩
