/-! methods, walked by program: w_ what must hold before, c_ its proof -/
def w_X8_qSums_15 : Nat → Int32 → Int32 → pm → (Int32 → pm → Prop) → (pm → Prop) → Prop
  | 0, _, _, _, _, _ => False
  | n + 1, x1, x2, M, k53, Q => ((x2 = 0 → (k53 x1 M)) ∧ (¬ x2 = 0 → ((¬ (mI M 277 5) = 0 → (k53 x1 M)) ∧ ((mI M 277 5) = 0 → (w_X8_qPartTold  M (fun M1 => ((¬ (mI M1 277 5) = 0 → (w_X8_qSums_15 n x1 0 M1 k53 Q)) ∧ ((mI M1 277 5) = 0 → (w_X8_qGoesOn  M1 (fun y4 M3 => ((y4 = 0 → (w_X8_qSums_15 n x1 0 M3 k53 Q)) ∧ (¬ y4 = 0 → (w_X8_qSums_15 n x1 1 M3 k53 Q)))))))))))))
set_option maxRecDepth 4000 in
theorem c_X8_qSums_15 {k53 : Int32 → pm → Prop} {Q : pm → Prop} (hk53 : ∀ (x1 : Int32) (M : pm), pG M → k53 x1 M → PW mX8_qSums 7 350 53 [.ref 277, .int x1, .null] [] M (qV Q)) : ∀ (n : Nat) (x1 : Int32) (x2 : Int32) (M : pm), pG M → w_X8_qSums_15 n x1 x2 M k53 Q → PW mX8_qSums 7 350 15 [.ref 277, .int x1, .int x2] [] M (qV Q) := by
  intro n
  induction n with
  | zero => intro x1 x2 M hM h; exact h.elim
  | succ n ih =>
    intro x1 x2 M hM h
    unfold w_X8_qSums_15 at h
    refine PW.iload_n (pc := 15) dX8_qSums_15 rfl ?_
    refine PW.if_eq (pc := 16) dX8_qSums_16 (t := 53) (by decide) (fun hc => ?_) (fun hc => ?_)
    · have h := h.1 hc
      exact PW.drop (hk53 _ _ hM h) ⟨rfl, rfl, trivial⟩
    · have h := h.2 hc
      refine PW.aload_n (pc := 19) dX8_qSums_19 rfl ?_
      refine PW.getI (pc := 20) dX8_qSums_20 lf_X8_249 (ob hM.1 s_277 (by decide)) fx_8_5 ?_
      refine PW.if_ne (pc := 23) dX8_qSums_23 (t := 53) (by decide) (fun hc => ?_) (fun hc => ?_)
      · have h := h.1 hc
        exact PW.drop (hk53 _ _ hM h) ⟨rfl, rfl, trivial⟩
      · have h := h.2 hc
        refine PW.aload_n (pc := 26) dX8_qSums_26 rfl ?_
        refine PW.inv (m' := mX8_qPartTold) (pc := 27) dX8_qSums_27 lm_X8_619 me_X8_qPartTold mi_X8_qPartTold (ob hM.1 s_277 (by decide)) rfl (As := []) (st := []) rfl (Nat.le_of_ble_eq_true rfl) (Nat.le_of_ble_eq_true rfl) (Nat.le_of_eq hM.1) (Nat.le_refl _) (PW.deep (by decide) (c_X8_qPartTold  hM h)) ?_
        rintro _ M1 ⟨hM, rfl, h⟩
        refine PW.aload_n (pc := 30) dX8_qSums_30 rfl ?_
        refine PW.getI (pc := 31) dX8_qSums_31 lf_X8_249 (ob hM.1 s_277 (by decide)) fx_8_5 ?_
        refine PW.if_ne (pc := 34) dX8_qSums_34 (t := 48) (by decide) (fun hc => ?_) (fun hc => ?_)
        · have h := h.1 hc
          refine PW.iconst (pc := 48) dX8_qSums_48 (v := 0) (by decide) ?_
          refine PW.istore_n (pc := 49) dX8_qSums_49 (ls' := [.ref 277, .int x1, .int 0]) (by decide) rfl rfl ?_
          refine PW.goto (pc := 50) dX8_qSums_50 (t := 15) (by decide) ?_
          exact PW.drop (ih _ _ _ hM h) ⟨rfl, rfl, rfl, trivial⟩
        · have h := h.2 hc
          refine PW.aload_n (pc := 37) dX8_qSums_37 rfl ?_
          refine PW.inv (m' := mX8_qGoesOn) (pc := 38) dX8_qSums_38 lm_X8_622 me_X8_qGoesOn mi_X8_qGoesOn (ob hM.1 s_277 (by decide)) rfl (As := []) (st := []) rfl (Nat.le_of_ble_eq_true rfl) (Nat.le_of_ble_eq_true rfl) (Nat.le_of_eq hM.1) (Nat.le_refl _) (PW.deep (by decide) (c_X8_qGoesOn  hM h)) ?_
          rintro _ M3 ⟨hM, y4, rfl, z5, h⟩
          refine PW.if_eq (pc := 41) dX8_qSums_41 (t := 48) (by decide) (fun hc => ?_) (fun hc => ?_)
          · have h := h.1 hc
            refine PW.iconst (pc := 48) dX8_qSums_48 (v := 0) (by decide) ?_
            refine PW.istore_n (pc := 49) dX8_qSums_49 (ls' := [.ref 277, .int x1, .int 0]) (by decide) rfl rfl ?_
            refine PW.goto (pc := 50) dX8_qSums_50 (t := 15) (by decide) ?_
            exact PW.drop (ih _ _ _ hM h) ⟨rfl, rfl, rfl, trivial⟩
          · have h := h.2 hc
            refine PW.iconst (pc := 44) dX8_qSums_44 (v := 1) (by decide) ?_
            refine PW.goto (pc := 45) dX8_qSums_45 (t := 49) (by decide) ?_
            refine PW.istore_n (pc := 49) dX8_qSums_49 (ls' := [.ref 277, .int x1, .int 1]) (by decide) rfl rfl ?_
            refine PW.goto (pc := 50) dX8_qSums_50 (t := 15) (by decide) ?_
            exact PW.drop (ih _ _ _ hM h) ⟨rfl, rfl, rfl, trivial⟩
def w_X8_qSums_53 : Nat → Int32 → pm → (pm → Prop) → Prop
  | 0, _, _, _ => False
  | n + 1, x1, M, Q => ((¬ (mI M 277 5) = 0 → (Q (sI M 277 100 x1))) ∧ ((mI M 277 5) = 0 → (((mI M 277 98) ≤ (mI M 277 100) → (Q (sI M 277 100 x1))) ∧ (¬ (mI M 277 98) ≤ (mI M 277 100) → (w_X8_qDrops  M (fun M8 => w_X8_qSums_53 n x1 M8 Q))))))
set_option maxRecDepth 4000 in
theorem c_X8_qSums_53  {Q : pm → Prop}  : ∀ (n : Nat) (x1 : Int32) (M : pm), pG M → w_X8_qSums_53 n x1 M  Q → PW mX8_qSums 7 350 53 [.ref 277, .int x1, .null] [] M (qV Q) := by
  intro n
  induction n with
  | zero => intro x1 M hM h; exact h.elim
  | succ n ih =>
    intro x1 M hM h
    unfold w_X8_qSums_53 at h
    refine PW.aload_n (pc := 53) dX8_qSums_53 rfl ?_
    refine PW.getI (pc := 54) dX8_qSums_54 lf_X8_249 (ob hM.1 s_277 (by decide)) fx_8_5 ?_
    refine PW.if_ne (pc := 57) dX8_qSums_57 (t := 78) (by decide) (fun hc => ?_) (fun hc => ?_)
    · have h := h.1 hc
      refine PW.aload_n (pc := 78) dX8_qSums_78 rfl ?_
      refine PW.iload_n (pc := 79) dX8_qSums_79 rfl ?_
      refine PW.putI (pc := 80) dX8_qSums_80 lf_X8_346 (ob hM.1 s_277 (by decide)) fx_8_100 fw_8_100 rfl rfl ?_
      exact PW.ret0 (pc := 83) dX8_qSums_83 hM.1 rfl ⟨(hM.same rfl rfl), rfl, h⟩
    · have h := h.2 hc
      refine PW.aload_n (pc := 60) dX8_qSums_60 rfl ?_
      refine PW.getI (pc := 61) dX8_qSums_61 lf_X8_340 (ob hM.1 s_277 (by decide)) fx_8_98 ?_
      refine PW.aload_n (pc := 64) dX8_qSums_64 rfl ?_
      refine PW.getI (pc := 65) dX8_qSums_65 lf_X8_346 (ob hM.1 s_277 (by decide)) fx_8_100 ?_
      refine PW.icmp_le (pc := 68) dX8_qSums_68 (t := 78) (by decide) (fun hc => ?_) (fun hc => ?_)
      · have h := h.1 hc
        refine PW.aload_n (pc := 78) dX8_qSums_78 rfl ?_
        refine PW.iload_n (pc := 79) dX8_qSums_79 rfl ?_
        refine PW.putI (pc := 80) dX8_qSums_80 lf_X8_346 (ob hM.1 s_277 (by decide)) fx_8_100 fw_8_100 rfl rfl ?_
        exact PW.ret0 (pc := 83) dX8_qSums_83 hM.1 rfl ⟨(hM.same rfl rfl), rfl, h⟩
      · have h := h.2 hc
        refine PW.aload_n (pc := 71) dX8_qSums_71 rfl ?_
        refine PW.inv (m' := mX8_qDrops) (pc := 72) dX8_qSums_72 lm_X8_589 me_X8_qDrops mi_X8_qDrops (ob hM.1 s_277 (by decide)) rfl (As := []) (st := []) rfl (Nat.le_of_ble_eq_true rfl) (Nat.le_of_ble_eq_true rfl) (Nat.le_of_eq hM.1) (Nat.le_refl _) (PW.deep (by decide) (c_X8_qDrops  hM h)) ?_
        rintro _ M8 ⟨hM, rfl, h⟩
        refine PW.goto (pc := 75) dX8_qSums_75 (t := 53) (by decide) ?_
        exact PW.drop (ih _ _ hM h) ⟨rfl, rfl, trivial⟩
def w_X8_qSums  (M : pm) (Q : pm → Prop) : Prop := ∃ n6, w_X8_qSums_15 n6 (mI M 277 100) 1 (sI M 277 100 (mI M 277 98)) (fun x1 M7 => ∃ n10, w_X8_qSums_53 n10 x1 M7  Q) Q
set_option maxRecDepth 4000 in
theorem c_X8_qSums  {M : pm} {Q : pm → Prop}  (hM : pG M) (h : w_X8_qSums  M Q) : PW mX8_qSums 7 350 0 (pfr mX8_qSums.2.2.1 [.ref 277]) [] M (qV Q) := by
  unfold w_X8_qSums at h
  show PW mX8_qSums 7 350 0 [.ref 277, .null, .null] [] M (qV Q)
  refine PW.aload_n (pc := 0) dX8_qSums_0 rfl ?_
  refine PW.getI (pc := 1) dX8_qSums_1 lf_X8_346 (ob hM.1 s_277 (by decide)) fx_8_100 ?_
  refine PW.istore_n (pc := 4) dX8_qSums_4 (ls' := [.ref 277, .int (mI M 277 100), .null]) (by decide) rfl rfl ?_
  refine PW.aload_n (pc := 5) dX8_qSums_5 rfl ?_
  refine PW.aload_n (pc := 6) dX8_qSums_6 rfl ?_
  refine PW.getI (pc := 7) dX8_qSums_7 lf_X8_340 (ob hM.1 s_277 (by decide)) fx_8_98 ?_
  refine PW.putI (pc := 10) dX8_qSums_10 lf_X8_346 (ob hM.1 s_277 (by decide)) fx_8_100 fw_8_100 rfl rfl ?_
  refine PW.iconst (pc := 13) dX8_qSums_13 (v := 1) (by decide) ?_
  refine PW.istore_n (pc := 14) dX8_qSums_14 (ls' := [.ref 277, .int (mI M 277 100), .int 1]) (by decide) rfl rfl ?_
  obtain ⟨n6, h⟩ := h
  refine PW.drop (c_X8_qSums_15 ?_ n6 _ _ _ (hM.same rfl rfl) h) ⟨rfl, rfl, rfl, trivial⟩
  · intro x1 M7 hM h
    obtain ⟨n10, h⟩ := h
    refine PW.drop (c_X8_qSums_53  n10 _ _ hM h) ⟨rfl, rfl, trivial⟩
def w_X8_qFact_63  (x1 : Int32) (M : pm)  (Q : pm → Prop) : Prop := w_X8_qSums  (sI M 277 2 ((mI M 277 2) + 1)) (fun M8 => ((¬ x1 = 60 → ((¬ x1 = 62 → (w_X8_qCode 9 M8 (fun M10 => Q M10))) ∧ (x1 = 62 → (w_X8_qCode 8 M8 (fun M12 => Q M12))))) ∧ (x1 = 60 → (w_X8_qCode 7 M8 (fun M14 => Q M14)))))
set_option maxRecDepth 4000 in
theorem c_X8_qFact_63  {Q : pm → Prop}  : ∀ (x1 : Int32) (M : pm), pG M → w_X8_qFact_63 x1 M  Q → PW mX8_qFact 8 350 63 [.ref 277, .int x1] [] M (qV Q) := by
  intro x1 M hM h
  unfold w_X8_qFact_63 at h
  refine PW.aload_n (pc := 63) dX8_qFact_63 rfl ?_
  refine PW.dupR (pc := 64) dX8_qFact_64 ?_
  refine PW.getI (pc := 65) dX8_qFact_65 lf_X8_255 (ob hM.1 s_277 (by decide)) fx_8_2 ?_
  refine PW.iconst (pc := 68) dX8_qFact_68 (v := 1) (by decide) ?_
  refine PW.iadd (pc := 69) dX8_qFact_69 ?_
  refine PW.putI (pc := 70) dX8_qFact_70 lf_X8_255 (ob hM.1 s_277 (by decide)) fx_8_2 fw_8_2 rfl rfl ?_
  refine PW.aload_n (pc := 73) dX8_qFact_73 rfl ?_
  refine PW.inv (m' := mX8_qSums) (pc := 74) dX8_qFact_74 lm_X8_352 me_X8_qSums mi_X8_qSums (ob hM.1 s_277 (by decide)) rfl (As := []) (st := []) rfl (Nat.le_of_ble_eq_true rfl) (Nat.le_of_ble_eq_true rfl) (Nat.le_of_eq hM.1) (Nat.le_refl _) (PW.deep (by decide) (c_X8_qSums  (hM.same rfl rfl) h)) ?_
  rintro _ M8 ⟨hM, rfl, h⟩
  refine PW.aload_n (pc := 77) dX8_qFact_77 rfl ?_
  refine PW.iload_n (pc := 78) dX8_qFact_78 rfl ?_
  refine PW.bipush (pc := 79) dX8_qFact_79 (v := 60) (by decide) ?_
  refine PW.icmp_ne (pc := 81) dX8_qFact_81 (t := 89) (by decide) (fun hc => ?_) (fun hc => ?_)
  · have h := h.1 hc
    refine PW.iload_n (pc := 89) dX8_qFact_89 rfl ?_
    refine PW.bipush (pc := 90) dX8_qFact_90 (v := 62) (by decide) ?_
    refine PW.icmp_ne (pc := 92) dX8_qFact_92 (t := 100) (by decide) (fun hc => ?_) (fun hc => ?_)
    · have h := h.1 hc
      refine PW.bipush (pc := 100) dX8_qFact_100 (v := 9) (by decide) ?_
      refine PW.inv (m' := mX8_qCode) (pc := 102) dX8_qFact_102 lm_X8_583 me_X8_qCode mi_X8_qCode (ob hM.1 s_277 (by decide)) rfl (As := [.int 9]) (st := []) rfl (Nat.le_of_ble_eq_true rfl) (Nat.le_of_ble_eq_true rfl) (Nat.le_of_eq hM.1) (Nat.le_refl _) (PW.deep (by decide) (c_X8_qCode  hM h)) ?_
      rintro _ M10 ⟨hM, rfl, h⟩
      exact PW.ret0 (pc := 105) dX8_qFact_105 hM.1 rfl ⟨hM, rfl, h⟩
    · have h := h.2 hc
      refine PW.bipush (pc := 95) dX8_qFact_95 (v := 8) (by decide) ?_
      refine PW.goto (pc := 97) dX8_qFact_97 (t := 102) (by decide) ?_
      refine PW.inv (m' := mX8_qCode) (pc := 102) dX8_qFact_102 lm_X8_583 me_X8_qCode mi_X8_qCode (ob hM.1 s_277 (by decide)) rfl (As := [.int 8]) (st := []) rfl (Nat.le_of_ble_eq_true rfl) (Nat.le_of_ble_eq_true rfl) (Nat.le_of_eq hM.1) (Nat.le_refl _) (PW.deep (by decide) (c_X8_qCode  hM h)) ?_
      rintro _ M12 ⟨hM, rfl, h⟩
      exact PW.ret0 (pc := 105) dX8_qFact_105 hM.1 rfl ⟨hM, rfl, h⟩
  · have h := h.2 hc
    refine PW.bipush (pc := 84) dX8_qFact_84 (v := 7) (by decide) ?_
    refine PW.goto (pc := 86) dX8_qFact_86 (t := 102) (by decide) ?_
    refine PW.inv (m' := mX8_qCode) (pc := 102) dX8_qFact_102 lm_X8_583 me_X8_qCode mi_X8_qCode (ob hM.1 s_277 (by decide)) rfl (As := [.int 7]) (st := []) rfl (Nat.le_of_ble_eq_true rfl) (Nat.le_of_ble_eq_true rfl) (Nat.le_of_eq hM.1) (Nat.le_refl _) (PW.deep (by decide) (c_X8_qCode  hM h)) ?_
    rintro _ M14 ⟨hM, rfl, h⟩
    exact PW.ret0 (pc := 105) dX8_qFact_105 hM.1 rfl ⟨hM, rfl, h⟩
def w_X8_qFact  (M : pm) (Q : pm → Prop) : Prop := w_X8_takes 335 M (fun y2 M1 => ((y2 = 0 → (w_X8_qSums  M1 (fun M4 => (((mI M4 277 5) = 0 → (w_X8_look  M4 (fun y7 M6 => ((y7 = 60 → (w_X8_qFact_63 y7 M6  Q)) ∧ (¬ y7 = 60 → ((y7 = 62 → (w_X8_qFact_63 y7 M6  Q)) ∧ (¬ y7 = 62 → ((y7 = 61 → (w_X8_qFact_63 y7 M6  Q)) ∧ (¬ y7 = 61 → (w_X8_fail 1 (mI M6 277 2) M6 (fun M16 => Q M16))))))))))) ∧ (¬ (mI M4 277 5) = 0 → (Q M4)))))) ∧ (¬ y2 = 0 → (w_X8_qCode 13 M1 (fun M18 => Q M18)))))
set_option maxRecDepth 4000 in
theorem c_X8_qFact  {M : pm} {Q : pm → Prop}  (hM : pG M) (h : w_X8_qFact  M Q) : PW mX8_qFact 8 350 0 (pfr mX8_qFact.2.2.1 [.ref 277]) [] M (qV Q) := by
  unfold w_X8_qFact at h
  show PW mX8_qFact 8 350 0 [.ref 277, .null] [] M (qV Q)
  refine PW.aload_n (pc := 0) dX8_qFact_0 rfl ?_
  refine PW.aload_n (pc := 1) dX8_qFact_1 rfl ?_
  refine PW.getR (pc := 2) dX8_qFact_2 (r := 335) lf_X8_192 (ob hM.1 s_277 (by decide)) fx_8_81 (oR_8_81 hM s_277) (pS_ne s_335) ?_
  refine PW.inv (m' := mX8_takes) (pc := 5) dX8_qFact_5 lm_X8_276 me_X8_takes mi_X8_takes (ob hM.1 s_277 (by decide)) rfl (As := [.ref 335]) (st := []) rfl (Nat.le_of_ble_eq_true rfl) (Nat.le_of_ble_eq_true rfl) (Nat.le_of_eq hM.1) (Nat.le_refl _) (PW.deep (by decide) (c_X8_takes s_335 hM h)) ?_
  rintro _ M1 ⟨hM, y2, rfl, z3, h⟩
  refine PW.if_eq (pc := 8) dX8_qFact_8 (t := 18) (by decide) (fun hc => ?_) (fun hc => ?_)
  · have h := h.1 hc
    refine PW.aload_n (pc := 18) dX8_qFact_18 rfl ?_
    refine PW.inv (m' := mX8_qSums) (pc := 19) dX8_qFact_19 lm_X8_352 me_X8_qSums mi_X8_qSums (ob hM.1 s_277 (by decide)) rfl (As := []) (st := []) rfl (Nat.le_of_ble_eq_true rfl) (Nat.le_of_ble_eq_true rfl) (Nat.le_of_eq hM.1) (Nat.le_refl _) (PW.deep (by decide) (c_X8_qSums  hM h)) ?_
    rintro _ M4 ⟨hM, rfl, h⟩
    refine PW.aload_n (pc := 22) dX8_qFact_22 rfl ?_
    refine PW.getI (pc := 23) dX8_qFact_23 lf_X8_249 (ob hM.1 s_277 (by decide)) fx_8_5 ?_
    refine PW.if_eq (pc := 26) dX8_qFact_26 (t := 30) (by decide) (fun hc => ?_) (fun hc => ?_)
    · have h := h.1 hc
      refine PW.aload_n (pc := 30) dX8_qFact_30 rfl ?_
      refine PW.inv (m' := mX8_look) (pc := 31) dX8_qFact_31 lm_X8_261 me_X8_look mi_X8_look (ob hM.1 s_277 (by decide)) rfl (As := []) (st := []) rfl (Nat.le_of_ble_eq_true rfl) (Nat.le_of_ble_eq_true rfl) (Nat.le_of_eq hM.1) (Nat.le_refl _) (PW.deep (by decide) (c_X8_look  hM h)) ?_
      rintro _ M6 ⟨hM, y7, rfl, h⟩
      refine PW.istore_n (pc := 34) dX8_qFact_34 (ls' := [.ref 277, .int y7]) (by decide) rfl rfl ?_
      refine PW.iload_n (pc := 35) dX8_qFact_35 rfl ?_
      refine PW.bipush (pc := 36) dX8_qFact_36 (v := 60) (by decide) ?_
      refine PW.icmp_eq (pc := 38) dX8_qFact_38 (t := 63) (by decide) (fun hc => ?_) (fun hc => ?_)
      · have h := h.1 hc
        exact PW.drop (c_X8_qFact_63  _ _ hM h) ⟨rfl, rfl, trivial⟩
      · have h := h.2 hc
        refine PW.iload_n (pc := 41) dX8_qFact_41 rfl ?_
        refine PW.bipush (pc := 42) dX8_qFact_42 (v := 62) (by decide) ?_
        refine PW.icmp_eq (pc := 44) dX8_qFact_44 (t := 63) (by decide) (fun hc => ?_) (fun hc => ?_)
        · have h := h.1 hc
          exact PW.drop (c_X8_qFact_63  _ _ hM h) ⟨rfl, rfl, trivial⟩
        · have h := h.2 hc
          refine PW.iload_n (pc := 47) dX8_qFact_47 rfl ?_
          refine PW.bipush (pc := 48) dX8_qFact_48 (v := 61) (by decide) ?_
          refine PW.icmp_eq (pc := 50) dX8_qFact_50 (t := 63) (by decide) (fun hc => ?_) (fun hc => ?_)
          · have h := h.1 hc
            exact PW.drop (c_X8_qFact_63  _ _ hM h) ⟨rfl, rfl, trivial⟩
          · have h := h.2 hc
            refine PW.aload_n (pc := 53) dX8_qFact_53 rfl ?_
            refine PW.iconst (pc := 54) dX8_qFact_54 (v := 1) (by decide) ?_
            refine PW.aload_n (pc := 55) dX8_qFact_55 rfl ?_
            refine PW.getI (pc := 56) dX8_qFact_56 lf_X8_255 (ob hM.1 s_277 (by decide)) fx_8_2 ?_
            refine PW.inv (m' := mX8_fail) (pc := 59) dX8_qFact_59 lm_X8_279 me_X8_fail mi_X8_fail (ob hM.1 s_277 (by decide)) rfl (As := [.int 1, .int (mI M6 277 2)]) (st := []) rfl (Nat.le_of_ble_eq_true rfl) (Nat.le_of_ble_eq_true rfl) (Nat.le_of_eq hM.1) (Nat.le_refl _) (PW.deep (by decide) (c_X8_fail  hM h)) ?_
            rintro _ M16 ⟨hM, rfl, h⟩
            exact PW.ret0 (pc := 62) dX8_qFact_62 hM.1 rfl ⟨hM, rfl, h⟩
    · have h := h.2 hc
      exact PW.ret0 (pc := 29) dX8_qFact_29 hM.1 rfl ⟨hM, rfl, h⟩
  · have h := h.2 hc
    refine PW.aload_n (pc := 11) dX8_qFact_11 rfl ?_
    refine PW.bipush (pc := 12) dX8_qFact_12 (v := 13) (by decide) ?_
    refine PW.inv (m' := mX8_qCode) (pc := 14) dX8_qFact_14 lm_X8_583 me_X8_qCode mi_X8_qCode (ob hM.1 s_277 (by decide)) rfl (As := [.int 13]) (st := []) rfl (Nat.le_of_ble_eq_true rfl) (Nat.le_of_ble_eq_true rfl) (Nat.le_of_eq hM.1) (Nat.le_refl _) (PW.deep (by decide) (c_X8_qCode  hM h)) ?_
    rintro _ M18 ⟨hM, rfl, h⟩
    exact PW.ret0 (pc := 17) dX8_qFact_17 hM.1 rfl ⟨hM, rfl, h⟩
def w_X8_qDropsNots_0 : Nat → pm → (pm → Prop) → Prop
  | 0, _, _ => False
  | n + 1, M, Q => ((¬ (mI M 277 5) = 0 → (Q M)) ∧ ((mI M 277 5) = 0 → (w_X8_qIsOn 12 M (fun y2 M1 => ((y2 = 0 → (Q M1)) ∧ (¬ y2 = 0 → (w_X8_qDrops  (sI M1 277 99 ((mI M1 277 99) - 1)) (fun M4 => w_X8_qDropsNots_0 n M4 Q))))))))
set_option maxRecDepth 4000 in
theorem c_X8_qDropsNots_0  {Q : pm → Prop}  : ∀ (n : Nat)  (M : pm), pG M → w_X8_qDropsNots_0 n  M  Q → PW mX8_qDropsNots 3 350 0 [.ref 277] [] M (qV Q) := by
  intro n
  induction n with
  | zero => intro M hM h; exact h.elim
  | succ n ih =>
    intro M hM h
    unfold w_X8_qDropsNots_0 at h
    refine PW.aload_n (pc := 0) dX8_qDropsNots_0 rfl ?_
    refine PW.getI (pc := 1) dX8_qDropsNots_1 lf_X8_249 (ob hM.1 s_277 (by decide)) fx_8_5 ?_
    refine PW.if_ne (pc := 4) dX8_qDropsNots_4 (t := 33) (by decide) (fun hc => ?_) (fun hc => ?_)
    · have h := h.1 hc
      exact PW.ret0 (pc := 33) dX8_qDropsNots_33 hM.1 rfl ⟨hM, rfl, h⟩
    · have h := h.2 hc
      refine PW.aload_n (pc := 7) dX8_qDropsNots_7 rfl ?_
      refine PW.bipush (pc := 8) dX8_qDropsNots_8 (v := 12) (by decide) ?_
      refine PW.inv (m' := mX8_qIsOn) (pc := 10) dX8_qDropsNots_10 lm_X8_616 me_X8_qIsOn mi_X8_qIsOn (ob hM.1 s_277 (by decide)) rfl (As := [.int 12]) (st := []) rfl (Nat.le_of_ble_eq_true rfl) (Nat.le_of_ble_eq_true rfl) (Nat.le_of_eq hM.1) (Nat.le_refl _) (PW.deep (by decide) (c_X8_qIsOn  hM h)) ?_
      rintro _ M1 ⟨hM, y2, rfl, z3, h⟩
      refine PW.if_eq (pc := 13) dX8_qDropsNots_13 (t := 33) (by decide) (fun hc => ?_) (fun hc => ?_)
      · have h := h.1 hc
        exact PW.ret0 (pc := 33) dX8_qDropsNots_33 hM.1 rfl ⟨hM, rfl, h⟩
      · have h := h.2 hc
        refine PW.aload_n (pc := 16) dX8_qDropsNots_16 rfl ?_
        refine PW.dupR (pc := 17) dX8_qDropsNots_17 ?_
        refine PW.getI (pc := 18) dX8_qDropsNots_18 lf_X8_343 (ob hM.1 s_277 (by decide)) fx_8_99 ?_
        refine PW.iconst (pc := 21) dX8_qDropsNots_21 (v := 1) (by decide) ?_
        refine PW.isub (pc := 22) dX8_qDropsNots_22 ?_
        refine PW.putI (pc := 23) dX8_qDropsNots_23 lf_X8_343 (ob hM.1 s_277 (by decide)) fx_8_99 fw_8_99 rfl rfl ?_
        refine PW.aload_n (pc := 26) dX8_qDropsNots_26 rfl ?_
        refine PW.inv (m' := mX8_qDrops) (pc := 27) dX8_qDropsNots_27 lm_X8_589 me_X8_qDrops mi_X8_qDrops (ob hM.1 s_277 (by decide)) rfl (As := []) (st := []) rfl (Nat.le_of_ble_eq_true rfl) (Nat.le_of_ble_eq_true rfl) (Nat.le_of_eq hM.1) (Nat.le_refl _) (PW.deep (by decide) (c_X8_qDrops  (hM.same rfl rfl) h)) ?_
        rintro _ M4 ⟨hM, rfl, h⟩
        refine PW.goto (pc := 30) dX8_qDropsNots_30 (t := 0) (by decide) ?_
        exact PW.drop (ih _ hM h) ⟨rfl, trivial⟩
def w_X8_qDropsNots  (M : pm) (Q : pm → Prop) : Prop := ∃ n6, w_X8_qDropsNots_0 n6  M  Q
set_option maxRecDepth 4000 in
theorem c_X8_qDropsNots  {M : pm} {Q : pm → Prop}  (hM : pG M) (h : w_X8_qDropsNots  M Q) : PW mX8_qDropsNots 3 350 0 (pfr mX8_qDropsNots.2.2.1 [.ref 277]) [] M (qV Q) := by
  unfold w_X8_qDropsNots at h
  show PW mX8_qDropsNots 3 350 0 [.ref 277] [] M (qV Q)
  obtain ⟨n6, h⟩ := h
  refine PW.drop (c_X8_qDropsNots_0  n6 _ hM h) ⟨rfl, trivial⟩
def w_X8_qHasSquare_2 : Nat → Int32 → pm → (Int32 → pm → Prop) → Prop
  | 0, _, _, _ => False
  | n + 1, x1, M, Q => (((mI M 277 98) ≤ x1 → (Q 0 M)) ∧ (¬ (mI M 277 98) ≤ x1 → (vp_in x1 1700 ∧ ((¬ (mI M 350 x1.toNatClampNeg) = 25 → (w_X8_qHasSquare_2 n (x1 + 1) M Q)) ∧ ((mI M 350 x1.toNatClampNeg) = 25 → (Q 1 M))))))
set_option maxRecDepth 4000 in
theorem c_X8_qHasSquare_2  {Q : Int32 → pm → Prop}  : ∀ (n : Nat) (x1 : Int32) (M : pm), pG M → w_X8_qHasSquare_2 n x1 M  Q → PW mX8_qHasSquare 1 350 2 [.ref 277, .int x1] [] M (qZ Q) := by
  intro n
  induction n with
  | zero => intro x1 M hM h; exact h.elim
  | succ n ih =>
    intro x1 M hM h
    unfold w_X8_qHasSquare_2 at h
    refine PW.iload_n (pc := 2) dX8_qHasSquare_2 rfl ?_
    refine PW.aload_n (pc := 3) dX8_qHasSquare_3 rfl ?_
    refine PW.getI (pc := 4) dX8_qHasSquare_4 lf_X8_340 (ob hM.1 s_277 (by decide)) fx_8_98 ?_
    refine PW.icmp_ge (pc := 7) dX8_qHasSquare_7 (t := 29) (by decide) (fun hc => ?_) (fun hc => ?_)
    · have h := h.1 hc
      refine PW.iconst (pc := 29) dX8_qHasSquare_29 (v := 0) (by decide) ?_
      exact PW.retI (pc := 30) dX8_qHasSquare_30 hM.1 rfl (bz_n bz0) ⟨hM, _, rfl, bz0, h⟩
    · have h := h.2 hc
      refine PW.aload_n (pc := 10) dX8_qHasSquare_10 rfl ?_
      refine PW.getR (pc := 11) dX8_qHasSquare_11 (r := 350) lf_X8_237 (ob hM.1 s_277 (by decide)) fx_8_97 (oR_8_97 hM s_277) (pS_ne s_350) ?_
      refine PW.iload_n (pc := 14) dX8_qHasSquare_14 rfl ?_
      obtain ⟨v1, h⟩ := h
      refine PW.iald (pc := 15) dX8_qHasSquare_15 (ar hM.1 s_350) (vpl n_350 v1) ?_
      refine PW.bipush (pc := 16) dX8_qHasSquare_16 (v := 25) (by decide) ?_
      refine PW.icmp_ne (pc := 18) dX8_qHasSquare_18 (t := 23) (by decide) (fun hc => ?_) (fun hc => ?_)
      · have h := h.1 hc
        refine PW.iinc (pc := 23) dX8_qHasSquare_23 (v := (x1 + 1)) (ls' := [.ref 277, .int (x1 + 1)]) rfl rfl (by decide) rfl rfl ?_
        refine PW.goto (pc := 26) dX8_qHasSquare_26 (t := 2) (by decide) ?_
        exact PW.drop (ih _ _ hM h) ⟨rfl, rfl, trivial⟩
      · have h := h.2 hc
        refine PW.iconst (pc := 21) dX8_qHasSquare_21 (v := 1) (by decide) ?_
        exact PW.retI (pc := 22) dX8_qHasSquare_22 hM.1 rfl (bz_n bz1) ⟨hM, _, rfl, bz1, h⟩
def w_X8_qHasSquare  (M : pm) (Q : Int32 → pm → Prop) : Prop := ∃ n2, w_X8_qHasSquare_2 n2 0 M  Q
set_option maxRecDepth 4000 in
theorem c_X8_qHasSquare  {M : pm} {Q : Int32 → pm → Prop}  (hM : pG M) (h : w_X8_qHasSquare  M Q) : PW mX8_qHasSquare 1 350 0 (pfr mX8_qHasSquare.2.2.1 [.ref 277]) [] M (qZ Q) := by
  unfold w_X8_qHasSquare at h
  show PW mX8_qHasSquare 1 350 0 [.ref 277, .null] [] M (qZ Q)
  refine PW.iconst (pc := 0) dX8_qHasSquare_0 (v := 0) (by decide) ?_
  refine PW.istore_n (pc := 1) dX8_qHasSquare_1 (ls' := [.ref 277, .int 0]) (by decide) rfl rfl ?_
  obtain ⟨n2, h⟩ := h
  refine PW.drop (c_X8_qHasSquare_2  n2 _ _ hM h) ⟨rfl, rfl, trivial⟩
def w_X8_qGoesOnTest_33 : Nat → pm → (pm → Prop) → (Int32 → pm → Prop) → Prop
  | 0, _, _, _ => False
  | n + 1, M, k49, Q => w_X8_qIsOn 25 M (fun y7 M6 => ((¬ y7 = 0 → (k49  M6)) ∧ (y7 = 0 → (w_X8_qDrops  M6 (fun M9 => w_X8_qGoesOnTest_33 n M9 k49 Q)))))
set_option maxRecDepth 4000 in
theorem c_X8_qGoesOnTest_33 {k49 : pm → Prop} {Q : Int32 → pm → Prop} (hk49 : ∀  (M : pm), pG M → k49  M → PW mX8_qGoesOnTest 4 350 49 [.ref 277] [] M (qZ Q)) : ∀ (n : Nat)  (M : pm), pG M → w_X8_qGoesOnTest_33 n  M k49 Q → PW mX8_qGoesOnTest 4 350 33 [.ref 277] [] M (qZ Q) := by
  intro n
  induction n with
  | zero => intro M hM h; exact h.elim
  | succ n ih =>
    intro M hM h
    unfold w_X8_qGoesOnTest_33 at h
    refine PW.aload_n (pc := 33) dX8_qGoesOnTest_33 rfl ?_
    refine PW.bipush (pc := 34) dX8_qGoesOnTest_34 (v := 25) (by decide) ?_
    refine PW.inv (m' := mX8_qIsOn) (pc := 36) dX8_qGoesOnTest_36 lm_X8_616 me_X8_qIsOn mi_X8_qIsOn (ob hM.1 s_277 (by decide)) rfl (As := [.int 25]) (st := []) rfl (Nat.le_of_ble_eq_true rfl) (Nat.le_of_ble_eq_true rfl) (Nat.le_of_eq hM.1) (Nat.le_refl _) (PW.deep (by decide) (c_X8_qIsOn  hM h)) ?_
    rintro _ M6 ⟨hM, y7, rfl, z8, h⟩
    refine PW.if_ne (pc := 39) dX8_qGoesOnTest_39 (t := 49) (by decide) (fun hc => ?_) (fun hc => ?_)
    · have h := h.1 hc
      exact PW.drop (hk49 _ hM h) ⟨rfl, trivial⟩
    · have h := h.2 hc
      refine PW.aload_n (pc := 42) dX8_qGoesOnTest_42 rfl ?_
      refine PW.inv (m' := mX8_qDrops) (pc := 43) dX8_qGoesOnTest_43 lm_X8_589 me_X8_qDrops mi_X8_qDrops (ob hM.1 s_277 (by decide)) rfl (As := []) (st := []) rfl (Nat.le_of_ble_eq_true rfl) (Nat.le_of_ble_eq_true rfl) (Nat.le_of_eq hM.1) (Nat.le_refl _) (PW.deep (by decide) (c_X8_qDrops  hM h)) ?_
      rintro _ M9 ⟨hM, rfl, h⟩
      refine PW.goto (pc := 46) dX8_qGoesOnTest_46 (t := 33) (by decide) ?_
      exact PW.drop (ih _ hM h) ⟨rfl, trivial⟩
def w_X8_qGoesOnTest_0 : Nat → pm → (pm → Prop) → (Int32 → pm → Prop) → Prop
  | 0, _, _, _ => False
  | n + 1, M, k76, Q => ((¬ (mI M 277 5) = 0 → (k76  M)) ∧ ((mI M 277 5) = 0 → (w_X8_look  M (fun y2 M1 => ((¬ y2 = 93 → (k76  M1)) ∧ (y2 = 93 → (w_X8_qHasSquare  M1 (fun y4 M3 => ((y4 = 0 → (k76  M3)) ∧ (¬ y4 = 0 → (∃ n11, w_X8_qGoesOnTest_33 n11  (sI M3 277 2 ((mI M3 277 2) + 1)) (fun M12 => w_X8_qDropsNots  (sI (sI M12 277 98 ((mI M12 277 98) - 1)) 277 99 ((mI M12 277 99) - 1)) (fun M13 => w_X8_qGoesOnTest_0 n M13 k76 Q)) Q)))))))))))
set_option maxRecDepth 4000 in
theorem c_X8_qGoesOnTest_0 {k76 : pm → Prop} {Q : Int32 → pm → Prop} (hk76 : ∀  (M : pm), pG M → k76  M → PW mX8_qGoesOnTest 4 350 76 [.ref 277] [] M (qZ Q)) : ∀ (n : Nat)  (M : pm), pG M → w_X8_qGoesOnTest_0 n  M k76 Q → PW mX8_qGoesOnTest 4 350 0 [.ref 277] [] M (qZ Q) := by
  intro n
  induction n with
  | zero => intro M hM h; exact h.elim
  | succ n ih =>
    intro M hM h
    unfold w_X8_qGoesOnTest_0 at h
    refine PW.aload_n (pc := 0) dX8_qGoesOnTest_0 rfl ?_
    refine PW.getI (pc := 1) dX8_qGoesOnTest_1 lf_X8_249 (ob hM.1 s_277 (by decide)) fx_8_5 ?_
    refine PW.if_ne (pc := 4) dX8_qGoesOnTest_4 (t := 76) (by decide) (fun hc => ?_) (fun hc => ?_)
    · have h := h.1 hc
      exact PW.drop (hk76 _ hM h) ⟨rfl, trivial⟩
    · have h := h.2 hc
      refine PW.aload_n (pc := 7) dX8_qGoesOnTest_7 rfl ?_
      refine PW.inv (m' := mX8_look) (pc := 8) dX8_qGoesOnTest_8 lm_X8_261 me_X8_look mi_X8_look (ob hM.1 s_277 (by decide)) rfl (As := []) (st := []) rfl (Nat.le_of_ble_eq_true rfl) (Nat.le_of_ble_eq_true rfl) (Nat.le_of_eq hM.1) (Nat.le_refl _) (PW.deep (by decide) (c_X8_look  hM h)) ?_
      rintro _ M1 ⟨hM, y2, rfl, h⟩
      refine PW.bipush (pc := 11) dX8_qGoesOnTest_11 (v := 93) (by decide) ?_
      refine PW.icmp_ne (pc := 13) dX8_qGoesOnTest_13 (t := 76) (by decide) (fun hc => ?_) (fun hc => ?_)
      · have h := h.1 hc
        exact PW.drop (hk76 _ hM h) ⟨rfl, trivial⟩
      · have h := h.2 hc
        refine PW.aload_n (pc := 16) dX8_qGoesOnTest_16 rfl ?_
        refine PW.inv (m' := mX8_qHasSquare) (pc := 17) dX8_qGoesOnTest_17 lm_X8_634 me_X8_qHasSquare mi_X8_qHasSquare (ob hM.1 s_277 (by decide)) rfl (As := []) (st := []) rfl (Nat.le_of_ble_eq_true rfl) (Nat.le_of_ble_eq_true rfl) (Nat.le_of_eq hM.1) (Nat.le_refl _) (PW.deep (by decide) (c_X8_qHasSquare  hM h)) ?_
        rintro _ M3 ⟨hM, y4, rfl, z5, h⟩
        refine PW.if_eq (pc := 20) dX8_qGoesOnTest_20 (t := 76) (by decide) (fun hc => ?_) (fun hc => ?_)
        · have h := h.1 hc
          exact PW.drop (hk76 _ hM h) ⟨rfl, trivial⟩
        · have h := h.2 hc
          refine PW.aload_n (pc := 23) dX8_qGoesOnTest_23 rfl ?_
          refine PW.dupR (pc := 24) dX8_qGoesOnTest_24 ?_
          refine PW.getI (pc := 25) dX8_qGoesOnTest_25 lf_X8_255 (ob hM.1 s_277 (by decide)) fx_8_2 ?_
          refine PW.iconst (pc := 28) dX8_qGoesOnTest_28 (v := 1) (by decide) ?_
          refine PW.iadd (pc := 29) dX8_qGoesOnTest_29 ?_
          refine PW.putI (pc := 30) dX8_qGoesOnTest_30 lf_X8_255 (ob hM.1 s_277 (by decide)) fx_8_2 fw_8_2 rfl rfl ?_
          obtain ⟨n11, h⟩ := h
          refine PW.drop (c_X8_qGoesOnTest_33 ?_ n11 _ (hM.same rfl rfl) h) ⟨rfl, trivial⟩
          · intro M12 hM h
            refine PW.aload_n (pc := 49) dX8_qGoesOnTest_49 rfl ?_
            refine PW.dupR (pc := 50) dX8_qGoesOnTest_50 ?_
            refine PW.getI (pc := 51) dX8_qGoesOnTest_51 lf_X8_340 (ob hM.1 s_277 (by decide)) fx_8_98 ?_
            refine PW.iconst (pc := 54) dX8_qGoesOnTest_54 (v := 1) (by decide) ?_
            refine PW.isub (pc := 55) dX8_qGoesOnTest_55 ?_
            refine PW.putI (pc := 56) dX8_qGoesOnTest_56 lf_X8_340 (ob hM.1 s_277 (by decide)) fx_8_98 fw_8_98 rfl rfl ?_
            refine PW.aload_n (pc := 59) dX8_qGoesOnTest_59 rfl ?_
            refine PW.dupR (pc := 60) dX8_qGoesOnTest_60 ?_
            refine PW.getI (pc := 61) dX8_qGoesOnTest_61 lf_X8_343 (ob hM.1 s_277 (by decide)) fx_8_99 ?_
            refine PW.iconst (pc := 64) dX8_qGoesOnTest_64 (v := 1) (by decide) ?_
            refine PW.isub (pc := 65) dX8_qGoesOnTest_65 ?_
            refine PW.putI (pc := 66) dX8_qGoesOnTest_66 lf_X8_343 (ob hM.1 s_277 (by decide)) fx_8_99 fw_8_99 rfl rfl ?_
            refine PW.aload_n (pc := 69) dX8_qGoesOnTest_69 rfl ?_
            refine PW.inv (m' := mX8_qDropsNots) (pc := 70) dX8_qGoesOnTest_70 lm_X8_628 me_X8_qDropsNots mi_X8_qDropsNots (ob hM.1 s_277 (by decide)) rfl (As := []) (st := []) rfl (Nat.le_of_ble_eq_true rfl) (Nat.le_of_ble_eq_true rfl) (Nat.le_of_eq hM.1) (Nat.le_refl _) (PW.deep (by decide) (c_X8_qDropsNots  (hM.same rfl rfl) h)) ?_
            rintro _ M13 ⟨hM, rfl, h⟩
            refine PW.goto (pc := 73) dX8_qGoesOnTest_73 (t := 0) (by decide) ?_
            exact PW.drop (ih _ hM h) ⟨rfl, trivial⟩
def w_X8_qGoesOnTest_137 : Nat → pm → (pm → Prop) → (Int32 → pm → Prop) → Prop
  | 0, _, _, _ => False
  | n + 1, M, k162, Q => w_X8_qIsOn 10 M (fun y29 M28 => ((¬ y29 = 0 → (w_X8_qDrops  M28 (fun M31 => w_X8_qGoesOnTest_137 n M31 k162 Q))) ∧ (y29 = 0 → (w_X8_qIsOn 11 M28 (fun y34 M33 => ((y34 = 0 → (k162  M33)) ∧ (¬ y34 = 0 → (w_X8_qDrops  M33 (fun M36 => w_X8_qGoesOnTest_137 n M36 k162 Q)))))))))
set_option maxRecDepth 4000 in
theorem c_X8_qGoesOnTest_137 {k162 : pm → Prop} {Q : Int32 → pm → Prop} (hk162 : ∀  (M : pm), pG M → k162  M → PW mX8_qGoesOnTest 4 350 162 [.ref 277] [] M (qZ Q)) : ∀ (n : Nat)  (M : pm), pG M → w_X8_qGoesOnTest_137 n  M k162 Q → PW mX8_qGoesOnTest 4 350 137 [.ref 277] [] M (qZ Q) := by
  intro n
  induction n with
  | zero => intro M hM h; exact h.elim
  | succ n ih =>
    intro M hM h
    unfold w_X8_qGoesOnTest_137 at h
    refine PW.aload_n (pc := 137) dX8_qGoesOnTest_137 rfl ?_
    refine PW.bipush (pc := 138) dX8_qGoesOnTest_138 (v := 10) (by decide) ?_
    refine PW.inv (m' := mX8_qIsOn) (pc := 140) dX8_qGoesOnTest_140 lm_X8_616 me_X8_qIsOn mi_X8_qIsOn (ob hM.1 s_277 (by decide)) rfl (As := [.int 10]) (st := []) rfl (Nat.le_of_ble_eq_true rfl) (Nat.le_of_ble_eq_true rfl) (Nat.le_of_eq hM.1) (Nat.le_refl _) (PW.deep (by decide) (c_X8_qIsOn  hM h)) ?_
    rintro _ M28 ⟨hM, y29, rfl, z30, h⟩
    refine PW.if_ne (pc := 143) dX8_qGoesOnTest_143 (t := 155) (by decide) (fun hc => ?_) (fun hc => ?_)
    · have h := h.1 hc
      refine PW.aload_n (pc := 155) dX8_qGoesOnTest_155 rfl ?_
      refine PW.inv (m' := mX8_qDrops) (pc := 156) dX8_qGoesOnTest_156 lm_X8_589 me_X8_qDrops mi_X8_qDrops (ob hM.1 s_277 (by decide)) rfl (As := []) (st := []) rfl (Nat.le_of_ble_eq_true rfl) (Nat.le_of_ble_eq_true rfl) (Nat.le_of_eq hM.1) (Nat.le_refl _) (PW.deep (by decide) (c_X8_qDrops  hM h)) ?_
      rintro _ M31 ⟨hM, rfl, h⟩
      refine PW.goto (pc := 159) dX8_qGoesOnTest_159 (t := 137) (by decide) ?_
      exact PW.drop (ih _ hM h) ⟨rfl, trivial⟩
    · have h := h.2 hc
      refine PW.aload_n (pc := 146) dX8_qGoesOnTest_146 rfl ?_
      refine PW.bipush (pc := 147) dX8_qGoesOnTest_147 (v := 11) (by decide) ?_
      refine PW.inv (m' := mX8_qIsOn) (pc := 149) dX8_qGoesOnTest_149 lm_X8_616 me_X8_qIsOn mi_X8_qIsOn (ob hM.1 s_277 (by decide)) rfl (As := [.int 11]) (st := []) rfl (Nat.le_of_ble_eq_true rfl) (Nat.le_of_ble_eq_true rfl) (Nat.le_of_eq hM.1) (Nat.le_refl _) (PW.deep (by decide) (c_X8_qIsOn  hM h)) ?_
      rintro _ M33 ⟨hM, y34, rfl, z35, h⟩
      refine PW.if_eq (pc := 152) dX8_qGoesOnTest_152 (t := 162) (by decide) (fun hc => ?_) (fun hc => ?_)
      · have h := h.1 hc
        exact PW.drop (hk162 _ hM h) ⟨rfl, trivial⟩
      · have h := h.2 hc
        refine PW.aload_n (pc := 155) dX8_qGoesOnTest_155 rfl ?_
        refine PW.inv (m' := mX8_qDrops) (pc := 156) dX8_qGoesOnTest_156 lm_X8_589 me_X8_qDrops mi_X8_qDrops (ob hM.1 s_277 (by decide)) rfl (As := []) (st := []) rfl (Nat.le_of_ble_eq_true rfl) (Nat.le_of_ble_eq_true rfl) (Nat.le_of_eq hM.1) (Nat.le_refl _) (PW.deep (by decide) (c_X8_qDrops  hM h)) ?_
        rintro _ M36 ⟨hM, rfl, h⟩
        refine PW.goto (pc := 159) dX8_qGoesOnTest_159 (t := 137) (by decide) ?_
        exact PW.drop (ih _ hM h) ⟨rfl, trivial⟩
def w_X8_qGoesOnTest_87 : Nat → pm → (pm → Prop) → (Int32 → pm → Prop) → Prop
  | 0, _, _, _ => False
  | n + 1, M, k103, Q => w_X8_qIsOn 10 M (fun y42 M41 => ((y42 = 0 → (k103  M41)) ∧ (¬ y42 = 0 → (w_X8_qDrops  M41 (fun M44 => w_X8_qGoesOnTest_87 n M44 k103 Q)))))
set_option maxRecDepth 4000 in
theorem c_X8_qGoesOnTest_87 {k103 : pm → Prop} {Q : Int32 → pm → Prop} (hk103 : ∀  (M : pm), pG M → k103  M → PW mX8_qGoesOnTest 4 350 103 [.ref 277] [] M (qZ Q)) : ∀ (n : Nat)  (M : pm), pG M → w_X8_qGoesOnTest_87 n  M k103 Q → PW mX8_qGoesOnTest 4 350 87 [.ref 277] [] M (qZ Q) := by
  intro n
  induction n with
  | zero => intro M hM h; exact h.elim
  | succ n ih =>
    intro M hM h
    unfold w_X8_qGoesOnTest_87 at h
    refine PW.aload_n (pc := 87) dX8_qGoesOnTest_87 rfl ?_
    refine PW.bipush (pc := 88) dX8_qGoesOnTest_88 (v := 10) (by decide) ?_
    refine PW.inv (m' := mX8_qIsOn) (pc := 90) dX8_qGoesOnTest_90 lm_X8_616 me_X8_qIsOn mi_X8_qIsOn (ob hM.1 s_277 (by decide)) rfl (As := [.int 10]) (st := []) rfl (Nat.le_of_ble_eq_true rfl) (Nat.le_of_ble_eq_true rfl) (Nat.le_of_eq hM.1) (Nat.le_refl _) (PW.deep (by decide) (c_X8_qIsOn  hM h)) ?_
    rintro _ M41 ⟨hM, y42, rfl, z43, h⟩
    refine PW.if_eq (pc := 93) dX8_qGoesOnTest_93 (t := 103) (by decide) (fun hc => ?_) (fun hc => ?_)
    · have h := h.1 hc
      exact PW.drop (hk103 _ hM h) ⟨rfl, trivial⟩
    · have h := h.2 hc
      refine PW.aload_n (pc := 96) dX8_qGoesOnTest_96 rfl ?_
      refine PW.inv (m' := mX8_qDrops) (pc := 97) dX8_qGoesOnTest_97 lm_X8_589 me_X8_qDrops mi_X8_qDrops (ob hM.1 s_277 (by decide)) rfl (As := []) (st := []) rfl (Nat.le_of_ble_eq_true rfl) (Nat.le_of_ble_eq_true rfl) (Nat.le_of_eq hM.1) (Nat.le_refl _) (PW.deep (by decide) (c_X8_qDrops  hM h)) ?_
      rintro _ M44 ⟨hM, rfl, h⟩
      refine PW.goto (pc := 100) dX8_qGoesOnTest_100 (t := 87) (by decide) ?_
      exact PW.drop (ih _ hM h) ⟨rfl, trivial⟩
def w_X8_qGoesOnTest_76   (M : pm)  (Q : Int32 → pm → Prop) : Prop := w_X8_takes 333 M (fun y18 M17 => ((y18 = 0 → (w_X8_takes 334 M17 (fun y21 M20 => ((y21 = 0 → ((¬ (mI M20 277 5) = 0 → (Q 0 M20)) ∧ ((mI M20 277 5) = 0 → (w_X8_qHasSquare  M20 (fun y24 M23 => ((y24 = 0 → (Q 0 M23)) ∧ (¬ y24 = 0 → (w_X8_fail 1 (mI M23 277 2) M23 (fun M26 => Q 0 M26))))))))) ∧ (¬ y21 = 0 → (∃ n38, w_X8_qGoesOnTest_137 n38  M20 (fun M39 => vp_in (mI M39 277 98) 1700 ∧ (Q 1 (sI (sI M39 350 ((mI M39 277 98).toNatClampNeg) 11) 277 98 ((mI M39 277 98) + 1)))) Q)))))) ∧ (¬ y18 = 0 → (∃ n46, w_X8_qGoesOnTest_87 n46  M17 (fun M47 => vp_in (mI M47 277 98) 1700 ∧ (Q 1 (sI (sI M47 350 ((mI M47 277 98).toNatClampNeg) 10) 277 98 ((mI M47 277 98) + 1)))) Q))))
set_option maxRecDepth 4000 in
theorem c_X8_qGoesOnTest_76  {Q : Int32 → pm → Prop}  : ∀  (M : pm), pG M → w_X8_qGoesOnTest_76  M  Q → PW mX8_qGoesOnTest 4 350 76 [.ref 277] [] M (qZ Q) := by
  intro M hM h
  unfold w_X8_qGoesOnTest_76 at h
  refine PW.aload_n (pc := 76) dX8_qGoesOnTest_76 rfl ?_
  refine PW.aload_n (pc := 77) dX8_qGoesOnTest_77 rfl ?_
  refine PW.getR (pc := 78) dX8_qGoesOnTest_78 (r := 333) lf_X8_186 (ob hM.1 s_277 (by decide)) fx_8_79 (oR_8_79 hM s_277) (pS_ne s_333) ?_
  refine PW.inv (m' := mX8_takes) (pc := 81) dX8_qGoesOnTest_81 lm_X8_276 me_X8_takes mi_X8_takes (ob hM.1 s_277 (by decide)) rfl (As := [.ref 333]) (st := []) rfl (Nat.le_of_ble_eq_true rfl) (Nat.le_of_ble_eq_true rfl) (Nat.le_of_eq hM.1) (Nat.le_refl _) (PW.deep (by decide) (c_X8_takes s_333 hM h)) ?_
  rintro _ M17 ⟨hM, y18, rfl, z19, h⟩
  refine PW.if_eq (pc := 84) dX8_qGoesOnTest_84 (t := 126) (by decide) (fun hc => ?_) (fun hc => ?_)
  · have h := h.1 hc
    refine PW.aload_n (pc := 126) dX8_qGoesOnTest_126 rfl ?_
    refine PW.aload_n (pc := 127) dX8_qGoesOnTest_127 rfl ?_
    refine PW.getR (pc := 128) dX8_qGoesOnTest_128 (r := 334) lf_X8_189 (ob hM.1 s_277 (by decide)) fx_8_80 (oR_8_80 hM s_277) (pS_ne s_334) ?_
    refine PW.inv (m' := mX8_takes) (pc := 131) dX8_qGoesOnTest_131 lm_X8_276 me_X8_takes mi_X8_takes (ob hM.1 s_277 (by decide)) rfl (As := [.ref 334]) (st := []) rfl (Nat.le_of_ble_eq_true rfl) (Nat.le_of_ble_eq_true rfl) (Nat.le_of_eq hM.1) (Nat.le_refl _) (PW.deep (by decide) (c_X8_takes s_334 hM h)) ?_
    rintro _ M20 ⟨hM, y21, rfl, z22, h⟩
    refine PW.if_eq (pc := 134) dX8_qGoesOnTest_134 (t := 185) (by decide) (fun hc => ?_) (fun hc => ?_)
    · have h := h.1 hc
      refine PW.aload_n (pc := 185) dX8_qGoesOnTest_185 rfl ?_
      refine PW.getI (pc := 186) dX8_qGoesOnTest_186 lf_X8_249 (ob hM.1 s_277 (by decide)) fx_8_5 ?_
      refine PW.if_ne (pc := 189) dX8_qGoesOnTest_189 (t := 208) (by decide) (fun hc => ?_) (fun hc => ?_)
      · have h := h.1 hc
        refine PW.iconst (pc := 208) dX8_qGoesOnTest_208 (v := 0) (by decide) ?_
        exact PW.retI (pc := 209) dX8_qGoesOnTest_209 hM.1 rfl (bz_n bz0) ⟨hM, _, rfl, bz0, h⟩
      · have h := h.2 hc
        refine PW.aload_n (pc := 192) dX8_qGoesOnTest_192 rfl ?_
        refine PW.inv (m' := mX8_qHasSquare) (pc := 193) dX8_qGoesOnTest_193 lm_X8_634 me_X8_qHasSquare mi_X8_qHasSquare (ob hM.1 s_277 (by decide)) rfl (As := []) (st := []) rfl (Nat.le_of_ble_eq_true rfl) (Nat.le_of_ble_eq_true rfl) (Nat.le_of_eq hM.1) (Nat.le_refl _) (PW.deep (by decide) (c_X8_qHasSquare  hM h)) ?_
        rintro _ M23 ⟨hM, y24, rfl, z25, h⟩
        refine PW.if_eq (pc := 196) dX8_qGoesOnTest_196 (t := 208) (by decide) (fun hc => ?_) (fun hc => ?_)
        · have h := h.1 hc
          refine PW.iconst (pc := 208) dX8_qGoesOnTest_208 (v := 0) (by decide) ?_
          exact PW.retI (pc := 209) dX8_qGoesOnTest_209 hM.1 rfl (bz_n bz0) ⟨hM, _, rfl, bz0, h⟩
        · have h := h.2 hc
          refine PW.aload_n (pc := 199) dX8_qGoesOnTest_199 rfl ?_
          refine PW.iconst (pc := 200) dX8_qGoesOnTest_200 (v := 1) (by decide) ?_
          refine PW.aload_n (pc := 201) dX8_qGoesOnTest_201 rfl ?_
          refine PW.getI (pc := 202) dX8_qGoesOnTest_202 lf_X8_255 (ob hM.1 s_277 (by decide)) fx_8_2 ?_
          refine PW.inv (m' := mX8_fail) (pc := 205) dX8_qGoesOnTest_205 lm_X8_279 me_X8_fail mi_X8_fail (ob hM.1 s_277 (by decide)) rfl (As := [.int 1, .int (mI M23 277 2)]) (st := []) rfl (Nat.le_of_ble_eq_true rfl) (Nat.le_of_ble_eq_true rfl) (Nat.le_of_eq hM.1) (Nat.le_refl _) (PW.deep (by decide) (c_X8_fail  hM h)) ?_
          rintro _ M26 ⟨hM, rfl, h⟩
          refine PW.iconst (pc := 208) dX8_qGoesOnTest_208 (v := 0) (by decide) ?_
          exact PW.retI (pc := 209) dX8_qGoesOnTest_209 hM.1 rfl (bz_n bz0) ⟨hM, _, rfl, bz0, h⟩
    · have h := h.2 hc
      obtain ⟨n38, h⟩ := h
      refine PW.drop (c_X8_qGoesOnTest_137 ?_ n38 _ hM h) ⟨rfl, trivial⟩
      · intro M39 hM h
        refine PW.aload_n (pc := 162) dX8_qGoesOnTest_162 rfl ?_
        refine PW.getR (pc := 163) dX8_qGoesOnTest_163 (r := 350) lf_X8_237 (ob hM.1 s_277 (by decide)) fx_8_97 (oR_8_97 hM s_277) (pS_ne s_350) ?_
        refine PW.aload_n (pc := 166) dX8_qGoesOnTest_166 rfl ?_
        refine PW.getI (pc := 167) dX8_qGoesOnTest_167 lf_X8_340 (ob hM.1 s_277 (by decide)) fx_8_98 ?_
        refine PW.bipush (pc := 170) dX8_qGoesOnTest_170 (v := 11) (by decide) ?_
        obtain ⟨v40, h⟩ := h
        refine PW.iast (pc := 172) dX8_qGoesOnTest_172 (ar hM.1 s_350) (vpl n_350 v40) ?_
        refine PW.aload_n (pc := 173) dX8_qGoesOnTest_173 rfl ?_
        refine PW.dupR (pc := 174) dX8_qGoesOnTest_174 ?_
        refine PW.getI (pc := 175) dX8_qGoesOnTest_175 lf_X8_340 (ob hM.1 s_277 (by decide)) fx_8_98 ?_
        refine PW.iconst (pc := 178) dX8_qGoesOnTest_178 (v := 1) (by decide) ?_
        refine PW.iadd (pc := 179) dX8_qGoesOnTest_179 ?_
        refine PW.putI (pc := 180) dX8_qGoesOnTest_180 lf_X8_340 (ob hM.1 s_277 (by decide)) fx_8_98 fw_8_98 rfl rfl ?_
        refine PW.iconst (pc := 183) dX8_qGoesOnTest_183 (v := 1) (by decide) ?_
        exact PW.retI (pc := 184) dX8_qGoesOnTest_184 hM.1 rfl (bz_n bz1) ⟨(hM.same rfl rfl), _, rfl, bz1, h⟩
  · have h := h.2 hc
    obtain ⟨n46, h⟩ := h
    refine PW.drop (c_X8_qGoesOnTest_87 ?_ n46 _ hM h) ⟨rfl, trivial⟩
    · intro M47 hM h
      refine PW.aload_n (pc := 103) dX8_qGoesOnTest_103 rfl ?_
      refine PW.getR (pc := 104) dX8_qGoesOnTest_104 (r := 350) lf_X8_237 (ob hM.1 s_277 (by decide)) fx_8_97 (oR_8_97 hM s_277) (pS_ne s_350) ?_
      refine PW.aload_n (pc := 107) dX8_qGoesOnTest_107 rfl ?_
      refine PW.getI (pc := 108) dX8_qGoesOnTest_108 lf_X8_340 (ob hM.1 s_277 (by decide)) fx_8_98 ?_
      refine PW.bipush (pc := 111) dX8_qGoesOnTest_111 (v := 10) (by decide) ?_
      obtain ⟨v48, h⟩ := h
      refine PW.iast (pc := 113) dX8_qGoesOnTest_113 (ar hM.1 s_350) (vpl n_350 v48) ?_
      refine PW.aload_n (pc := 114) dX8_qGoesOnTest_114 rfl ?_
      refine PW.dupR (pc := 115) dX8_qGoesOnTest_115 ?_
      refine PW.getI (pc := 116) dX8_qGoesOnTest_116 lf_X8_340 (ob hM.1 s_277 (by decide)) fx_8_98 ?_
      refine PW.iconst (pc := 119) dX8_qGoesOnTest_119 (v := 1) (by decide) ?_
      refine PW.iadd (pc := 120) dX8_qGoesOnTest_120 ?_
      refine PW.putI (pc := 121) dX8_qGoesOnTest_121 lf_X8_340 (ob hM.1 s_277 (by decide)) fx_8_98 fw_8_98 rfl rfl ?_
      refine PW.iconst (pc := 124) dX8_qGoesOnTest_124 (v := 1) (by decide) ?_
      exact PW.retI (pc := 125) dX8_qGoesOnTest_125 hM.1 rfl (bz_n bz1) ⟨(hM.same rfl rfl), _, rfl, bz1, h⟩
def w_X8_qGoesOnTest  (M : pm) (Q : Int32 → pm → Prop) : Prop := ∃ n15, w_X8_qGoesOnTest_0 n15  M (fun M16 => w_X8_qGoesOnTest_76  M16  Q) Q
set_option maxRecDepth 4000 in
theorem c_X8_qGoesOnTest  {M : pm} {Q : Int32 → pm → Prop}  (hM : pG M) (h : w_X8_qGoesOnTest  M Q) : PW mX8_qGoesOnTest 4 350 0 (pfr mX8_qGoesOnTest.2.2.1 [.ref 277]) [] M (qZ Q) := by
  unfold w_X8_qGoesOnTest at h
  show PW mX8_qGoesOnTest 4 350 0 [.ref 277] [] M (qZ Q)
  obtain ⟨n15, h⟩ := h
  refine PW.drop (c_X8_qGoesOnTest_0 ?_ n15 _ hM h) ⟨rfl, trivial⟩
  · intro M16 hM h
    exact PW.drop (c_X8_qGoesOnTest_76  _ hM h) ⟨rfl, trivial⟩
def w_X8_qTest_2 : Nat → Int32 → pm → (pm → Prop) → (pm → Prop) → Prop
  | 0, _, _, _, _ => False
  | n + 1, x1, M, k110, Q => ((x1 = 0 → (k110  M)) ∧ (¬ x1 = 0 → ((¬ (mI M 277 5) = 0 → (k110  M)) ∧ ((mI M 277 5) = 0 → (w_X8_look  M (fun y2 M1 => ((¬ y2 = 91 → (w_X8_isHere 332 M1 (fun y4 M3 => ((y4 = 0 → (w_X8_qFact  M3 (fun M6 => w_X8_qDropsNots  M6 (fun M8 => ((¬ (mI M8 277 5) = 0 → (w_X8_qTest_2 n 0 M8 k110 Q)) ∧ ((mI M8 277 5) = 0 → (w_X8_qGoesOnTest  M8 (fun y11 M10 => ((y11 = 0 → (w_X8_qTest_2 n 0 M10 k110 Q)) ∧ (¬ y11 = 0 → (w_X8_qTest_2 n 1 M10 k110 Q))))))))))) ∧ (¬ y4 = 0 → (w_X8_qOpens 12 (mI M3 277 2) M3 (fun M13 => w_X8_asks 332 M13 (fun M15 => w_X8_qTest_2 n x1 M15 k110 Q)))))))) ∧ (y2 = 91 → (w_X8_qOpens 25 (mI M1 277 2) M1 (fun M17 => w_X8_qTest_2 n x1 (sI M17 277 2 ((mI M17 277 2) + 1)) k110 Q))))))))))
set_option maxRecDepth 4000 in
theorem c_X8_qTest_2 {k110 : pm → Prop} {Q : pm → Prop} (hk110 : ∀  (M : pm), pG M → k110  M → PW mX8_qTest 9 350 110 [.ref 277, .null, .null] [] M (qV Q)) : ∀ (n : Nat) (x1 : Int32) (M : pm), pG M → w_X8_qTest_2 n x1 M k110 Q → PW mX8_qTest 9 350 2 [.ref 277, .int x1, .null] [] M (qV Q) := by
  intro n
  induction n with
  | zero => intro x1 M hM h; exact h.elim
  | succ n ih =>
    intro x1 M hM h
    unfold w_X8_qTest_2 at h
    refine PW.iload_n (pc := 2) dX8_qTest_2 rfl ?_
    refine PW.if_eq (pc := 3) dX8_qTest_3 (t := 110) (by decide) (fun hc => ?_) (fun hc => ?_)
    · have h := h.1 hc
      exact PW.drop (hk110 _ hM h) ⟨rfl, trivial⟩
    · have h := h.2 hc
      refine PW.aload_n (pc := 6) dX8_qTest_6 rfl ?_
      refine PW.getI (pc := 7) dX8_qTest_7 lf_X8_249 (ob hM.1 s_277 (by decide)) fx_8_5 ?_
      refine PW.if_ne (pc := 10) dX8_qTest_10 (t := 110) (by decide) (fun hc => ?_) (fun hc => ?_)
      · have h := h.1 hc
        exact PW.drop (hk110 _ hM h) ⟨rfl, trivial⟩
      · have h := h.2 hc
        refine PW.aload_n (pc := 13) dX8_qTest_13 rfl ?_
        refine PW.inv (m' := mX8_look) (pc := 14) dX8_qTest_14 lm_X8_261 me_X8_look mi_X8_look (ob hM.1 s_277 (by decide)) rfl (As := []) (st := []) rfl (Nat.le_of_ble_eq_true rfl) (Nat.le_of_ble_eq_true rfl) (Nat.le_of_eq hM.1) (Nat.le_refl _) (PW.deep (by decide) (c_X8_look  hM h)) ?_
        rintro _ M1 ⟨hM, y2, rfl, h⟩
        refine PW.istore_n (pc := 17) dX8_qTest_17 (ls' := [.ref 277, .int x1, .int y2]) (by decide) rfl rfl ?_
        refine PW.iload_n (pc := 18) dX8_qTest_18 rfl ?_
        refine PW.bipush (pc := 19) dX8_qTest_19 (v := 91) (by decide) ?_
        refine PW.icmp_ne (pc := 21) dX8_qTest_21 (t := 47) (by decide) (fun hc => ?_) (fun hc => ?_)
        · have h := h.1 hc
          refine PW.aload_n (pc := 47) dX8_qTest_47 rfl ?_
          refine PW.aload_n (pc := 48) dX8_qTest_48 rfl ?_
          refine PW.getR (pc := 49) dX8_qTest_49 (r := 332) lf_X8_183 (ob hM.1 s_277 (by decide)) fx_8_78 (oR_8_78 hM s_277) (pS_ne s_332) ?_
          refine PW.inv (m' := mX8_isHere) (pc := 52) dX8_qTest_52 lm_X8_272 me_X8_isHere mi_X8_isHere (ob hM.1 s_277 (by decide)) rfl (As := [.ref 332]) (st := []) rfl (Nat.le_of_ble_eq_true rfl) (Nat.le_of_ble_eq_true rfl) (Nat.le_of_eq hM.1) (Nat.le_refl _) (PW.deep (by decide) (c_X8_isHere s_332 hM h)) ?_
          rintro _ M3 ⟨hM, y4, rfl, z5, h⟩
          refine PW.if_eq (pc := 55) dX8_qTest_55 (t := 79) (by decide) (fun hc => ?_) (fun hc => ?_)
          · have h := h.1 hc
            refine PW.aload_n (pc := 79) dX8_qTest_79 rfl ?_
            refine PW.inv (m' := mX8_qFact) (pc := 80) dX8_qTest_80 lm_X8_625 me_X8_qFact mi_X8_qFact (ob hM.1 s_277 (by decide)) rfl (As := []) (st := []) rfl (Nat.le_of_ble_eq_true rfl) (Nat.le_of_ble_eq_true rfl) (Nat.le_of_eq hM.1) (Nat.le_refl _) (PW.deep (by decide) (c_X8_qFact  hM h)) ?_
            rintro _ M6 ⟨hM, rfl, h⟩
            refine PW.aload_n (pc := 83) dX8_qTest_83 rfl ?_
            refine PW.inv (m' := mX8_qDropsNots) (pc := 84) dX8_qTest_84 lm_X8_628 me_X8_qDropsNots mi_X8_qDropsNots (ob hM.1 s_277 (by decide)) rfl (As := []) (st := []) rfl (Nat.le_of_ble_eq_true rfl) (Nat.le_of_ble_eq_true rfl) (Nat.le_of_eq hM.1) (Nat.le_refl _) (PW.deep (by decide) (c_X8_qDropsNots  hM h)) ?_
            rintro _ M8 ⟨hM, rfl, h⟩
            refine PW.aload_n (pc := 87) dX8_qTest_87 rfl ?_
            refine PW.getI (pc := 88) dX8_qTest_88 lf_X8_249 (ob hM.1 s_277 (by decide)) fx_8_5 ?_
            refine PW.if_ne (pc := 91) dX8_qTest_91 (t := 105) (by decide) (fun hc => ?_) (fun hc => ?_)
            · have h := h.1 hc
              refine PW.iconst (pc := 105) dX8_qTest_105 (v := 0) (by decide) ?_
              refine PW.istore_n (pc := 106) dX8_qTest_106 (ls' := [.ref 277, .int 0, .int y2]) (by decide) rfl rfl ?_
              refine PW.goto (pc := 107) dX8_qTest_107 (t := 2) (by decide) ?_
              exact PW.drop (ih _ _ hM h) ⟨rfl, rfl, trivial⟩
            · have h := h.2 hc
              refine PW.aload_n (pc := 94) dX8_qTest_94 rfl ?_
              refine PW.inv (m' := mX8_qGoesOnTest) (pc := 95) dX8_qTest_95 lm_X8_631 me_X8_qGoesOnTest mi_X8_qGoesOnTest (ob hM.1 s_277 (by decide)) rfl (As := []) (st := []) rfl (Nat.le_of_ble_eq_true rfl) (Nat.le_of_ble_eq_true rfl) (Nat.le_of_eq hM.1) (Nat.le_refl _) (PW.deep (by decide) (c_X8_qGoesOnTest  hM h)) ?_
              rintro _ M10 ⟨hM, y11, rfl, z12, h⟩
              refine PW.if_eq (pc := 98) dX8_qTest_98 (t := 105) (by decide) (fun hc => ?_) (fun hc => ?_)
              · have h := h.1 hc
                refine PW.iconst (pc := 105) dX8_qTest_105 (v := 0) (by decide) ?_
                refine PW.istore_n (pc := 106) dX8_qTest_106 (ls' := [.ref 277, .int 0, .int y2]) (by decide) rfl rfl ?_
                refine PW.goto (pc := 107) dX8_qTest_107 (t := 2) (by decide) ?_
                exact PW.drop (ih _ _ hM h) ⟨rfl, rfl, trivial⟩
              · have h := h.2 hc
                refine PW.iconst (pc := 101) dX8_qTest_101 (v := 1) (by decide) ?_
                refine PW.goto (pc := 102) dX8_qTest_102 (t := 106) (by decide) ?_
                refine PW.istore_n (pc := 106) dX8_qTest_106 (ls' := [.ref 277, .int 1, .int y2]) (by decide) rfl rfl ?_
                refine PW.goto (pc := 107) dX8_qTest_107 (t := 2) (by decide) ?_
                exact PW.drop (ih _ _ hM h) ⟨rfl, rfl, trivial⟩
          · have h := h.2 hc
            refine PW.aload_n (pc := 58) dX8_qTest_58 rfl ?_
            refine PW.bipush (pc := 59) dX8_qTest_59 (v := 12) (by decide) ?_
            refine PW.aload_n (pc := 61) dX8_qTest_61 rfl ?_
            refine PW.getI (pc := 62) dX8_qTest_62 lf_X8_255 (ob hM.1 s_277 (by decide)) fx_8_2 ?_
            refine PW.inv (m' := mX8_qOpens) (pc := 65) dX8_qTest_65 lm_X8_601 me_X8_qOpens mi_X8_qOpens (ob hM.1 s_277 (by decide)) rfl (As := [.int 12, .int (mI M3 277 2)]) (st := []) rfl (Nat.le_of_ble_eq_true rfl) (Nat.le_of_ble_eq_true rfl) (Nat.le_of_eq hM.1) (Nat.le_refl _) (PW.deep (by decide) (c_X8_qOpens  hM h)) ?_
            rintro _ M13 ⟨hM, rfl, h⟩
            refine PW.aload_n (pc := 68) dX8_qTest_68 rfl ?_
            refine PW.aload_n (pc := 69) dX8_qTest_69 rfl ?_
            refine PW.getR (pc := 70) dX8_qTest_70 (r := 332) lf_X8_183 (ob hM.1 s_277 (by decide)) fx_8_78 (oR_8_78 hM s_277) (pS_ne s_332) ?_
            refine PW.inv (m' := mX8_asks) (pc := 73) dX8_qTest_73 lm_X8_311 me_X8_asks mi_X8_asks (ob hM.1 s_277 (by decide)) rfl (As := [.ref 332]) (st := []) rfl (Nat.le_of_ble_eq_true rfl) (Nat.le_of_ble_eq_true rfl) (Nat.le_of_eq hM.1) (Nat.le_refl _) (PW.deep (by decide) (c_X8_asks s_332 hM h)) ?_
            rintro _ M15 ⟨hM, rfl, h⟩
            refine PW.goto (pc := 76) dX8_qTest_76 (t := 2) (by decide) ?_
            exact PW.drop (ih _ _ hM h) ⟨rfl, rfl, trivial⟩
        · have h := h.2 hc
          refine PW.aload_n (pc := 24) dX8_qTest_24 rfl ?_
          refine PW.bipush (pc := 25) dX8_qTest_25 (v := 25) (by decide) ?_
          refine PW.aload_n (pc := 27) dX8_qTest_27 rfl ?_
          refine PW.getI (pc := 28) dX8_qTest_28 lf_X8_255 (ob hM.1 s_277 (by decide)) fx_8_2 ?_
          refine PW.inv (m' := mX8_qOpens) (pc := 31) dX8_qTest_31 lm_X8_601 me_X8_qOpens mi_X8_qOpens (ob hM.1 s_277 (by decide)) rfl (As := [.int 25, .int (mI M1 277 2)]) (st := []) rfl (Nat.le_of_ble_eq_true rfl) (Nat.le_of_ble_eq_true rfl) (Nat.le_of_eq hM.1) (Nat.le_refl _) (PW.deep (by decide) (c_X8_qOpens  hM h)) ?_
          rintro _ M17 ⟨hM, rfl, h⟩
          refine PW.aload_n (pc := 34) dX8_qTest_34 rfl ?_
          refine PW.dupR (pc := 35) dX8_qTest_35 ?_
          refine PW.getI (pc := 36) dX8_qTest_36 lf_X8_255 (ob hM.1 s_277 (by decide)) fx_8_2 ?_
          refine PW.iconst (pc := 39) dX8_qTest_39 (v := 1) (by decide) ?_
          refine PW.iadd (pc := 40) dX8_qTest_40 ?_
          refine PW.putI (pc := 41) dX8_qTest_41 lf_X8_255 (ob hM.1 s_277 (by decide)) fx_8_2 fw_8_2 rfl rfl ?_
          refine PW.goto (pc := 44) dX8_qTest_44 (t := 2) (by decide) ?_
          exact PW.drop (ih _ _ (hM.same rfl rfl) h) ⟨rfl, rfl, trivial⟩
def w_X8_qTest_110 : Nat → pm → (pm → Prop) → Prop
  | 0, _, _ => False
  | n + 1, M, Q => ((¬ (mI M 277 5) = 0 → (Q M)) ∧ ((mI M 277 5) = 0 → (((mI M 277 98) ≤ 0 → (Q M)) ∧ (¬ (mI M 277 98) ≤ 0 → (w_X8_qDrops  M (fun M21 => w_X8_qTest_110 n M21 Q))))))
set_option maxRecDepth 4000 in
theorem c_X8_qTest_110  {Q : pm → Prop}  : ∀ (n : Nat)  (M : pm), pG M → w_X8_qTest_110 n  M  Q → PW mX8_qTest 9 350 110 [.ref 277, .null, .null] [] M (qV Q) := by
  intro n
  induction n with
  | zero => intro M hM h; exact h.elim
  | succ n ih =>
    intro M hM h
    unfold w_X8_qTest_110 at h
    refine PW.aload_n (pc := 110) dX8_qTest_110 rfl ?_
    refine PW.getI (pc := 111) dX8_qTest_111 lf_X8_249 (ob hM.1 s_277 (by decide)) fx_8_5 ?_
    refine PW.if_ne (pc := 114) dX8_qTest_114 (t := 131) (by decide) (fun hc => ?_) (fun hc => ?_)
    · have h := h.1 hc
      exact PW.ret0 (pc := 131) dX8_qTest_131 hM.1 rfl ⟨hM, rfl, h⟩
    · have h := h.2 hc
      refine PW.aload_n (pc := 117) dX8_qTest_117 rfl ?_
      refine PW.getI (pc := 118) dX8_qTest_118 lf_X8_340 (ob hM.1 s_277 (by decide)) fx_8_98 ?_
      refine PW.if_le (pc := 121) dX8_qTest_121 (t := 131) (by decide) (fun hc => ?_) (fun hc => ?_)
      · have h := h.1 hc
        exact PW.ret0 (pc := 131) dX8_qTest_131 hM.1 rfl ⟨hM, rfl, h⟩
      · have h := h.2 hc
        refine PW.aload_n (pc := 124) dX8_qTest_124 rfl ?_
        refine PW.inv (m' := mX8_qDrops) (pc := 125) dX8_qTest_125 lm_X8_589 me_X8_qDrops mi_X8_qDrops (ob hM.1 s_277 (by decide)) rfl (As := []) (st := []) rfl (Nat.le_of_ble_eq_true rfl) (Nat.le_of_ble_eq_true rfl) (Nat.le_of_eq hM.1) (Nat.le_refl _) (PW.deep (by decide) (c_X8_qDrops  hM h)) ?_
        rintro _ M21 ⟨hM, rfl, h⟩
        refine PW.goto (pc := 128) dX8_qTest_128 (t := 110) (by decide) ?_
        exact PW.drop (ih _ hM h) ⟨rfl, trivial⟩
def w_X8_qTest  (M : pm) (Q : pm → Prop) : Prop := ∃ n19, w_X8_qTest_2 n19 1 M (fun M20 => ∃ n23, w_X8_qTest_110 n23  M20  Q) Q
set_option maxRecDepth 4000 in
theorem c_X8_qTest  {M : pm} {Q : pm → Prop}  (hM : pG M) (h : w_X8_qTest  M Q) : PW mX8_qTest 9 350 0 (pfr mX8_qTest.2.2.1 [.ref 277]) [] M (qV Q) := by
  unfold w_X8_qTest at h
  show PW mX8_qTest 9 350 0 [.ref 277, .null, .null] [] M (qV Q)
  refine PW.iconst (pc := 0) dX8_qTest_0 (v := 1) (by decide) ?_
  refine PW.istore_n (pc := 1) dX8_qTest_1 (ls' := [.ref 277, .int 1, .null]) (by decide) rfl rfl ?_
  obtain ⟨n19, h⟩ := h
  refine PW.drop (c_X8_qTest_2 ?_ n19 _ _ hM h) ⟨rfl, rfl, trivial⟩
  · intro M20 hM h
    obtain ⟨n23, h⟩ := h
    refine PW.drop (c_X8_qTest_110  n23 _ hM h) ⟨rfl, trivial⟩
def w_X8_codesTold_100 : Nat → Int32 → Int32 → pm → (pm → Prop) → Prop
  | 0, _, _, _, _ => False
  | n + 1, x1, x3, M, Q => (((mI M 277 96) ≤ x3 → (vp_in x1 6 ∧ (Q (sI M 315 x1.toNatClampNeg (mI M 277 48))))) ∧ (¬ (mI M 277 96) ≤ x3 → (vp_in x3 1700 ∧ (vp_in (mI M 277 48) 3200 ∧ (w_X8_codesTold_100 n x1 (x3 + 1) (sI (sI M 316 ((mI M 277 48).toNatClampNeg) (mI M 349 x3.toNatClampNeg)) 277 48 ((mI M 277 48) + 1)) Q)))))
set_option maxRecDepth 4000 in
theorem c_X8_codesTold_100  {Q : pm → Prop}  : ∀ (n : Nat) (x1 : Int32) (x3 : Int32) (M : pm), pG M → w_X8_codesTold_100 n x1 x3 M  Q → PW mX8_codesTold 10 350 100 [.ref 277, .int x1, .null, .int x3] [] M (qV Q) := by
  intro n
  induction n with
  | zero => intro x1 x3 M hM h; exact h.elim
  | succ n ih =>
    intro x1 x3 M hM h
    unfold w_X8_codesTold_100 at h
    refine PW.iload_n (pc := 100) dX8_codesTold_100 rfl ?_
    refine PW.aload_n (pc := 101) dX8_codesTold_101 rfl ?_
    refine PW.getI (pc := 102) dX8_codesTold_102 lf_X8_337 (ob hM.1 s_277 (by decide)) fx_8_96 ?_
    refine PW.icmp_ge (pc := 105) dX8_codesTold_105 (t := 139) (by decide) (fun hc => ?_) (fun hc => ?_)
    · have h := h.1 hc
      refine PW.aload_n (pc := 139) dX8_codesTold_139 rfl ?_
      refine PW.getR (pc := 140) dX8_codesTold_140 (r := 315) lf_X8_127 (ob hM.1 s_277 (by decide)) fx_8_46 (oR_8_46 hM s_277) (pS_ne s_315) ?_
      refine PW.iload_n (pc := 143) dX8_codesTold_143 rfl ?_
      refine PW.aload_n (pc := 144) dX8_codesTold_144 rfl ?_
      refine PW.getI (pc := 145) dX8_codesTold_145 lf_X8_355 (ob hM.1 s_277 (by decide)) fx_8_48 ?_
      obtain ⟨v4, h⟩ := h
      refine PW.iast (pc := 148) dX8_codesTold_148 (ar hM.1 s_315) (vpl n_315 v4) ?_
      exact PW.ret0 (pc := 149) dX8_codesTold_149 hM.1 rfl ⟨(hM.same rfl rfl), rfl, h⟩
    · have h := h.2 hc
      refine PW.aload_n (pc := 108) dX8_codesTold_108 rfl ?_
      refine PW.getR (pc := 109) dX8_codesTold_109 (r := 316) lf_X8_130 (ob hM.1 s_277 (by decide)) fx_8_47 (oR_8_47 hM s_277) (pS_ne s_316) ?_
      refine PW.aload_n (pc := 112) dX8_codesTold_112 rfl ?_
      refine PW.getI (pc := 113) dX8_codesTold_113 lf_X8_355 (ob hM.1 s_277 (by decide)) fx_8_48 ?_
      refine PW.aload_n (pc := 116) dX8_codesTold_116 rfl ?_
      refine PW.getR (pc := 117) dX8_codesTold_117 (r := 349) lf_X8_234 (ob hM.1 s_277 (by decide)) fx_8_95 (oR_8_95 hM s_277) (pS_ne s_349) ?_
      refine PW.iload_n (pc := 120) dX8_codesTold_120 rfl ?_
      obtain ⟨v5, h⟩ := h
      refine PW.iald (pc := 121) dX8_codesTold_121 (ar hM.1 s_349) (vpl n_349 v5) ?_
      obtain ⟨v6, h⟩ := h
      refine PW.iast (pc := 122) dX8_codesTold_122 (ar hM.1 s_316) (vpl n_316 v6) ?_
      refine PW.aload_n (pc := 123) dX8_codesTold_123 rfl ?_
      refine PW.dupR (pc := 124) dX8_codesTold_124 ?_
      refine PW.getI (pc := 125) dX8_codesTold_125 lf_X8_355 (ob hM.1 s_277 (by decide)) fx_8_48 ?_
      refine PW.iconst (pc := 128) dX8_codesTold_128 (v := 1) (by decide) ?_
      refine PW.iadd (pc := 129) dX8_codesTold_129 ?_
      refine PW.putI (pc := 130) dX8_codesTold_130 lf_X8_355 (ob hM.1 s_277 (by decide)) fx_8_48 fw_8_48 rfl rfl ?_
      refine PW.iinc (pc := 133) dX8_codesTold_133 (v := (x3 + 1)) (ls' := [.ref 277, .int x1, .null, .int (x3 + 1)]) rfl rfl (by decide) rfl rfl ?_
      refine PW.goto (pc := 136) dX8_codesTold_136 (t := 100) (by decide) ?_
      exact PW.drop (ih _ _ _ (hM.same rfl rfl) h) ⟨rfl, rfl, rfl, trivial⟩
def w_X8_codesTold_80  (x1 : Int32) (M : pm)  (Q : pm → Prop) : Prop := (((mI M 277 5) = 0 → (vp_in x1 6 ∧ (∃ n7, w_X8_codesTold_100 n7 x1 0 (sI M 314 x1.toNatClampNeg (mI M 277 48))  Q))) ∧ (¬ (mI M 277 5) = 0 → (Q M)))
set_option maxRecDepth 4000 in
theorem c_X8_codesTold_80  {Q : pm → Prop}  : ∀ (x1 : Int32) (M : pm), pG M → w_X8_codesTold_80 x1 M  Q → PW mX8_codesTold 10 350 80 [.ref 277, .int x1, .null, .null] [] M (qV Q) := by
  intro x1 M hM h
  unfold w_X8_codesTold_80 at h
  refine PW.aload_n (pc := 80) dX8_codesTold_80 rfl ?_
  refine PW.getI (pc := 81) dX8_codesTold_81 lf_X8_249 (ob hM.1 s_277 (by decide)) fx_8_5 ?_
  refine PW.if_eq (pc := 84) dX8_codesTold_84 (t := 88) (by decide) (fun hc => ?_) (fun hc => ?_)
  · have h := h.1 hc
    refine PW.aload_n (pc := 88) dX8_codesTold_88 rfl ?_
    refine PW.getR (pc := 89) dX8_codesTold_89 (r := 314) lf_X8_124 (ob hM.1 s_277 (by decide)) fx_8_45 (oR_8_45 hM s_277) (pS_ne s_314) ?_
    refine PW.iload_n (pc := 92) dX8_codesTold_92 rfl ?_
    refine PW.aload_n (pc := 93) dX8_codesTold_93 rfl ?_
    refine PW.getI (pc := 94) dX8_codesTold_94 lf_X8_355 (ob hM.1 s_277 (by decide)) fx_8_48 ?_
    obtain ⟨v3, h⟩ := h
    refine PW.iast (pc := 97) dX8_codesTold_97 (ar hM.1 s_314) (vpl n_314 v3) ?_
    refine PW.iconst (pc := 98) dX8_codesTold_98 (v := 0) (by decide) ?_
    refine PW.istore_n (pc := 99) dX8_codesTold_99 (ls' := [.ref 277, .int x1, .null, .int 0]) (by decide) rfl rfl ?_
    obtain ⟨n7, h⟩ := h
    refine PW.drop (c_X8_codesTold_100  n7 _ _ _ (hM.same rfl rfl) h) ⟨rfl, rfl, rfl, trivial⟩
  · have h := h.2 hc
    exact PW.ret0 (pc := 87) dX8_codesTold_87 hM.1 rfl ⟨hM, rfl, h⟩
def w_X8_codesTold_41  (x1 : Int32) (t1 : Int32) (M : pm)  (Q : pm → Prop) : Prop := ((¬ x1 = 1 → (w_X8_qSums  (sI (sI (sI (sI (sI M 277 51 t1) 277 96 0) 277 98 0) 277 99 0) 277 100 0) (fun M1 => w_X8_codesTold_80 x1 M1  Q))) ∧ (x1 = 1 → (w_X8_qTest  (sI (sI (sI (sI (sI M 277 51 t1) 277 96 0) 277 98 0) 277 99 0) 277 100 0) (fun M8 => w_X8_codesTold_80 x1 M8  Q))))
set_option maxRecDepth 4000 in
theorem c_X8_codesTold_41  {Q : pm → Prop}  : ∀ (x1 : Int32) (t1 : Int32) (M : pm), pG M → w_X8_codesTold_41 x1 t1 M  Q → PW mX8_codesTold 10 350 41 [.ref 277, .int x1, .null, .null] [.ref 277, .int t1] M (qV Q) := by
  intro x1 t1 M hM h
  unfold w_X8_codesTold_41 at h
  refine PW.putI (pc := 41) dX8_codesTold_41 lf_X8_304 (ob hM.1 s_277 (by decide)) fx_8_51 fw_8_51 rfl rfl ?_
  refine PW.aload_n (pc := 44) dX8_codesTold_44 rfl ?_
  refine PW.iconst (pc := 45) dX8_codesTold_45 (v := 0) (by decide) ?_
  refine PW.putI (pc := 46) dX8_codesTold_46 lf_X8_337 (ob hM.1 s_277 (by decide)) fx_8_96 fw_8_96 rfl rfl ?_
  refine PW.aload_n (pc := 49) dX8_codesTold_49 rfl ?_
  refine PW.iconst (pc := 50) dX8_codesTold_50 (v := 0) (by decide) ?_
  refine PW.putI (pc := 51) dX8_codesTold_51 lf_X8_340 (ob hM.1 s_277 (by decide)) fx_8_98 fw_8_98 rfl rfl ?_
  refine PW.aload_n (pc := 54) dX8_codesTold_54 rfl ?_
  refine PW.iconst (pc := 55) dX8_codesTold_55 (v := 0) (by decide) ?_
  refine PW.putI (pc := 56) dX8_codesTold_56 lf_X8_343 (ob hM.1 s_277 (by decide)) fx_8_99 fw_8_99 rfl rfl ?_
  refine PW.aload_n (pc := 59) dX8_codesTold_59 rfl ?_
  refine PW.iconst (pc := 60) dX8_codesTold_60 (v := 0) (by decide) ?_
  refine PW.putI (pc := 61) dX8_codesTold_61 lf_X8_346 (ob hM.1 s_277 (by decide)) fx_8_100 fw_8_100 rfl rfl ?_
  refine PW.iload_n (pc := 64) dX8_codesTold_64 rfl ?_
  refine PW.iconst (pc := 65) dX8_codesTold_65 (v := 1) (by decide) ?_
  refine PW.icmp_ne (pc := 66) dX8_codesTold_66 (t := 76) (by decide) (fun hc => ?_) (fun hc => ?_)
  · have h := h.1 hc
    refine PW.aload_n (pc := 76) dX8_codesTold_76 rfl ?_
    refine PW.inv (m' := mX8_qSums) (pc := 77) dX8_codesTold_77 lm_X8_352 me_X8_qSums mi_X8_qSums (ob hM.1 s_277 (by decide)) rfl (As := []) (st := []) rfl (Nat.le_of_ble_eq_true rfl) (Nat.le_of_ble_eq_true rfl) (Nat.le_of_eq hM.1) (Nat.le_refl _) (PW.deep (by decide) (c_X8_qSums  (hM.same rfl rfl) h)) ?_
    rintro _ M1 ⟨hM, rfl, h⟩
    exact PW.drop (c_X8_codesTold_80  _ _ hM h) ⟨rfl, rfl, trivial⟩
  · have h := h.2 hc
    refine PW.aload_n (pc := 69) dX8_codesTold_69 rfl ?_
    refine PW.inv (m' := mX8_qTest) (pc := 70) dX8_codesTold_70 lm_X8_349 me_X8_qTest mi_X8_qTest (ob hM.1 s_277 (by decide)) rfl (As := []) (st := []) rfl (Nat.le_of_ble_eq_true rfl) (Nat.le_of_ble_eq_true rfl) (Nat.le_of_eq hM.1) (Nat.le_refl _) (PW.deep (by decide) (c_X8_qTest  (hM.same rfl rfl) h)) ?_
    rintro _ M8 ⟨hM, rfl, h⟩
    refine PW.goto (pc := 73) dX8_codesTold_73 (t := 80) (by decide) ?_
    exact PW.drop (c_X8_codesTold_80  _ _ hM h) ⟨rfl, rfl, trivial⟩
def w_X8_codesTold (x1 : Int32) (x2 : Int32) (M : pm) (Q : pm → Prop) : Prop := ((¬ (mI M 277 5) = 0 → (((mI M 277 5) = 0 → ((¬ x1 = 0 → (w_X8_codesTold_41 x1 1 M  Q)) ∧ (x1 = 0 → (w_X8_codesTold_41 x1 0 M  Q)))) ∧ (¬ (mI M 277 5) = 0 → (Q M)))) ∧ ((mI M 277 5) = 0 → (vp_in x1 6 ∧ (((mI M 314 x1.toNatClampNeg) = (-1) → (((mI M 277 5) = 0 → ((¬ x1 = 0 → (w_X8_codesTold_41 x1 1 M  Q)) ∧ (x1 = 0 → (w_X8_codesTold_41 x1 0 M  Q)))) ∧ (¬ (mI M 277 5) = 0 → (Q M)))) ∧ (¬ (mI M 314 x1.toNatClampNeg) = (-1) → (w_X8_fail 5 x2 M (fun M11 => (((mI M11 277 5) = 0 → ((¬ x1 = 0 → (w_X8_codesTold_41 x1 1 M11  Q)) ∧ (x1 = 0 → (w_X8_codesTold_41 x1 0 M11  Q)))) ∧ (¬ (mI M11 277 5) = 0 → (Q M11))))))))))
set_option maxRecDepth 4000 in
theorem c_X8_codesTold {x1 : Int32} {x2 : Int32} {M : pm} {Q : pm → Prop}  (hM : pG M) (h : w_X8_codesTold x1 x2 M Q) : PW mX8_codesTold 10 350 0 (pfr mX8_codesTold.2.2.1 [.ref 277, .int x1, .int x2]) [] M (qV Q) := by
  unfold w_X8_codesTold at h
  show PW mX8_codesTold 10 350 0 [.ref 277, .int x1, .int x2, .null] [] M (qV Q)
  refine PW.aload_n (pc := 0) dX8_codesTold_0 rfl ?_
  refine PW.getI (pc := 1) dX8_codesTold_1 lf_X8_249 (ob hM.1 s_277 (by decide)) fx_8_5 ?_
  refine PW.if_ne (pc := 4) dX8_codesTold_4 (t := 23) (by decide) (fun hc => ?_) (fun hc => ?_)
  · have h := h.1 hc
    refine PW.aload_n (pc := 23) dX8_codesTold_23 rfl ?_
    refine PW.getI (pc := 24) dX8_codesTold_24 lf_X8_249 (ob hM.1 s_277 (by decide)) fx_8_5 ?_
    refine PW.if_eq (pc := 27) dX8_codesTold_27 (t := 31) (by decide) (fun hc => ?_) (fun hc => ?_)
    · have h := h.1 hc
      refine PW.aload_n (pc := 31) dX8_codesTold_31 rfl ?_
      refine PW.iload_n (pc := 32) dX8_codesTold_32 rfl ?_
      refine PW.if_ne (pc := 33) dX8_codesTold_33 (t := 40) (by decide) (fun hc => ?_) (fun hc => ?_)
      · have h := h.1 hc
        refine PW.iconst (pc := 40) dX8_codesTold_40 (v := 1) (by decide) ?_
        exact PW.drop (c_X8_codesTold_41  _ _ _ hM h) ⟨rfl, rfl, trivial⟩
      · have h := h.2 hc
        refine PW.iconst (pc := 36) dX8_codesTold_36 (v := 0) (by decide) ?_
        refine PW.goto (pc := 37) dX8_codesTold_37 (t := 41) (by decide) ?_
        exact PW.drop (c_X8_codesTold_41  _ _ _ hM h) ⟨rfl, rfl, trivial⟩
    · have h := h.2 hc
      exact PW.ret0 (pc := 30) dX8_codesTold_30 hM.1 rfl ⟨hM, rfl, h⟩
  · have h := h.2 hc
    refine PW.aload_n (pc := 7) dX8_codesTold_7 rfl ?_
    refine PW.getR (pc := 8) dX8_codesTold_8 (r := 314) lf_X8_124 (ob hM.1 s_277 (by decide)) fx_8_45 (oR_8_45 hM s_277) (pS_ne s_314) ?_
    refine PW.iload_n (pc := 11) dX8_codesTold_11 rfl ?_
    obtain ⟨v10, h⟩ := h
    refine PW.iald (pc := 12) dX8_codesTold_12 (ar hM.1 s_314) (vpl n_314 v10) ?_
    refine PW.iconst (pc := 13) dX8_codesTold_13 (v := (-1)) (by decide) ?_
    refine PW.icmp_eq (pc := 14) dX8_codesTold_14 (t := 23) (by decide) (fun hc => ?_) (fun hc => ?_)
    · have h := h.1 hc
      refine PW.aload_n (pc := 23) dX8_codesTold_23 rfl ?_
      refine PW.getI (pc := 24) dX8_codesTold_24 lf_X8_249 (ob hM.1 s_277 (by decide)) fx_8_5 ?_
      refine PW.if_eq (pc := 27) dX8_codesTold_27 (t := 31) (by decide) (fun hc => ?_) (fun hc => ?_)
      · have h := h.1 hc
        refine PW.aload_n (pc := 31) dX8_codesTold_31 rfl ?_
        refine PW.iload_n (pc := 32) dX8_codesTold_32 rfl ?_
        refine PW.if_ne (pc := 33) dX8_codesTold_33 (t := 40) (by decide) (fun hc => ?_) (fun hc => ?_)
        · have h := h.1 hc
          refine PW.iconst (pc := 40) dX8_codesTold_40 (v := 1) (by decide) ?_
          exact PW.drop (c_X8_codesTold_41  _ _ _ hM h) ⟨rfl, rfl, trivial⟩
        · have h := h.2 hc
          refine PW.iconst (pc := 36) dX8_codesTold_36 (v := 0) (by decide) ?_
          refine PW.goto (pc := 37) dX8_codesTold_37 (t := 41) (by decide) ?_
          exact PW.drop (c_X8_codesTold_41  _ _ _ hM h) ⟨rfl, rfl, trivial⟩
      · have h := h.2 hc
        exact PW.ret0 (pc := 30) dX8_codesTold_30 hM.1 rfl ⟨hM, rfl, h⟩
    · have h := h.2 hc
      refine PW.aload_n (pc := 17) dX8_codesTold_17 rfl ?_
      refine PW.iconst (pc := 18) dX8_codesTold_18 (v := 5) (by decide) ?_
      refine PW.iload_n (pc := 19) dX8_codesTold_19 rfl ?_
      refine PW.inv (m' := mX8_fail) (pc := 20) dX8_codesTold_20 lm_X8_279 me_X8_fail mi_X8_fail (ob hM.1 s_277 (by decide)) rfl (As := [.int 5, .int x2]) (st := []) rfl (Nat.le_of_ble_eq_true rfl) (Nat.le_of_ble_eq_true rfl) (Nat.le_of_eq hM.1) (Nat.le_refl _) (PW.deep (by decide) (c_X8_fail  hM h)) ?_
      rintro _ M11 ⟨hM, rfl, h⟩
      refine PW.aload_n (pc := 23) dX8_codesTold_23 rfl ?_
      refine PW.getI (pc := 24) dX8_codesTold_24 lf_X8_249 (ob hM.1 s_277 (by decide)) fx_8_5 ?_
      refine PW.if_eq (pc := 27) dX8_codesTold_27 (t := 31) (by decide) (fun hc => ?_) (fun hc => ?_)
      · have h := h.1 hc
        refine PW.aload_n (pc := 31) dX8_codesTold_31 rfl ?_
        refine PW.iload_n (pc := 32) dX8_codesTold_32 rfl ?_
        refine PW.if_ne (pc := 33) dX8_codesTold_33 (t := 40) (by decide) (fun hc => ?_) (fun hc => ?_)
        · have h := h.1 hc
          refine PW.iconst (pc := 40) dX8_codesTold_40 (v := 1) (by decide) ?_
          exact PW.drop (c_X8_codesTold_41  _ _ _ hM h) ⟨rfl, rfl, trivial⟩
        · have h := h.2 hc
          refine PW.iconst (pc := 36) dX8_codesTold_36 (v := 0) (by decide) ?_
          refine PW.goto (pc := 37) dX8_codesTold_37 (t := 41) (by decide) ?_
          exact PW.drop (c_X8_codesTold_41  _ _ _ hM h) ⟨rfl, rfl, trivial⟩
      · have h := h.2 hc
        exact PW.ret0 (pc := 30) dX8_codesTold_30 hM.1 rfl ⟨hM, rfl, h⟩
