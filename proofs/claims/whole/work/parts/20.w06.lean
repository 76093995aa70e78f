/-! methods, walked by program: w_ what must hold before, c_ its proof -/
def w_X7_later (x1 : Int32) (M : pm) (Q : Int32 → pm → Prop) : Prop := ((x1 < 0 → (Q (-1) M)) ∧ (¬ x1 < 0 → ((60 < x1 → (Q (-1) M)) ∧ (¬ 60 < x1 → (w_X7_hasDayAhead x1 M (fun y2 M1 => ((¬ y2 = 0 → (w_X7_tryDays x1 M1 (fun M5 => w_X1_bestBits (mR M5 3 3) 66 M5 (fun y9 M8 => Q y9 M8)))) ∧ (y2 = 0 → (Q (-1) M1)))))))))
set_option maxRecDepth 4000 in
theorem c_X7_later {x1 : Int32} {M : pm} {Q : Int32 → pm → Prop}  (hM : pG M) (h : w_X7_later x1 M Q) : PW mX7_later 8 350 0 (pfr mX7_later.2.2.1 [.ref 3, .int x1]) [] M (qI Q) := by
  unfold w_X7_later at h
  show PW mX7_later 8 350 0 [.ref 3, .int x1] [] M (qI Q)
  refine PW.iload_n (pc := 0) dX7_later_0 rfl ?_
  refine PW.if_lt (pc := 1) dX7_later_1 (t := 18) (by decide) (fun hc => ?_) (fun hc => ?_)
  · have h := h.1 hc
    refine PW.iconst (pc := 18) dX7_later_18 (v := (-1)) (by decide) ?_
    exact PW.retI (pc := 19) dX7_later_19 hM.1 rfl rfl ⟨hM, _, rfl, h⟩
  · have h := h.2 hc
    refine PW.iload_n (pc := 4) dX7_later_4 rfl ?_
    refine PW.bipush (pc := 5) dX7_later_5 (v := 60) (by decide) ?_
    refine PW.icmp_gt (pc := 7) dX7_later_7 (t := 18) (by decide) (fun hc => ?_) (fun hc => ?_)
    · have h := h.1 hc
      refine PW.iconst (pc := 18) dX7_later_18 (v := (-1)) (by decide) ?_
      exact PW.retI (pc := 19) dX7_later_19 hM.1 rfl rfl ⟨hM, _, rfl, h⟩
    · have h := h.2 hc
      refine PW.aload_n (pc := 10) dX7_later_10 rfl ?_
      refine PW.iload_n (pc := 11) dX7_later_11 rfl ?_
      refine PW.inv (m' := mX7_hasDayAhead) (pc := 12) dX7_later_12 lm_X7_253 me_X7_hasDayAhead mi_X7_hasDayAhead (ob hM.1 s_3 (by decide)) rfl (As := [.int x1]) (st := []) rfl (Nat.le_of_ble_eq_true rfl) (Nat.le_of_ble_eq_true rfl) (Nat.le_of_eq hM.1) (Nat.le_refl _) (PW.deep (by decide) (c_X7_hasDayAhead  hM h)) ?_
      rintro _ M1 ⟨hM3, y2, rfl, z4, h⟩
      refine PW.if_ne (pc := 15) dX7_later_15 (t := 20) (by decide) (fun hc => ?_) (fun hc => ?_)
      · have h := h.1 hc
        refine PW.aload_n (pc := 20) dX7_later_20 rfl ?_
        refine PW.iload_n (pc := 21) dX7_later_21 rfl ?_
        refine PW.inv (m' := mX7_tryDays) (pc := 22) dX7_later_22 lm_X7_256 me_X7_tryDays mi_X7_tryDays (ob hM3.1 s_3 (by decide)) rfl (As := [.int x1]) (st := []) rfl (Nat.le_of_ble_eq_true rfl) (Nat.le_of_ble_eq_true rfl) (Nat.le_of_eq hM3.1) (Nat.le_refl _) (PW.deep (by decide) (c_X7_tryDays  hM3 h)) ?_
        rintro _ M5 ⟨hM7, rfl, h⟩
        refine PW.aload_n (pc := 25) dX7_later_25 rfl ?_
        refine PW.getR (pc := 26) dX7_later_26 (r := 44) lf_X7_47 (ob hM7.1 s_3 (by decide)) fx_7_8 (oR_7_8 hM7 s_3) (pS_ne s_44) ?_
        refine PW.aload_n (pc := 29) dX7_later_29 rfl ?_
        refine PW.getR (pc := 30) dX7_later_30 (r := (mR M5 3 3)) lf_X7_27 (ob hM7.1 s_3 (by decide)) fx_7_3 rfl (pS_ne (hM7.2.2.2.2.1)) ?_
        refine PW.aload_n (pc := 33) dX7_later_33 rfl ?_
        refine PW.getR (pc := 34) dX7_later_34 (r := 66) lf_X7_58 (ob hM7.1 s_3 (by decide)) fx_7_10 (oR_7_10 hM7 s_3) (pS_ne s_66) ?_
        refine PW.inv (m' := mX1_bestBits) (pc := 37) dX7_later_37 lm_X7_228 me_X1_bestBits mi_X1_bestBits (ob hM7.1 s_44 (by decide)) rfl (As := [.ref (mR M5 3 3), .ref 66]) (st := []) rfl (Nat.le_of_ble_eq_true rfl) (Nat.le_of_ble_eq_true rfl) (Nat.le_of_eq hM7.1) (Nat.le_refl _) (PW.deep (by decide) (c_X1_bestBits (hM7.2.2.2.2.1) s_66 hM7 h)) ?_
        rintro _ M8 ⟨hM10, y9, rfl, h⟩
        exact PW.retI (pc := 40) dX7_later_40 hM10.1 rfl rfl ⟨hM10, _, rfl, h⟩
      · have h := h.2 hc
        refine PW.iconst (pc := 18) dX7_later_18 (v := (-1)) (by decide) ?_
        exact PW.retI (pc := 19) dX7_later_19 hM3.1 rfl rfl ⟨hM3, _, rfl, h⟩
def w_X7_minded (x1 : Int32) (x2 : Int32) (M : pm) (Q : Int32 → pm → Prop) : Prop := w_X7_isAsker x1 M (fun y2 M1 => ((y2 = 0 → (Q (-1) M1)) ∧ (¬ y2 = 0 → ((x2 < 0 → (Q (-1) M1)) ∧ (¬ x2 < 0 → ((60 < x2 → (Q (-1) M1)) ∧ (¬ 60 < x2 → (w_X7_hasDayAhead x2 M1 (fun y6 M5 => ((¬ y6 = 0 → (w_X7_tryDays x2 M5 (fun M9 => vp_in x1 8 ∧ (Q (mI M9 69 x1.toNatClampNeg) M9)))) ∧ (y6 = 0 → (Q (-1) M5))))))))))))
set_option maxRecDepth 4000 in
theorem c_X7_minded {x1 : Int32} {x2 : Int32} {M : pm} {Q : Int32 → pm → Prop}  (hM : pG M) (h : w_X7_minded x1 x2 M Q) : PW mX7_minded 8 350 0 (pfr mX7_minded.2.2.1 [.ref 3, .int x1, .int x2]) [] M (qI Q) := by
  unfold w_X7_minded at h
  show PW mX7_minded 8 350 0 [.ref 3, .int x1, .int x2] [] M (qI Q)
  refine PW.aload_n (pc := 0) dX7_minded_0 rfl ?_
  refine PW.iload_n (pc := 1) dX7_minded_1 rfl ?_
  refine PW.inv (m' := mX7_isAsker) (pc := 2) dX7_minded_2 lm_X7_188 me_X7_isAsker mi_X7_isAsker (ob hM.1 s_3 (by decide)) rfl (As := [.int x1]) (st := []) rfl (Nat.le_of_ble_eq_true rfl) (Nat.le_of_ble_eq_true rfl) (Nat.le_of_eq hM.1) (Nat.le_refl _) (PW.deep (by decide) (c_X7_isAsker  hM h)) ?_
  rintro _ M1 ⟨hM3, y2, rfl, z4, h⟩
  refine PW.if_eq (pc := 5) dX7_minded_5 (t := 26) (by decide) (fun hc => ?_) (fun hc => ?_)
  · have h := h.1 hc
    refine PW.iconst (pc := 26) dX7_minded_26 (v := (-1)) (by decide) ?_
    exact PW.retI (pc := 27) dX7_minded_27 hM3.1 rfl rfl ⟨hM3, _, rfl, h⟩
  · have h := h.2 hc
    refine PW.iload_n (pc := 8) dX7_minded_8 rfl ?_
    refine PW.if_lt (pc := 9) dX7_minded_9 (t := 26) (by decide) (fun hc => ?_) (fun hc => ?_)
    · have h := h.1 hc
      refine PW.iconst (pc := 26) dX7_minded_26 (v := (-1)) (by decide) ?_
      exact PW.retI (pc := 27) dX7_minded_27 hM3.1 rfl rfl ⟨hM3, _, rfl, h⟩
    · have h := h.2 hc
      refine PW.iload_n (pc := 12) dX7_minded_12 rfl ?_
      refine PW.bipush (pc := 13) dX7_minded_13 (v := 60) (by decide) ?_
      refine PW.icmp_gt (pc := 15) dX7_minded_15 (t := 26) (by decide) (fun hc => ?_) (fun hc => ?_)
      · have h := h.1 hc
        refine PW.iconst (pc := 26) dX7_minded_26 (v := (-1)) (by decide) ?_
        exact PW.retI (pc := 27) dX7_minded_27 hM3.1 rfl rfl ⟨hM3, _, rfl, h⟩
      · have h := h.2 hc
        refine PW.aload_n (pc := 18) dX7_minded_18 rfl ?_
        refine PW.iload_n (pc := 19) dX7_minded_19 rfl ?_
        refine PW.inv (m' := mX7_hasDayAhead) (pc := 20) dX7_minded_20 lm_X7_253 me_X7_hasDayAhead mi_X7_hasDayAhead (ob hM3.1 s_3 (by decide)) rfl (As := [.int x2]) (st := []) rfl (Nat.le_of_ble_eq_true rfl) (Nat.le_of_ble_eq_true rfl) (Nat.le_of_eq hM3.1) (Nat.le_refl _) (PW.deep (by decide) (c_X7_hasDayAhead  hM3 h)) ?_
        rintro _ M5 ⟨hM7, y6, rfl, z8, h⟩
        refine PW.if_ne (pc := 23) dX7_minded_23 (t := 28) (by decide) (fun hc => ?_) (fun hc => ?_)
        · have h := h.1 hc
          refine PW.aload_n (pc := 28) dX7_minded_28 rfl ?_
          refine PW.iload_n (pc := 29) dX7_minded_29 rfl ?_
          refine PW.inv (m' := mX7_tryDays) (pc := 30) dX7_minded_30 lm_X7_256 me_X7_tryDays mi_X7_tryDays (ob hM7.1 s_3 (by decide)) rfl (As := [.int x2]) (st := []) rfl (Nat.le_of_ble_eq_true rfl) (Nat.le_of_ble_eq_true rfl) (Nat.le_of_eq hM7.1) (Nat.le_refl _) (PW.deep (by decide) (c_X7_tryDays  hM7 h)) ?_
          rintro _ M9 ⟨hM11, rfl, h⟩
          refine PW.aload_n (pc := 33) dX7_minded_33 rfl ?_
          refine PW.getR (pc := 34) dX7_minded_34 (r := 66) lf_X7_58 (ob hM11.1 s_3 (by decide)) fx_7_10 (oR_7_10 hM11 s_3) (pS_ne s_66) ?_
          refine PW.getR (pc := 37) dX7_minded_37 (r := 69) lf_X7_175 (ob hM11.1 s_66 (by decide)) fx_4_4 (oR_4_4 hM11 s_66) (pS_ne s_69) ?_
          refine PW.iload_n (pc := 40) dX7_minded_40 rfl ?_
          obtain ⟨v12, h⟩ := h
          refine PW.iald (pc := 41) dX7_minded_41 (ar hM11.1 s_69) (vpl n_69 v12) ?_
          exact PW.retI (pc := 42) dX7_minded_42 hM11.1 rfl rfl ⟨hM11, _, rfl, h⟩
        · have h := h.2 hc
          refine PW.iconst (pc := 26) dX7_minded_26 (v := (-1)) (by decide) ?_
          exact PW.retI (pc := 27) dX7_minded_27 hM7.1 rfl rfl ⟨hM7, _, rfl, h⟩
def w_X7_nothing_6 : Nat → Int32 → pm → (Int32 → pm → Prop) → Prop
  | 0, _, _, _ => False
  | n + 1, x1, M, Q => ((60 < x1 → (Q (-1) M)) ∧ (¬ 60 < x1 → (w_X7_hasDayAhead x1 M (fun y5 M4 => ((y5 = 0 → (Q (-1) M4)) ∧ (¬ y5 = 0 → (w_X1_bestBits (mR M4 3 3) 66 M4 (fun y9 M8 => ((¬ y9 = 0 → (w_X1_playDay (mR M8 3 3) 66 y9 M8 (fun y12 M11 => w_X7_nothing_6 n (x1 + 1) M11 Q))) ∧ (y9 = 0 → (Q x1 M8)))))))))))
set_option maxRecDepth 4000 in
theorem c_X7_nothing_6  {Q : Int32 → pm → Prop}  : ∀ (n : Nat) (x1 : Int32) (M : pm), pG M → w_X7_nothing_6 n x1 M  Q → PW mX7_nothing 7 350 6 [.ref 3, .int x1, .null] [] M (qI Q) := by
  intro n
  induction n with
  | zero => intro x1 M hM h; exact h.elim
  | succ n ih =>
    intro x1 M hM h
    unfold w_X7_nothing_6 at h
    refine PW.iload_n (pc := 6) dX7_nothing_6 rfl ?_
    refine PW.bipush (pc := 7) dX7_nothing_7 (v := 60) (by decide) ?_
    refine PW.icmp_gt (pc := 9) dX7_nothing_9 (t := 65) (by decide) (fun hc => ?_) (fun hc => ?_)
    · have h := h.1 hc
      refine PW.iconst (pc := 65) dX7_nothing_65 (v := (-1)) (by decide) ?_
      exact PW.retI (pc := 66) dX7_nothing_66 hM.1 rfl rfl ⟨hM, _, rfl, h⟩
    · have h := h.2 hc
      refine PW.aload_n (pc := 12) dX7_nothing_12 rfl ?_
      refine PW.iload_n (pc := 13) dX7_nothing_13 rfl ?_
      refine PW.inv (m' := mX7_hasDayAhead) (pc := 14) dX7_nothing_14 lm_X7_253 me_X7_hasDayAhead mi_X7_hasDayAhead (ob hM.1 s_3 (by decide)) rfl (As := [.int x1]) (st := []) rfl (Nat.le_of_ble_eq_true rfl) (Nat.le_of_ble_eq_true rfl) (Nat.le_of_eq hM.1) (Nat.le_refl _) (PW.deep (by decide) (c_X7_hasDayAhead  hM h)) ?_
      rintro _ M4 ⟨hM6, y5, rfl, z7, h⟩
      refine PW.if_eq (pc := 17) dX7_nothing_17 (t := 65) (by decide) (fun hc => ?_) (fun hc => ?_)
      · have h := h.1 hc
        refine PW.iconst (pc := 65) dX7_nothing_65 (v := (-1)) (by decide) ?_
        exact PW.retI (pc := 66) dX7_nothing_66 hM6.1 rfl rfl ⟨hM6, _, rfl, h⟩
      · have h := h.2 hc
        refine PW.aload_n (pc := 20) dX7_nothing_20 rfl ?_
        refine PW.getR (pc := 21) dX7_nothing_21 (r := 44) lf_X7_47 (ob hM6.1 s_3 (by decide)) fx_7_8 (oR_7_8 hM6 s_3) (pS_ne s_44) ?_
        refine PW.aload_n (pc := 24) dX7_nothing_24 rfl ?_
        refine PW.getR (pc := 25) dX7_nothing_25 (r := (mR M4 3 3)) lf_X7_27 (ob hM6.1 s_3 (by decide)) fx_7_3 rfl (pS_ne (hM6.2.2.2.2.1)) ?_
        refine PW.aload_n (pc := 28) dX7_nothing_28 rfl ?_
        refine PW.getR (pc := 29) dX7_nothing_29 (r := 66) lf_X7_58 (ob hM6.1 s_3 (by decide)) fx_7_10 (oR_7_10 hM6 s_3) (pS_ne s_66) ?_
        refine PW.inv (m' := mX1_bestBits) (pc := 32) dX7_nothing_32 lm_X7_228 me_X1_bestBits mi_X1_bestBits (ob hM6.1 s_44 (by decide)) rfl (As := [.ref (mR M4 3 3), .ref 66]) (st := []) rfl (Nat.le_of_ble_eq_true rfl) (Nat.le_of_ble_eq_true rfl) (Nat.le_of_eq hM6.1) (Nat.le_refl _) (PW.deep (by decide) (c_X1_bestBits (hM6.2.2.2.2.1) s_66 hM6 h)) ?_
        rintro _ M8 ⟨hM10, y9, rfl, h⟩
        refine PW.istore_n (pc := 35) dX7_nothing_35 (ls' := [.ref 3, .int x1, .int y9]) (by decide) rfl rfl ?_
        refine PW.iload_n (pc := 36) dX7_nothing_36 rfl ?_
        refine PW.if_ne (pc := 37) dX7_nothing_37 (t := 42) (by decide) (fun hc => ?_) (fun hc => ?_)
        · have h := h.1 hc
          refine PW.aload_n (pc := 42) dX7_nothing_42 rfl ?_
          refine PW.getR (pc := 43) dX7_nothing_43 (r := 44) lf_X7_47 (ob hM10.1 s_3 (by decide)) fx_7_8 (oR_7_8 hM10 s_3) (pS_ne s_44) ?_
          refine PW.aload_n (pc := 46) dX7_nothing_46 rfl ?_
          refine PW.getR (pc := 47) dX7_nothing_47 (r := (mR M8 3 3)) lf_X7_27 (ob hM10.1 s_3 (by decide)) fx_7_3 rfl (pS_ne (hM10.2.2.2.2.1)) ?_
          refine PW.aload_n (pc := 50) dX7_nothing_50 rfl ?_
          refine PW.getR (pc := 51) dX7_nothing_51 (r := 66) lf_X7_58 (ob hM10.1 s_3 (by decide)) fx_7_10 (oR_7_10 hM10 s_3) (pS_ne s_66) ?_
          refine PW.iload_n (pc := 54) dX7_nothing_54 rfl ?_
          refine PW.inv (m' := mX1_playDay) (pc := 55) dX7_nothing_55 lm_X7_250 me_X1_playDay mi_X1_playDay (ob hM10.1 s_44 (by decide)) rfl (As := [.ref (mR M8 3 3), .ref 66, .int y9]) (st := []) rfl (Nat.le_of_ble_eq_true rfl) (Nat.le_of_ble_eq_true rfl) (Nat.le_of_eq hM10.1) (Nat.le_refl _) (PW.deep (by decide) (c_X1_playDay (hM10.2.2.2.2.1) s_66 hM10 h)) ?_
          rintro _ M11 ⟨hM13, y12, rfl, h⟩
          refine PW.popI (pc := 58) dX7_nothing_58 ?_
          refine PW.iinc (pc := 59) dX7_nothing_59 (v := (x1 + 1)) (ls' := [.ref 3, .int (x1 + 1), .int y9]) rfl rfl (by decide) rfl rfl ?_
          refine PW.goto (pc := 62) dX7_nothing_62 (t := 6) (by decide) ?_
          exact PW.drop (ih _ _ hM13 h) ⟨rfl, rfl, trivial⟩
        · have h := h.2 hc
          refine PW.iload_n (pc := 40) dX7_nothing_40 rfl ?_
          exact PW.retI (pc := 41) dX7_nothing_41 hM10.1 rfl rfl ⟨hM10, _, rfl, h⟩
def w_X7_nothing  (M : pm) (Q : Int32 → pm → Prop) : Prop := w_X7_tryFromNow  M (fun M1 => ∃ n14, w_X7_nothing_6 n14 0 M1  Q)
set_option maxRecDepth 4000 in
theorem c_X7_nothing  {M : pm} {Q : Int32 → pm → Prop}  (hM : pG M) (h : w_X7_nothing  M Q) : PW mX7_nothing 7 350 0 (pfr mX7_nothing.2.2.1 [.ref 3]) [] M (qI Q) := by
  unfold w_X7_nothing at h
  show PW mX7_nothing 7 350 0 [.ref 3, .null, .null] [] M (qI Q)
  refine PW.aload_n (pc := 0) dX7_nothing_0 rfl ?_
  refine PW.inv (m' := mX7_tryFromNow) (pc := 1) dX7_nothing_1 lm_X7_247 me_X7_tryFromNow mi_X7_tryFromNow (ob hM.1 s_3 (by decide)) rfl (As := []) (st := []) rfl (Nat.le_of_ble_eq_true rfl) (Nat.le_of_ble_eq_true rfl) (Nat.le_of_eq hM.1) (Nat.le_refl _) (PW.deep (by decide) (c_X7_tryFromNow  hM h)) ?_
  rintro _ M1 ⟨hM3, rfl, h⟩
  refine PW.iconst (pc := 4) dX7_nothing_4 (v := 0) (by decide) ?_
  refine PW.istore_n (pc := 5) dX7_nothing_5 (ls' := [.ref 3, .int 0, .null]) (by decide) rfl rfl ?_
  obtain ⟨n14, h⟩ := h
  refine PW.drop (c_X7_nothing_6  n14 _ _ hM3 h) ⟨rfl, rfl, trivial⟩
def w_X7_hushed_6 : Nat → Int32 → pm → (Int32 → pm → Prop) → Prop
  | 0, _, _, _ => False
  | n + 1, x1, M, Q => ((60 < x1 → (Q (-1) M)) ∧ (¬ 60 < x1 → (w_X7_hasDayAhead x1 M (fun y5 M4 => ((y5 = 0 → (Q (-1) M4)) ∧ (¬ y5 = 0 → ((¬ (mI M4 66 1) = 0 → (w_X1_bestBits (mR M4 3 3) 66 M4 (fun y9 M8 => w_X1_playDay (mR M4 3 3) 66 y9 M8 (fun y12 M11 => w_X7_hushed_6 n (x1 + 1) M11 Q)))) ∧ ((mI M4 66 1) = 0 → (Q x1 M4)))))))))
set_option maxRecDepth 4000 in
theorem c_X7_hushed_6  {Q : Int32 → pm → Prop}  : ∀ (n : Nat) (x1 : Int32) (M : pm), pG M → w_X7_hushed_6 n x1 M  Q → PW mX7_hushed 7 350 6 [.ref 3, .int x1] [] M (qI Q) := by
  intro n
  induction n with
  | zero => intro x1 M hM h; exact h.elim
  | succ n ih =>
    intro x1 M hM h
    unfold w_X7_hushed_6 at h
    refine PW.iload_n (pc := 6) dX7_hushed_6 rfl ?_
    refine PW.bipush (pc := 7) dX7_hushed_7 (v := 60) (by decide) ?_
    refine PW.icmp_gt (pc := 9) dX7_hushed_9 (t := 69) (by decide) (fun hc => ?_) (fun hc => ?_)
    · have h := h.1 hc
      refine PW.iconst (pc := 69) dX7_hushed_69 (v := (-1)) (by decide) ?_
      exact PW.retI (pc := 70) dX7_hushed_70 hM.1 rfl rfl ⟨hM, _, rfl, h⟩
    · have h := h.2 hc
      refine PW.aload_n (pc := 12) dX7_hushed_12 rfl ?_
      refine PW.iload_n (pc := 13) dX7_hushed_13 rfl ?_
      refine PW.inv (m' := mX7_hasDayAhead) (pc := 14) dX7_hushed_14 lm_X7_253 me_X7_hasDayAhead mi_X7_hasDayAhead (ob hM.1 s_3 (by decide)) rfl (As := [.int x1]) (st := []) rfl (Nat.le_of_ble_eq_true rfl) (Nat.le_of_ble_eq_true rfl) (Nat.le_of_eq hM.1) (Nat.le_refl _) (PW.deep (by decide) (c_X7_hasDayAhead  hM h)) ?_
      rintro _ M4 ⟨hM6, y5, rfl, z7, h⟩
      refine PW.if_eq (pc := 17) dX7_hushed_17 (t := 69) (by decide) (fun hc => ?_) (fun hc => ?_)
      · have h := h.1 hc
        refine PW.iconst (pc := 69) dX7_hushed_69 (v := (-1)) (by decide) ?_
        exact PW.retI (pc := 70) dX7_hushed_70 hM6.1 rfl rfl ⟨hM6, _, rfl, h⟩
      · have h := h.2 hc
        refine PW.aload_n (pc := 20) dX7_hushed_20 rfl ?_
        refine PW.getR (pc := 21) dX7_hushed_21 (r := 66) lf_X7_58 (ob hM6.1 s_3 (by decide)) fx_7_10 (oR_7_10 hM6 s_3) (pS_ne s_66) ?_
        refine PW.getI (pc := 24) dX7_hushed_24 lf_X7_147 (ob hM6.1 s_66 (by decide)) fx_4_1 ?_
        refine PW.if_ne (pc := 27) dX7_hushed_27 (t := 32) (by decide) (fun hc => ?_) (fun hc => ?_)
        · have h := h.1 hc
          refine PW.aload_n (pc := 32) dX7_hushed_32 rfl ?_
          refine PW.getR (pc := 33) dX7_hushed_33 (r := 44) lf_X7_47 (ob hM6.1 s_3 (by decide)) fx_7_8 (oR_7_8 hM6 s_3) (pS_ne s_44) ?_
          refine PW.aload_n (pc := 36) dX7_hushed_36 rfl ?_
          refine PW.getR (pc := 37) dX7_hushed_37 (r := (mR M4 3 3)) lf_X7_27 (ob hM6.1 s_3 (by decide)) fx_7_3 rfl (pS_ne (hM6.2.2.2.2.1)) ?_
          refine PW.aload_n (pc := 40) dX7_hushed_40 rfl ?_
          refine PW.getR (pc := 41) dX7_hushed_41 (r := 66) lf_X7_58 (ob hM6.1 s_3 (by decide)) fx_7_10 (oR_7_10 hM6 s_3) (pS_ne s_66) ?_
          refine PW.aload_n (pc := 44) dX7_hushed_44 rfl ?_
          refine PW.getR (pc := 45) dX7_hushed_45 (r := 44) lf_X7_47 (ob hM6.1 s_3 (by decide)) fx_7_8 (oR_7_8 hM6 s_3) (pS_ne s_44) ?_
          refine PW.aload_n (pc := 48) dX7_hushed_48 rfl ?_
          refine PW.getR (pc := 49) dX7_hushed_49 (r := (mR M4 3 3)) lf_X7_27 (ob hM6.1 s_3 (by decide)) fx_7_3 rfl (pS_ne (hM6.2.2.2.2.1)) ?_
          refine PW.aload_n (pc := 52) dX7_hushed_52 rfl ?_
          refine PW.getR (pc := 53) dX7_hushed_53 (r := 66) lf_X7_58 (ob hM6.1 s_3 (by decide)) fx_7_10 (oR_7_10 hM6 s_3) (pS_ne s_66) ?_
          refine PW.inv (m' := mX1_bestBits) (pc := 56) dX7_hushed_56 lm_X7_228 me_X1_bestBits mi_X1_bestBits (ob hM6.1 s_44 (by decide)) rfl (As := [.ref (mR M4 3 3), .ref 66]) (st := [.ref 66, .ref (mR M4 3 3), .ref 44]) rfl (Nat.le_of_ble_eq_true rfl) (Nat.le_of_ble_eq_true rfl) (Nat.le_of_eq hM6.1) (Nat.le_refl _) (PW.deep (by decide) (c_X1_bestBits (hM6.2.2.2.2.1) s_66 hM6 h)) ?_
          rintro _ M8 ⟨hM10, y9, rfl, h⟩
          refine PW.inv (m' := mX1_playDay) (pc := 59) dX7_hushed_59 lm_X7_250 me_X1_playDay mi_X1_playDay (ob hM10.1 s_44 (by decide)) rfl (As := [.ref (mR M4 3 3), .ref 66, .int y9]) (st := []) rfl (Nat.le_of_ble_eq_true rfl) (Nat.le_of_ble_eq_true rfl) (Nat.le_of_eq hM10.1) (Nat.le_refl _) (PW.deep (by decide) (c_X1_playDay (hM6.2.2.2.2.1) s_66 hM10 h)) ?_
          rintro _ M11 ⟨hM13, y12, rfl, h⟩
          refine PW.popI (pc := 62) dX7_hushed_62 ?_
          refine PW.iinc (pc := 63) dX7_hushed_63 (v := (x1 + 1)) (ls' := [.ref 3, .int (x1 + 1)]) rfl rfl (by decide) rfl rfl ?_
          refine PW.goto (pc := 66) dX7_hushed_66 (t := 6) (by decide) ?_
          exact PW.drop (ih _ _ hM13 h) ⟨rfl, rfl, trivial⟩
        · have h := h.2 hc
          refine PW.iload_n (pc := 30) dX7_hushed_30 rfl ?_
          exact PW.retI (pc := 31) dX7_hushed_31 hM6.1 rfl rfl ⟨hM6, _, rfl, h⟩
def w_X7_hushed  (M : pm) (Q : Int32 → pm → Prop) : Prop := w_X7_tryFromNow  M (fun M1 => ∃ n14, w_X7_hushed_6 n14 0 M1  Q)
set_option maxRecDepth 4000 in
theorem c_X7_hushed  {M : pm} {Q : Int32 → pm → Prop}  (hM : pG M) (h : w_X7_hushed  M Q) : PW mX7_hushed 7 350 0 (pfr mX7_hushed.2.2.1 [.ref 3]) [] M (qI Q) := by
  unfold w_X7_hushed at h
  show PW mX7_hushed 7 350 0 [.ref 3, .null] [] M (qI Q)
  refine PW.aload_n (pc := 0) dX7_hushed_0 rfl ?_
  refine PW.inv (m' := mX7_tryFromNow) (pc := 1) dX7_hushed_1 lm_X7_247 me_X7_tryFromNow mi_X7_tryFromNow (ob hM.1 s_3 (by decide)) rfl (As := []) (st := []) rfl (Nat.le_of_ble_eq_true rfl) (Nat.le_of_ble_eq_true rfl) (Nat.le_of_eq hM.1) (Nat.le_refl _) (PW.deep (by decide) (c_X7_tryFromNow  hM h)) ?_
  rintro _ M1 ⟨hM3, rfl, h⟩
  refine PW.iconst (pc := 4) dX7_hushed_4 (v := 0) (by decide) ?_
  refine PW.istore_n (pc := 5) dX7_hushed_5 (ls' := [.ref 3, .int 0]) (by decide) rfl rfl ?_
  obtain ⟨n14, h⟩ := h
  refine PW.drop (c_X7_hushed_6  n14 _ _ hM3 h) ⟨rfl, rfl, trivial⟩
def w_X7_full_96  (x1 : Int32) (x2 : Int32) (x3 : Int32) (t0 : Int32) (M : pm) (r : Int32 → Int32 → Int32 → pm → Prop)  (Q : Int32 → pm → Prop) : Prop := w_X7_tryFromNow  M (fun M11 => w_X1_playDay (mR M11 3 3) 66 x3 M11 (fun y15 M14 => w_X1_canFill (mR M14 3 3) 66 M14 (fun y18 M17 => ((y18 = 0 → (w_J9_max_7cf53 x2 (t0 + 0) M17 (fun y22 M21 => r x1 y22 (x3 + 1) M21))) ∧ (¬ y18 = 0 → (w_J9_max_7cf53 x2 (t0 + 1) M17 (fun y25 M24 => r x1 y25 (x3 + 1) M24)))))))
set_option maxRecDepth 4000 in
theorem c_X7_full_96 {r : Int32 → Int32 → Int32 → pm → Prop}  {Q : Int32 → pm → Prop} (hr : ∀ (x1 : Int32) (x2 : Int32) (x3 : Int32) (M : pm), pG M → r x1 x2 x3 M → PW mX7_full 6 350 30 [.ref 3, .int x1, .int x2, .int x3, .null, .null] [] M (qI Q)) : ∀ (x1 : Int32) (x2 : Int32) (x3 : Int32) (t0 : Int32) (M : pm), pG M → w_X7_full_96 x1 x2 x3 t0 M r Q → PW mX7_full 6 350 96 [.ref 3, .int x1, .int x2, .int x3, .null, .null] [.int t0] M (qI Q) := by
  intro x1 x2 x3 t0 M hM h
  unfold w_X7_full_96 at h
  refine PW.istore (pc := 96) dX7_full_96 (ls' := [.ref 3, .int x1, .int x2, .int x3, .null, .int t0]) (by decide) rfl rfl ?_
  refine PW.aload_n (pc := 98) dX7_full_98 rfl ?_
  refine PW.inv (m' := mX7_tryFromNow) (pc := 99) dX7_full_99 lm_X7_247 me_X7_tryFromNow mi_X7_tryFromNow (ob hM.1 s_3 (by decide)) rfl (As := []) (st := []) rfl (Nat.le_of_ble_eq_true rfl) (Nat.le_of_ble_eq_true rfl) (Nat.le_of_eq hM.1) (Nat.le_refl _) (PW.deep (by decide) (c_X7_tryFromNow  hM h)) ?_
  rintro _ M11 ⟨hM13, rfl, h⟩
  refine PW.aload_n (pc := 102) dX7_full_102 rfl ?_
  refine PW.getR (pc := 103) dX7_full_103 (r := 44) lf_X7_47 (ob hM13.1 s_3 (by decide)) fx_7_8 (oR_7_8 hM13 s_3) (pS_ne s_44) ?_
  refine PW.aload_n (pc := 106) dX7_full_106 rfl ?_
  refine PW.getR (pc := 107) dX7_full_107 (r := (mR M11 3 3)) lf_X7_27 (ob hM13.1 s_3 (by decide)) fx_7_3 rfl (pS_ne (hM13.2.2.2.2.1)) ?_
  refine PW.aload_n (pc := 110) dX7_full_110 rfl ?_
  refine PW.getR (pc := 111) dX7_full_111 (r := 66) lf_X7_58 (ob hM13.1 s_3 (by decide)) fx_7_10 (oR_7_10 hM13 s_3) (pS_ne s_66) ?_
  refine PW.iload_n (pc := 114) dX7_full_114 rfl ?_
  refine PW.inv (m' := mX1_playDay) (pc := 115) dX7_full_115 lm_X7_250 me_X1_playDay mi_X1_playDay (ob hM13.1 s_44 (by decide)) rfl (As := [.ref (mR M11 3 3), .ref 66, .int x3]) (st := []) rfl (Nat.le_of_ble_eq_true rfl) (Nat.le_of_ble_eq_true rfl) (Nat.le_of_eq hM13.1) (Nat.le_refl _) (PW.deep (by decide) (c_X1_playDay (hM13.2.2.2.2.1) s_66 hM13 h)) ?_
  rintro _ M14 ⟨hM16, y15, rfl, h⟩
  refine PW.popI (pc := 118) dX7_full_118 ?_
  refine PW.iload (pc := 119) dX7_full_119 rfl ?_
  refine PW.aload_n (pc := 121) dX7_full_121 rfl ?_
  refine PW.getR (pc := 122) dX7_full_122 (r := 44) lf_X7_47 (ob hM16.1 s_3 (by decide)) fx_7_8 (oR_7_8 hM16 s_3) (pS_ne s_44) ?_
  refine PW.aload_n (pc := 125) dX7_full_125 rfl ?_
  refine PW.getR (pc := 126) dX7_full_126 (r := (mR M14 3 3)) lf_X7_27 (ob hM16.1 s_3 (by decide)) fx_7_3 rfl (pS_ne (hM16.2.2.2.2.1)) ?_
  refine PW.aload_n (pc := 129) dX7_full_129 rfl ?_
  refine PW.getR (pc := 130) dX7_full_130 (r := 66) lf_X7_58 (ob hM16.1 s_3 (by decide)) fx_7_10 (oR_7_10 hM16 s_3) (pS_ne s_66) ?_
  refine PW.inv (m' := mX1_canFill) (pc := 133) dX7_full_133 lm_X7_259 me_X1_canFill mi_X1_canFill (ob hM16.1 s_44 (by decide)) rfl (As := [.ref (mR M14 3 3), .ref 66]) (st := [.int t0]) rfl (Nat.le_of_ble_eq_true rfl) (Nat.le_of_ble_eq_true rfl) (Nat.le_of_eq hM16.1) (Nat.le_refl _) (PW.deep (by decide) (c_X1_canFill (hM16.2.2.2.2.1) s_66 hM16 h)) ?_
  rintro _ M17 ⟨hM19, y18, rfl, z20, h⟩
  refine PW.if_eq (pc := 136) dX7_full_136 (t := 143) (by decide) (fun hc => ?_) (fun hc => ?_)
  · have h := h.1 hc
    refine PW.iconst (pc := 143) dX7_full_143 (v := 0) (by decide) ?_
    refine PW.iadd (pc := 144) dX7_full_144 ?_
    refine PW.istore (pc := 145) dX7_full_145 (ls' := [.ref 3, .int x1, .int x2, .int x3, .null, .int (t0 + 0)]) (by decide) rfl rfl ?_
    refine PW.iload_n (pc := 147) dX7_full_147 rfl ?_
    refine PW.iload (pc := 148) dX7_full_148 rfl ?_
    refine PW.ins (m' := mJ9_max_7cf53) (pc := 150) dX7_full_150 lm_X7_263 me_J9_max_7cf53 ms_J9_max_7cf53 (As := [.int x2, .int (t0 + 0)]) (st := []) rfl (Nat.le_of_ble_eq_true rfl) (Nat.le_of_ble_eq_true rfl) (Nat.le_of_eq hM19.1) (Nat.le_refl _) (PW.deep (by decide) (c_J9_max_7cf53  hM19 h)) ?_
    rintro _ M21 ⟨hM23, y22, rfl, h⟩
    refine PW.istore_n (pc := 153) dX7_full_153 (ls' := [.ref 3, .int x1, .int y22, .int x3, .null, .int (t0 + 0)]) (by decide) rfl rfl ?_
    refine PW.iinc (pc := 154) dX7_full_154 (v := (x3 + 1)) (ls' := [.ref 3, .int x1, .int y22, .int (x3 + 1), .null, .int (t0 + 0)]) rfl rfl (by decide) rfl rfl ?_
    refine PW.goto (pc := 157) dX7_full_157 (t := 30) (by decide) ?_
    exact PW.drop (hr _ _ _ _ hM23 h) ⟨rfl, rfl, rfl, rfl, trivial⟩
  · have h := h.2 hc
    refine PW.iconst (pc := 139) dX7_full_139 (v := 1) (by decide) ?_
    refine PW.goto (pc := 140) dX7_full_140 (t := 144) (by decide) ?_
    refine PW.iadd (pc := 144) dX7_full_144 ?_
    refine PW.istore (pc := 145) dX7_full_145 (ls' := [.ref 3, .int x1, .int x2, .int x3, .null, .int (t0 + 1)]) (by decide) rfl rfl ?_
    refine PW.iload_n (pc := 147) dX7_full_147 rfl ?_
    refine PW.iload (pc := 148) dX7_full_148 rfl ?_
    refine PW.ins (m' := mJ9_max_7cf53) (pc := 150) dX7_full_150 lm_X7_263 me_J9_max_7cf53 ms_J9_max_7cf53 (As := [.int x2, .int (t0 + 1)]) (st := []) rfl (Nat.le_of_ble_eq_true rfl) (Nat.le_of_ble_eq_true rfl) (Nat.le_of_eq hM19.1) (Nat.le_refl _) (PW.deep (by decide) (c_J9_max_7cf53  hM19 h)) ?_
    rintro _ M24 ⟨hM26, y25, rfl, h⟩
    refine PW.istore_n (pc := 153) dX7_full_153 (ls' := [.ref 3, .int x1, .int y25, .int x3, .null, .int (t0 + 1)]) (by decide) rfl rfl ?_
    refine PW.iinc (pc := 154) dX7_full_154 (v := (x3 + 1)) (ls' := [.ref 3, .int x1, .int y25, .int (x3 + 1), .null, .int (t0 + 1)]) rfl rfl (by decide) rfl rfl ?_
    refine PW.goto (pc := 157) dX7_full_157 (t := 30) (by decide) ?_
    exact PW.drop (hr _ _ _ _ hM26 h) ⟨rfl, rfl, rfl, rfl, trivial⟩
def w_X7_full_30 : Nat → Int32 → Int32 → Int32 → pm → (Int32 → pm → Prop) → Prop
  | 0, _, _, _, _, _ => False
  | n + 1, x1, x2, x3, M, Q => ((256 ≤ x3 → (Q x2 M)) ∧ (¬ 256 ≤ x3 → ((2 ≤ x2 → (Q x2 M)) ∧ (¬ 2 ≤ x2 → (w_X1_minutesOf (mR M 3 3) 57 x3 M (fun y9 M8 => ((¬ (x3 &&& x1) = x3 → (w_X7_full_30 n x1 x2 (x3 + 1) M8 Q)) ∧ ((x3 &&& x1) = x3 → (((mI M8 (mR M8 3 3) 1) < y9 → (w_X7_full_30 n x1 x2 (x3 + 1) M8 Q)) ∧ (¬ (mI M8 (mR M8 3 3) 1) < y9 → ((¬ y9 = (mI M8 (mR M8 3 3) 1) → (w_X7_full_96 x1 x2 x3 0 M8 (fun x1 x2 x3 M => w_X7_full_30 n x1 x2 x3 M  Q) Q)) ∧ (y9 = (mI M8 (mR M8 3 3) 1) → (w_X7_full_96 x1 x2 x3 1 M8 (fun x1 x2 x3 M => w_X7_full_30 n x1 x2 x3 M  Q) Q)))))))))))))
set_option maxRecDepth 4000 in
theorem c_X7_full_30  {Q : Int32 → pm → Prop}  : ∀ (n : Nat) (x1 : Int32) (x2 : Int32) (x3 : Int32) (M : pm), pG M → w_X7_full_30 n x1 x2 x3 M  Q → PW mX7_full 6 350 30 [.ref 3, .int x1, .int x2, .int x3, .null, .null] [] M (qI Q) := by
  intro n
  induction n with
  | zero => intro x1 x2 x3 M hM h; exact h.elim
  | succ n ih =>
    intro x1 x2 x3 M hM h
    unfold w_X7_full_30 at h
    refine PW.iload_n (pc := 30) dX7_full_30 rfl ?_
    refine PW.sipush (pc := 31) dX7_full_31 (v := 256) (by decide) ?_
    refine PW.icmp_ge (pc := 34) dX7_full_34 (t := 160) (by decide) (fun hc => ?_) (fun hc => ?_)
    · have h := h.1 hc
      refine PW.iload_n (pc := 160) dX7_full_160 rfl ?_
      exact PW.retI (pc := 161) dX7_full_161 hM.1 rfl rfl ⟨hM, _, rfl, h⟩
    · have h := h.2 hc
      refine PW.iload_n (pc := 37) dX7_full_37 rfl ?_
      refine PW.iconst (pc := 38) dX7_full_38 (v := 2) (by decide) ?_
      refine PW.icmp_ge (pc := 39) dX7_full_39 (t := 160) (by decide) (fun hc => ?_) (fun hc => ?_)
      · have h := h.1 hc
        refine PW.iload_n (pc := 160) dX7_full_160 rfl ?_
        exact PW.retI (pc := 161) dX7_full_161 hM.1 rfl rfl ⟨hM, _, rfl, h⟩
      · have h := h.2 hc
        refine PW.aload_n (pc := 42) dX7_full_42 rfl ?_
        refine PW.getR (pc := 43) dX7_full_43 (r := 44) lf_X7_47 (ob hM.1 s_3 (by decide)) fx_7_8 (oR_7_8 hM s_3) (pS_ne s_44) ?_
        refine PW.aload_n (pc := 46) dX7_full_46 rfl ?_
        refine PW.getR (pc := 47) dX7_full_47 (r := (mR M 3 3)) lf_X7_27 (ob hM.1 s_3 (by decide)) fx_7_3 rfl (pS_ne (hM.2.2.2.2.1)) ?_
        refine PW.aload_n (pc := 50) dX7_full_50 rfl ?_
        refine PW.getR (pc := 51) dX7_full_51 (r := 57) lf_X7_54 (ob hM.1 s_3 (by decide)) fx_7_9 (oR_7_9 hM s_3) (pS_ne s_57) ?_
        refine PW.iload_n (pc := 54) dX7_full_54 rfl ?_
        refine PW.inv (m' := mX1_minutesOf) (pc := 55) dX7_full_55 lm_X7_231 me_X1_minutesOf mi_X1_minutesOf (ob hM.1 s_44 (by decide)) rfl (As := [.ref (mR M 3 3), .ref 57, .int x3]) (st := []) rfl (Nat.le_of_ble_eq_true rfl) (Nat.le_of_ble_eq_true rfl) (Nat.le_of_eq hM.1) (Nat.le_refl _) (PW.deep (by decide) (c_X1_minutesOf (hM.2.2.2.2.1) s_57 hM h)) ?_
        rintro _ M8 ⟨hM10, y9, rfl, h⟩
        refine PW.istore (pc := 58) dX7_full_58 (ls' := [.ref 3, .int x1, .int x2, .int x3, .int y9, .null]) (by decide) rfl rfl ?_
        refine PW.iload_n (pc := 60) dX7_full_60 rfl ?_
        refine PW.iload_n (pc := 61) dX7_full_61 rfl ?_
        refine PW.iand (pc := 62) dX7_full_62 ?_
        refine PW.iload_n (pc := 63) dX7_full_63 rfl ?_
        refine PW.icmp_ne (pc := 64) dX7_full_64 (t := 154) (by decide) (fun hc => ?_) (fun hc => ?_)
        · have h := h.1 hc
          refine PW.iinc (pc := 154) dX7_full_154 (v := (x3 + 1)) (ls' := [.ref 3, .int x1, .int x2, .int (x3 + 1), .int y9, .null]) rfl rfl (by decide) rfl rfl ?_
          refine PW.goto (pc := 157) dX7_full_157 (t := 30) (by decide) ?_
          exact PW.drop (ih _ _ _ _ hM10 h) ⟨rfl, rfl, rfl, rfl, trivial⟩
        · have h := h.2 hc
          refine PW.iload (pc := 67) dX7_full_67 rfl ?_
          refine PW.aload_n (pc := 69) dX7_full_69 rfl ?_
          refine PW.getR (pc := 70) dX7_full_70 (r := (mR M8 3 3)) lf_X7_27 (ob hM10.1 s_3 (by decide)) fx_7_3 rfl (pS_ne (hM10.2.2.2.2.1)) ?_
          refine PW.getI (pc := 73) dX7_full_73 lf_X7_132 (ob hM10.1 (hM10.2.2.2.2.1) (by decide)) fx_5_1 ?_
          refine PW.icmp_gt (pc := 76) dX7_full_76 (t := 154) (by decide) (fun hc => ?_) (fun hc => ?_)
          · have h := h.1 hc
            refine PW.iinc (pc := 154) dX7_full_154 (v := (x3 + 1)) (ls' := [.ref 3, .int x1, .int x2, .int (x3 + 1), .int y9, .null]) rfl rfl (by decide) rfl rfl ?_
            refine PW.goto (pc := 157) dX7_full_157 (t := 30) (by decide) ?_
            exact PW.drop (ih _ _ _ _ hM10 h) ⟨rfl, rfl, rfl, rfl, trivial⟩
          · have h := h.2 hc
            refine PW.iload (pc := 79) dX7_full_79 rfl ?_
            refine PW.aload_n (pc := 81) dX7_full_81 rfl ?_
            refine PW.getR (pc := 82) dX7_full_82 (r := (mR M8 3 3)) lf_X7_27 (ob hM10.1 s_3 (by decide)) fx_7_3 rfl (pS_ne (hM10.2.2.2.2.1)) ?_
            refine PW.getI (pc := 85) dX7_full_85 lf_X7_132 (ob hM10.1 (hM10.2.2.2.2.1) (by decide)) fx_5_1 ?_
            refine PW.icmp_ne (pc := 88) dX7_full_88 (t := 95) (by decide) (fun hc => ?_) (fun hc => ?_)
            · have h := h.1 hc
              refine PW.iconst (pc := 95) dX7_full_95 (v := 0) (by decide) ?_
              exact PW.drop (c_X7_full_96 ih _ _ _ _ _ hM10 h) ⟨rfl, rfl, rfl, rfl, trivial⟩
            · have h := h.2 hc
              refine PW.iconst (pc := 91) dX7_full_91 (v := 1) (by decide) ?_
              refine PW.goto (pc := 92) dX7_full_92 (t := 96) (by decide) ?_
              exact PW.drop (c_X7_full_96 ih _ _ _ _ _ hM10 h) ⟨rfl, rfl, rfl, rfl, trivial⟩
def w_X7_full  (M : pm) (Q : Int32 → pm → Prop) : Prop := w_X7_hasDayAhead 1 M (fun y2 M1 => ((¬ y2 = 0 → (w_X1_canBits (mR M1 3 3) 57 M1 (fun y6 M5 => ∃ n27, w_X7_full_30 n27 y6 0 0 M5  Q))) ∧ (y2 = 0 → (Q (-1) M1))))
set_option maxRecDepth 4000 in
theorem c_X7_full  {M : pm} {Q : Int32 → pm → Prop}  (hM : pG M) (h : w_X7_full  M Q) : PW mX7_full 6 350 0 (pfr mX7_full.2.2.1 [.ref 3]) [] M (qI Q) := by
  unfold w_X7_full at h
  show PW mX7_full 6 350 0 [.ref 3, .null, .null, .null, .null, .null] [] M (qI Q)
  refine PW.aload_n (pc := 0) dX7_full_0 rfl ?_
  refine PW.iconst (pc := 1) dX7_full_1 (v := 1) (by decide) ?_
  refine PW.inv (m' := mX7_hasDayAhead) (pc := 2) dX7_full_2 lm_X7_253 me_X7_hasDayAhead mi_X7_hasDayAhead (ob hM.1 s_3 (by decide)) rfl (As := [.int 1]) (st := []) rfl (Nat.le_of_ble_eq_true rfl) (Nat.le_of_ble_eq_true rfl) (Nat.le_of_eq hM.1) (Nat.le_refl _) (PW.deep (by decide) (c_X7_hasDayAhead  hM h)) ?_
  rintro _ M1 ⟨hM3, y2, rfl, z4, h⟩
  refine PW.if_ne (pc := 5) dX7_full_5 (t := 10) (by decide) (fun hc => ?_) (fun hc => ?_)
  · have h := h.1 hc
    refine PW.aload_n (pc := 10) dX7_full_10 rfl ?_
    refine PW.getR (pc := 11) dX7_full_11 (r := 44) lf_X7_47 (ob hM3.1 s_3 (by decide)) fx_7_8 (oR_7_8 hM3 s_3) (pS_ne s_44) ?_
    refine PW.aload_n (pc := 14) dX7_full_14 rfl ?_
    refine PW.getR (pc := 15) dX7_full_15 (r := (mR M1 3 3)) lf_X7_27 (ob hM3.1 s_3 (by decide)) fx_7_3 rfl (pS_ne (hM3.2.2.2.2.1)) ?_
    refine PW.aload_n (pc := 18) dX7_full_18 rfl ?_
    refine PW.getR (pc := 19) dX7_full_19 (r := 57) lf_X7_54 (ob hM3.1 s_3 (by decide)) fx_7_9 (oR_7_9 hM3 s_3) (pS_ne s_57) ?_
    refine PW.inv (m' := mX1_canBits) (pc := 22) dX7_full_22 lm_X7_156 me_X1_canBits mi_X1_canBits (ob hM3.1 s_44 (by decide)) rfl (As := [.ref (mR M1 3 3), .ref 57]) (st := []) rfl (Nat.le_of_ble_eq_true rfl) (Nat.le_of_ble_eq_true rfl) (Nat.le_of_eq hM3.1) (Nat.le_refl _) (PW.deep (by decide) (c_X1_canBits (hM3.2.2.2.2.1) s_57 hM3 h)) ?_
    rintro _ M5 ⟨hM7, y6, rfl, h⟩
    refine PW.istore_n (pc := 25) dX7_full_25 (ls' := [.ref 3, .int y6, .null, .null, .null, .null]) (by decide) rfl rfl ?_
    refine PW.iconst (pc := 26) dX7_full_26 (v := 0) (by decide) ?_
    refine PW.istore_n (pc := 27) dX7_full_27 (ls' := [.ref 3, .int y6, .int 0, .null, .null, .null]) (by decide) rfl rfl ?_
    refine PW.iconst (pc := 28) dX7_full_28 (v := 0) (by decide) ?_
    refine PW.istore_n (pc := 29) dX7_full_29 (ls' := [.ref 3, .int y6, .int 0, .int 0, .null, .null]) (by decide) rfl rfl ?_
    obtain ⟨n27, h⟩ := h
    refine PW.drop (c_X7_full_30  n27 _ _ _ _ hM7 h) ⟨rfl, rfl, rfl, rfl, trivial⟩
  · have h := h.2 hc
    refine PW.iconst (pc := 8) dX7_full_8 (v := (-1)) (by decide) ?_
    exact PW.retI (pc := 9) dX7_full_9 hM3.1 rfl rfl ⟨hM3, _, rfl, h⟩
def w_X7_countPlays_20 : Nat → Int32 → Int32 → Int32 → Int32 → pm → (Int32 → pm → Prop) → Prop
  | 0, _, _, _, _, _, _ => False
  | n + 1, x1, x3, x4, x5, M, Q => ((x3 ≤ x5 → (Q x4 M)) ∧ (¬ x3 ≤ x5 → (w_X1_bestBits (mR M 3 3) 66 M (fun y6 M5 => w_X1_playDay (mR M5 3 3) 66 y6 M5 (fun y9 M8 => w_X7_countPlays_20 n x1 x3 (x4 + ((y6 >>> (x1 &&& 31)) &&& 1)) (x5 + 1) M8 Q)))))
set_option maxRecDepth 4000 in
theorem c_X7_countPlays_20  {Q : Int32 → pm → Prop}  : ∀ (n : Nat) (x1 : Int32) (x3 : Int32) (x4 : Int32) (x5 : Int32) (M : pm), pG M → w_X7_countPlays_20 n x1 x3 x4 x5 M  Q → PW mX7_countPlays 7 350 20 [.ref 3, .int x1, .null, .int x3, .int x4, .int x5, .null] [] M (qI Q) := by
  intro n
  induction n with
  | zero => intro x1 x3 x4 x5 M hM h; exact h.elim
  | succ n ih =>
    intro x1 x3 x4 x5 M hM h
    unfold w_X7_countPlays_20 at h
    refine PW.iload (pc := 20) dX7_countPlays_20 rfl ?_
    refine PW.iload_n (pc := 22) dX7_countPlays_22 rfl ?_
    refine PW.icmp_ge (pc := 23) dX7_countPlays_23 (t := 78) (by decide) (fun hc => ?_) (fun hc => ?_)
    · have h := h.1 hc
      refine PW.iload (pc := 78) dX7_countPlays_78 rfl ?_
      exact PW.retI (pc := 80) dX7_countPlays_80 hM.1 rfl rfl ⟨hM, _, rfl, h⟩
    · have h := h.2 hc
      refine PW.aload_n (pc := 26) dX7_countPlays_26 rfl ?_
      refine PW.getR (pc := 27) dX7_countPlays_27 (r := 44) lf_X7_47 (ob hM.1 s_3 (by decide)) fx_7_8 (oR_7_8 hM s_3) (pS_ne s_44) ?_
      refine PW.aload_n (pc := 30) dX7_countPlays_30 rfl ?_
      refine PW.getR (pc := 31) dX7_countPlays_31 (r := (mR M 3 3)) lf_X7_27 (ob hM.1 s_3 (by decide)) fx_7_3 rfl (pS_ne (hM.2.2.2.2.1)) ?_
      refine PW.aload_n (pc := 34) dX7_countPlays_34 rfl ?_
      refine PW.getR (pc := 35) dX7_countPlays_35 (r := 66) lf_X7_58 (ob hM.1 s_3 (by decide)) fx_7_10 (oR_7_10 hM s_3) (pS_ne s_66) ?_
      refine PW.inv (m' := mX1_bestBits) (pc := 38) dX7_countPlays_38 lm_X7_228 me_X1_bestBits mi_X1_bestBits (ob hM.1 s_44 (by decide)) rfl (As := [.ref (mR M 3 3), .ref 66]) (st := []) rfl (Nat.le_of_ble_eq_true rfl) (Nat.le_of_ble_eq_true rfl) (Nat.le_of_eq hM.1) (Nat.le_refl _) (PW.deep (by decide) (c_X1_bestBits (hM.2.2.2.2.1) s_66 hM h)) ?_
      rintro _ M5 ⟨hM7, y6, rfl, h⟩
      refine PW.istore (pc := 41) dX7_countPlays_41 (ls' := [.ref 3, .int x1, .null, .int x3, .int x4, .int x5, .int y6]) (by decide) rfl rfl ?_
      refine PW.iload (pc := 43) dX7_countPlays_43 rfl ?_
      refine PW.iload (pc := 45) dX7_countPlays_45 rfl ?_
      refine PW.iload_n (pc := 47) dX7_countPlays_47 rfl ?_
      refine PW.ishr (pc := 48) dX7_countPlays_48 ?_
      refine PW.iconst (pc := 49) dX7_countPlays_49 (v := 1) (by decide) ?_
      refine PW.iand (pc := 50) dX7_countPlays_50 ?_
      refine PW.iadd (pc := 51) dX7_countPlays_51 ?_
      refine PW.istore (pc := 52) dX7_countPlays_52 (ls' := [.ref 3, .int x1, .null, .int x3, .int (x4 + ((y6 >>> (x1 &&& 31)) &&& 1)), .int x5, .int y6]) (by decide) rfl rfl ?_
      refine PW.aload_n (pc := 54) dX7_countPlays_54 rfl ?_
      refine PW.getR (pc := 55) dX7_countPlays_55 (r := 44) lf_X7_47 (ob hM7.1 s_3 (by decide)) fx_7_8 (oR_7_8 hM7 s_3) (pS_ne s_44) ?_
      refine PW.aload_n (pc := 58) dX7_countPlays_58 rfl ?_
      refine PW.getR (pc := 59) dX7_countPlays_59 (r := (mR M5 3 3)) lf_X7_27 (ob hM7.1 s_3 (by decide)) fx_7_3 rfl (pS_ne (hM7.2.2.2.2.1)) ?_
      refine PW.aload_n (pc := 62) dX7_countPlays_62 rfl ?_
      refine PW.getR (pc := 63) dX7_countPlays_63 (r := 66) lf_X7_58 (ob hM7.1 s_3 (by decide)) fx_7_10 (oR_7_10 hM7 s_3) (pS_ne s_66) ?_
      refine PW.iload (pc := 66) dX7_countPlays_66 rfl ?_
      refine PW.inv (m' := mX1_playDay) (pc := 68) dX7_countPlays_68 lm_X7_250 me_X1_playDay mi_X1_playDay (ob hM7.1 s_44 (by decide)) rfl (As := [.ref (mR M5 3 3), .ref 66, .int y6]) (st := []) rfl (Nat.le_of_ble_eq_true rfl) (Nat.le_of_ble_eq_true rfl) (Nat.le_of_eq hM7.1) (Nat.le_refl _) (PW.deep (by decide) (c_X1_playDay (hM7.2.2.2.2.1) s_66 hM7 h)) ?_
      rintro _ M8 ⟨hM10, y9, rfl, h⟩
      refine PW.popI (pc := 71) dX7_countPlays_71 ?_
      refine PW.iinc (pc := 72) dX7_countPlays_72 (v := (x5 + 1)) (ls' := [.ref 3, .int x1, .null, .int x3, .int (x4 + ((y6 >>> (x1 &&& 31)) &&& 1)), .int (x5 + 1), .int y6]) rfl rfl (by decide) rfl rfl ?_
      refine PW.goto (pc := 75) dX7_countPlays_75 (t := 20) (by decide) ?_
      exact PW.drop (ih _ _ _ _ _ hM10 h) ⟨rfl, rfl, rfl, rfl, rfl, trivial⟩
def w_X7_countPlays (x1 : Int32) (x2 : Int32) (x3 : Int32) (M : pm) (Q : Int32 → pm → Prop) : Prop := w_X7_tryFromNow  M (fun M1 => vp_in x1 8 ∧ (∃ n11, w_X7_countPlays_20 n11 x1 x3 0 0 (sI M1 67 x1.toNatClampNeg x2)  Q))
set_option maxRecDepth 4000 in
theorem c_X7_countPlays {x1 : Int32} {x2 : Int32} {x3 : Int32} {M : pm} {Q : Int32 → pm → Prop}  (hM : pG M) (h : w_X7_countPlays x1 x2 x3 M Q) : PW mX7_countPlays 7 350 0 (pfr mX7_countPlays.2.2.1 [.ref 3, .int x1, .int x2, .int x3]) [] M (qI Q) := by
  unfold w_X7_countPlays at h
  show PW mX7_countPlays 7 350 0 [.ref 3, .int x1, .int x2, .int x3, .null, .null, .null] [] M (qI Q)
  refine PW.aload_n (pc := 0) dX7_countPlays_0 rfl ?_
  refine PW.inv (m' := mX7_tryFromNow) (pc := 1) dX7_countPlays_1 lm_X7_247 me_X7_tryFromNow mi_X7_tryFromNow (ob hM.1 s_3 (by decide)) rfl (As := []) (st := []) rfl (Nat.le_of_ble_eq_true rfl) (Nat.le_of_ble_eq_true rfl) (Nat.le_of_eq hM.1) (Nat.le_refl _) (PW.deep (by decide) (c_X7_tryFromNow  hM h)) ?_
  rintro _ M1 ⟨hM3, rfl, h⟩
  refine PW.aload_n (pc := 4) dX7_countPlays_4 rfl ?_
  refine PW.getR (pc := 5) dX7_countPlays_5 (r := 66) lf_X7_58 (ob hM3.1 s_3 (by decide)) fx_7_10 (oR_7_10 hM3 s_3) (pS_ne s_66) ?_
  refine PW.getR (pc := 8) dX7_countPlays_8 (r := 67) lf_X7_206 (ob hM3.1 s_66 (by decide)) fx_4_2 (oR_4_2 hM3 s_66) (pS_ne s_67) ?_
  refine PW.iload_n (pc := 11) dX7_countPlays_11 rfl ?_
  refine PW.iload_n (pc := 12) dX7_countPlays_12 rfl ?_
  obtain ⟨v4, h⟩ := h
  refine PW.iast (pc := 13) dX7_countPlays_13 (ar hM3.1 s_67) (vpl n_67 v4) ?_
  refine PW.iconst (pc := 14) dX7_countPlays_14 (v := 0) (by decide) ?_
  refine PW.istore (pc := 15) dX7_countPlays_15 (ls' := [.ref 3, .int x1, .int x2, .int x3, .int 0, .null, .null]) (by decide) rfl rfl ?_
  refine PW.iconst (pc := 17) dX7_countPlays_17 (v := 0) (by decide) ?_
  refine PW.istore (pc := 18) dX7_countPlays_18 (ls' := [.ref 3, .int x1, .int x2, .int x3, .int 0, .int 0, .null]) (by decide) rfl rfl ?_
  obtain ⟨n11, h⟩ := h
  refine PW.drop (c_X7_countPlays_20  n11 _ _ _ _ _ (hM3.same rfl rfl) h) ⟨rfl, rfl, rfl, rfl, rfl, trivial⟩
def w_X7_fame_47 : Nat → Int32 → Int32 → Int32 → Int32 → Int32 → Int32 → pm → (Int32 → pm → Prop) → Prop
  | 0, _, _, _, _, _, _, _, _ => False
  | n + 1, x1, x2, x3, x4, x5, x6, M, Q => (((mI M (mR M 3 3) 4) ≤ x6 → ((¬ x3 = 0 → (Q x5 M)) ∧ (x3 = 0 → (Q x4 M)))) ∧ (¬ (mI M (mR M 3 3) 4) ≤ x6 → (w_X7_countPlays x1 x6 x2 M (fun y10 M9 => ((y10 ≤ x5 → (w_X7_fame_47 n x1 x2 x3 x4 x5 (x6 + 1) M9 Q)) ∧ (¬ y10 ≤ x5 → (w_X7_fame_47 n x1 x2 x3 x6 y10 (x6 + 1) M9 Q)))))))
set_option maxRecDepth 4000 in
theorem c_X7_fame_47  {Q : Int32 → pm → Prop}  : ∀ (n : Nat) (x1 : Int32) (x2 : Int32) (x3 : Int32) (x4 : Int32) (x5 : Int32) (x6 : Int32) (M : pm), pG M → w_X7_fame_47 n x1 x2 x3 x4 x5 x6 M  Q → PW mX7_fame 8 350 47 [.ref 3, .int x1, .int x2, .int x3, .int x4, .int x5, .int x6, .null] [] M (qI Q) := by
  intro n
  induction n with
  | zero => intro x1 x2 x3 x4 x5 x6 M hM h; exact h.elim
  | succ n ih =>
    intro x1 x2 x3 x4 x5 x6 M hM h
    unfold w_X7_fame_47 at h
    refine PW.iload (pc := 47) dX7_fame_47 rfl ?_
    refine PW.aload_n (pc := 49) dX7_fame_49 rfl ?_
    refine PW.getR (pc := 50) dX7_fame_50 (r := (mR M 3 3)) lf_X7_27 (ob hM.1 s_3 (by decide)) fx_7_3 rfl (pS_ne (hM.2.2.2.2.1)) ?_
    refine PW.getI (pc := 53) dX7_fame_53 lf_X7_135 (ob hM.1 (hM.2.2.2.2.1) (by decide)) fx_5_4 ?_
    refine PW.icmp_ge (pc := 56) dX7_fame_56 (t := 90) (by decide) (fun hc => ?_) (fun hc => ?_)
    · have h := h.1 hc
      refine PW.iload_n (pc := 90) dX7_fame_90 rfl ?_
      refine PW.if_ne (pc := 91) dX7_fame_91 (t := 99) (by decide) (fun hc => ?_) (fun hc => ?_)
      · have h := h.1 hc
        refine PW.iload (pc := 99) dX7_fame_99 rfl ?_
        exact PW.retI (pc := 101) dX7_fame_101 hM.1 rfl rfl ⟨hM, _, rfl, h⟩
      · have h := h.2 hc
        refine PW.iload (pc := 94) dX7_fame_94 rfl ?_
        refine PW.goto (pc := 96) dX7_fame_96 (t := 101) (by decide) ?_
        exact PW.retI (pc := 101) dX7_fame_101 hM.1 rfl rfl ⟨hM, _, rfl, h⟩
    · have h := h.2 hc
      refine PW.aload_n (pc := 59) dX7_fame_59 rfl ?_
      refine PW.iload_n (pc := 60) dX7_fame_60 rfl ?_
      refine PW.iload (pc := 61) dX7_fame_61 rfl ?_
      refine PW.iload_n (pc := 63) dX7_fame_63 rfl ?_
      refine PW.inv (m' := mX7_countPlays) (pc := 64) dX7_fame_64 lm_X7_268 me_X7_countPlays mi_X7_countPlays (ob hM.1 s_3 (by decide)) rfl (As := [.int x1, .int x6, .int x2]) (st := []) rfl (Nat.le_of_ble_eq_true rfl) (Nat.le_of_ble_eq_true rfl) (Nat.le_of_eq hM.1) (Nat.le_refl _) (PW.deep (by decide) (c_X7_countPlays  hM h)) ?_
      rintro _ M9 ⟨hM11, y10, rfl, h⟩
      refine PW.istore (pc := 67) dX7_fame_67 (ls' := [.ref 3, .int x1, .int x2, .int x3, .int x4, .int x5, .int x6, .int y10]) (by decide) rfl rfl ?_
      refine PW.iload (pc := 69) dX7_fame_69 rfl ?_
      refine PW.iload (pc := 71) dX7_fame_71 rfl ?_
      refine PW.icmp_le (pc := 73) dX7_fame_73 (t := 84) (by decide) (fun hc => ?_) (fun hc => ?_)
      · have h := h.1 hc
        refine PW.iinc (pc := 84) dX7_fame_84 (v := (x6 + 1)) (ls' := [.ref 3, .int x1, .int x2, .int x3, .int x4, .int x5, .int (x6 + 1), .int y10]) rfl rfl (by decide) rfl rfl ?_
        refine PW.goto (pc := 87) dX7_fame_87 (t := 47) (by decide) ?_
        exact PW.drop (ih _ _ _ _ _ _ _ hM11 h) ⟨rfl, rfl, rfl, rfl, rfl, rfl, rfl, trivial⟩
      · have h := h.2 hc
        refine PW.iload (pc := 76) dX7_fame_76 rfl ?_
        refine PW.istore (pc := 78) dX7_fame_78 (ls' := [.ref 3, .int x1, .int x2, .int x3, .int x4, .int y10, .int x6, .int y10]) (by decide) rfl rfl ?_
        refine PW.iload (pc := 80) dX7_fame_80 rfl ?_
        refine PW.istore (pc := 82) dX7_fame_82 (ls' := [.ref 3, .int x1, .int x2, .int x3, .int x6, .int y10, .int x6, .int y10]) (by decide) rfl rfl ?_
        refine PW.iinc (pc := 84) dX7_fame_84 (v := (x6 + 1)) (ls' := [.ref 3, .int x1, .int x2, .int x3, .int x6, .int y10, .int (x6 + 1), .int y10]) rfl rfl (by decide) rfl rfl ?_
        refine PW.goto (pc := 87) dX7_fame_87 (t := 47) (by decide) ?_
        exact PW.drop (ih _ _ _ _ _ _ _ hM11 h) ⟨rfl, rfl, rfl, rfl, rfl, rfl, rfl, trivial⟩
def w_X7_fame (x1 : Int32) (x2 : Int32) (x3 : Int32) (M : pm) (Q : Int32 → pm → Prop) : Prop := w_X7_isAsker x1 M (fun y2 M1 => ((y2 = 0 → (Q (-1) M1)) ∧ (¬ y2 = 0 → ((x2 < 1 → (Q (-1) M1)) ∧ (¬ x2 < 1 → ((30 < x2 → (Q (-1) M1)) ∧ (¬ 30 < x2 → (w_X7_hasDayAhead x2 M1 (fun y6 M5 => ((y6 = 0 → (Q (-1) M5)) ∧ (¬ y6 = 0 → ((x3 < 0 → (Q (-1) M5)) ∧ (¬ x3 < 0 → ((x3 ≤ 1 → (∃ n12, w_X7_fame_47 n12 x1 x2 x3 0 (-1) 0 M5  Q)) ∧ (¬ x3 ≤ 1 → (Q (-1) M5))))))))))))))))
set_option maxRecDepth 4000 in
theorem c_X7_fame {x1 : Int32} {x2 : Int32} {x3 : Int32} {M : pm} {Q : Int32 → pm → Prop}  (hM : pG M) (h : w_X7_fame x1 x2 x3 M Q) : PW mX7_fame 8 350 0 (pfr mX7_fame.2.2.1 [.ref 3, .int x1, .int x2, .int x3]) [] M (qI Q) := by
  unfold w_X7_fame at h
  show PW mX7_fame 8 350 0 [.ref 3, .int x1, .int x2, .int x3, .null, .null, .null, .null] [] M (qI Q)
  refine PW.aload_n (pc := 0) dX7_fame_0 rfl ?_
  refine PW.iload_n (pc := 1) dX7_fame_1 rfl ?_
  refine PW.inv (m' := mX7_isAsker) (pc := 2) dX7_fame_2 lm_X7_188 me_X7_isAsker mi_X7_isAsker (ob hM.1 s_3 (by decide)) rfl (As := [.int x1]) (st := []) rfl (Nat.le_of_ble_eq_true rfl) (Nat.le_of_ble_eq_true rfl) (Nat.le_of_eq hM.1) (Nat.le_refl _) (PW.deep (by decide) (c_X7_isAsker  hM h)) ?_
  rintro _ M1 ⟨hM3, y2, rfl, z4, h⟩
  refine PW.if_eq (pc := 5) dX7_fame_5 (t := 36) (by decide) (fun hc => ?_) (fun hc => ?_)
  · have h := h.1 hc
    refine PW.iconst (pc := 36) dX7_fame_36 (v := (-1)) (by decide) ?_
    exact PW.retI (pc := 37) dX7_fame_37 hM3.1 rfl rfl ⟨hM3, _, rfl, h⟩
  · have h := h.2 hc
    refine PW.iload_n (pc := 8) dX7_fame_8 rfl ?_
    refine PW.iconst (pc := 9) dX7_fame_9 (v := 1) (by decide) ?_
    refine PW.icmp_lt (pc := 10) dX7_fame_10 (t := 36) (by decide) (fun hc => ?_) (fun hc => ?_)
    · have h := h.1 hc
      refine PW.iconst (pc := 36) dX7_fame_36 (v := (-1)) (by decide) ?_
      exact PW.retI (pc := 37) dX7_fame_37 hM3.1 rfl rfl ⟨hM3, _, rfl, h⟩
    · have h := h.2 hc
      refine PW.iload_n (pc := 13) dX7_fame_13 rfl ?_
      refine PW.bipush (pc := 14) dX7_fame_14 (v := 30) (by decide) ?_
      refine PW.icmp_gt (pc := 16) dX7_fame_16 (t := 36) (by decide) (fun hc => ?_) (fun hc => ?_)
      · have h := h.1 hc
        refine PW.iconst (pc := 36) dX7_fame_36 (v := (-1)) (by decide) ?_
        exact PW.retI (pc := 37) dX7_fame_37 hM3.1 rfl rfl ⟨hM3, _, rfl, h⟩
      · have h := h.2 hc
        refine PW.aload_n (pc := 19) dX7_fame_19 rfl ?_
        refine PW.iload_n (pc := 20) dX7_fame_20 rfl ?_
        refine PW.inv (m' := mX7_hasDayAhead) (pc := 21) dX7_fame_21 lm_X7_253 me_X7_hasDayAhead mi_X7_hasDayAhead (ob hM3.1 s_3 (by decide)) rfl (As := [.int x2]) (st := []) rfl (Nat.le_of_ble_eq_true rfl) (Nat.le_of_ble_eq_true rfl) (Nat.le_of_eq hM3.1) (Nat.le_refl _) (PW.deep (by decide) (c_X7_hasDayAhead  hM3 h)) ?_
        rintro _ M5 ⟨hM7, y6, rfl, z8, h⟩
        refine PW.if_eq (pc := 24) dX7_fame_24 (t := 36) (by decide) (fun hc => ?_) (fun hc => ?_)
        · have h := h.1 hc
          refine PW.iconst (pc := 36) dX7_fame_36 (v := (-1)) (by decide) ?_
          exact PW.retI (pc := 37) dX7_fame_37 hM7.1 rfl rfl ⟨hM7, _, rfl, h⟩
        · have h := h.2 hc
          refine PW.iload_n (pc := 27) dX7_fame_27 rfl ?_
          refine PW.if_lt (pc := 28) dX7_fame_28 (t := 36) (by decide) (fun hc => ?_) (fun hc => ?_)
          · have h := h.1 hc
            refine PW.iconst (pc := 36) dX7_fame_36 (v := (-1)) (by decide) ?_
            exact PW.retI (pc := 37) dX7_fame_37 hM7.1 rfl rfl ⟨hM7, _, rfl, h⟩
          · have h := h.2 hc
            refine PW.iload_n (pc := 31) dX7_fame_31 rfl ?_
            refine PW.iconst (pc := 32) dX7_fame_32 (v := 1) (by decide) ?_
            refine PW.icmp_le (pc := 33) dX7_fame_33 (t := 38) (by decide) (fun hc => ?_) (fun hc => ?_)
            · have h := h.1 hc
              refine PW.iconst (pc := 38) dX7_fame_38 (v := 0) (by decide) ?_
              refine PW.istore (pc := 39) dX7_fame_39 (ls' := [.ref 3, .int x1, .int x2, .int x3, .int 0, .null, .null, .null]) (by decide) rfl rfl ?_
              refine PW.iconst (pc := 41) dX7_fame_41 (v := (-1)) (by decide) ?_
              refine PW.istore (pc := 42) dX7_fame_42 (ls' := [.ref 3, .int x1, .int x2, .int x3, .int 0, .int (-1), .null, .null]) (by decide) rfl rfl ?_
              refine PW.iconst (pc := 44) dX7_fame_44 (v := 0) (by decide) ?_
              refine PW.istore (pc := 45) dX7_fame_45 (ls' := [.ref 3, .int x1, .int x2, .int x3, .int 0, .int (-1), .int 0, .null]) (by decide) rfl rfl ?_
              obtain ⟨n12, h⟩ := h
              refine PW.drop (c_X7_fame_47  n12 _ _ _ _ _ _ _ hM7 h) ⟨rfl, rfl, rfl, rfl, rfl, rfl, rfl, trivial⟩
            · have h := h.2 hc
              refine PW.iconst (pc := 36) dX7_fame_36 (v := (-1)) (by decide) ?_
              exact PW.retI (pc := 37) dX7_fame_37 hM7.1 rfl rfl ⟨hM7, _, rfl, h⟩
def w_X7_shared  (M : pm) (Q : Int32 → pm → Prop) : Prop := w_X1_shareBits (mR M 3 3) 57 M (fun y2 M1 => Q y2 M1)
set_option maxRecDepth 4000 in
theorem c_X7_shared  {M : pm} {Q : Int32 → pm → Prop}  (hM : pG M) (h : w_X7_shared  M Q) : PW mX7_shared 7 350 0 (pfr mX7_shared.2.2.1 [.ref 3]) [] M (qI Q) := by
  unfold w_X7_shared at h
  show PW mX7_shared 7 350 0 [.ref 3] [] M (qI Q)
  refine PW.aload_n (pc := 0) dX7_shared_0 rfl ?_
  refine PW.getR (pc := 1) dX7_shared_1 (r := 44) lf_X7_47 (ob hM.1 s_3 (by decide)) fx_7_8 (oR_7_8 hM s_3) (pS_ne s_44) ?_
  refine PW.aload_n (pc := 4) dX7_shared_4 rfl ?_
  refine PW.getR (pc := 5) dX7_shared_5 (r := (mR M 3 3)) lf_X7_27 (ob hM.1 s_3 (by decide)) fx_7_3 rfl (pS_ne (hM.2.2.2.2.1)) ?_
  refine PW.aload_n (pc := 8) dX7_shared_8 rfl ?_
  refine PW.getR (pc := 9) dX7_shared_9 (r := 57) lf_X7_54 (ob hM.1 s_3 (by decide)) fx_7_9 (oR_7_9 hM s_3) (pS_ne s_57) ?_
  refine PW.inv (m' := mX1_shareBits) (pc := 12) dX7_shared_12 lm_X7_272 me_X1_shareBits mi_X1_shareBits (ob hM.1 s_44 (by decide)) rfl (As := [.ref (mR M 3 3), .ref 57]) (st := []) rfl (Nat.le_of_ble_eq_true rfl) (Nat.le_of_ble_eq_true rfl) (Nat.le_of_eq hM.1) (Nat.le_refl _) (PW.deep (by decide) (c_X1_shareBits (hM.2.2.2.2.1) s_57 hM h)) ?_
  rintro _ M1 ⟨hM3, y2, rfl, h⟩
  exact PW.retI (pc := 15) dX7_shared_15 hM3.1 rfl rfl ⟨hM3, _, rfl, h⟩
def w_X7_heard_15  (x1 : Int32) (M : pm)  (Q : Int32 → pm → Prop) : Prop := w_X1_bestBits (mR M 3 3) 57 M (fun y2 M1 => w_X1_pleaseEars (mR M1 3 3) 57 y2 M1 (fun M4 => ((¬ x1 = (-1) → (w_X1_heardBy (mR M4 3 3) 57 y2 x1 M4 (fun y8 M7 => Q y8 M7))) ∧ (x1 = (-1) → (w_X1_pleased 0 0 M4 (fun y11 M10 => Q y11 M10))))))
set_option maxRecDepth 4000 in
theorem c_X7_heard_15  {Q : Int32 → pm → Prop}  : ∀ (x1 : Int32) (M : pm), pG M → w_X7_heard_15 x1 M  Q → PW mX7_heard 7 350 15 [.ref 3, .int x1, .null] [] M (qI Q) := by
  intro x1 M hM h
  unfold w_X7_heard_15 at h
  refine PW.aload_n (pc := 15) dX7_heard_15 rfl ?_
  refine PW.getR (pc := 16) dX7_heard_16 (r := 44) lf_X7_47 (ob hM.1 s_3 (by decide)) fx_7_8 (oR_7_8 hM s_3) (pS_ne s_44) ?_
  refine PW.aload_n (pc := 19) dX7_heard_19 rfl ?_
  refine PW.getR (pc := 20) dX7_heard_20 (r := (mR M 3 3)) lf_X7_27 (ob hM.1 s_3 (by decide)) fx_7_3 rfl (pS_ne (hM.2.2.2.2.1)) ?_
  refine PW.aload_n (pc := 23) dX7_heard_23 rfl ?_
  refine PW.getR (pc := 24) dX7_heard_24 (r := 57) lf_X7_54 (ob hM.1 s_3 (by decide)) fx_7_9 (oR_7_9 hM s_3) (pS_ne s_57) ?_
  refine PW.inv (m' := mX1_bestBits) (pc := 27) dX7_heard_27 lm_X7_228 me_X1_bestBits mi_X1_bestBits (ob hM.1 s_44 (by decide)) rfl (As := [.ref (mR M 3 3), .ref 57]) (st := []) rfl (Nat.le_of_ble_eq_true rfl) (Nat.le_of_ble_eq_true rfl) (Nat.le_of_eq hM.1) (Nat.le_refl _) (PW.deep (by decide) (c_X1_bestBits (hM.2.2.2.2.1) s_57 hM h)) ?_
  rintro _ M1 ⟨hM3, y2, rfl, h⟩
  refine PW.istore_n (pc := 30) dX7_heard_30 (ls' := [.ref 3, .int x1, .int y2]) (by decide) rfl rfl ?_
  refine PW.aload_n (pc := 31) dX7_heard_31 rfl ?_
  refine PW.getR (pc := 32) dX7_heard_32 (r := 44) lf_X7_47 (ob hM3.1 s_3 (by decide)) fx_7_8 (oR_7_8 hM3 s_3) (pS_ne s_44) ?_
  refine PW.aload_n (pc := 35) dX7_heard_35 rfl ?_
  refine PW.getR (pc := 36) dX7_heard_36 (r := (mR M1 3 3)) lf_X7_27 (ob hM3.1 s_3 (by decide)) fx_7_3 rfl (pS_ne (hM3.2.2.2.2.1)) ?_
  refine PW.aload_n (pc := 39) dX7_heard_39 rfl ?_
  refine PW.getR (pc := 40) dX7_heard_40 (r := 57) lf_X7_54 (ob hM3.1 s_3 (by decide)) fx_7_9 (oR_7_9 hM3 s_3) (pS_ne s_57) ?_
  refine PW.iload_n (pc := 43) dX7_heard_43 rfl ?_
  refine PW.inv (m' := mX1_pleaseEars) (pc := 44) dX7_heard_44 lm_X7_275 me_X1_pleaseEars mi_X1_pleaseEars (ob hM3.1 s_44 (by decide)) rfl (As := [.ref (mR M1 3 3), .ref 57, .int y2]) (st := []) rfl (Nat.le_of_ble_eq_true rfl) (Nat.le_of_ble_eq_true rfl) (Nat.le_of_eq hM3.1) (Nat.le_refl _) (PW.deep (by decide) (c_X1_pleaseEars (hM3.2.2.2.2.1) s_57 hM3 h)) ?_
  rintro _ M4 ⟨hM6, rfl, h⟩
  refine PW.iload_n (pc := 47) dX7_heard_47 rfl ?_
  refine PW.iconst (pc := 48) dX7_heard_48 (v := (-1)) (by decide) ?_
  refine PW.icmp_ne (pc := 49) dX7_heard_49 (t := 64) (by decide) (fun hc => ?_) (fun hc => ?_)
  · have h := h.1 hc
    refine PW.aload_n (pc := 64) dX7_heard_64 rfl ?_
    refine PW.getR (pc := 65) dX7_heard_65 (r := 44) lf_X7_47 (ob hM6.1 s_3 (by decide)) fx_7_8 (oR_7_8 hM6 s_3) (pS_ne s_44) ?_
    refine PW.aload_n (pc := 68) dX7_heard_68 rfl ?_
    refine PW.getR (pc := 69) dX7_heard_69 (r := (mR M4 3 3)) lf_X7_27 (ob hM6.1 s_3 (by decide)) fx_7_3 rfl (pS_ne (hM6.2.2.2.2.1)) ?_
    refine PW.aload_n (pc := 72) dX7_heard_72 rfl ?_
    refine PW.getR (pc := 73) dX7_heard_73 (r := 57) lf_X7_54 (ob hM6.1 s_3 (by decide)) fx_7_9 (oR_7_9 hM6 s_3) (pS_ne s_57) ?_
    refine PW.iload_n (pc := 76) dX7_heard_76 rfl ?_
    refine PW.iload_n (pc := 77) dX7_heard_77 rfl ?_
    refine PW.inv (m' := mX1_heardBy) (pc := 78) dX7_heard_78 lm_X7_282 me_X1_heardBy mi_X1_heardBy (ob hM6.1 s_44 (by decide)) rfl (As := [.ref (mR M4 3 3), .ref 57, .int y2, .int x1]) (st := []) rfl (Nat.le_of_ble_eq_true rfl) (Nat.le_of_ble_eq_true rfl) (Nat.le_of_eq hM6.1) (Nat.le_refl _) (PW.deep (by decide) (c_X1_heardBy (hM6.2.2.2.2.1) s_57 hM6 h)) ?_
    rintro _ M7 ⟨hM9, y8, rfl, h⟩
    exact PW.retI (pc := 81) dX7_heard_81 hM9.1 rfl rfl ⟨hM9, _, rfl, h⟩
  · have h := h.2 hc
    refine PW.aload_n (pc := 52) dX7_heard_52 rfl ?_
    refine PW.getR (pc := 53) dX7_heard_53 (r := 44) lf_X7_47 (ob hM6.1 s_3 (by decide)) fx_7_8 (oR_7_8 hM6 s_3) (pS_ne s_44) ?_
    refine PW.iconst (pc := 56) dX7_heard_56 (v := 0) (by decide) ?_
    refine PW.iconst (pc := 57) dX7_heard_57 (v := 0) (by decide) ?_
    refine PW.inv (m' := mX1_pleased) (pc := 58) dX7_heard_58 lm_X7_279 me_X1_pleased mi_X1_pleased (ob hM6.1 s_44 (by decide)) rfl (As := [.int 0, .int 0]) (st := []) rfl (Nat.le_of_ble_eq_true rfl) (Nat.le_of_ble_eq_true rfl) (Nat.le_of_eq hM6.1) (Nat.le_refl _) (PW.deep (by decide) (c_X1_pleased  hM6 h)) ?_
    rintro _ M10 ⟨hM12, y11, rfl, h⟩
    refine PW.goto (pc := 61) dX7_heard_61 (t := 81) (by decide) ?_
    exact PW.retI (pc := 81) dX7_heard_81 hM12.1 rfl rfl ⟨hM12, _, rfl, h⟩
def w_X7_heard (x1 : Int32) (M : pm) (Q : Int32 → pm → Prop) : Prop := ((x1 = (-1) → (w_X7_heard_15 x1 M  Q)) ∧ (¬ x1 = (-1) → (w_X7_isEar x1 M (fun y14 M13 => ((¬ y14 = 0 → (w_X7_heard_15 x1 M13  Q)) ∧ (y14 = 0 → (Q (-1) M13)))))))
set_option maxRecDepth 4000 in
theorem c_X7_heard {x1 : Int32} {M : pm} {Q : Int32 → pm → Prop}  (hM : pG M) (h : w_X7_heard x1 M Q) : PW mX7_heard 7 350 0 (pfr mX7_heard.2.2.1 [.ref 3, .int x1]) [] M (qI Q) := by
  unfold w_X7_heard at h
  show PW mX7_heard 7 350 0 [.ref 3, .int x1, .null] [] M (qI Q)
  refine PW.iload_n (pc := 0) dX7_heard_0 rfl ?_
  refine PW.iconst (pc := 1) dX7_heard_1 (v := (-1)) (by decide) ?_
  refine PW.icmp_eq (pc := 2) dX7_heard_2 (t := 15) (by decide) (fun hc => ?_) (fun hc => ?_)
  · have h := h.1 hc
    exact PW.drop (c_X7_heard_15  _ _ hM h) ⟨rfl, rfl, trivial⟩
  · have h := h.2 hc
    refine PW.aload_n (pc := 5) dX7_heard_5 rfl ?_
    refine PW.iload_n (pc := 6) dX7_heard_6 rfl ?_
    refine PW.inv (m' := mX7_isEar) (pc := 7) dX7_heard_7 lm_X7_194 me_X7_isEar mi_X7_isEar (ob hM.1 s_3 (by decide)) rfl (As := [.int x1]) (st := []) rfl (Nat.le_of_ble_eq_true rfl) (Nat.le_of_ble_eq_true rfl) (Nat.le_of_eq hM.1) (Nat.le_refl _) (PW.deep (by decide) (c_X7_isEar  hM h)) ?_
    rintro _ M13 ⟨hM15, y14, rfl, z16, h⟩
    refine PW.if_ne (pc := 10) dX7_heard_10 (t := 15) (by decide) (fun hc => ?_) (fun hc => ?_)
    · have h := h.1 hc
      exact PW.drop (c_X7_heard_15  _ _ hM15 h) ⟨rfl, rfl, trivial⟩
    · have h := h.2 hc
      refine PW.iconst (pc := 13) dX7_heard_13 (v := (-1)) (by decide) ?_
      exact PW.retI (pc := 14) dX7_heard_14 hM15.1 rfl rfl ⟨hM15, _, rfl, h⟩
def w_X7_isSeenTape_21 : Nat → Int32 → Int32 → pm → (Int32 → pm → Prop) → Prop
  | 0, _, _, _, _ => False
  | n + 1, x1, x2, M, Q => ((x1 ≤ x2 → (Q 1 M)) ∧ (¬ x1 ≤ x2 → (w_X7_tapeByte x2 M (fun y2 M1 => ((30 < y2 → (Q 0 M1)) ∧ (¬ 30 < y2 → (w_X7_tapeByte (x2 + 1) M1 (fun y5 M4 => w_X7_isAsker y5 M4 (fun y8 M7 => ((y8 = 0 → (Q 0 M7)) ∧ (¬ y8 = 0 → (w_X7_tapeByte (x2 + 2) M7 (fun y12 M11 => ((y12 ≤ 1 → (w_X7_isSeenTape_21 n x1 (x2 + 3) M11 Q)) ∧ (¬ y12 ≤ 1 → (Q 0 M11))))))))))))))))
set_option maxRecDepth 4000 in
theorem c_X7_isSeenTape_21  {Q : Int32 → pm → Prop}  : ∀ (n : Nat) (x1 : Int32) (x2 : Int32) (M : pm), pG M → w_X7_isSeenTape_21 n x1 x2 M  Q → PW mX7_isSeenTape 2 350 21 [.ref 3, .int x1, .int x2] [] M (qZ Q) := by
  intro n
  induction n with
  | zero => intro x1 x2 M hM h; exact h.elim
  | succ n ih =>
    intro x1 x2 M hM h
    unfold w_X7_isSeenTape_21 at h
    refine PW.iload_n (pc := 21) dX7_isSeenTape_21 rfl ?_
    refine PW.iload_n (pc := 22) dX7_isSeenTape_22 rfl ?_
    refine PW.icmp_ge (pc := 23) dX7_isSeenTape_23 (t := 69) (by decide) (fun hc => ?_) (fun hc => ?_)
    · have h := h.1 hc
      refine PW.iconst (pc := 69) dX7_isSeenTape_69 (v := 1) (by decide) ?_
      exact PW.retI (pc := 70) dX7_isSeenTape_70 hM.1 rfl (bz_n bz1) ⟨hM, _, rfl, bz1, h⟩
    · have h := h.2 hc
      refine PW.aload_n (pc := 26) dX7_isSeenTape_26 rfl ?_
      refine PW.iload_n (pc := 27) dX7_isSeenTape_27 rfl ?_
      refine PW.inv (m' := mX7_tapeByte) (pc := 28) dX7_isSeenTape_28 lm_X7_99 me_X7_tapeByte mi_X7_tapeByte (ob hM.1 s_3 (by decide)) rfl (As := [.int x2]) (st := []) rfl (Nat.le_of_ble_eq_true rfl) (Nat.le_of_ble_eq_true rfl) (Nat.le_of_eq hM.1) (Nat.le_refl _) (PW.deep (by decide) (c_X7_tapeByte  hM h)) ?_
      rintro _ M1 ⟨hM3, y2, rfl, h⟩
      refine PW.bipush (pc := 31) dX7_isSeenTape_31 (v := 30) (by decide) ?_
      refine PW.icmp_gt (pc := 33) dX7_isSeenTape_33 (t := 61) (by decide) (fun hc => ?_) (fun hc => ?_)
      · have h := h.1 hc
        refine PW.iconst (pc := 61) dX7_isSeenTape_61 (v := 0) (by decide) ?_
        exact PW.retI (pc := 62) dX7_isSeenTape_62 hM3.1 rfl (bz_n bz0) ⟨hM3, _, rfl, bz0, h⟩
      · have h := h.2 hc
        refine PW.aload_n (pc := 36) dX7_isSeenTape_36 rfl ?_
        refine PW.aload_n (pc := 37) dX7_isSeenTape_37 rfl ?_
        refine PW.iload_n (pc := 38) dX7_isSeenTape_38 rfl ?_
        refine PW.iconst (pc := 39) dX7_isSeenTape_39 (v := 1) (by decide) ?_
        refine PW.iadd (pc := 40) dX7_isSeenTape_40 ?_
        refine PW.inv (m' := mX7_tapeByte) (pc := 41) dX7_isSeenTape_41 lm_X7_99 me_X7_tapeByte mi_X7_tapeByte (ob hM3.1 s_3 (by decide)) rfl (As := [.int (x2 + 1)]) (st := [.ref 3]) rfl (Nat.le_of_ble_eq_true rfl) (Nat.le_of_ble_eq_true rfl) (Nat.le_of_eq hM3.1) (Nat.le_refl _) (PW.deep (by decide) (c_X7_tapeByte  hM3 h)) ?_
        rintro _ M4 ⟨hM6, y5, rfl, h⟩
        refine PW.inv (m' := mX7_isAsker) (pc := 44) dX7_isSeenTape_44 lm_X7_188 me_X7_isAsker mi_X7_isAsker (ob hM6.1 s_3 (by decide)) rfl (As := [.int y5]) (st := []) rfl (Nat.le_of_ble_eq_true rfl) (Nat.le_of_ble_eq_true rfl) (Nat.le_of_eq hM6.1) (Nat.le_refl _) (PW.deep (by decide) (c_X7_isAsker  hM6 h)) ?_
        rintro _ M7 ⟨hM9, y8, rfl, z10, h⟩
        refine PW.if_eq (pc := 47) dX7_isSeenTape_47 (t := 61) (by decide) (fun hc => ?_) (fun hc => ?_)
        · have h := h.1 hc
          refine PW.iconst (pc := 61) dX7_isSeenTape_61 (v := 0) (by decide) ?_
          exact PW.retI (pc := 62) dX7_isSeenTape_62 hM9.1 rfl (bz_n bz0) ⟨hM9, _, rfl, bz0, h⟩
        · have h := h.2 hc
          refine PW.aload_n (pc := 50) dX7_isSeenTape_50 rfl ?_
          refine PW.iload_n (pc := 51) dX7_isSeenTape_51 rfl ?_
          refine PW.iconst (pc := 52) dX7_isSeenTape_52 (v := 2) (by decide) ?_
          refine PW.iadd (pc := 53) dX7_isSeenTape_53 ?_
          refine PW.inv (m' := mX7_tapeByte) (pc := 54) dX7_isSeenTape_54 lm_X7_99 me_X7_tapeByte mi_X7_tapeByte (ob hM9.1 s_3 (by decide)) rfl (As := [.int (x2 + 2)]) (st := []) rfl (Nat.le_of_ble_eq_true rfl) (Nat.le_of_ble_eq_true rfl) (Nat.le_of_eq hM9.1) (Nat.le_refl _) (PW.deep (by decide) (c_X7_tapeByte  hM9 h)) ?_
          rintro _ M11 ⟨hM13, y12, rfl, h⟩
          refine PW.iconst (pc := 57) dX7_isSeenTape_57 (v := 1) (by decide) ?_
          refine PW.icmp_le (pc := 58) dX7_isSeenTape_58 (t := 63) (by decide) (fun hc => ?_) (fun hc => ?_)
          · have h := h.1 hc
            refine PW.iinc (pc := 63) dX7_isSeenTape_63 (v := (x2 + 3)) (ls' := [.ref 3, .int x1, .int (x2 + 3)]) rfl rfl (by decide) rfl rfl ?_
            refine PW.goto (pc := 66) dX7_isSeenTape_66 (t := 21) (by decide) ?_
            exact PW.drop (ih _ _ _ hM13 h) ⟨rfl, rfl, rfl, trivial⟩
          · have h := h.2 hc
            refine PW.iconst (pc := 61) dX7_isSeenTape_61 (v := 0) (by decide) ?_
            exact PW.retI (pc := 62) dX7_isSeenTape_62 hM13.1 rfl (bz_n bz0) ⟨hM13, _, rfl, bz0, h⟩
def w_X7_isSeenTape (x1 : Int32) (M : pm) (Q : Int32 → pm → Prop) : Prop := ((x1 < 3 → (Q 0 M)) ∧ (¬ x1 < 3 → ((48 < x1 → (Q 0 M)) ∧ (¬ 48 < x1 → (((irm x1 3) = 0 → (∃ n14, w_X7_isSeenTape_21 n14 x1 0 M  Q)) ∧ (¬ (irm x1 3) = 0 → (Q 0 M)))))))
set_option maxRecDepth 4000 in
theorem c_X7_isSeenTape {x1 : Int32} {M : pm} {Q : Int32 → pm → Prop}  (hM : pG M) (h : w_X7_isSeenTape x1 M Q) : PW mX7_isSeenTape 2 350 0 (pfr mX7_isSeenTape.2.2.1 [.ref 3, .int x1]) [] M (qZ Q) := by
  unfold w_X7_isSeenTape at h
  show PW mX7_isSeenTape 2 350 0 [.ref 3, .int x1, .null] [] M (qZ Q)
  refine PW.iload_n (pc := 0) dX7_isSeenTape_0 rfl ?_
  refine PW.iconst (pc := 1) dX7_isSeenTape_1 (v := 3) (by decide) ?_
  refine PW.icmp_lt (pc := 2) dX7_isSeenTape_2 (t := 17) (by decide) (fun hc => ?_) (fun hc => ?_)
  · have h := h.1 hc
    refine PW.iconst (pc := 17) dX7_isSeenTape_17 (v := 0) (by decide) ?_
    exact PW.retI (pc := 18) dX7_isSeenTape_18 hM.1 rfl (bz_n bz0) ⟨hM, _, rfl, bz0, h⟩
  · have h := h.2 hc
    refine PW.iload_n (pc := 5) dX7_isSeenTape_5 rfl ?_
    refine PW.bipush (pc := 6) dX7_isSeenTape_6 (v := 48) (by decide) ?_
    refine PW.icmp_gt (pc := 8) dX7_isSeenTape_8 (t := 17) (by decide) (fun hc => ?_) (fun hc => ?_)
    · have h := h.1 hc
      refine PW.iconst (pc := 17) dX7_isSeenTape_17 (v := 0) (by decide) ?_
      exact PW.retI (pc := 18) dX7_isSeenTape_18 hM.1 rfl (bz_n bz0) ⟨hM, _, rfl, bz0, h⟩
    · have h := h.2 hc
      refine PW.iload_n (pc := 11) dX7_isSeenTape_11 rfl ?_
      refine PW.iconst (pc := 12) dX7_isSeenTape_12 (v := 3) (by decide) ?_
      refine PW.irem (pc := 13) dX7_isSeenTape_13 (by decide) ?_
      refine PW.if_eq (pc := 14) dX7_isSeenTape_14 (t := 19) (by decide) (fun hc => ?_) (fun hc => ?_)
      · have h := h.1 hc
        refine PW.iconst (pc := 19) dX7_isSeenTape_19 (v := 0) (by decide) ?_
        refine PW.istore_n (pc := 20) dX7_isSeenTape_20 (ls' := [.ref 3, .int x1, .int 0]) (by decide) rfl rfl ?_
        obtain ⟨n14, h⟩ := h
        refine PW.drop (c_X7_isSeenTape_21  n14 _ _ _ hM h) ⟨rfl, rfl, rfl, trivial⟩
      · have h := h.2 hc
        refine PW.iconst (pc := 17) dX7_isSeenTape_17 (v := 0) (by decide) ?_
        exact PW.retI (pc := 18) dX7_isSeenTape_18 hM.1 rfl (bz_n bz0) ⟨hM, _, rfl, bz0, h⟩
def w_X7_see_46 : Nat → Int32 → Int32 → pm → (Int32 → pm → Prop) → (Int32 → pm → Prop) → Prop
  | 0, _, _, _, _, _ => False
  | n + 1, x2, x3, M, k74, Q => ((3 ≤ x3 → (k74 x2 M)) ∧ (¬ 3 ≤ x3 → (vp_in x2 16 ∧ (w_X7_tapeByte ((3 * x2) + x3) M (fun y13 M12 => vp_in x3 3 ∧ (w_X7_see_46 n x2 (x3 + 1) (sI M12 (258 + x2.toNatClampNeg) x3.toNatClampNeg y13) k74 Q))))))
set_option maxRecDepth 4000 in
theorem c_X7_see_46 {k74 : Int32 → pm → Prop} {Q : Int32 → pm → Prop} (hk74 : ∀ (x2 : Int32) (M : pm), pG M → k74 x2 M → PW mX7_see 3 350 74 [.ref 3, .null, .int x2, .null] [] M (qI Q)) : ∀ (n : Nat) (x2 : Int32) (x3 : Int32) (M : pm), pG M → w_X7_see_46 n x2 x3 M k74 Q → PW mX7_see 3 350 46 [.ref 3, .null, .int x2, .int x3] [] M (qI Q) := by
  intro n
  induction n with
  | zero => intro x2 x3 M hM h; exact h.elim
  | succ n ih =>
    intro x2 x3 M hM h
    unfold w_X7_see_46 at h
    refine PW.iload_n (pc := 46) dX7_see_46 rfl ?_
    refine PW.iconst (pc := 47) dX7_see_47 (v := 3) (by decide) ?_
    refine PW.icmp_ge (pc := 48) dX7_see_48 (t := 74) (by decide) (fun hc => ?_) (fun hc => ?_)
    · have h := h.1 hc
      exact PW.drop (hk74 _ _ hM h) ⟨rfl, rfl, trivial⟩
    · have h := h.2 hc
      refine PW.aload_n (pc := 51) dX7_see_51 rfl ?_
      refine PW.getR (pc := 52) dX7_see_52 (r := 257) lf_X7_70 (ob hM.1 s_3 (by decide)) fx_7_12 (oR_7_12 hM s_3) (pS_ne s_257) ?_
      refine PW.iload_n (pc := 55) dX7_see_55 rfl ?_
      obtain ⟨v11, h⟩ := h
      refine PW.aaldA (pc := 56) dX7_see_56 (ar hM.1 s_257) (vpl n_257 v11) (rR_257 hM (vp_lt v11)) (pS_ne (rS_257 (vp_lt v11))) ?_
      refine PW.iload_n (pc := 57) dX7_see_57 rfl ?_
      refine PW.aload_n (pc := 58) dX7_see_58 rfl ?_
      refine PW.iconst (pc := 59) dX7_see_59 (v := 3) (by decide) ?_
      refine PW.iload_n (pc := 60) dX7_see_60 rfl ?_
      refine PW.imul (pc := 61) dX7_see_61 ?_
      refine PW.iload_n (pc := 62) dX7_see_62 rfl ?_
      refine PW.iadd (pc := 63) dX7_see_63 ?_
      refine PW.inv (m' := mX7_tapeByte) (pc := 64) dX7_see_64 lm_X7_99 me_X7_tapeByte mi_X7_tapeByte (ob hM.1 s_3 (by decide)) rfl (As := [.int ((3 * x2) + x3)]) (st := [.int x3, .ref (258 + x2.toNatClampNeg)]) rfl (Nat.le_of_ble_eq_true rfl) (Nat.le_of_ble_eq_true rfl) (Nat.le_of_eq hM.1) (Nat.le_refl _) (PW.deep (by decide) (c_X7_tapeByte  hM h)) ?_
      rintro _ M12 ⟨hM14, y13, rfl, h⟩
      obtain ⟨v15, h⟩ := h
      refine PW.iast (pc := 67) dX7_see_67 (ar hM14.1 (rS_257 (vp_lt v11))) (vpl (rN_257 (vp_lt v11)) v15) ?_
      refine PW.iinc (pc := 68) dX7_see_68 (v := (x3 + 1)) (ls' := [.ref 3, .null, .int x2, .int (x3 + 1)]) rfl rfl (by decide) rfl rfl ?_
      refine PW.goto (pc := 71) dX7_see_71 (t := 46) (by decide) ?_
      exact PW.drop (ih _ _ _ (hM14.same rfl rfl) h) ⟨rfl, rfl, rfl, trivial⟩
def w_X7_see_36 : Nat → Int32 → pm → (Int32 → pm → Prop) → Prop
  | 0, _, _, _ => False
  | n + 1, x2, M, Q => (((mI M 3 13) ≤ x2 → (Q (mI M 3 13) M)) ∧ (¬ (mI M 3 13) ≤ x2 → (∃ n16, w_X7_see_46 n16 x2 0 M (fun x2 M17 => w_X7_see_36 n (x2 + 1) M17 Q) Q)))
set_option maxRecDepth 4000 in
theorem c_X7_see_36  {Q : Int32 → pm → Prop}  : ∀ (n : Nat) (x2 : Int32) (M : pm), pG M → w_X7_see_36 n x2 M  Q → PW mX7_see 3 350 36 [.ref 3, .null, .int x2, .null] [] M (qI Q) := by
  intro n
  induction n with
  | zero => intro x2 M hM h; exact h.elim
  | succ n ih =>
    intro x2 M hM h
    unfold w_X7_see_36 at h
    refine PW.iload_n (pc := 36) dX7_see_36 rfl ?_
    refine PW.aload_n (pc := 37) dX7_see_37 rfl ?_
    refine PW.getI (pc := 38) dX7_see_38 lf_X7_73 (ob hM.1 s_3 (by decide)) fx_7_13 ?_
    refine PW.icmp_ge (pc := 41) dX7_see_41 (t := 80) (by decide) (fun hc => ?_) (fun hc => ?_)
    · have h := h.1 hc
      refine PW.aload_n (pc := 80) dX7_see_80 rfl ?_
      refine PW.getI (pc := 81) dX7_see_81 lf_X7_73 (ob hM.1 s_3 (by decide)) fx_7_13 ?_
      exact PW.retI (pc := 84) dX7_see_84 hM.1 rfl rfl ⟨hM, _, rfl, h⟩
    · have h := h.2 hc
      refine PW.iconst (pc := 44) dX7_see_44 (v := 0) (by decide) ?_
      refine PW.istore_n (pc := 45) dX7_see_45 (ls' := [.ref 3, .null, .int x2, .int 0]) (by decide) rfl rfl ?_
      obtain ⟨n16, h⟩ := h
      refine PW.drop (c_X7_see_46 ?_ n16 _ _ _ hM h) ⟨rfl, rfl, rfl, trivial⟩
      · intro x2 M17 hM h
        refine PW.iinc (pc := 74) dX7_see_74 (v := (x2 + 1)) (ls' := [.ref 3, .null, .int (x2 + 1), .null]) rfl rfl (by decide) rfl rfl ?_
        refine PW.goto (pc := 77) dX7_see_77 (t := 36) (by decide) ?_
        exact PW.drop (ih _ _ hM h) ⟨rfl, rfl, trivial⟩
def w_X7_see  (M : pm) (Q : Int32 → pm → Prop) : Prop := w_X7_takeTape  M (fun y2 M1 => (((mI M1 3 5) = 0 → (w_X7_refuse 1 M1 (fun M4 => Q (-1) M4))) ∧ (¬ (mI M1 3 5) = 0 → (w_X7_isSeenTape y2 M1 (fun y8 M7 => ((¬ y8 = 0 → (∃ n18, w_X7_see_36 n18 0 (sI M7 3 13 (y2 / 3))  Q)) ∧ (y8 = 0 → (w_X7_refuse 1 M7 (fun M19 => Q (-1) M19)))))))))
set_option maxRecDepth 4000 in
theorem c_X7_see  {M : pm} {Q : Int32 → pm → Prop}  (hM : pG M) (h : w_X7_see  M Q) : PW mX7_see 3 350 0 (pfr mX7_see.2.2.1 [.ref 3]) [] M (qI Q) := by
  unfold w_X7_see at h
  show PW mX7_see 3 350 0 [.ref 3, .null, .null, .null] [] M (qI Q)
  refine PW.aload_n (pc := 0) dX7_see_0 rfl ?_
  refine PW.inv (m' := mX7_takeTape) (pc := 1) dX7_see_1 lm_X7_103 me_X7_takeTape mi_X7_takeTape (ob hM.1 s_3 (by decide)) rfl (As := []) (st := []) rfl (Nat.le_of_ble_eq_true rfl) (Nat.le_of_ble_eq_true rfl) (Nat.le_of_eq hM.1) (Nat.le_refl _) (PW.deep (by decide) (c_X7_takeTape  hM h)) ?_
  rintro _ M1 ⟨hM3, y2, rfl, h⟩
  refine PW.istore_n (pc := 4) dX7_see_4 (ls' := [.ref 3, .int y2, .null, .null]) (by decide) rfl rfl ?_
  refine PW.aload_n (pc := 5) dX7_see_5 rfl ?_
  refine PW.getI (pc := 6) dX7_see_6 lf_X7_34 (ob hM3.1 s_3 (by decide)) fx_7_5 ?_
  refine PW.if_eq (pc := 9) dX7_see_9 (t := 20) (by decide) (fun hc => ?_) (fun hc => ?_)
  · have h := h.1 hc
    refine PW.aload_n (pc := 20) dX7_see_20 rfl ?_
    refine PW.iconst (pc := 21) dX7_see_21 (v := 1) (by decide) ?_
    refine PW.inv (m' := mX7_refuse) (pc := 22) dX7_see_22 lm_X7_92 me_X7_refuse mi_X7_refuse (ob hM3.1 s_3 (by decide)) rfl (As := [.int 1]) (st := []) rfl (Nat.le_of_ble_eq_true rfl) (Nat.le_of_ble_eq_true rfl) (Nat.le_of_eq hM3.1) (Nat.le_refl _) (PW.deep (by decide) (c_X7_refuse  hM3 h)) ?_
    rintro _ M4 ⟨hM6, rfl, h⟩
    refine PW.iconst (pc := 25) dX7_see_25 (v := (-1)) (by decide) ?_
    exact PW.retI (pc := 26) dX7_see_26 hM6.1 rfl rfl ⟨hM6, _, rfl, h⟩
  · have h := h.2 hc
    refine PW.aload_n (pc := 12) dX7_see_12 rfl ?_
    refine PW.iload_n (pc := 13) dX7_see_13 rfl ?_
    refine PW.inv (m' := mX7_isSeenTape) (pc := 14) dX7_see_14 lm_X7_286 me_X7_isSeenTape mi_X7_isSeenTape (ob hM3.1 s_3 (by decide)) rfl (As := [.int y2]) (st := []) rfl (Nat.le_of_ble_eq_true rfl) (Nat.le_of_ble_eq_true rfl) (Nat.le_of_eq hM3.1) (Nat.le_refl _) (PW.deep (by decide) (c_X7_isSeenTape  hM3 h)) ?_
    rintro _ M7 ⟨hM9, y8, rfl, z10, h⟩
    refine PW.if_ne (pc := 17) dX7_see_17 (t := 27) (by decide) (fun hc => ?_) (fun hc => ?_)
    · have h := h.1 hc
      refine PW.aload_n (pc := 27) dX7_see_27 rfl ?_
      refine PW.iload_n (pc := 28) dX7_see_28 rfl ?_
      refine PW.iconst (pc := 29) dX7_see_29 (v := 3) (by decide) ?_
      refine PW.idiv (pc := 30) dX7_see_30 (by decide) ?_
      refine PW.putI (pc := 31) dX7_see_31 lf_X7_73 (ob hM9.1 s_3 (by decide)) fx_7_13 fw_7_13 rfl rfl ?_
      refine PW.iconst (pc := 34) dX7_see_34 (v := 0) (by decide) ?_
      refine PW.istore_n (pc := 35) dX7_see_35 (ls' := [.ref 3, .int y2, .int 0, .null]) (by decide) rfl rfl ?_
      obtain ⟨n18, h⟩ := h
      refine PW.drop (c_X7_see_36  n18 _ _ (hM9.same rfl rfl) h) ⟨rfl, rfl, trivial⟩
    · have h := h.2 hc
      refine PW.aload_n (pc := 20) dX7_see_20 rfl ?_
      refine PW.iconst (pc := 21) dX7_see_21 (v := 1) (by decide) ?_
      refine PW.inv (m' := mX7_refuse) (pc := 22) dX7_see_22 lm_X7_92 me_X7_refuse mi_X7_refuse (ob hM9.1 s_3 (by decide)) rfl (As := [.int 1]) (st := []) rfl (Nat.le_of_ble_eq_true rfl) (Nat.le_of_ble_eq_true rfl) (Nat.le_of_eq hM9.1) (Nat.le_refl _) (PW.deep (by decide) (c_X7_refuse  hM9 h)) ?_
      rintro _ M19 ⟨hM21, rfl, h⟩
      refine PW.iconst (pc := 25) dX7_see_25 (v := (-1)) (by decide) ?_
      exact PW.retI (pc := 26) dX7_see_26 hM21.1 rfl rfl ⟨hM21, _, rfl, h⟩
def w_X7_lastSeenDay_4 : Nat → Int32 → Int32 → pm → (Int32 → pm → Prop) → Prop
  | 0, _, _, _, _ => False
  | n + 1, x1, x2, M, Q => (((mI M 3 13) ≤ x2 → (Q x1 M)) ∧ (¬ (mI M 3 13) ≤ x2 → (vp_in x2 16 ∧ (w_J9_max_7cf53 x1 (mI M (258 + x2.toNatClampNeg) 0) M (fun y3 M2 => w_X7_lastSeenDay_4 n y3 (x2 + 1) M2 Q)))))
set_option maxRecDepth 4000 in
theorem c_X7_lastSeenDay_4  {Q : Int32 → pm → Prop}  : ∀ (n : Nat) (x1 : Int32) (x2 : Int32) (M : pm), pG M → w_X7_lastSeenDay_4 n x1 x2 M  Q → PW mX7_lastSeenDay 2 350 4 [.ref 3, .int x1, .int x2] [] M (qI Q) := by
  intro n
  induction n with
  | zero => intro x1 x2 M hM h; exact h.elim
  | succ n ih =>
    intro x1 x2 M hM h
    unfold w_X7_lastSeenDay_4 at h
    refine PW.iload_n (pc := 4) dX7_lastSeenDay_4 rfl ?_
    refine PW.aload_n (pc := 5) dX7_lastSeenDay_5 rfl ?_
    refine PW.getI (pc := 6) dX7_lastSeenDay_6 lf_X7_73 (ob hM.1 s_3 (by decide)) fx_7_13 ?_
    refine PW.icmp_ge (pc := 9) dX7_lastSeenDay_9 (t := 31) (by decide) (fun hc => ?_) (fun hc => ?_)
    · have h := h.1 hc
      refine PW.iload_n (pc := 31) dX7_lastSeenDay_31 rfl ?_
      exact PW.retI (pc := 32) dX7_lastSeenDay_32 hM.1 rfl rfl ⟨hM, _, rfl, h⟩
    · have h := h.2 hc
      refine PW.iload_n (pc := 12) dX7_lastSeenDay_12 rfl ?_
      refine PW.aload_n (pc := 13) dX7_lastSeenDay_13 rfl ?_
      refine PW.getR (pc := 14) dX7_lastSeenDay_14 (r := 257) lf_X7_70 (ob hM.1 s_3 (by decide)) fx_7_12 (oR_7_12 hM s_3) (pS_ne s_257) ?_
      refine PW.iload_n (pc := 17) dX7_lastSeenDay_17 rfl ?_
      obtain ⟨v1, h⟩ := h
      refine PW.aaldA (pc := 18) dX7_lastSeenDay_18 (ar hM.1 s_257) (vpl n_257 v1) (rR_257 hM (vp_lt v1)) (pS_ne (rS_257 (vp_lt v1))) ?_
      refine PW.iconst (pc := 19) dX7_lastSeenDay_19 (v := 0) (by decide) ?_
      refine PW.iald (pc := 20) dX7_lastSeenDay_20 (ar hM.1 (rS_257 (vp_lt v1))) (vpl (rN_257 (vp_lt v1)) (vp_c (i := 0) (n := 3) (by decide))) ?_
      refine PW.ins (m' := mJ9_max_7cf53) (pc := 21) dX7_lastSeenDay_21 lm_X7_263 me_J9_max_7cf53 ms_J9_max_7cf53 (As := [.int x1, .int (mI M (258 + x2.toNatClampNeg) 0)]) (st := []) rfl (Nat.le_of_ble_eq_true rfl) (Nat.le_of_ble_eq_true rfl) (Nat.le_of_eq hM.1) (Nat.le_refl _) (PW.deep (by decide) (c_J9_max_7cf53  hM h)) ?_
      rintro _ M2 ⟨hM4, y3, rfl, h⟩
      refine PW.istore_n (pc := 24) dX7_lastSeenDay_24 (ls' := [.ref 3, .int y3, .int x2]) (by decide) rfl rfl ?_
      refine PW.iinc (pc := 25) dX7_lastSeenDay_25 (v := (x2 + 1)) (ls' := [.ref 3, .int y3, .int (x2 + 1)]) rfl rfl (by decide) rfl rfl ?_
      refine PW.goto (pc := 28) dX7_lastSeenDay_28 (t := 4) (by decide) ?_
      exact PW.drop (ih _ _ _ hM4 h) ⟨rfl, rfl, rfl, trivial⟩
def w_X7_lastSeenDay  (M : pm) (Q : Int32 → pm → Prop) : Prop := ∃ n5, w_X7_lastSeenDay_4 n5 (-1) 0 M  Q
set_option maxRecDepth 4000 in
theorem c_X7_lastSeenDay  {M : pm} {Q : Int32 → pm → Prop}  (hM : pG M) (h : w_X7_lastSeenDay  M Q) : PW mX7_lastSeenDay 2 350 0 (pfr mX7_lastSeenDay.2.2.1 [.ref 3]) [] M (qI Q) := by
  unfold w_X7_lastSeenDay at h
  show PW mX7_lastSeenDay 2 350 0 [.ref 3, .null, .null] [] M (qI Q)
  refine PW.iconst (pc := 0) dX7_lastSeenDay_0 (v := (-1)) (by decide) ?_
  refine PW.istore_n (pc := 1) dX7_lastSeenDay_1 (ls' := [.ref 3, .int (-1), .null]) (by decide) rfl rfl ?_
  refine PW.iconst (pc := 2) dX7_lastSeenDay_2 (v := 0) (by decide) ?_
  refine PW.istore_n (pc := 3) dX7_lastSeenDay_3 (ls' := [.ref 3, .int (-1), .int 0]) (by decide) rfl rfl ?_
  obtain ⟨n5, h⟩ := h
  refine PW.drop (c_X7_lastSeenDay_4  n5 _ _ _ hM h) ⟨rfl, rfl, rfl, trivial⟩
def w_X7_rowsAgree_2 : Nat → Int32 → Int32 → Int32 → pm → (Int32 → pm → Prop) → Prop
  | 0, _, _, _, _, _ => False
  | n + 1, x1, x2, x3, M, Q => (((mI M 3 13) ≤ x3 → (Q 1 M)) ∧ (¬ (mI M 3 13) ≤ x3 → (vp_in x3 16 ∧ ((¬ (mI M (258 + x3.toNatClampNeg) 0) = x1 → (w_X7_rowsAgree_2 n x1 x2 (x3 + 1) M Q)) ∧ ((mI M (258 + x3.toNatClampNeg) 0) = x1 → (vp_in x3 16 ∧ (vp_in x3 16 ∧ ((((x2 >>> ((mI M (258 + x3.toNatClampNeg) 1) &&& 31)) &&& 1) = (mI M (258 + x3.toNatClampNeg) 2) → (w_X7_rowsAgree_2 n x1 x2 (x3 + 1) M Q)) ∧ (¬ ((x2 >>> ((mI M (258 + x3.toNatClampNeg) 1) &&& 31)) &&& 1) = (mI M (258 + x3.toNatClampNeg) 2) → (Q 0 M))))))))))
set_option maxRecDepth 4000 in
theorem c_X7_rowsAgree_2  {Q : Int32 → pm → Prop}  : ∀ (n : Nat) (x1 : Int32) (x2 : Int32) (x3 : Int32) (M : pm), pG M → w_X7_rowsAgree_2 n x1 x2 x3 M  Q → PW mX7_rowsAgree 1 350 2 [.ref 3, .int x1, .int x2, .int x3] [] M (qZ Q) := by
  intro n
  induction n with
  | zero => intro x1 x2 x3 M hM h; exact h.elim
  | succ n ih =>
    intro x1 x2 x3 M hM h
    unfold w_X7_rowsAgree_2 at h
    refine PW.iload_n (pc := 2) dX7_rowsAgree_2 rfl ?_
    refine PW.aload_n (pc := 3) dX7_rowsAgree_3 rfl ?_
    refine PW.getI (pc := 4) dX7_rowsAgree_4 lf_X7_73 (ob hM.1 s_3 (by decide)) fx_7_13 ?_
    refine PW.icmp_ge (pc := 7) dX7_rowsAgree_7 (t := 53) (by decide) (fun hc => ?_) (fun hc => ?_)
    · have h := h.1 hc
      refine PW.iconst (pc := 53) dX7_rowsAgree_53 (v := 1) (by decide) ?_
      exact PW.retI (pc := 54) dX7_rowsAgree_54 hM.1 rfl (bz_n bz1) ⟨hM, _, rfl, bz1, h⟩
    · have h := h.2 hc
      refine PW.aload_n (pc := 10) dX7_rowsAgree_10 rfl ?_
      refine PW.getR (pc := 11) dX7_rowsAgree_11 (r := 257) lf_X7_70 (ob hM.1 s_3 (by decide)) fx_7_12 (oR_7_12 hM s_3) (pS_ne s_257) ?_
      refine PW.iload_n (pc := 14) dX7_rowsAgree_14 rfl ?_
      obtain ⟨v1, h⟩ := h
      refine PW.aaldA (pc := 15) dX7_rowsAgree_15 (ar hM.1 s_257) (vpl n_257 v1) (rR_257 hM (vp_lt v1)) (pS_ne (rS_257 (vp_lt v1))) ?_
      refine PW.iconst (pc := 16) dX7_rowsAgree_16 (v := 0) (by decide) ?_
      refine PW.iald (pc := 17) dX7_rowsAgree_17 (ar hM.1 (rS_257 (vp_lt v1))) (vpl (rN_257 (vp_lt v1)) (vp_c (i := 0) (n := 3) (by decide))) ?_
      refine PW.iload_n (pc := 18) dX7_rowsAgree_18 rfl ?_
      refine PW.icmp_ne (pc := 19) dX7_rowsAgree_19 (t := 47) (by decide) (fun hc => ?_) (fun hc => ?_)
      · have h := h.1 hc
        refine PW.iinc (pc := 47) dX7_rowsAgree_47 (v := (x3 + 1)) (ls' := [.ref 3, .int x1, .int x2, .int (x3 + 1)]) rfl rfl (by decide) rfl rfl ?_
        refine PW.goto (pc := 50) dX7_rowsAgree_50 (t := 2) (by decide) ?_
        exact PW.drop (ih _ _ _ _ hM h) ⟨rfl, rfl, rfl, rfl, trivial⟩
      · have h := h.2 hc
        refine PW.iload_n (pc := 22) dX7_rowsAgree_22 rfl ?_
        refine PW.aload_n (pc := 23) dX7_rowsAgree_23 rfl ?_
        refine PW.getR (pc := 24) dX7_rowsAgree_24 (r := 257) lf_X7_70 (ob hM.1 s_3 (by decide)) fx_7_12 (oR_7_12 hM s_3) (pS_ne s_257) ?_
        refine PW.iload_n (pc := 27) dX7_rowsAgree_27 rfl ?_
        obtain ⟨v2, h⟩ := h
        refine PW.aaldA (pc := 28) dX7_rowsAgree_28 (ar hM.1 s_257) (vpl n_257 v2) (rR_257 hM (vp_lt v2)) (pS_ne (rS_257 (vp_lt v2))) ?_
        refine PW.iconst (pc := 29) dX7_rowsAgree_29 (v := 1) (by decide) ?_
        refine PW.iald (pc := 30) dX7_rowsAgree_30 (ar hM.1 (rS_257 (vp_lt v2))) (vpl (rN_257 (vp_lt v2)) (vp_c (i := 1) (n := 3) (by decide))) ?_
        refine PW.ishr (pc := 31) dX7_rowsAgree_31 ?_
        refine PW.iconst (pc := 32) dX7_rowsAgree_32 (v := 1) (by decide) ?_
        refine PW.iand (pc := 33) dX7_rowsAgree_33 ?_
        refine PW.aload_n (pc := 34) dX7_rowsAgree_34 rfl ?_
        refine PW.getR (pc := 35) dX7_rowsAgree_35 (r := 257) lf_X7_70 (ob hM.1 s_3 (by decide)) fx_7_12 (oR_7_12 hM s_3) (pS_ne s_257) ?_
        refine PW.iload_n (pc := 38) dX7_rowsAgree_38 rfl ?_
        obtain ⟨v3, h⟩ := h
        refine PW.aaldA (pc := 39) dX7_rowsAgree_39 (ar hM.1 s_257) (vpl n_257 v3) (rR_257 hM (vp_lt v3)) (pS_ne (rS_257 (vp_lt v3))) ?_
        refine PW.iconst (pc := 40) dX7_rowsAgree_40 (v := 2) (by decide) ?_
        refine PW.iald (pc := 41) dX7_rowsAgree_41 (ar hM.1 (rS_257 (vp_lt v3))) (vpl (rN_257 (vp_lt v3)) (vp_c (i := 2) (n := 3) (by decide))) ?_
        refine PW.icmp_eq (pc := 42) dX7_rowsAgree_42 (t := 47) (by decide) (fun hc => ?_) (fun hc => ?_)
        · have h := h.1 hc
          refine PW.iinc (pc := 47) dX7_rowsAgree_47 (v := (x3 + 1)) (ls' := [.ref 3, .int x1, .int x2, .int (x3 + 1)]) rfl rfl (by decide) rfl rfl ?_
          refine PW.goto (pc := 50) dX7_rowsAgree_50 (t := 2) (by decide) ?_
          exact PW.drop (ih _ _ _ _ hM h) ⟨rfl, rfl, rfl, rfl, trivial⟩
        · have h := h.2 hc
          refine PW.iconst (pc := 45) dX7_rowsAgree_45 (v := 0) (by decide) ?_
          exact PW.retI (pc := 46) dX7_rowsAgree_46 hM.1 rfl (bz_n bz0) ⟨hM, _, rfl, bz0, h⟩
def w_X7_rowsAgree (x1 : Int32) (x2 : Int32) (M : pm) (Q : Int32 → pm → Prop) : Prop := ∃ n4, w_X7_rowsAgree_2 n4 x1 x2 0 M  Q
set_option maxRecDepth 4000 in
theorem c_X7_rowsAgree {x1 : Int32} {x2 : Int32} {M : pm} {Q : Int32 → pm → Prop}  (hM : pG M) (h : w_X7_rowsAgree x1 x2 M Q) : PW mX7_rowsAgree 1 350 0 (pfr mX7_rowsAgree.2.2.1 [.ref 3, .int x1, .int x2]) [] M (qZ Q) := by
  unfold w_X7_rowsAgree at h
  show PW mX7_rowsAgree 1 350 0 [.ref 3, .int x1, .int x2, .null] [] M (qZ Q)
  refine PW.iconst (pc := 0) dX7_rowsAgree_0 (v := 0) (by decide) ?_
  refine PW.istore_n (pc := 1) dX7_rowsAgree_1 (ls' := [.ref 3, .int x1, .int x2, .int 0]) (by decide) rfl rfl ?_
  obtain ⟨n4, h⟩ := h
  refine PW.drop (c_X7_rowsAgree_2  n4 _ _ _ _ hM h) ⟨rfl, rfl, rfl, rfl, trivial⟩
