/-! methods, walked by program: w_ what must hold before, c_ its proof -/
def w_X7_feed (x1 : Int32) (x2 : Int32) (x3 : Int32) (x4 : Int32) (x5 : Int32) (M : pm) (Q : Int32 → pm → Prop) : Prop := ((((mI M 3 1) + 20) ≤ 1600 → (w_X7_putOnTape x1 M (fun M1 => w_X7_putOnTape x2 M1 (fun M4 => w_X7_putOnTape x3 M4 (fun M7 => w_X7_putOnTape x4 M7 (fun M10 => w_X7_putOnTape x5 M10 (fun M13 => Q (mI M13 3 1) M13))))))) ∧ (¬ ((mI M 3 1) + 20) ≤ 1600 → (w_X7_refuse 0 M (fun M16 => Q (-1) M16))))
set_option maxRecDepth 4000 in
theorem c_X7_feed {x1 : Int32} {x2 : Int32} {x3 : Int32} {x4 : Int32} {x5 : Int32} {M : pm} {Q : Int32 → pm → Prop}  (hM : pG M) (h : w_X7_feed x1 x2 x3 x4 x5 M Q) : PW mX7_feed 2 350 0 (pfr mX7_feed.2.2.1 [.ref 3, .int x1, .int x2, .int x3, .int x4, .int x5]) [] M (qI Q) := by
  unfold w_X7_feed at h
  show PW mX7_feed 2 350 0 [.ref 3, .int x1, .int x2, .int x3, .int x4, .int x5] [] M (qI Q)
  refine PW.aload_n (pc := 0) dX7_feed_0 rfl ?_
  refine PW.getI (pc := 1) dX7_feed_1 lf_X7_13 (ob hM.1 s_3 (by decide)) fx_7_1 ?_
  refine PW.bipush (pc := 4) dX7_feed_4 (v := 20) (by decide) ?_
  refine PW.iadd (pc := 6) dX7_feed_6 ?_
  refine PW.sipush (pc := 7) dX7_feed_7 (v := 1600) (by decide) ?_
  refine PW.icmp_le (pc := 10) dX7_feed_10 (t := 20) (by decide) (fun hc => ?_) (fun hc => ?_)
  · have h := h.1 hc
    refine PW.aload_n (pc := 20) dX7_feed_20 rfl ?_
    refine PW.iload_n (pc := 21) dX7_feed_21 rfl ?_
    refine PW.inv (m' := mX7_putOnTape) (pc := 22) dX7_feed_22 lm_X7_96 me_X7_putOnTape mi_X7_putOnTape (ob hM.1 s_3 (by decide)) rfl (As := [.int x1]) (st := []) rfl (Nat.le_of_ble_eq_true rfl) (Nat.le_of_ble_eq_true rfl) (Nat.le_of_eq hM.1) (Nat.le_refl _) (PW.deep (by decide) (c_X7_putOnTape  hM h)) ?_
    rintro _ M1 ⟨hM3, rfl, h⟩
    refine PW.aload_n (pc := 25) dX7_feed_25 rfl ?_
    refine PW.iload_n (pc := 26) dX7_feed_26 rfl ?_
    refine PW.inv (m' := mX7_putOnTape) (pc := 27) dX7_feed_27 lm_X7_96 me_X7_putOnTape mi_X7_putOnTape (ob hM3.1 s_3 (by decide)) rfl (As := [.int x2]) (st := []) rfl (Nat.le_of_ble_eq_true rfl) (Nat.le_of_ble_eq_true rfl) (Nat.le_of_eq hM3.1) (Nat.le_refl _) (PW.deep (by decide) (c_X7_putOnTape  hM3 h)) ?_
    rintro _ M4 ⟨hM6, rfl, h⟩
    refine PW.aload_n (pc := 30) dX7_feed_30 rfl ?_
    refine PW.iload_n (pc := 31) dX7_feed_31 rfl ?_
    refine PW.inv (m' := mX7_putOnTape) (pc := 32) dX7_feed_32 lm_X7_96 me_X7_putOnTape mi_X7_putOnTape (ob hM6.1 s_3 (by decide)) rfl (As := [.int x3]) (st := []) rfl (Nat.le_of_ble_eq_true rfl) (Nat.le_of_ble_eq_true rfl) (Nat.le_of_eq hM6.1) (Nat.le_refl _) (PW.deep (by decide) (c_X7_putOnTape  hM6 h)) ?_
    rintro _ M7 ⟨hM9, rfl, h⟩
    refine PW.aload_n (pc := 35) dX7_feed_35 rfl ?_
    refine PW.iload (pc := 36) dX7_feed_36 rfl ?_
    refine PW.inv (m' := mX7_putOnTape) (pc := 38) dX7_feed_38 lm_X7_96 me_X7_putOnTape mi_X7_putOnTape (ob hM9.1 s_3 (by decide)) rfl (As := [.int x4]) (st := []) rfl (Nat.le_of_ble_eq_true rfl) (Nat.le_of_ble_eq_true rfl) (Nat.le_of_eq hM9.1) (Nat.le_refl _) (PW.deep (by decide) (c_X7_putOnTape  hM9 h)) ?_
    rintro _ M10 ⟨hM12, rfl, h⟩
    refine PW.aload_n (pc := 41) dX7_feed_41 rfl ?_
    refine PW.iload (pc := 42) dX7_feed_42 rfl ?_
    refine PW.inv (m' := mX7_putOnTape) (pc := 44) dX7_feed_44 lm_X7_96 me_X7_putOnTape mi_X7_putOnTape (ob hM12.1 s_3 (by decide)) rfl (As := [.int x5]) (st := []) rfl (Nat.le_of_ble_eq_true rfl) (Nat.le_of_ble_eq_true rfl) (Nat.le_of_eq hM12.1) (Nat.le_refl _) (PW.deep (by decide) (c_X7_putOnTape  hM12 h)) ?_
    rintro _ M13 ⟨hM15, rfl, h⟩
    refine PW.aload_n (pc := 47) dX7_feed_47 rfl ?_
    refine PW.getI (pc := 48) dX7_feed_48 lf_X7_13 (ob hM15.1 s_3 (by decide)) fx_7_1 ?_
    exact PW.retI (pc := 51) dX7_feed_51 hM15.1 rfl rfl ⟨hM15, _, rfl, h⟩
  · have h := h.2 hc
    refine PW.aload_n (pc := 13) dX7_feed_13 rfl ?_
    refine PW.iconst (pc := 14) dX7_feed_14 (v := 0) (by decide) ?_
    refine PW.inv (m' := mX7_refuse) (pc := 15) dX7_feed_15 lm_X7_92 me_X7_refuse mi_X7_refuse (ob hM.1 s_3 (by decide)) rfl (As := [.int 0]) (st := []) rfl (Nat.le_of_ble_eq_true rfl) (Nat.le_of_ble_eq_true rfl) (Nat.le_of_eq hM.1) (Nat.le_refl _) (PW.deep (by decide) (c_X7_refuse  hM h)) ?_
    rintro _ M16 ⟨hM18, rfl, h⟩
    refine PW.iconst (pc := 18) dX7_feed_18 (v := (-1)) (by decide) ?_
    exact PW.retI (pc := 19) dX7_feed_19 hM18.1 rfl rfl ⟨hM18, _, rfl, h⟩
def w_X7_end (x1 : Int32) (M : pm) (Q : Int32 → pm → Prop) : Prop := ((x1 < 0 → (w_X7_refuse 0 M (fun M1 => Q 0 M1))) ∧ (¬ x1 < 0 → ((x1 ≤ (mI M 3 1) → (Q 1 (sI M 3 1 x1))) ∧ (¬ x1 ≤ (mI M 3 1) → (w_X7_refuse 0 M (fun M4 => Q 0 M4))))))
set_option maxRecDepth 4000 in
theorem c_X7_end {x1 : Int32} {M : pm} {Q : Int32 → pm → Prop}  (hM : pG M) (h : w_X7_end x1 M Q) : PW mX7_end 2 350 0 (pfr mX7_end.2.2.1 [.ref 3, .int x1]) [] M (qZ Q) := by
  unfold w_X7_end at h
  show PW mX7_end 2 350 0 [.ref 3, .int x1] [] M (qZ Q)
  refine PW.iload_n (pc := 0) dX7_end_0 rfl ?_
  refine PW.if_lt (pc := 1) dX7_end_1 (t := 12) (by decide) (fun hc => ?_) (fun hc => ?_)
  · have h := h.1 hc
    refine PW.aload_n (pc := 12) dX7_end_12 rfl ?_
    refine PW.iconst (pc := 13) dX7_end_13 (v := 0) (by decide) ?_
    refine PW.inv (m' := mX7_refuse) (pc := 14) dX7_end_14 lm_X7_92 me_X7_refuse mi_X7_refuse (ob hM.1 s_3 (by decide)) rfl (As := [.int 0]) (st := []) rfl (Nat.le_of_ble_eq_true rfl) (Nat.le_of_ble_eq_true rfl) (Nat.le_of_eq hM.1) (Nat.le_refl _) (PW.deep (by decide) (c_X7_refuse  hM h)) ?_
    rintro _ M1 ⟨hM3, rfl, h⟩
    refine PW.iconst (pc := 17) dX7_end_17 (v := 0) (by decide) ?_
    exact PW.retI (pc := 18) dX7_end_18 hM3.1 rfl (bz_n bz0) ⟨hM3, _, rfl, bz0, h⟩
  · have h := h.2 hc
    refine PW.iload_n (pc := 4) dX7_end_4 rfl ?_
    refine PW.aload_n (pc := 5) dX7_end_5 rfl ?_
    refine PW.getI (pc := 6) dX7_end_6 lf_X7_13 (ob hM.1 s_3 (by decide)) fx_7_1 ?_
    refine PW.icmp_le (pc := 9) dX7_end_9 (t := 19) (by decide) (fun hc => ?_) (fun hc => ?_)
    · have h := h.1 hc
      refine PW.aload_n (pc := 19) dX7_end_19 rfl ?_
      refine PW.iload_n (pc := 20) dX7_end_20 rfl ?_
      refine PW.putI (pc := 21) dX7_end_21 lf_X7_13 (ob hM.1 s_3 (by decide)) fx_7_1 fw_7_1 rfl rfl ?_
      refine PW.iconst (pc := 24) dX7_end_24 (v := 1) (by decide) ?_
      exact PW.retI (pc := 25) dX7_end_25 hM.1 rfl (bz_n bz1) ⟨(hM.same rfl rfl), _, rfl, bz1, h⟩
    · have h := h.2 hc
      refine PW.aload_n (pc := 12) dX7_end_12 rfl ?_
      refine PW.iconst (pc := 13) dX7_end_13 (v := 0) (by decide) ?_
      refine PW.inv (m' := mX7_refuse) (pc := 14) dX7_end_14 lm_X7_92 me_X7_refuse mi_X7_refuse (ob hM.1 s_3 (by decide)) rfl (As := [.int 0]) (st := []) rfl (Nat.le_of_ble_eq_true rfl) (Nat.le_of_ble_eq_true rfl) (Nat.le_of_eq hM.1) (Nat.le_refl _) (PW.deep (by decide) (c_X7_refuse  hM h)) ?_
      rintro _ M4 ⟨hM6, rfl, h⟩
      refine PW.iconst (pc := 17) dX7_end_17 (v := 0) (by decide) ?_
      exact PW.retI (pc := 18) dX7_end_18 hM6.1 rfl (bz_n bz0) ⟨hM6, _, rfl, bz0, h⟩
def w_X7_takeTape  (M : pm) (Q : Int32 → pm → Prop) : Prop := Q (mI M 3 1) (sI M 3 1 0)
set_option maxRecDepth 4000 in
theorem c_X7_takeTape  {M : pm} {Q : Int32 → pm → Prop}  (hM : pG M) (h : w_X7_takeTape  M Q) : PW mX7_takeTape 1 350 0 (pfr mX7_takeTape.2.2.1 [.ref 3]) [] M (qI Q) := by
  unfold w_X7_takeTape at h
  show PW mX7_takeTape 1 350 0 [.ref 3, .null] [] M (qI Q)
  refine PW.aload_n (pc := 0) dX7_takeTape_0 rfl ?_
  refine PW.getI (pc := 1) dX7_takeTape_1 lf_X7_13 (ob hM.1 s_3 (by decide)) fx_7_1 ?_
  refine PW.istore_n (pc := 4) dX7_takeTape_4 (ls' := [.ref 3, .int (mI M 3 1)]) (by decide) rfl rfl ?_
  refine PW.aload_n (pc := 5) dX7_takeTape_5 rfl ?_
  refine PW.iconst (pc := 6) dX7_takeTape_6 (v := 0) (by decide) ?_
  refine PW.putI (pc := 7) dX7_takeTape_7 lf_X7_13 (ob hM.1 s_3 (by decide)) fx_7_1 fw_7_1 rfl rfl ?_
  refine PW.iload_n (pc := 10) dX7_takeTape_10 rfl ?_
  exact PW.retI (pc := 11) dX7_takeTape_11 hM.1 rfl rfl ⟨(hM.same rfl rfl), _, rfl, h⟩
def w_X7_tapeByte (x1 : Int32) (M : pm) (Q : Int32 → pm → Prop) : Prop := ((x1 < 0 → (Q 0 M)) ∧ (¬ x1 < 0 → ((1600 ≤ x1 → (Q 0 M)) ∧ (¬ 1600 ≤ x1 → (vp_in x1 1600 ∧ (Q ((mI M 4 x1.toNatClampNeg) &&& 255) M))))))
set_option maxRecDepth 4000 in
theorem c_X7_tapeByte {x1 : Int32} {M : pm} {Q : Int32 → pm → Prop}  (hM : pG M) (h : w_X7_tapeByte x1 M Q) : PW mX7_tapeByte 1 350 0 (pfr mX7_tapeByte.2.2.1 [.ref 3, .int x1]) [] M (qI Q) := by
  unfold w_X7_tapeByte at h
  show PW mX7_tapeByte 1 350 0 [.ref 3, .int x1] [] M (qI Q)
  refine PW.iload_n (pc := 0) dX7_tapeByte_0 rfl ?_
  refine PW.if_lt (pc := 1) dX7_tapeByte_1 (t := 26) (by decide) (fun hc => ?_) (fun hc => ?_)
  · have h := h.1 hc
    refine PW.iconst (pc := 26) dX7_tapeByte_26 (v := 0) (by decide) ?_
    exact PW.retI (pc := 27) dX7_tapeByte_27 hM.1 rfl rfl ⟨hM, _, rfl, h⟩
  · have h := h.2 hc
    refine PW.iload_n (pc := 4) dX7_tapeByte_4 rfl ?_
    refine PW.aload_n (pc := 5) dX7_tapeByte_5 rfl ?_
    refine PW.getR (pc := 6) dX7_tapeByte_6 (r := 4) lf_X7_9 (ob hM.1 s_3 (by decide)) fx_7_0 (oR_7_0 hM s_3) (pS_ne s_4) ?_
    refine PW.alen (pc := 9) dX7_tapeByte_9 (v := 1600) (ar hM.1 s_4) (by decide) (by rw [n_4]; rfl) ?_
    refine PW.icmp_ge (pc := 10) dX7_tapeByte_10 (t := 26) (by decide) (fun hc => ?_) (fun hc => ?_)
    · have h := h.1 hc
      refine PW.iconst (pc := 26) dX7_tapeByte_26 (v := 0) (by decide) ?_
      exact PW.retI (pc := 27) dX7_tapeByte_27 hM.1 rfl rfl ⟨hM, _, rfl, h⟩
    · have h := h.2 hc
      refine PW.aload_n (pc := 13) dX7_tapeByte_13 rfl ?_
      refine PW.getR (pc := 14) dX7_tapeByte_14 (r := 4) lf_X7_9 (ob hM.1 s_3 (by decide)) fx_7_0 (oR_7_0 hM s_3) (pS_ne s_4) ?_
      refine PW.iload_n (pc := 17) dX7_tapeByte_17 rfl ?_
      obtain ⟨v1, h⟩ := h
      refine PW.bald (pc := 18) dX7_tapeByte_18 (ar hM.1 s_4) (vpl n_4 v1) ?_
      refine PW.sipush (pc := 19) dX7_tapeByte_19 (v := 255) (by decide) ?_
      refine PW.iand (pc := 22) dX7_tapeByte_22 ?_
      refine PW.goto (pc := 23) dX7_tapeByte_23 (t := 27) (by decide) ?_
      exact PW.retI (pc := 27) dX7_tapeByte_27 hM.1 rfl rfl ⟨hM, _, rfl, h⟩
def w_X7_tapePair (x1 : Int32) (M : pm) (Q : Int32 → pm → Prop) : Prop := w_X7_tapeByte x1 M (fun y2 M1 => w_X7_tapeByte (x1 + 1) M1 (fun y5 M4 => Q ((y2 * 256) + y5) M4))
set_option maxRecDepth 4000 in
theorem c_X7_tapePair {x1 : Int32} {M : pm} {Q : Int32 → pm → Prop}  (hM : pG M) (h : w_X7_tapePair x1 M Q) : PW mX7_tapePair 2 350 0 (pfr mX7_tapePair.2.2.1 [.ref 3, .int x1]) [] M (qI Q) := by
  unfold w_X7_tapePair at h
  show PW mX7_tapePair 2 350 0 [.ref 3, .int x1] [] M (qI Q)
  refine PW.aload_n (pc := 0) dX7_tapePair_0 rfl ?_
  refine PW.iload_n (pc := 1) dX7_tapePair_1 rfl ?_
  refine PW.inv (m' := mX7_tapeByte) (pc := 2) dX7_tapePair_2 lm_X7_99 me_X7_tapeByte mi_X7_tapeByte (ob hM.1 s_3 (by decide)) rfl (As := [.int x1]) (st := []) rfl (Nat.le_of_ble_eq_true rfl) (Nat.le_of_ble_eq_true rfl) (Nat.le_of_eq hM.1) (Nat.le_refl _) (PW.deep (by decide) (c_X7_tapeByte  hM h)) ?_
  rintro _ M1 ⟨hM3, y2, rfl, h⟩
  refine PW.sipush (pc := 5) dX7_tapePair_5 (v := 256) (by decide) ?_
  refine PW.imul (pc := 8) dX7_tapePair_8 ?_
  refine PW.aload_n (pc := 9) dX7_tapePair_9 rfl ?_
  refine PW.iload_n (pc := 10) dX7_tapePair_10 rfl ?_
  refine PW.iconst (pc := 11) dX7_tapePair_11 (v := 1) (by decide) ?_
  refine PW.iadd (pc := 12) dX7_tapePair_12 ?_
  refine PW.inv (m' := mX7_tapeByte) (pc := 13) dX7_tapePair_13 lm_X7_99 me_X7_tapeByte mi_X7_tapeByte (ob hM3.1 s_3 (by decide)) rfl (As := [.int (x1 + 1)]) (st := [.int (y2 * 256)]) rfl (Nat.le_of_ble_eq_true rfl) (Nat.le_of_ble_eq_true rfl) (Nat.le_of_eq hM3.1) (Nat.le_refl _) (PW.deep (by decide) (c_X7_tapeByte  hM3 h)) ?_
  rintro _ M4 ⟨hM6, y5, rfl, h⟩
  refine PW.iadd (pc := 16) dX7_tapePair_16 ?_
  exact PW.retI (pc := 17) dX7_tapePair_17 hM6.1 rfl rfl ⟨hM6, _, rfl, h⟩
def w_X7_fault (x1 : Int32) (M : pm) (Q : Int32 → pm → Prop) : Prop := ((¬ x1 = 0 → ((¬ x1 = 1 → (Q (-1) M)) ∧ (x1 = 1 → (Q (mI M 3 7) M)))) ∧ (x1 = 0 → (Q (mI M 3 6) M)))
set_option maxRecDepth 4000 in
theorem c_X7_fault {x1 : Int32} {M : pm} {Q : Int32 → pm → Prop}  (hM : pG M) (h : w_X7_fault x1 M Q) : PW mX7_fault 1 350 0 (pfr mX7_fault.2.2.1 [.ref 3, .int x1]) [] M (qI Q) := by
  unfold w_X7_fault at h
  show PW mX7_fault 1 350 0 [.ref 3, .int x1] [] M (qI Q)
  refine PW.iload_n (pc := 0) dX7_fault_0 rfl ?_
  refine PW.if_ne (pc := 1) dX7_fault_1 (t := 9) (by decide) (fun hc => ?_) (fun hc => ?_)
  · have h := h.1 hc
    refine PW.iload_n (pc := 9) dX7_fault_9 rfl ?_
    refine PW.iconst (pc := 10) dX7_fault_10 (v := 1) (by decide) ?_
    refine PW.icmp_ne (pc := 11) dX7_fault_11 (t := 21) (by decide) (fun hc => ?_) (fun hc => ?_)
    · have h := h.1 hc
      refine PW.iconst (pc := 21) dX7_fault_21 (v := (-1)) (by decide) ?_
      exact PW.retI (pc := 22) dX7_fault_22 hM.1 rfl rfl ⟨hM, _, rfl, h⟩
    · have h := h.2 hc
      refine PW.aload_n (pc := 14) dX7_fault_14 rfl ?_
      refine PW.getI (pc := 15) dX7_fault_15 lf_X7_41 (ob hM.1 s_3 (by decide)) fx_7_7 ?_
      refine PW.goto (pc := 18) dX7_fault_18 (t := 22) (by decide) ?_
      exact PW.retI (pc := 22) dX7_fault_22 hM.1 rfl rfl ⟨hM, _, rfl, h⟩
  · have h := h.2 hc
    refine PW.aload_n (pc := 4) dX7_fault_4 rfl ?_
    refine PW.getI (pc := 5) dX7_fault_5 lf_X7_38 (ob hM.1 s_3 (by decide)) fx_7_6 ?_
    exact PW.retI (pc := 8) dX7_fault_8 hM.1 rfl rfl ⟨hM, _, rfl, h⟩
def w_X7_keepFault  (M : pm) (Q : pm → Prop) : Prop := Q (sI (sI M 3 6 (mI M 6 7)) 3 7 (mI M 6 8))
set_option maxRecDepth 4000 in
theorem c_X7_keepFault  {M : pm} {Q : pm → Prop}  (hM : pG M) (h : w_X7_keepFault  M Q) : PW mX7_keepFault 1 350 0 (pfr mX7_keepFault.2.2.1 [.ref 3]) [] M (qV Q) := by
  unfold w_X7_keepFault at h
  show PW mX7_keepFault 1 350 0 [.ref 3] [] M (qV Q)
  refine PW.aload_n (pc := 0) dX7_keepFault_0 rfl ?_
  refine PW.aload_n (pc := 1) dX7_keepFault_1 rfl ?_
  refine PW.getR (pc := 2) dX7_keepFault_2 (r := 5) lf_X7_20 (ob hM.1 s_3 (by decide)) fx_7_2 (oR_7_2 hM s_3) (pS_ne s_5) ?_
  refine PW.getR (pc := 5) dX7_keepFault_5 (r := 6) lf_X7_124 (ob hM.1 s_5 (by decide)) fx_3_0 (oR_3_0 hM s_5) (pS_ne s_6) ?_
  refine PW.getI (pc := 8) dX7_keepFault_8 lf_X7_128 (ob hM.1 s_6 (by decide)) fx_6_7 ?_
  refine PW.putI (pc := 11) dX7_keepFault_11 lf_X7_38 (ob hM.1 s_3 (by decide)) fx_7_6 fw_7_6 rfl rfl ?_
  refine PW.aload_n (pc := 14) dX7_keepFault_14 rfl ?_
  refine PW.aload_n (pc := 15) dX7_keepFault_15 rfl ?_
  refine PW.getR (pc := 16) dX7_keepFault_16 (r := 5) lf_X7_20 (ob hM.1 s_3 (by decide)) fx_7_2 (oR_7_2 (hM.same rfl rfl) s_3) (pS_ne s_5) ?_
  refine PW.getR (pc := 19) dX7_keepFault_19 (r := 6) lf_X7_124 (ob hM.1 s_5 (by decide)) fx_3_0 (oR_3_0 (hM.same rfl rfl) s_5) (pS_ne s_6) ?_
  refine PW.getI (pc := 22) dX7_keepFault_22 lf_X7_131 (ob hM.1 s_6 (by decide)) fx_6_8 ?_
  refine PW.putI (pc := 25) dX7_keepFault_25 lf_X7_41 (ob hM.1 s_3 (by decide)) fx_7_7 fw_7_7 rfl rfl ?_
  exact PW.ret0 (pc := 28) dX7_keepFault_28 hM.1 rfl ⟨(hM.same rfl rfl), rfl, h⟩
def w_X7_countLiving_4 : Nat → Int32 → Int32 → pm → (Int32 → pm → Prop) → Prop
  | 0, _, _, _, _ => False
  | n + 1, x1, x2, M, Q => (((mI M (mR M 3 3) 8) ≤ x2 → (Q x1 M)) ∧ (¬ (mI M (mR M 3 3) 8) ≤ x2 → (w_X4_isDead 57 x2 M (fun y2 M1 => ((¬ y2 = 0 → (w_X7_countLiving_4 n x1 (x2 + 1) M1 Q)) ∧ (y2 = 0 → (w_X7_countLiving_4 n (x1 + 1) (x2 + 1) M1 Q)))))))
set_option maxRecDepth 4000 in
theorem c_X7_countLiving_4  {Q : Int32 → pm → Prop}  : ∀ (n : Nat) (x1 : Int32) (x2 : Int32) (M : pm), pG M → w_X7_countLiving_4 n x1 x2 M  Q → PW mX7_countLiving 2 350 4 [.ref 3, .int x1, .int x2] [] M (qI Q) := by
  intro n
  induction n with
  | zero => intro x1 x2 M hM h; exact h.elim
  | succ n ih =>
    intro x1 x2 M hM h
    unfold w_X7_countLiving_4 at h
    refine PW.iload_n (pc := 4) dX7_countLiving_4 rfl ?_
    refine PW.aload_n (pc := 5) dX7_countLiving_5 rfl ?_
    refine PW.getR (pc := 6) dX7_countLiving_6 (r := (mR M 3 3)) lf_X7_27 (ob hM.1 s_3 (by decide)) fx_7_3 rfl (pS_ne (hM.2.2.2.2.1)) ?_
    refine PW.getI (pc := 9) dX7_countLiving_9 lf_X7_138 (ob hM.1 (hM.2.2.2.2.1) (by decide)) fx_5_8 ?_
    refine PW.icmp_ge (pc := 12) dX7_countLiving_12 (t := 35) (by decide) (fun hc => ?_) (fun hc => ?_)
    · have h := h.1 hc
      refine PW.iload_n (pc := 35) dX7_countLiving_35 rfl ?_
      exact PW.retI (pc := 36) dX7_countLiving_36 hM.1 rfl rfl ⟨hM, _, rfl, h⟩
    · have h := h.2 hc
      refine PW.aload_n (pc := 15) dX7_countLiving_15 rfl ?_
      refine PW.getR (pc := 16) dX7_countLiving_16 (r := 57) lf_X7_54 (ob hM.1 s_3 (by decide)) fx_7_9 (oR_7_9 hM s_3) (pS_ne s_57) ?_
      refine PW.iload_n (pc := 19) dX7_countLiving_19 rfl ?_
      refine PW.inv (m' := mX4_isDead) (pc := 20) dX7_countLiving_20 lm_X7_171 me_X4_isDead mi_X4_isDead (ob hM.1 s_57 (by decide)) rfl (As := [.int x2]) (st := []) rfl (Nat.le_of_ble_eq_true rfl) (Nat.le_of_ble_eq_true rfl) (Nat.le_of_eq hM.1) (Nat.le_refl _) (PW.deep (by decide) (c_X4_isDead s_57 hM h)) ?_
      rintro _ M1 ⟨hM3, y2, rfl, z4, h⟩
      refine PW.if_ne (pc := 23) dX7_countLiving_23 (t := 29) (by decide) (fun hc => ?_) (fun hc => ?_)
      · have h := h.1 hc
        refine PW.iinc (pc := 29) dX7_countLiving_29 (v := (x2 + 1)) (ls' := [.ref 3, .int x1, .int (x2 + 1)]) rfl rfl (by decide) rfl rfl ?_
        refine PW.goto (pc := 32) dX7_countLiving_32 (t := 4) (by decide) ?_
        exact PW.drop (ih _ _ _ hM3 h) ⟨rfl, rfl, rfl, trivial⟩
      · have h := h.2 hc
        refine PW.iinc (pc := 26) dX7_countLiving_26 (v := (x1 + 1)) (ls' := [.ref 3, .int (x1 + 1), .int x2]) rfl rfl (by decide) rfl rfl ?_
        refine PW.iinc (pc := 29) dX7_countLiving_29 (v := (x2 + 1)) (ls' := [.ref 3, .int (x1 + 1), .int (x2 + 1)]) rfl rfl (by decide) rfl rfl ?_
        refine PW.goto (pc := 32) dX7_countLiving_32 (t := 4) (by decide) ?_
        exact PW.drop (ih _ _ _ hM3 h) ⟨rfl, rfl, rfl, trivial⟩
def w_X7_countLiving  (M : pm) (Q : Int32 → pm → Prop) : Prop := ∃ n5, w_X7_countLiving_4 n5 0 0 M  Q
set_option maxRecDepth 4000 in
theorem c_X7_countLiving  {M : pm} {Q : Int32 → pm → Prop}  (hM : pG M) (h : w_X7_countLiving  M Q) : PW mX7_countLiving 2 350 0 (pfr mX7_countLiving.2.2.1 [.ref 3]) [] M (qI Q) := by
  unfold w_X7_countLiving at h
  show PW mX7_countLiving 2 350 0 [.ref 3, .null, .null] [] M (qI Q)
  refine PW.iconst (pc := 0) dX7_countLiving_0 (v := 0) (by decide) ?_
  refine PW.istore_n (pc := 1) dX7_countLiving_1 (ls' := [.ref 3, .int 0, .null]) (by decide) rfl rfl ?_
  refine PW.iconst (pc := 2) dX7_countLiving_2 (v := 0) (by decide) ?_
  refine PW.istore_n (pc := 3) dX7_countLiving_3 (ls' := [.ref 3, .int 0, .int 0]) (by decide) rfl rfl ?_
  obtain ⟨n5, h⟩ := h
  refine PW.drop (c_X7_countLiving_4  n5 _ _ _ hM h) ⟨rfl, rfl, rfl, trivial⟩
def w_X7_countForgotten_4 : Nat → Int32 → Int32 → pm → (Int32 → pm → Prop) → Prop
  | 0, _, _, _, _ => False
  | n + 1, x1, x2, M, Q => (((mI M (mR M 3 3) 8) ≤ x2 → (Q x1 M)) ∧ (¬ (mI M (mR M 3 3) 8) ≤ x2 → (vp_in x2 8 ∧ ((¬ (mI M 60 x2.toNatClampNeg) = 0 → (w_X7_countForgotten_4 n x1 (x2 + 1) M Q)) ∧ ((mI M 60 x2.toNatClampNeg) = 0 → (w_X7_countForgotten_4 n (x1 + 1) (x2 + 1) M Q))))))
set_option maxRecDepth 4000 in
theorem c_X7_countForgotten_4  {Q : Int32 → pm → Prop}  : ∀ (n : Nat) (x1 : Int32) (x2 : Int32) (M : pm), pG M → w_X7_countForgotten_4 n x1 x2 M  Q → PW mX7_countForgotten 1 350 4 [.ref 3, .int x1, .int x2] [] M (qI Q) := by
  intro n
  induction n with
  | zero => intro x1 x2 M hM h; exact h.elim
  | succ n ih =>
    intro x1 x2 M hM h
    unfold w_X7_countForgotten_4 at h
    refine PW.iload_n (pc := 4) dX7_countForgotten_4 rfl ?_
    refine PW.aload_n (pc := 5) dX7_countForgotten_5 rfl ?_
    refine PW.getR (pc := 6) dX7_countForgotten_6 (r := (mR M 3 3)) lf_X7_27 (ob hM.1 s_3 (by decide)) fx_7_3 rfl (pS_ne (hM.2.2.2.2.1)) ?_
    refine PW.getI (pc := 9) dX7_countForgotten_9 lf_X7_138 (ob hM.1 (hM.2.2.2.2.1) (by decide)) fx_5_8 ?_
    refine PW.icmp_ge (pc := 12) dX7_countForgotten_12 (t := 36) (by decide) (fun hc => ?_) (fun hc => ?_)
    · have h := h.1 hc
      refine PW.iload_n (pc := 36) dX7_countForgotten_36 rfl ?_
      exact PW.retI (pc := 37) dX7_countForgotten_37 hM.1 rfl rfl ⟨hM, _, rfl, h⟩
    · have h := h.2 hc
      refine PW.aload_n (pc := 15) dX7_countForgotten_15 rfl ?_
      refine PW.getR (pc := 16) dX7_countForgotten_16 (r := 57) lf_X7_54 (ob hM.1 s_3 (by decide)) fx_7_9 (oR_7_9 hM s_3) (pS_ne s_57) ?_
      refine PW.getR (pc := 19) dX7_countForgotten_19 (r := 60) lf_X7_175 (ob hM.1 s_57 (by decide)) fx_4_4 (oR_4_4 hM s_57) (pS_ne s_60) ?_
      refine PW.iload_n (pc := 22) dX7_countForgotten_22 rfl ?_
      obtain ⟨v1, h⟩ := h
      refine PW.iald (pc := 23) dX7_countForgotten_23 (ar hM.1 s_60) (vpl n_60 v1) ?_
      refine PW.if_ne (pc := 24) dX7_countForgotten_24 (t := 30) (by decide) (fun hc => ?_) (fun hc => ?_)
      · have h := h.1 hc
        refine PW.iinc (pc := 30) dX7_countForgotten_30 (v := (x2 + 1)) (ls' := [.ref 3, .int x1, .int (x2 + 1)]) rfl rfl (by decide) rfl rfl ?_
        refine PW.goto (pc := 33) dX7_countForgotten_33 (t := 4) (by decide) ?_
        exact PW.drop (ih _ _ _ hM h) ⟨rfl, rfl, rfl, trivial⟩
      · have h := h.2 hc
        refine PW.iinc (pc := 27) dX7_countForgotten_27 (v := (x1 + 1)) (ls' := [.ref 3, .int (x1 + 1), .int x2]) rfl rfl (by decide) rfl rfl ?_
        refine PW.iinc (pc := 30) dX7_countForgotten_30 (v := (x2 + 1)) (ls' := [.ref 3, .int (x1 + 1), .int (x2 + 1)]) rfl rfl (by decide) rfl rfl ?_
        refine PW.goto (pc := 33) dX7_countForgotten_33 (t := 4) (by decide) ?_
        exact PW.drop (ih _ _ _ hM h) ⟨rfl, rfl, rfl, trivial⟩
def w_X7_countForgotten  (M : pm) (Q : Int32 → pm → Prop) : Prop := ∃ n2, w_X7_countForgotten_4 n2 0 0 M  Q
set_option maxRecDepth 4000 in
theorem c_X7_countForgotten  {M : pm} {Q : Int32 → pm → Prop}  (hM : pG M) (h : w_X7_countForgotten  M Q) : PW mX7_countForgotten 1 350 0 (pfr mX7_countForgotten.2.2.1 [.ref 3]) [] M (qI Q) := by
  unfold w_X7_countForgotten at h
  show PW mX7_countForgotten 1 350 0 [.ref 3, .null, .null] [] M (qI Q)
  refine PW.iconst (pc := 0) dX7_countForgotten_0 (v := 0) (by decide) ?_
  refine PW.istore_n (pc := 1) dX7_countForgotten_1 (ls' := [.ref 3, .int 0, .null]) (by decide) rfl rfl ?_
  refine PW.iconst (pc := 2) dX7_countForgotten_2 (v := 0) (by decide) ?_
  refine PW.istore_n (pc := 3) dX7_countForgotten_3 (ls' := [.ref 3, .int 0, .int 0]) (by decide) rfl rfl ?_
  obtain ⟨n2, h⟩ := h
  refine PW.drop (c_X7_countForgotten_4  n2 _ _ _ hM h) ⟨rfl, rfl, rfl, trivial⟩
def w_J6_bitCount_0f7a4 (x0 : Int32) (M : pm) (Q : Int32 → pm → Prop) : Prop := Q ((((((((x0 - (((x0.toUInt32 >>> ((1 : Int32).toUInt32 &&& Int32.toUInt32 31)).toInt32) &&& 1431655765)) &&& 858993459) + ((((x0 - (((x0.toUInt32 >>> ((1 : Int32).toUInt32 &&& Int32.toUInt32 31)).toInt32) &&& 1431655765)).toUInt32 >>> ((2 : Int32).toUInt32 &&& Int32.toUInt32 31)).toInt32) &&& 858993459)) + (((((x0 - (((x0.toUInt32 >>> ((1 : Int32).toUInt32 &&& Int32.toUInt32 31)).toInt32) &&& 1431655765)) &&& 858993459) + ((((x0 - (((x0.toUInt32 >>> ((1 : Int32).toUInt32 &&& Int32.toUInt32 31)).toInt32) &&& 1431655765)).toUInt32 >>> ((2 : Int32).toUInt32 &&& Int32.toUInt32 31)).toInt32) &&& 858993459)).toUInt32 >>> ((4 : Int32).toUInt32 &&& Int32.toUInt32 31)).toInt32)) &&& 252645135) + (((((((x0 - (((x0.toUInt32 >>> ((1 : Int32).toUInt32 &&& Int32.toUInt32 31)).toInt32) &&& 1431655765)) &&& 858993459) + ((((x0 - (((x0.toUInt32 >>> ((1 : Int32).toUInt32 &&& Int32.toUInt32 31)).toInt32) &&& 1431655765)).toUInt32 >>> ((2 : Int32).toUInt32 &&& Int32.toUInt32 31)).toInt32) &&& 858993459)) + (((((x0 - (((x0.toUInt32 >>> ((1 : Int32).toUInt32 &&& Int32.toUInt32 31)).toInt32) &&& 1431655765)) &&& 858993459) + ((((x0 - (((x0.toUInt32 >>> ((1 : Int32).toUInt32 &&& Int32.toUInt32 31)).toInt32) &&& 1431655765)).toUInt32 >>> ((2 : Int32).toUInt32 &&& Int32.toUInt32 31)).toInt32) &&& 858993459)).toUInt32 >>> ((4 : Int32).toUInt32 &&& Int32.toUInt32 31)).toInt32)) &&& 252645135).toUInt32 >>> ((8 : Int32).toUInt32 &&& Int32.toUInt32 31)).toInt32)) + ((((((((x0 - (((x0.toUInt32 >>> ((1 : Int32).toUInt32 &&& Int32.toUInt32 31)).toInt32) &&& 1431655765)) &&& 858993459) + ((((x0 - (((x0.toUInt32 >>> ((1 : Int32).toUInt32 &&& Int32.toUInt32 31)).toInt32) &&& 1431655765)).toUInt32 >>> ((2 : Int32).toUInt32 &&& Int32.toUInt32 31)).toInt32) &&& 858993459)) + (((((x0 - (((x0.toUInt32 >>> ((1 : Int32).toUInt32 &&& Int32.toUInt32 31)).toInt32) &&& 1431655765)) &&& 858993459) + ((((x0 - (((x0.toUInt32 >>> ((1 : Int32).toUInt32 &&& Int32.toUInt32 31)).toInt32) &&& 1431655765)).toUInt32 >>> ((2 : Int32).toUInt32 &&& Int32.toUInt32 31)).toInt32) &&& 858993459)).toUInt32 >>> ((4 : Int32).toUInt32 &&& Int32.toUInt32 31)).toInt32)) &&& 252645135) + (((((((x0 - (((x0.toUInt32 >>> ((1 : Int32).toUInt32 &&& Int32.toUInt32 31)).toInt32) &&& 1431655765)) &&& 858993459) + ((((x0 - (((x0.toUInt32 >>> ((1 : Int32).toUInt32 &&& Int32.toUInt32 31)).toInt32) &&& 1431655765)).toUInt32 >>> ((2 : Int32).toUInt32 &&& Int32.toUInt32 31)).toInt32) &&& 858993459)) + (((((x0 - (((x0.toUInt32 >>> ((1 : Int32).toUInt32 &&& Int32.toUInt32 31)).toInt32) &&& 1431655765)) &&& 858993459) + ((((x0 - (((x0.toUInt32 >>> ((1 : Int32).toUInt32 &&& Int32.toUInt32 31)).toInt32) &&& 1431655765)).toUInt32 >>> ((2 : Int32).toUInt32 &&& Int32.toUInt32 31)).toInt32) &&& 858993459)).toUInt32 >>> ((4 : Int32).toUInt32 &&& Int32.toUInt32 31)).toInt32)) &&& 252645135).toUInt32 >>> ((8 : Int32).toUInt32 &&& Int32.toUInt32 31)).toInt32)).toUInt32 >>> ((16 : Int32).toUInt32 &&& Int32.toUInt32 31)).toInt32)) &&& 63) M
set_option maxRecDepth 4000 in
theorem c_J6_bitCount_0f7a4 {x0 : Int32} {M : pm} {Q : Int32 → pm → Prop}  (hM : pG M) (h : w_J6_bitCount_0f7a4 x0 M Q) : PW mJ6_bitCount_0f7a4 1 350 0 (pfr mJ6_bitCount_0f7a4.2.2.1 [.int x0]) [] M (qI Q) := by
  unfold w_J6_bitCount_0f7a4 at h
  show PW mJ6_bitCount_0f7a4 1 350 0 [.int x0] [] M (qI Q)
  refine PW.iload_n (pc := 0) dJ6_bitCount_0f7a4_0 rfl ?_
  refine PW.iload_n (pc := 1) dJ6_bitCount_0f7a4_1 rfl ?_
  refine PW.iconst (pc := 2) dJ6_bitCount_0f7a4_2 (v := 1) (by decide) ?_
  refine PW.iushr (pc := 3) dJ6_bitCount_0f7a4_3 ?_
  refine PW.ldcw (pc := 4) dJ6_bitCount_0f7a4_4 lk_J6_265 ?_
  refine PW.iand (pc := 7) dJ6_bitCount_0f7a4_7 ?_
  refine PW.isub (pc := 8) dJ6_bitCount_0f7a4_8 ?_
  refine PW.istore_n (pc := 9) dJ6_bitCount_0f7a4_9 (ls' := [.int (x0 - (((x0.toUInt32 >>> ((1 : Int32).toUInt32 &&& Int32.toUInt32 31)).toInt32) &&& 1431655765))]) (by decide) rfl rfl ?_
  refine PW.iload_n (pc := 10) dJ6_bitCount_0f7a4_10 rfl ?_
  refine PW.ldcw (pc := 11) dJ6_bitCount_0f7a4_11 lk_J6_266 ?_
  refine PW.iand (pc := 14) dJ6_bitCount_0f7a4_14 ?_
  refine PW.iload_n (pc := 15) dJ6_bitCount_0f7a4_15 rfl ?_
  refine PW.iconst (pc := 16) dJ6_bitCount_0f7a4_16 (v := 2) (by decide) ?_
  refine PW.iushr (pc := 17) dJ6_bitCount_0f7a4_17 ?_
  refine PW.ldcw (pc := 18) dJ6_bitCount_0f7a4_18 lk_J6_266 ?_
  refine PW.iand (pc := 21) dJ6_bitCount_0f7a4_21 ?_
  refine PW.iadd (pc := 22) dJ6_bitCount_0f7a4_22 ?_
  refine PW.istore_n (pc := 23) dJ6_bitCount_0f7a4_23 (ls' := [.int (((x0 - (((x0.toUInt32 >>> ((1 : Int32).toUInt32 &&& Int32.toUInt32 31)).toInt32) &&& 1431655765)) &&& 858993459) + ((((x0 - (((x0.toUInt32 >>> ((1 : Int32).toUInt32 &&& Int32.toUInt32 31)).toInt32) &&& 1431655765)).toUInt32 >>> ((2 : Int32).toUInt32 &&& Int32.toUInt32 31)).toInt32) &&& 858993459))]) (by decide) rfl rfl ?_
  refine PW.iload_n (pc := 24) dJ6_bitCount_0f7a4_24 rfl ?_
  refine PW.iload_n (pc := 25) dJ6_bitCount_0f7a4_25 rfl ?_
  refine PW.iconst (pc := 26) dJ6_bitCount_0f7a4_26 (v := 4) (by decide) ?_
  refine PW.iushr (pc := 27) dJ6_bitCount_0f7a4_27 ?_
  refine PW.iadd (pc := 28) dJ6_bitCount_0f7a4_28 ?_
  refine PW.ldcw (pc := 29) dJ6_bitCount_0f7a4_29 lk_J6_267 ?_
  refine PW.iand (pc := 32) dJ6_bitCount_0f7a4_32 ?_
  refine PW.istore_n (pc := 33) dJ6_bitCount_0f7a4_33 (ls' := [.int (((((x0 - (((x0.toUInt32 >>> ((1 : Int32).toUInt32 &&& Int32.toUInt32 31)).toInt32) &&& 1431655765)) &&& 858993459) + ((((x0 - (((x0.toUInt32 >>> ((1 : Int32).toUInt32 &&& Int32.toUInt32 31)).toInt32) &&& 1431655765)).toUInt32 >>> ((2 : Int32).toUInt32 &&& Int32.toUInt32 31)).toInt32) &&& 858993459)) + (((((x0 - (((x0.toUInt32 >>> ((1 : Int32).toUInt32 &&& Int32.toUInt32 31)).toInt32) &&& 1431655765)) &&& 858993459) + ((((x0 - (((x0.toUInt32 >>> ((1 : Int32).toUInt32 &&& Int32.toUInt32 31)).toInt32) &&& 1431655765)).toUInt32 >>> ((2 : Int32).toUInt32 &&& Int32.toUInt32 31)).toInt32) &&& 858993459)).toUInt32 >>> ((4 : Int32).toUInt32 &&& Int32.toUInt32 31)).toInt32)) &&& 252645135)]) (by decide) rfl rfl ?_
  refine PW.iload_n (pc := 34) dJ6_bitCount_0f7a4_34 rfl ?_
  refine PW.iload_n (pc := 35) dJ6_bitCount_0f7a4_35 rfl ?_
  refine PW.bipush (pc := 36) dJ6_bitCount_0f7a4_36 (v := 8) (by decide) ?_
  refine PW.iushr (pc := 38) dJ6_bitCount_0f7a4_38 ?_
  refine PW.iadd (pc := 39) dJ6_bitCount_0f7a4_39 ?_
  refine PW.istore_n (pc := 40) dJ6_bitCount_0f7a4_40 (ls' := [.int ((((((x0 - (((x0.toUInt32 >>> ((1 : Int32).toUInt32 &&& Int32.toUInt32 31)).toInt32) &&& 1431655765)) &&& 858993459) + ((((x0 - (((x0.toUInt32 >>> ((1 : Int32).toUInt32 &&& Int32.toUInt32 31)).toInt32) &&& 1431655765)).toUInt32 >>> ((2 : Int32).toUInt32 &&& Int32.toUInt32 31)).toInt32) &&& 858993459)) + (((((x0 - (((x0.toUInt32 >>> ((1 : Int32).toUInt32 &&& Int32.toUInt32 31)).toInt32) &&& 1431655765)) &&& 858993459) + ((((x0 - (((x0.toUInt32 >>> ((1 : Int32).toUInt32 &&& Int32.toUInt32 31)).toInt32) &&& 1431655765)).toUInt32 >>> ((2 : Int32).toUInt32 &&& Int32.toUInt32 31)).toInt32) &&& 858993459)).toUInt32 >>> ((4 : Int32).toUInt32 &&& Int32.toUInt32 31)).toInt32)) &&& 252645135) + (((((((x0 - (((x0.toUInt32 >>> ((1 : Int32).toUInt32 &&& Int32.toUInt32 31)).toInt32) &&& 1431655765)) &&& 858993459) + ((((x0 - (((x0.toUInt32 >>> ((1 : Int32).toUInt32 &&& Int32.toUInt32 31)).toInt32) &&& 1431655765)).toUInt32 >>> ((2 : Int32).toUInt32 &&& Int32.toUInt32 31)).toInt32) &&& 858993459)) + (((((x0 - (((x0.toUInt32 >>> ((1 : Int32).toUInt32 &&& Int32.toUInt32 31)).toInt32) &&& 1431655765)) &&& 858993459) + ((((x0 - (((x0.toUInt32 >>> ((1 : Int32).toUInt32 &&& Int32.toUInt32 31)).toInt32) &&& 1431655765)).toUInt32 >>> ((2 : Int32).toUInt32 &&& Int32.toUInt32 31)).toInt32) &&& 858993459)).toUInt32 >>> ((4 : Int32).toUInt32 &&& Int32.toUInt32 31)).toInt32)) &&& 252645135).toUInt32 >>> ((8 : Int32).toUInt32 &&& Int32.toUInt32 31)).toInt32))]) (by decide) rfl rfl ?_
  refine PW.iload_n (pc := 41) dJ6_bitCount_0f7a4_41 rfl ?_
  refine PW.iload_n (pc := 42) dJ6_bitCount_0f7a4_42 rfl ?_
  refine PW.bipush (pc := 43) dJ6_bitCount_0f7a4_43 (v := 16) (by decide) ?_
  refine PW.iushr (pc := 45) dJ6_bitCount_0f7a4_45 ?_
  refine PW.iadd (pc := 46) dJ6_bitCount_0f7a4_46 ?_
  refine PW.istore_n (pc := 47) dJ6_bitCount_0f7a4_47 (ls' := [.int (((((((x0 - (((x0.toUInt32 >>> ((1 : Int32).toUInt32 &&& Int32.toUInt32 31)).toInt32) &&& 1431655765)) &&& 858993459) + ((((x0 - (((x0.toUInt32 >>> ((1 : Int32).toUInt32 &&& Int32.toUInt32 31)).toInt32) &&& 1431655765)).toUInt32 >>> ((2 : Int32).toUInt32 &&& Int32.toUInt32 31)).toInt32) &&& 858993459)) + (((((x0 - (((x0.toUInt32 >>> ((1 : Int32).toUInt32 &&& Int32.toUInt32 31)).toInt32) &&& 1431655765)) &&& 858993459) + ((((x0 - (((x0.toUInt32 >>> ((1 : Int32).toUInt32 &&& Int32.toUInt32 31)).toInt32) &&& 1431655765)).toUInt32 >>> ((2 : Int32).toUInt32 &&& Int32.toUInt32 31)).toInt32) &&& 858993459)).toUInt32 >>> ((4 : Int32).toUInt32 &&& Int32.toUInt32 31)).toInt32)) &&& 252645135) + (((((((x0 - (((x0.toUInt32 >>> ((1 : Int32).toUInt32 &&& Int32.toUInt32 31)).toInt32) &&& 1431655765)) &&& 858993459) + ((((x0 - (((x0.toUInt32 >>> ((1 : Int32).toUInt32 &&& Int32.toUInt32 31)).toInt32) &&& 1431655765)).toUInt32 >>> ((2 : Int32).toUInt32 &&& Int32.toUInt32 31)).toInt32) &&& 858993459)) + (((((x0 - (((x0.toUInt32 >>> ((1 : Int32).toUInt32 &&& Int32.toUInt32 31)).toInt32) &&& 1431655765)) &&& 858993459) + ((((x0 - (((x0.toUInt32 >>> ((1 : Int32).toUInt32 &&& Int32.toUInt32 31)).toInt32) &&& 1431655765)).toUInt32 >>> ((2 : Int32).toUInt32 &&& Int32.toUInt32 31)).toInt32) &&& 858993459)).toUInt32 >>> ((4 : Int32).toUInt32 &&& Int32.toUInt32 31)).toInt32)) &&& 252645135).toUInt32 >>> ((8 : Int32).toUInt32 &&& Int32.toUInt32 31)).toInt32)) + ((((((((x0 - (((x0.toUInt32 >>> ((1 : Int32).toUInt32 &&& Int32.toUInt32 31)).toInt32) &&& 1431655765)) &&& 858993459) + ((((x0 - (((x0.toUInt32 >>> ((1 : Int32).toUInt32 &&& Int32.toUInt32 31)).toInt32) &&& 1431655765)).toUInt32 >>> ((2 : Int32).toUInt32 &&& Int32.toUInt32 31)).toInt32) &&& 858993459)) + (((((x0 - (((x0.toUInt32 >>> ((1 : Int32).toUInt32 &&& Int32.toUInt32 31)).toInt32) &&& 1431655765)) &&& 858993459) + ((((x0 - (((x0.toUInt32 >>> ((1 : Int32).toUInt32 &&& Int32.toUInt32 31)).toInt32) &&& 1431655765)).toUInt32 >>> ((2 : Int32).toUInt32 &&& Int32.toUInt32 31)).toInt32) &&& 858993459)).toUInt32 >>> ((4 : Int32).toUInt32 &&& Int32.toUInt32 31)).toInt32)) &&& 252645135) + (((((((x0 - (((x0.toUInt32 >>> ((1 : Int32).toUInt32 &&& Int32.toUInt32 31)).toInt32) &&& 1431655765)) &&& 858993459) + ((((x0 - (((x0.toUInt32 >>> ((1 : Int32).toUInt32 &&& Int32.toUInt32 31)).toInt32) &&& 1431655765)).toUInt32 >>> ((2 : Int32).toUInt32 &&& Int32.toUInt32 31)).toInt32) &&& 858993459)) + (((((x0 - (((x0.toUInt32 >>> ((1 : Int32).toUInt32 &&& Int32.toUInt32 31)).toInt32) &&& 1431655765)) &&& 858993459) + ((((x0 - (((x0.toUInt32 >>> ((1 : Int32).toUInt32 &&& Int32.toUInt32 31)).toInt32) &&& 1431655765)).toUInt32 >>> ((2 : Int32).toUInt32 &&& Int32.toUInt32 31)).toInt32) &&& 858993459)).toUInt32 >>> ((4 : Int32).toUInt32 &&& Int32.toUInt32 31)).toInt32)) &&& 252645135).toUInt32 >>> ((8 : Int32).toUInt32 &&& Int32.toUInt32 31)).toInt32)).toUInt32 >>> ((16 : Int32).toUInt32 &&& Int32.toUInt32 31)).toInt32))]) (by decide) rfl rfl ?_
  refine PW.iload_n (pc := 48) dJ6_bitCount_0f7a4_48 rfl ?_
  refine PW.bipush (pc := 49) dJ6_bitCount_0f7a4_49 (v := 63) (by decide) ?_
  refine PW.iand (pc := 51) dJ6_bitCount_0f7a4_51 ?_
  exact PW.retI (pc := 52) dJ6_bitCount_0f7a4_52 hM.1 rfl rfl ⟨hM, _, rfl, h⟩
def w_X7_has (x1 : Int32) (M : pm) (Q : Int32 → pm → Prop) : Prop := ((x1 = 0 → (Q (mI M (mR M 3 3) 1) M)) ∧ (x1 = 1 → (Q (mI M (mR M 3 3) 4) M)) ∧ (x1 = 2 → (Q (mI M (mR M 3 3) 8) M)) ∧ (x1 = 3 → (Q (mI M (mR M 3 3) 13) M)) ∧ (x1 = 4 → (Q (mI M 57 0) M)) ∧ (x1 = 5 → (Q (mI M 57 1) M)) ∧ (x1 = 6 → (w_X7_countLiving  M (fun y2 M1 => Q ((mI M (mR M 3 3) 8) - y2) M1))) ∧ (x1 = 7 → (w_X7_countForgotten  M (fun y5 M4 => Q y5 M4))) ∧ (x1 = 8 → (w_X1_canBits (mR M 3 3) 57 M (fun y8 M7 => w_J6_bitCount_0f7a4 y8 M7 (fun y11 M10 => Q y11 M10)))) ∧ (x1 = 9 → (Q (mI M 57 7) M)) ∧ (x1 = 10 → (Q (mI M 3 13) M)) ∧ (x1 = 11 → (Q (mI M 75 1) M)) ∧ (¬ x1 = 0 → ¬ x1 = 1 → ¬ x1 = 2 → ¬ x1 = 3 → ¬ x1 = 4 → ¬ x1 = 5 → ¬ x1 = 6 → ¬ x1 = 7 → ¬ x1 = 8 → ¬ x1 = 9 → ¬ x1 = 10 → ¬ x1 = 11 → (Q (-1) M)))
set_option maxRecDepth 4000 in
theorem c_X7_has {x1 : Int32} {M : pm} {Q : Int32 → pm → Prop}  (hM : pG M) (h : w_X7_has x1 M Q) : PW mX7_has 6 350 0 (pfr mX7_has.2.2.1 [.ref 3, .int x1]) [] M (qI Q) := by
  unfold w_X7_has at h
  show PW mX7_has 6 350 0 [.ref 3, .int x1] [] M (qI Q)
  refine PW.iload_n (pc := 0) dX7_has_0 rfl ?_
  by_cases q0 : x1 = 0
  · have h := h.1 q0
    refine PW.tabIn (pc := 1) dX7_has_1 (by rw [q0]; decide) (by rw [q0]; decide) (off := 63) (by rw [q0]; decide) (t := 64) (by decide) ?_
    refine PW.aload_n (pc := 64) dX7_has_64 rfl ?_
    refine PW.getR (pc := 65) dX7_has_65 (r := (mR M 3 3)) lf_X7_27 (ob hM.1 s_3 (by decide)) fx_7_3 rfl (pS_ne (hM.2.2.2.2.1)) ?_
    refine PW.getI (pc := 68) dX7_has_68 lf_X7_132 (ob hM.1 (hM.2.2.2.2.1) (by decide)) fx_5_1 ?_
    exact PW.retI (pc := 71) dX7_has_71 hM.1 rfl rfl ⟨hM, _, rfl, h⟩
  by_cases q1 : x1 = 1
  · have h := h.2.1 q1
    refine PW.tabIn (pc := 1) dX7_has_1 (by rw [q1]; decide) (by rw [q1]; decide) (off := 71) (by rw [q1]; decide) (t := 72) (by decide) ?_
    refine PW.aload_n (pc := 72) dX7_has_72 rfl ?_
    refine PW.getR (pc := 73) dX7_has_73 (r := (mR M 3 3)) lf_X7_27 (ob hM.1 s_3 (by decide)) fx_7_3 rfl (pS_ne (hM.2.2.2.2.1)) ?_
    refine PW.getI (pc := 76) dX7_has_76 lf_X7_135 (ob hM.1 (hM.2.2.2.2.1) (by decide)) fx_5_4 ?_
    exact PW.retI (pc := 79) dX7_has_79 hM.1 rfl rfl ⟨hM, _, rfl, h⟩
  by_cases q2 : x1 = 2
  · have h := h.2.2.1 q2
    refine PW.tabIn (pc := 1) dX7_has_1 (by rw [q2]; decide) (by rw [q2]; decide) (off := 79) (by rw [q2]; decide) (t := 80) (by decide) ?_
    refine PW.aload_n (pc := 80) dX7_has_80 rfl ?_
    refine PW.getR (pc := 81) dX7_has_81 (r := (mR M 3 3)) lf_X7_27 (ob hM.1 s_3 (by decide)) fx_7_3 rfl (pS_ne (hM.2.2.2.2.1)) ?_
    refine PW.getI (pc := 84) dX7_has_84 lf_X7_138 (ob hM.1 (hM.2.2.2.2.1) (by decide)) fx_5_8 ?_
    exact PW.retI (pc := 87) dX7_has_87 hM.1 rfl rfl ⟨hM, _, rfl, h⟩
  by_cases q3 : x1 = 3
  · have h := h.2.2.2.1 q3
    refine PW.tabIn (pc := 1) dX7_has_1 (by rw [q3]; decide) (by rw [q3]; decide) (off := 87) (by rw [q3]; decide) (t := 88) (by decide) ?_
    refine PW.aload_n (pc := 88) dX7_has_88 rfl ?_
    refine PW.getR (pc := 89) dX7_has_89 (r := (mR M 3 3)) lf_X7_27 (ob hM.1 s_3 (by decide)) fx_7_3 rfl (pS_ne (hM.2.2.2.2.1)) ?_
    refine PW.getI (pc := 92) dX7_has_92 lf_X7_141 (ob hM.1 (hM.2.2.2.2.1) (by decide)) fx_5_13 ?_
    exact PW.retI (pc := 95) dX7_has_95 hM.1 rfl rfl ⟨hM, _, rfl, h⟩
  by_cases q4 : x1 = 4
  · have h := h.2.2.2.2.1 q4
    refine PW.tabIn (pc := 1) dX7_has_1 (by rw [q4]; decide) (by rw [q4]; decide) (off := 95) (by rw [q4]; decide) (t := 96) (by decide) ?_
    refine PW.aload_n (pc := 96) dX7_has_96 rfl ?_
    refine PW.getR (pc := 97) dX7_has_97 (r := 57) lf_X7_54 (ob hM.1 s_3 (by decide)) fx_7_9 (oR_7_9 hM s_3) (pS_ne s_57) ?_
    refine PW.getI (pc := 100) dX7_has_100 lf_X7_144 (ob hM.1 s_57 (by decide)) fx_4_0 ?_
    exact PW.retI (pc := 103) dX7_has_103 hM.1 rfl rfl ⟨hM, _, rfl, h⟩
  by_cases q5 : x1 = 5
  · have h := h.2.2.2.2.2.1 q5
    refine PW.tabIn (pc := 1) dX7_has_1 (by rw [q5]; decide) (by rw [q5]; decide) (off := 103) (by rw [q5]; decide) (t := 104) (by decide) ?_
    refine PW.aload_n (pc := 104) dX7_has_104 rfl ?_
    refine PW.getR (pc := 105) dX7_has_105 (r := 57) lf_X7_54 (ob hM.1 s_3 (by decide)) fx_7_9 (oR_7_9 hM s_3) (pS_ne s_57) ?_
    refine PW.getI (pc := 108) dX7_has_108 lf_X7_147 (ob hM.1 s_57 (by decide)) fx_4_1 ?_
    exact PW.retI (pc := 111) dX7_has_111 hM.1 rfl rfl ⟨hM, _, rfl, h⟩
  by_cases q6 : x1 = 6
  · have h := h.2.2.2.2.2.2.1 q6
    refine PW.tabIn (pc := 1) dX7_has_1 (by rw [q6]; decide) (by rw [q6]; decide) (off := 111) (by rw [q6]; decide) (t := 112) (by decide) ?_
    refine PW.aload_n (pc := 112) dX7_has_112 rfl ?_
    refine PW.getR (pc := 113) dX7_has_113 (r := (mR M 3 3)) lf_X7_27 (ob hM.1 s_3 (by decide)) fx_7_3 rfl (pS_ne (hM.2.2.2.2.1)) ?_
    refine PW.getI (pc := 116) dX7_has_116 lf_X7_138 (ob hM.1 (hM.2.2.2.2.1) (by decide)) fx_5_8 ?_
    refine PW.aload_n (pc := 119) dX7_has_119 rfl ?_
    refine PW.inv (m' := mX7_countLiving) (pc := 120) dX7_has_120 lm_X7_150 me_X7_countLiving mi_X7_countLiving (ob hM.1 s_3 (by decide)) rfl (As := []) (st := [.int (mI M (mR M 3 3) 8)]) rfl (Nat.le_of_ble_eq_true rfl) (Nat.le_of_ble_eq_true rfl) (Nat.le_of_eq hM.1) (Nat.le_refl _) (PW.deep (by decide) (c_X7_countLiving  hM h)) ?_
    rintro _ M1 ⟨hM3, y2, rfl, h⟩
    refine PW.isub (pc := 123) dX7_has_123 ?_
    exact PW.retI (pc := 124) dX7_has_124 hM3.1 rfl rfl ⟨hM3, _, rfl, h⟩
  by_cases q7 : x1 = 7
  · have h := h.2.2.2.2.2.2.2.1 q7
    refine PW.tabIn (pc := 1) dX7_has_1 (by rw [q7]; decide) (by rw [q7]; decide) (off := 124) (by rw [q7]; decide) (t := 125) (by decide) ?_
    refine PW.aload_n (pc := 125) dX7_has_125 rfl ?_
    refine PW.inv (m' := mX7_countForgotten) (pc := 126) dX7_has_126 lm_X7_153 me_X7_countForgotten mi_X7_countForgotten (ob hM.1 s_3 (by decide)) rfl (As := []) (st := []) rfl (Nat.le_of_ble_eq_true rfl) (Nat.le_of_ble_eq_true rfl) (Nat.le_of_eq hM.1) (Nat.le_refl _) (PW.deep (by decide) (c_X7_countForgotten  hM h)) ?_
    rintro _ M4 ⟨hM6, y5, rfl, h⟩
    exact PW.retI (pc := 129) dX7_has_129 hM6.1 rfl rfl ⟨hM6, _, rfl, h⟩
  by_cases q8 : x1 = 8
  · have h := h.2.2.2.2.2.2.2.2.1 q8
    refine PW.tabIn (pc := 1) dX7_has_1 (by rw [q8]; decide) (by rw [q8]; decide) (off := 129) (by rw [q8]; decide) (t := 130) (by decide) ?_
    refine PW.aload_n (pc := 130) dX7_has_130 rfl ?_
    refine PW.getR (pc := 131) dX7_has_131 (r := 44) lf_X7_47 (ob hM.1 s_3 (by decide)) fx_7_8 (oR_7_8 hM s_3) (pS_ne s_44) ?_
    refine PW.aload_n (pc := 134) dX7_has_134 rfl ?_
    refine PW.getR (pc := 135) dX7_has_135 (r := (mR M 3 3)) lf_X7_27 (ob hM.1 s_3 (by decide)) fx_7_3 rfl (pS_ne (hM.2.2.2.2.1)) ?_
    refine PW.aload_n (pc := 138) dX7_has_138 rfl ?_
    refine PW.getR (pc := 139) dX7_has_139 (r := 57) lf_X7_54 (ob hM.1 s_3 (by decide)) fx_7_9 (oR_7_9 hM s_3) (pS_ne s_57) ?_
    refine PW.inv (m' := mX1_canBits) (pc := 142) dX7_has_142 lm_X7_156 me_X1_canBits mi_X1_canBits (ob hM.1 s_44 (by decide)) rfl (As := [.ref (mR M 3 3), .ref 57]) (st := []) rfl (Nat.le_of_ble_eq_true rfl) (Nat.le_of_ble_eq_true rfl) (Nat.le_of_eq hM.1) (Nat.le_refl _) (PW.deep (by decide) (c_X1_canBits (hM.2.2.2.2.1) s_57 hM h)) ?_
    rintro _ M7 ⟨hM9, y8, rfl, h⟩
    refine PW.ins (m' := mJ6_bitCount_0f7a4) (pc := 145) dX7_has_145 lm_X7_160 me_J6_bitCount_0f7a4 ms_J6_bitCount_0f7a4 (As := [.int y8]) (st := []) rfl (Nat.le_of_ble_eq_true rfl) (Nat.le_of_ble_eq_true rfl) (Nat.le_of_eq hM9.1) (Nat.le_refl _) (PW.deep (by decide) (c_J6_bitCount_0f7a4  hM9 h)) ?_
    rintro _ M10 ⟨hM12, y11, rfl, h⟩
    exact PW.retI (pc := 148) dX7_has_148 hM12.1 rfl rfl ⟨hM12, _, rfl, h⟩
  by_cases q9 : x1 = 9
  · have h := h.2.2.2.2.2.2.2.2.2.1 q9
    refine PW.tabIn (pc := 1) dX7_has_1 (by rw [q9]; decide) (by rw [q9]; decide) (off := 148) (by rw [q9]; decide) (t := 149) (by decide) ?_
    refine PW.aload_n (pc := 149) dX7_has_149 rfl ?_
    refine PW.getR (pc := 150) dX7_has_150 (r := 57) lf_X7_54 (ob hM.1 s_3 (by decide)) fx_7_9 (oR_7_9 hM s_3) (pS_ne s_57) ?_
    refine PW.getI (pc := 153) dX7_has_153 lf_X7_165 (ob hM.1 s_57 (by decide)) fx_4_7 ?_
    exact PW.retI (pc := 156) dX7_has_156 hM.1 rfl rfl ⟨hM, _, rfl, h⟩
  by_cases q10 : x1 = 10
  · have h := h.2.2.2.2.2.2.2.2.2.2.1 q10
    refine PW.tabIn (pc := 1) dX7_has_1 (by rw [q10]; decide) (by rw [q10]; decide) (off := 156) (by rw [q10]; decide) (t := 157) (by decide) ?_
    refine PW.aload_n (pc := 157) dX7_has_157 rfl ?_
    refine PW.getI (pc := 158) dX7_has_158 lf_X7_73 (ob hM.1 s_3 (by decide)) fx_7_13 ?_
    exact PW.retI (pc := 161) dX7_has_161 hM.1 rfl rfl ⟨hM, _, rfl, h⟩
  by_cases q11 : x1 = 11
  · have h := h.2.2.2.2.2.2.2.2.2.2.2.1 q11
    refine PW.tabIn (pc := 1) dX7_has_1 (by rw [q11]; decide) (by rw [q11]; decide) (off := 161) (by rw [q11]; decide) (t := 162) (by decide) ?_
    refine PW.aload_n (pc := 162) dX7_has_162 rfl ?_
    refine PW.getR (pc := 163) dX7_has_163 (r := 75) lf_X7_64 (ob hM.1 s_3 (by decide)) fx_7_11 (oR_7_11 hM s_3) (pS_ne s_75) ?_
    refine PW.getI (pc := 166) dX7_has_166 lf_X7_168 (ob hM.1 s_75 (by decide)) fx_0_1 ?_
    exact PW.retI (pc := 169) dX7_has_169 hM.1 rfl rfl ⟨hM, _, rfl, h⟩
  have h := h.2.2.2.2.2.2.2.2.2.2.2.2 q0 q1 q2 q3 q4 q5 q6 q7 q8 q9 q10 q11
  refine PW.tabOut (pc := 1) dX7_has_1 (tab_out (fun c h1 h2 => ?_)) (t := 170) (by decide) ?_
  · rcases (by omega : c = 0 ∨ c = 1 ∨ c = 2 ∨ c = 3 ∨ c = 4 ∨ c = 5 ∨ c = 6 ∨ c = 7 ∨ c = 8 ∨ c = 9 ∨ c = 10 ∨ c = 11) with rfl | rfl | rfl | rfl | rfl | rfl | rfl | rfl | rfl | rfl | rfl | rfl <;> assumption
  · skip
    refine PW.iconst (pc := 170) dX7_has_170 (v := (-1)) (by decide) ?_
    exact PW.retI (pc := 171) dX7_has_171 hM.1 rfl rfl ⟨hM, _, rfl, h⟩
def w_X7_isAsker (x1 : Int32) (M : pm) (Q : Int32 → pm → Prop) : Prop := ((x1 < 0 → (Q 0 M)) ∧ (¬ x1 < 0 → (((mI M (mR M 3 3) 8) ≤ x1 → (Q 0 M)) ∧ (¬ (mI M (mR M 3 3) 8) ≤ x1 → (Q 1 M)))))
set_option maxRecDepth 4000 in
theorem c_X7_isAsker {x1 : Int32} {M : pm} {Q : Int32 → pm → Prop}  (hM : pG M) (h : w_X7_isAsker x1 M Q) : PW mX7_isAsker 1 350 0 (pfr mX7_isAsker.2.2.1 [.ref 3, .int x1]) [] M (qZ Q) := by
  unfold w_X7_isAsker at h
  show PW mX7_isAsker 1 350 0 [.ref 3, .int x1] [] M (qZ Q)
  refine PW.iload_n (pc := 0) dX7_isAsker_0 rfl ?_
  refine PW.if_lt (pc := 1) dX7_isAsker_1 (t := 19) (by decide) (fun hc => ?_) (fun hc => ?_)
  · have h := h.1 hc
    refine PW.iconst (pc := 19) dX7_isAsker_19 (v := 0) (by decide) ?_
    exact PW.retI (pc := 20) dX7_isAsker_20 hM.1 rfl (bz_n bz0) ⟨hM, _, rfl, bz0, h⟩
  · have h := h.2 hc
    refine PW.iload_n (pc := 4) dX7_isAsker_4 rfl ?_
    refine PW.aload_n (pc := 5) dX7_isAsker_5 rfl ?_
    refine PW.getR (pc := 6) dX7_isAsker_6 (r := (mR M 3 3)) lf_X7_27 (ob hM.1 s_3 (by decide)) fx_7_3 rfl (pS_ne (hM.2.2.2.2.1)) ?_
    refine PW.getI (pc := 9) dX7_isAsker_9 lf_X7_138 (ob hM.1 (hM.2.2.2.2.1) (by decide)) fx_5_8 ?_
    refine PW.icmp_ge (pc := 12) dX7_isAsker_12 (t := 19) (by decide) (fun hc => ?_) (fun hc => ?_)
    · have h := h.1 hc
      refine PW.iconst (pc := 19) dX7_isAsker_19 (v := 0) (by decide) ?_
      exact PW.retI (pc := 20) dX7_isAsker_20 hM.1 rfl (bz_n bz0) ⟨hM, _, rfl, bz0, h⟩
    · have h := h.2 hc
      refine PW.iconst (pc := 15) dX7_isAsker_15 (v := 1) (by decide) ?_
      refine PW.goto (pc := 16) dX7_isAsker_16 (t := 20) (by decide) ?_
      exact PW.retI (pc := 20) dX7_isAsker_20 hM.1 rfl (bz_n bz1) ⟨hM, _, rfl, bz1, h⟩
def w_X7_isSong (x1 : Int32) (M : pm) (Q : Int32 → pm → Prop) : Prop := ((x1 < 0 → (Q 0 M)) ∧ (¬ x1 < 0 → (((mI M (mR M 3 3) 4) ≤ x1 → (Q 0 M)) ∧ (¬ (mI M (mR M 3 3) 4) ≤ x1 → (Q 1 M)))))
set_option maxRecDepth 4000 in
theorem c_X7_isSong {x1 : Int32} {M : pm} {Q : Int32 → pm → Prop}  (hM : pG M) (h : w_X7_isSong x1 M Q) : PW mX7_isSong 1 350 0 (pfr mX7_isSong.2.2.1 [.ref 3, .int x1]) [] M (qZ Q) := by
  unfold w_X7_isSong at h
  show PW mX7_isSong 1 350 0 [.ref 3, .int x1] [] M (qZ Q)
  refine PW.iload_n (pc := 0) dX7_isSong_0 rfl ?_
  refine PW.if_lt (pc := 1) dX7_isSong_1 (t := 19) (by decide) (fun hc => ?_) (fun hc => ?_)
  · have h := h.1 hc
    refine PW.iconst (pc := 19) dX7_isSong_19 (v := 0) (by decide) ?_
    exact PW.retI (pc := 20) dX7_isSong_20 hM.1 rfl (bz_n bz0) ⟨hM, _, rfl, bz0, h⟩
  · have h := h.2 hc
    refine PW.iload_n (pc := 4) dX7_isSong_4 rfl ?_
    refine PW.aload_n (pc := 5) dX7_isSong_5 rfl ?_
    refine PW.getR (pc := 6) dX7_isSong_6 (r := (mR M 3 3)) lf_X7_27 (ob hM.1 s_3 (by decide)) fx_7_3 rfl (pS_ne (hM.2.2.2.2.1)) ?_
    refine PW.getI (pc := 9) dX7_isSong_9 lf_X7_135 (ob hM.1 (hM.2.2.2.2.1) (by decide)) fx_5_4 ?_
    refine PW.icmp_ge (pc := 12) dX7_isSong_12 (t := 19) (by decide) (fun hc => ?_) (fun hc => ?_)
    · have h := h.1 hc
      refine PW.iconst (pc := 19) dX7_isSong_19 (v := 0) (by decide) ?_
      exact PW.retI (pc := 20) dX7_isSong_20 hM.1 rfl (bz_n bz0) ⟨hM, _, rfl, bz0, h⟩
    · have h := h.2 hc
      refine PW.iconst (pc := 15) dX7_isSong_15 (v := 1) (by decide) ?_
      refine PW.goto (pc := 16) dX7_isSong_16 (t := 20) (by decide) ?_
      exact PW.retI (pc := 20) dX7_isSong_20 hM.1 rfl (bz_n bz1) ⟨hM, _, rfl, bz1, h⟩
def w_X7_isEar (x1 : Int32) (M : pm) (Q : Int32 → pm → Prop) : Prop := ((x1 < 0 → (Q 0 M)) ∧ (¬ x1 < 0 → (((mI M (mR M 3 3) 13) ≤ x1 → (Q 0 M)) ∧ (¬ (mI M (mR M 3 3) 13) ≤ x1 → (Q 1 M)))))
set_option maxRecDepth 4000 in
theorem c_X7_isEar {x1 : Int32} {M : pm} {Q : Int32 → pm → Prop}  (hM : pG M) (h : w_X7_isEar x1 M Q) : PW mX7_isEar 1 350 0 (pfr mX7_isEar.2.2.1 [.ref 3, .int x1]) [] M (qZ Q) := by
  unfold w_X7_isEar at h
  show PW mX7_isEar 1 350 0 [.ref 3, .int x1] [] M (qZ Q)
  refine PW.iload_n (pc := 0) dX7_isEar_0 rfl ?_
  refine PW.if_lt (pc := 1) dX7_isEar_1 (t := 19) (by decide) (fun hc => ?_) (fun hc => ?_)
  · have h := h.1 hc
    refine PW.iconst (pc := 19) dX7_isEar_19 (v := 0) (by decide) ?_
    exact PW.retI (pc := 20) dX7_isEar_20 hM.1 rfl (bz_n bz0) ⟨hM, _, rfl, bz0, h⟩
  · have h := h.2 hc
    refine PW.iload_n (pc := 4) dX7_isEar_4 rfl ?_
    refine PW.aload_n (pc := 5) dX7_isEar_5 rfl ?_
    refine PW.getR (pc := 6) dX7_isEar_6 (r := (mR M 3 3)) lf_X7_27 (ob hM.1 s_3 (by decide)) fx_7_3 rfl (pS_ne (hM.2.2.2.2.1)) ?_
    refine PW.getI (pc := 9) dX7_isEar_9 lf_X7_141 (ob hM.1 (hM.2.2.2.2.1) (by decide)) fx_5_13 ?_
    refine PW.icmp_ge (pc := 12) dX7_isEar_12 (t := 19) (by decide) (fun hc => ?_) (fun hc => ?_)
    · have h := h.1 hc
      refine PW.iconst (pc := 19) dX7_isEar_19 (v := 0) (by decide) ?_
      exact PW.retI (pc := 20) dX7_isEar_20 hM.1 rfl (bz_n bz0) ⟨hM, _, rfl, bz0, h⟩
    · have h := h.2 hc
      refine PW.iconst (pc := 15) dX7_isEar_15 (v := 1) (by decide) ?_
      refine PW.goto (pc := 16) dX7_isEar_16 (t := 20) (by decide) ?_
      exact PW.retI (pc := 20) dX7_isEar_20 hM.1 rfl (bz_n bz1) ⟨hM, _, rfl, bz1, h⟩
def w_X7_letterOf (x0 : Int32) (x1 : Int32) (M : pm) (Q : Int32 → pm → Prop) : Prop := Q ((x0 >>> ((5 * x1) &&& 31)) &&& 31) M
set_option maxRecDepth 4000 in
theorem c_X7_letterOf {x0 : Int32} {x1 : Int32} {M : pm} {Q : Int32 → pm → Prop}  (hM : pG M) (h : w_X7_letterOf x0 x1 M Q) : PW mX7_letterOf 1 350 0 (pfr mX7_letterOf.2.2.1 [.int x0, .int x1]) [] M (qI Q) := by
  unfold w_X7_letterOf at h
  show PW mX7_letterOf 1 350 0 [.int x0, .int x1] [] M (qI Q)
  refine PW.iload_n (pc := 0) dX7_letterOf_0 rfl ?_
  refine PW.iconst (pc := 1) dX7_letterOf_1 (v := 5) (by decide) ?_
  refine PW.iload_n (pc := 2) dX7_letterOf_2 rfl ?_
  refine PW.imul (pc := 3) dX7_letterOf_3 ?_
  refine PW.ishr (pc := 4) dX7_letterOf_4 ?_
  refine PW.bipush (pc := 5) dX7_letterOf_5 (v := 31) (by decide) ?_
  refine PW.iand (pc := 7) dX7_letterOf_7 ?_
  exact PW.retI (pc := 8) dX7_letterOf_8 hM.1 rfl rfl ⟨hM, _, rfl, h⟩
def w_X7_letter_65  (x1 : Int32) (x2 : Int32) (x3 : Int32) (M : pm)  (Q : Int32 → pm → Prop) : Prop := ((¬ x1 = 2 → (Q (-1) M)) ∧ (x1 = 2 → (w_X7_isEar x2 M (fun y2 M1 => ((y2 = 0 → (Q (-1) M1)) ∧ (¬ y2 = 0 → (vp_in x2 5 ∧ (w_X7_letterOf (mI M1 ((mR M1 3 3) + 8) x2.toNatClampNeg) x3 M1 (fun y7 M6 => Q y7 M6)))))))))
set_option maxRecDepth 4000 in
theorem c_X7_letter_65  {Q : Int32 → pm → Prop}  : ∀ (x1 : Int32) (x2 : Int32) (x3 : Int32) (M : pm), pG M → w_X7_letter_65 x1 x2 x3 M  Q → PW mX7_letter 2 350 65 [.ref 3, .int x1, .int x2, .int x3] [] M (qI Q) := by
  intro x1 x2 x3 M hM h
  unfold w_X7_letter_65 at h
  refine PW.iload_n (pc := 65) dX7_letter_65 rfl ?_
  refine PW.iconst (pc := 66) dX7_letter_66 (v := 2) (by decide) ?_
  refine PW.icmp_ne (pc := 67) dX7_letter_67 (t := 92) (by decide) (fun hc => ?_) (fun hc => ?_)
  · have h := h.1 hc
    refine PW.iconst (pc := 92) dX7_letter_92 (v := (-1)) (by decide) ?_
    exact PW.retI (pc := 93) dX7_letter_93 hM.1 rfl rfl ⟨hM, _, rfl, h⟩
  · have h := h.2 hc
    refine PW.aload_n (pc := 70) dX7_letter_70 rfl ?_
    refine PW.iload_n (pc := 71) dX7_letter_71 rfl ?_
    refine PW.inv (m' := mX7_isEar) (pc := 72) dX7_letter_72 lm_X7_194 me_X7_isEar mi_X7_isEar (ob hM.1 s_3 (by decide)) rfl (As := [.int x2]) (st := []) rfl (Nat.le_of_ble_eq_true rfl) (Nat.le_of_ble_eq_true rfl) (Nat.le_of_eq hM.1) (Nat.le_refl _) (PW.deep (by decide) (c_X7_isEar  hM h)) ?_
    rintro _ M1 ⟨hM3, y2, rfl, z4, h⟩
    refine PW.if_eq (pc := 75) dX7_letter_75 (t := 92) (by decide) (fun hc => ?_) (fun hc => ?_)
    · have h := h.1 hc
      refine PW.iconst (pc := 92) dX7_letter_92 (v := (-1)) (by decide) ?_
      exact PW.retI (pc := 93) dX7_letter_93 hM3.1 rfl rfl ⟨hM3, _, rfl, h⟩
    · have h := h.2 hc
      refine PW.aload_n (pc := 78) dX7_letter_78 rfl ?_
      refine PW.getR (pc := 79) dX7_letter_79 (r := (mR M1 3 3)) lf_X7_27 (ob hM3.1 s_3 (by decide)) fx_7_3 rfl (pS_ne (hM3.2.2.2.2.1)) ?_
      refine PW.getR (pc := 82) dX7_letter_82 (r := ((mR M1 3 3) + 8)) lf_X7_197 (ob hM3.1 (hM3.2.2.2.2.1) (by decide)) fx_5_14 (oR_5_14 hM3 (hM3.2.2.2.2.1)) (pS_ne (oS_5_14 (hM3.2.2.2.2.1))) ?_
      refine PW.iload_n (pc := 85) dX7_letter_85 rfl ?_
      obtain ⟨v5, h⟩ := h
      refine PW.iald (pc := 86) dX7_letter_86 (ar hM3.1 (oS_5_14 (hM3.2.2.2.2.1))) (vpl (oN_5_14 (hM3.2.2.2.2.1)) v5) ?_
      refine PW.iload_n (pc := 87) dX7_letter_87 rfl ?_
      refine PW.ins (m' := mX7_letterOf) (pc := 88) dX7_letter_88 lm_X7_184 me_X7_letterOf ms_X7_letterOf (As := [.int (mI M1 ((mR M1 3 3) + 8) x2.toNatClampNeg), .int x3]) (st := []) rfl (Nat.le_of_ble_eq_true rfl) (Nat.le_of_ble_eq_true rfl) (Nat.le_of_eq hM3.1) (Nat.le_refl _) (PW.deep (by decide) (c_X7_letterOf  hM3 h)) ?_
      rintro _ M6 ⟨hM8, y7, rfl, h⟩
      exact PW.retI (pc := 91) dX7_letter_91 hM8.1 rfl rfl ⟨hM8, _, rfl, h⟩
def w_X7_letter_38  (x1 : Int32) (x2 : Int32) (x3 : Int32) (M : pm)  (Q : Int32 → pm → Prop) : Prop := ((¬ x1 = 1 → (w_X7_letter_65 x1 x2 x3 M  Q)) ∧ (x1 = 1 → (w_X7_isAsker x2 M (fun y10 M9 => ((y10 = 0 → (w_X7_letter_65 x1 x2 x3 M9  Q)) ∧ (¬ y10 = 0 → (vp_in x2 8 ∧ (w_X7_letterOf (mI M9 ((mR M9 3 3) + 4) x2.toNatClampNeg) x3 M9 (fun y15 M14 => Q y15 M14)))))))))
set_option maxRecDepth 4000 in
theorem c_X7_letter_38  {Q : Int32 → pm → Prop}  : ∀ (x1 : Int32) (x2 : Int32) (x3 : Int32) (M : pm), pG M → w_X7_letter_38 x1 x2 x3 M  Q → PW mX7_letter 2 350 38 [.ref 3, .int x1, .int x2, .int x3] [] M (qI Q) := by
  intro x1 x2 x3 M hM h
  unfold w_X7_letter_38 at h
  refine PW.iload_n (pc := 38) dX7_letter_38 rfl ?_
  refine PW.iconst (pc := 39) dX7_letter_39 (v := 1) (by decide) ?_
  refine PW.icmp_ne (pc := 40) dX7_letter_40 (t := 65) (by decide) (fun hc => ?_) (fun hc => ?_)
  · have h := h.1 hc
    exact PW.drop (c_X7_letter_65  _ _ _ _ hM h) ⟨rfl, rfl, rfl, rfl, trivial⟩
  · have h := h.2 hc
    refine PW.aload_n (pc := 43) dX7_letter_43 rfl ?_
    refine PW.iload_n (pc := 44) dX7_letter_44 rfl ?_
    refine PW.inv (m' := mX7_isAsker) (pc := 45) dX7_letter_45 lm_X7_188 me_X7_isAsker mi_X7_isAsker (ob hM.1 s_3 (by decide)) rfl (As := [.int x2]) (st := []) rfl (Nat.le_of_ble_eq_true rfl) (Nat.le_of_ble_eq_true rfl) (Nat.le_of_eq hM.1) (Nat.le_refl _) (PW.deep (by decide) (c_X7_isAsker  hM h)) ?_
    rintro _ M9 ⟨hM11, y10, rfl, z12, h⟩
    refine PW.if_eq (pc := 48) dX7_letter_48 (t := 65) (by decide) (fun hc => ?_) (fun hc => ?_)
    · have h := h.1 hc
      exact PW.drop (c_X7_letter_65  _ _ _ _ hM11 h) ⟨rfl, rfl, rfl, rfl, trivial⟩
    · have h := h.2 hc
      refine PW.aload_n (pc := 51) dX7_letter_51 rfl ?_
      refine PW.getR (pc := 52) dX7_letter_52 (r := (mR M9 3 3)) lf_X7_27 (ob hM11.1 s_3 (by decide)) fx_7_3 rfl (pS_ne (hM11.2.2.2.2.1)) ?_
      refine PW.getR (pc := 55) dX7_letter_55 (r := ((mR M9 3 3) + 4)) lf_X7_191 (ob hM11.1 (hM11.2.2.2.2.1) (by decide)) fx_5_9 (oR_5_9 hM11 (hM11.2.2.2.2.1)) (pS_ne (oS_5_9 (hM11.2.2.2.2.1))) ?_
      refine PW.iload_n (pc := 58) dX7_letter_58 rfl ?_
      obtain ⟨v13, h⟩ := h
      refine PW.iald (pc := 59) dX7_letter_59 (ar hM11.1 (oS_5_9 (hM11.2.2.2.2.1))) (vpl (oN_5_9 (hM11.2.2.2.2.1)) v13) ?_
      refine PW.iload_n (pc := 60) dX7_letter_60 rfl ?_
      refine PW.ins (m' := mX7_letterOf) (pc := 61) dX7_letter_61 lm_X7_184 me_X7_letterOf ms_X7_letterOf (As := [.int (mI M9 ((mR M9 3 3) + 4) x2.toNatClampNeg), .int x3]) (st := []) rfl (Nat.le_of_ble_eq_true rfl) (Nat.le_of_ble_eq_true rfl) (Nat.le_of_eq hM11.1) (Nat.le_refl _) (PW.deep (by decide) (c_X7_letterOf  hM11 h)) ?_
      rintro _ M14 ⟨hM16, y15, rfl, h⟩
      exact PW.retI (pc := 64) dX7_letter_64 hM16.1 rfl rfl ⟨hM16, _, rfl, h⟩
def w_X7_letter (x1 : Int32) (x2 : Int32) (x3 : Int32) (M : pm) (Q : Int32 → pm → Prop) : Prop := ((x3 < 0 → (Q (-1) M)) ∧ (¬ x3 < 0 → ((x3 < 6 → ((¬ x1 = 0 → (w_X7_letter_38 x1 x2 x3 M  Q)) ∧ (x1 = 0 → (w_X7_isSong x2 M (fun y18 M17 => ((y18 = 0 → (w_X7_letter_38 x1 x2 x3 M17  Q)) ∧ (¬ y18 = 0 → (vp_in x2 6 ∧ (w_X7_letterOf (mI M17 ((mR M17 3 3) + 1) x2.toNatClampNeg) x3 M17 (fun y23 M22 => Q y23 M22)))))))))) ∧ (¬ x3 < 6 → (Q (-1) M)))))
set_option maxRecDepth 4000 in
theorem c_X7_letter {x1 : Int32} {x2 : Int32} {x3 : Int32} {M : pm} {Q : Int32 → pm → Prop}  (hM : pG M) (h : w_X7_letter x1 x2 x3 M Q) : PW mX7_letter 2 350 0 (pfr mX7_letter.2.2.1 [.ref 3, .int x1, .int x2, .int x3]) [] M (qI Q) := by
  unfold w_X7_letter at h
  show PW mX7_letter 2 350 0 [.ref 3, .int x1, .int x2, .int x3] [] M (qI Q)
  refine PW.iload_n (pc := 0) dX7_letter_0 rfl ?_
  refine PW.if_lt (pc := 1) dX7_letter_1 (t := 10) (by decide) (fun hc => ?_) (fun hc => ?_)
  · have h := h.1 hc
    refine PW.iconst (pc := 10) dX7_letter_10 (v := (-1)) (by decide) ?_
    exact PW.retI (pc := 11) dX7_letter_11 hM.1 rfl rfl ⟨hM, _, rfl, h⟩
  · have h := h.2 hc
    refine PW.iload_n (pc := 4) dX7_letter_4 rfl ?_
    refine PW.bipush (pc := 5) dX7_letter_5 (v := 6) (by decide) ?_
    refine PW.icmp_lt (pc := 7) dX7_letter_7 (t := 12) (by decide) (fun hc => ?_) (fun hc => ?_)
    · have h := h.1 hc
      refine PW.iload_n (pc := 12) dX7_letter_12 rfl ?_
      refine PW.if_ne (pc := 13) dX7_letter_13 (t := 38) (by decide) (fun hc => ?_) (fun hc => ?_)
      · have h := h.1 hc
        exact PW.drop (c_X7_letter_38  _ _ _ _ hM h) ⟨rfl, rfl, rfl, rfl, trivial⟩
      · have h := h.2 hc
        refine PW.aload_n (pc := 16) dX7_letter_16 rfl ?_
        refine PW.iload_n (pc := 17) dX7_letter_17 rfl ?_
        refine PW.inv (m' := mX7_isSong) (pc := 18) dX7_letter_18 lm_X7_178 me_X7_isSong mi_X7_isSong (ob hM.1 s_3 (by decide)) rfl (As := [.int x2]) (st := []) rfl (Nat.le_of_ble_eq_true rfl) (Nat.le_of_ble_eq_true rfl) (Nat.le_of_eq hM.1) (Nat.le_refl _) (PW.deep (by decide) (c_X7_isSong  hM h)) ?_
        rintro _ M17 ⟨hM19, y18, rfl, z20, h⟩
        refine PW.if_eq (pc := 21) dX7_letter_21 (t := 38) (by decide) (fun hc => ?_) (fun hc => ?_)
        · have h := h.1 hc
          exact PW.drop (c_X7_letter_38  _ _ _ _ hM19 h) ⟨rfl, rfl, rfl, rfl, trivial⟩
        · have h := h.2 hc
          refine PW.aload_n (pc := 24) dX7_letter_24 rfl ?_
          refine PW.getR (pc := 25) dX7_letter_25 (r := (mR M17 3 3)) lf_X7_27 (ob hM19.1 s_3 (by decide)) fx_7_3 rfl (pS_ne (hM19.2.2.2.2.1)) ?_
          refine PW.getR (pc := 28) dX7_letter_28 (r := ((mR M17 3 3) + 1)) lf_X7_181 (ob hM19.1 (hM19.2.2.2.2.1) (by decide)) fx_5_5 (oR_5_5 hM19 (hM19.2.2.2.2.1)) (pS_ne (oS_5_5 (hM19.2.2.2.2.1))) ?_
          refine PW.iload_n (pc := 31) dX7_letter_31 rfl ?_
          obtain ⟨v21, h⟩ := h
          refine PW.iald (pc := 32) dX7_letter_32 (ar hM19.1 (oS_5_5 (hM19.2.2.2.2.1))) (vpl (oN_5_5 (hM19.2.2.2.2.1)) v21) ?_
          refine PW.iload_n (pc := 33) dX7_letter_33 rfl ?_
          refine PW.ins (m' := mX7_letterOf) (pc := 34) dX7_letter_34 lm_X7_184 me_X7_letterOf ms_X7_letterOf (As := [.int (mI M17 ((mR M17 3 3) + 1) x2.toNatClampNeg), .int x3]) (st := []) rfl (Nat.le_of_ble_eq_true rfl) (Nat.le_of_ble_eq_true rfl) (Nat.le_of_eq hM19.1) (Nat.le_refl _) (PW.deep (by decide) (c_X7_letterOf  hM19 h)) ?_
          rintro _ M22 ⟨hM24, y23, rfl, h⟩
          exact PW.retI (pc := 37) dX7_letter_37 hM24.1 rfl rfl ⟨hM24, _, rfl, h⟩
    · have h := h.2 hc
      refine PW.iconst (pc := 10) dX7_letter_10 (v := (-1)) (by decide) ?_
      exact PW.retI (pc := 11) dX7_letter_11 hM.1 rfl rfl ⟨hM, _, rfl, h⟩
def w_X7_song (x1 : Int32) (x2 : Int32) (M : pm) (Q : Int32 → pm → Prop) : Prop := w_X7_isSong x1 M (fun y2 M1 => ((¬ y2 = 0 → ((¬ x2 = 0 → ((¬ x2 = 1 → (Q (-1) M1)) ∧ (x2 = 1 → (vp_in x1 6 ∧ (Q (mI M1 ((mR M1 3 3) + 3) x1.toNatClampNeg) M1))))) ∧ (x2 = 0 → (vp_in x1 6 ∧ (Q (mI M1 ((mR M1 3 3) + 2) x1.toNatClampNeg) M1))))) ∧ (y2 = 0 → (Q (-1) M1))))
set_option maxRecDepth 4000 in
theorem c_X7_song {x1 : Int32} {x2 : Int32} {M : pm} {Q : Int32 → pm → Prop}  (hM : pG M) (h : w_X7_song x1 x2 M Q) : PW mX7_song 2 350 0 (pfr mX7_song.2.2.1 [.ref 3, .int x1, .int x2]) [] M (qI Q) := by
  unfold w_X7_song at h
  show PW mX7_song 2 350 0 [.ref 3, .int x1, .int x2] [] M (qI Q)
  refine PW.aload_n (pc := 0) dX7_song_0 rfl ?_
  refine PW.iload_n (pc := 1) dX7_song_1 rfl ?_
  refine PW.inv (m' := mX7_isSong) (pc := 2) dX7_song_2 lm_X7_178 me_X7_isSong mi_X7_isSong (ob hM.1 s_3 (by decide)) rfl (As := [.int x1]) (st := []) rfl (Nat.le_of_ble_eq_true rfl) (Nat.le_of_ble_eq_true rfl) (Nat.le_of_eq hM.1) (Nat.le_refl _) (PW.deep (by decide) (c_X7_isSong  hM h)) ?_
  rintro _ M1 ⟨hM3, y2, rfl, z4, h⟩
  refine PW.if_ne (pc := 5) dX7_song_5 (t := 10) (by decide) (fun hc => ?_) (fun hc => ?_)
  · have h := h.1 hc
    refine PW.iload_n (pc := 10) dX7_song_10 rfl ?_
    refine PW.if_ne (pc := 11) dX7_song_11 (t := 24) (by decide) (fun hc => ?_) (fun hc => ?_)
    · have h := h.1 hc
      refine PW.iload_n (pc := 24) dX7_song_24 rfl ?_
      refine PW.iconst (pc := 25) dX7_song_25 (v := 1) (by decide) ?_
      refine PW.icmp_ne (pc := 26) dX7_song_26 (t := 41) (by decide) (fun hc => ?_) (fun hc => ?_)
      · have h := h.1 hc
        refine PW.iconst (pc := 41) dX7_song_41 (v := (-1)) (by decide) ?_
        exact PW.retI (pc := 42) dX7_song_42 hM3.1 rfl rfl ⟨hM3, _, rfl, h⟩
      · have h := h.2 hc
        refine PW.aload_n (pc := 29) dX7_song_29 rfl ?_
        refine PW.getR (pc := 30) dX7_song_30 (r := (mR M1 3 3)) lf_X7_27 (ob hM3.1 s_3 (by decide)) fx_7_3 rfl (pS_ne (hM3.2.2.2.2.1)) ?_
        refine PW.getR (pc := 33) dX7_song_33 (r := ((mR M1 3 3) + 3)) lf_X7_203 (ob hM3.1 (hM3.2.2.2.2.1) (by decide)) fx_5_7 (oR_5_7 hM3 (hM3.2.2.2.2.1)) (pS_ne (oS_5_7 (hM3.2.2.2.2.1))) ?_
        refine PW.iload_n (pc := 36) dX7_song_36 rfl ?_
        obtain ⟨v5, h⟩ := h
        refine PW.iald (pc := 37) dX7_song_37 (ar hM3.1 (oS_5_7 (hM3.2.2.2.2.1))) (vpl (oN_5_7 (hM3.2.2.2.2.1)) v5) ?_
        refine PW.goto (pc := 38) dX7_song_38 (t := 42) (by decide) ?_
        exact PW.retI (pc := 42) dX7_song_42 hM3.1 rfl rfl ⟨hM3, _, rfl, h⟩
    · have h := h.2 hc
      refine PW.aload_n (pc := 14) dX7_song_14 rfl ?_
      refine PW.getR (pc := 15) dX7_song_15 (r := (mR M1 3 3)) lf_X7_27 (ob hM3.1 s_3 (by decide)) fx_7_3 rfl (pS_ne (hM3.2.2.2.2.1)) ?_
      refine PW.getR (pc := 18) dX7_song_18 (r := ((mR M1 3 3) + 2)) lf_X7_200 (ob hM3.1 (hM3.2.2.2.2.1) (by decide)) fx_5_6 (oR_5_6 hM3 (hM3.2.2.2.2.1)) (pS_ne (oS_5_6 (hM3.2.2.2.2.1))) ?_
      refine PW.iload_n (pc := 21) dX7_song_21 rfl ?_
      obtain ⟨v6, h⟩ := h
      refine PW.iald (pc := 22) dX7_song_22 (ar hM3.1 (oS_5_6 (hM3.2.2.2.2.1))) (vpl (oN_5_6 (hM3.2.2.2.2.1)) v6) ?_
      exact PW.retI (pc := 23) dX7_song_23 hM3.1 rfl rfl ⟨hM3, _, rfl, h⟩
  · have h := h.2 hc
    refine PW.iconst (pc := 8) dX7_song_8 (v := (-1)) (by decide) ?_
    exact PW.retI (pc := 9) dX7_song_9 hM3.1 rfl rfl ⟨hM3, _, rfl, h⟩
def w_X7_asker (x1 : Int32) (x2 : Int32) (M : pm) (Q : Int32 → pm → Prop) : Prop := w_X7_isAsker x1 M (fun y2 M1 => ((¬ y2 = 0 → ((x2 = 0 → (vp_in x1 8 ∧ (Q (mI M1 58 x1.toNatClampNeg) M1))) ∧ (x2 = 1 → (vp_in x1 8 ∧ (Q (mI M1 59 x1.toNatClampNeg) M1))) ∧ (x2 = 2 → (vp_in x1 8 ∧ (Q (mI M1 60 x1.toNatClampNeg) M1))) ∧ (x2 = 3 → (vp_in x1 8 ∧ (Q (mI M1 62 x1.toNatClampNeg) M1))) ∧ (x2 = 4 → (w_X4_sinceOf 57 x1 M1 (fun y10 M9 => Q y10 M9))) ∧ (x2 = 5 → (w_X1_canPlay (mR M1 3 3) 57 x1 M1 (fun y13 M12 => ((y13 = 0 → (Q 0 M12)) ∧ (¬ y13 = 0 → (Q 1 M12)))))) ∧ (¬ x2 = 0 → ¬ x2 = 1 → ¬ x2 = 2 → ¬ x2 = 3 → ¬ x2 = 4 → ¬ x2 = 5 → (Q (-1) M1)))) ∧ (y2 = 0 → (Q (-1) M1))))
set_option maxRecDepth 4000 in
theorem c_X7_asker {x1 : Int32} {x2 : Int32} {M : pm} {Q : Int32 → pm → Prop}  (hM : pG M) (h : w_X7_asker x1 x2 M Q) : PW mX7_asker 5 350 0 (pfr mX7_asker.2.2.1 [.ref 3, .int x1, .int x2]) [] M (qI Q) := by
  unfold w_X7_asker at h
  show PW mX7_asker 5 350 0 [.ref 3, .int x1, .int x2] [] M (qI Q)
  refine PW.aload_n (pc := 0) dX7_asker_0 rfl ?_
  refine PW.iload_n (pc := 1) dX7_asker_1 rfl ?_
  refine PW.inv (m' := mX7_isAsker) (pc := 2) dX7_asker_2 lm_X7_188 me_X7_isAsker mi_X7_isAsker (ob hM.1 s_3 (by decide)) rfl (As := [.int x1]) (st := []) rfl (Nat.le_of_ble_eq_true rfl) (Nat.le_of_ble_eq_true rfl) (Nat.le_of_eq hM.1) (Nat.le_refl _) (PW.deep (by decide) (c_X7_isAsker  hM h)) ?_
  rintro _ M1 ⟨hM3, y2, rfl, z4, h⟩
  refine PW.if_ne (pc := 5) dX7_asker_5 (t := 10) (by decide) (fun hc => ?_) (fun hc => ?_)
  · have h := h.1 hc
    refine PW.iload_n (pc := 10) dX7_asker_10 rfl ?_
    by_cases q0 : x2 = 0
    · have h := h.1 q0
      refine PW.tabIn (pc := 11) dX7_asker_11 (by rw [q0]; decide) (by rw [q0]; decide) (off := 37) (by rw [q0]; decide) (t := 48) (by decide) ?_
      refine PW.aload_n (pc := 48) dX7_asker_48 rfl ?_
      refine PW.getR (pc := 49) dX7_asker_49 (r := 57) lf_X7_54 (ob hM3.1 s_3 (by decide)) fx_7_9 (oR_7_9 hM3 s_3) (pS_ne s_57) ?_
      refine PW.getR (pc := 52) dX7_asker_52 (r := 58) lf_X7_206 (ob hM3.1 s_57 (by decide)) fx_4_2 (oR_4_2 hM3 s_57) (pS_ne s_58) ?_
      refine PW.iload_n (pc := 55) dX7_asker_55 rfl ?_
      obtain ⟨v5, h⟩ := h
      refine PW.iald (pc := 56) dX7_asker_56 (ar hM3.1 s_58) (vpl n_58 v5) ?_
      exact PW.retI (pc := 57) dX7_asker_57 hM3.1 rfl rfl ⟨hM3, _, rfl, h⟩
    by_cases q1 : x2 = 1
    · have h := h.2.1 q1
      refine PW.tabIn (pc := 11) dX7_asker_11 (by rw [q1]; decide) (by rw [q1]; decide) (off := 47) (by rw [q1]; decide) (t := 58) (by decide) ?_
      refine PW.aload_n (pc := 58) dX7_asker_58 rfl ?_
      refine PW.getR (pc := 59) dX7_asker_59 (r := 57) lf_X7_54 (ob hM3.1 s_3 (by decide)) fx_7_9 (oR_7_9 hM3 s_3) (pS_ne s_57) ?_
      refine PW.getR (pc := 62) dX7_asker_62 (r := 59) lf_X7_209 (ob hM3.1 s_57 (by decide)) fx_4_3 (oR_4_3 hM3 s_57) (pS_ne s_59) ?_
      refine PW.iload_n (pc := 65) dX7_asker_65 rfl ?_
      obtain ⟨v6, h⟩ := h
      refine PW.iald (pc := 66) dX7_asker_66 (ar hM3.1 s_59) (vpl n_59 v6) ?_
      exact PW.retI (pc := 67) dX7_asker_67 hM3.1 rfl rfl ⟨hM3, _, rfl, h⟩
    by_cases q2 : x2 = 2
    · have h := h.2.2.1 q2
      refine PW.tabIn (pc := 11) dX7_asker_11 (by rw [q2]; decide) (by rw [q2]; decide) (off := 57) (by rw [q2]; decide) (t := 68) (by decide) ?_
      refine PW.aload_n (pc := 68) dX7_asker_68 rfl ?_
      refine PW.getR (pc := 69) dX7_asker_69 (r := 57) lf_X7_54 (ob hM3.1 s_3 (by decide)) fx_7_9 (oR_7_9 hM3 s_3) (pS_ne s_57) ?_
      refine PW.getR (pc := 72) dX7_asker_72 (r := 60) lf_X7_175 (ob hM3.1 s_57 (by decide)) fx_4_4 (oR_4_4 hM3 s_57) (pS_ne s_60) ?_
      refine PW.iload_n (pc := 75) dX7_asker_75 rfl ?_
      obtain ⟨v7, h⟩ := h
      refine PW.iald (pc := 76) dX7_asker_76 (ar hM3.1 s_60) (vpl n_60 v7) ?_
      exact PW.retI (pc := 77) dX7_asker_77 hM3.1 rfl rfl ⟨hM3, _, rfl, h⟩
    by_cases q3 : x2 = 3
    · have h := h.2.2.2.1 q3
      refine PW.tabIn (pc := 11) dX7_asker_11 (by rw [q3]; decide) (by rw [q3]; decide) (off := 67) (by rw [q3]; decide) (t := 78) (by decide) ?_
      refine PW.aload_n (pc := 78) dX7_asker_78 rfl ?_
      refine PW.getR (pc := 79) dX7_asker_79 (r := 57) lf_X7_54 (ob hM3.1 s_3 (by decide)) fx_7_9 (oR_7_9 hM3 s_3) (pS_ne s_57) ?_
      refine PW.getR (pc := 82) dX7_asker_82 (r := 62) lf_X7_212 (ob hM3.1 s_57 (by decide)) fx_4_6 (oR_4_6 hM3 s_57) (pS_ne s_62) ?_
      refine PW.iload_n (pc := 85) dX7_asker_85 rfl ?_
      obtain ⟨v8, h⟩ := h
      refine PW.iald (pc := 86) dX7_asker_86 (ar hM3.1 s_62) (vpl n_62 v8) ?_
      exact PW.retI (pc := 87) dX7_asker_87 hM3.1 rfl rfl ⟨hM3, _, rfl, h⟩
    by_cases q4 : x2 = 4
    · have h := h.2.2.2.2.1 q4
      refine PW.tabIn (pc := 11) dX7_asker_11 (by rw [q4]; decide) (by rw [q4]; decide) (off := 77) (by rw [q4]; decide) (t := 88) (by decide) ?_
      refine PW.aload_n (pc := 88) dX7_asker_88 rfl ?_
      refine PW.getR (pc := 89) dX7_asker_89 (r := 57) lf_X7_54 (ob hM3.1 s_3 (by decide)) fx_7_9 (oR_7_9 hM3 s_3) (pS_ne s_57) ?_
      refine PW.iload_n (pc := 92) dX7_asker_92 rfl ?_
      refine PW.inv (m' := mX4_sinceOf) (pc := 93) dX7_asker_93 lm_X7_215 me_X4_sinceOf mi_X4_sinceOf (ob hM3.1 s_57 (by decide)) rfl (As := [.int x1]) (st := []) rfl (Nat.le_of_ble_eq_true rfl) (Nat.le_of_ble_eq_true rfl) (Nat.le_of_eq hM3.1) (Nat.le_refl _) (PW.deep (by decide) (c_X4_sinceOf s_57 hM3 h)) ?_
      rintro _ M9 ⟨hM11, y10, rfl, h⟩
      exact PW.retI (pc := 96) dX7_asker_96 hM11.1 rfl rfl ⟨hM11, _, rfl, h⟩
    by_cases q5 : x2 = 5
    · have h := h.2.2.2.2.2.1 q5
      refine PW.tabIn (pc := 11) dX7_asker_11 (by rw [q5]; decide) (by rw [q5]; decide) (off := 86) (by rw [q5]; decide) (t := 97) (by decide) ?_
      refine PW.aload_n (pc := 97) dX7_asker_97 rfl ?_
      refine PW.getR (pc := 98) dX7_asker_98 (r := 44) lf_X7_47 (ob hM3.1 s_3 (by decide)) fx_7_8 (oR_7_8 hM3 s_3) (pS_ne s_44) ?_
      refine PW.aload_n (pc := 101) dX7_asker_101 rfl ?_
      refine PW.getR (pc := 102) dX7_asker_102 (r := (mR M1 3 3)) lf_X7_27 (ob hM3.1 s_3 (by decide)) fx_7_3 rfl (pS_ne (hM3.2.2.2.2.1)) ?_
      refine PW.aload_n (pc := 105) dX7_asker_105 rfl ?_
      refine PW.getR (pc := 106) dX7_asker_106 (r := 57) lf_X7_54 (ob hM3.1 s_3 (by decide)) fx_7_9 (oR_7_9 hM3 s_3) (pS_ne s_57) ?_
      refine PW.iload_n (pc := 109) dX7_asker_109 rfl ?_
      refine PW.inv (m' := mX1_canPlay) (pc := 110) dX7_asker_110 lm_X7_218 me_X1_canPlay mi_X1_canPlay (ob hM3.1 s_44 (by decide)) rfl (As := [.ref (mR M1 3 3), .ref 57, .int x1]) (st := []) rfl (Nat.le_of_ble_eq_true rfl) (Nat.le_of_ble_eq_true rfl) (Nat.le_of_eq hM3.1) (Nat.le_refl _) (PW.deep (by decide) (c_X1_canPlay (hM3.2.2.2.2.1) s_57 hM3 h)) ?_
      rintro _ M12 ⟨hM14, y13, rfl, z15, h⟩
      refine PW.if_eq (pc := 113) dX7_asker_113 (t := 120) (by decide) (fun hc => ?_) (fun hc => ?_)
      · have h := h.1 hc
        refine PW.iconst (pc := 120) dX7_asker_120 (v := 0) (by decide) ?_
        exact PW.retI (pc := 121) dX7_asker_121 hM14.1 rfl rfl ⟨hM14, _, rfl, h⟩
      · have h := h.2 hc
        refine PW.iconst (pc := 116) dX7_asker_116 (v := 1) (by decide) ?_
        refine PW.goto (pc := 117) dX7_asker_117 (t := 121) (by decide) ?_
        exact PW.retI (pc := 121) dX7_asker_121 hM14.1 rfl rfl ⟨hM14, _, rfl, h⟩
    have h := h.2.2.2.2.2.2 q0 q1 q2 q3 q4 q5
    refine PW.tabOut (pc := 11) dX7_asker_11 (tab_out (fun c h1 h2 => ?_)) (t := 122) (by decide) ?_
    · rcases (by omega : c = 0 ∨ c = 1 ∨ c = 2 ∨ c = 3 ∨ c = 4 ∨ c = 5) with rfl | rfl | rfl | rfl | rfl | rfl <;> assumption
    · skip
      refine PW.iconst (pc := 122) dX7_asker_122 (v := (-1)) (by decide) ?_
      exact PW.retI (pc := 123) dX7_asker_123 hM3.1 rfl rfl ⟨hM3, _, rfl, h⟩
  · have h := h.2 hc
    refine PW.iconst (pc := 8) dX7_asker_8 (v := (-1)) (by decide) ?_
    exact PW.retI (pc := 9) dX7_asker_9 hM3.1 rfl rfl ⟨hM3, _, rfl, h⟩
def w_X7_worth (x1 : Int32) (M : pm) (Q : Int64 → pm → Prop) : Prop := w_X7_isAsker x1 M (fun y2 M1 => ((y2 = 0 → (Q (-1000000000000000 : Int64) M1)) ∧ (¬ y2 = 0 → (w_X1_worthOf (mR M1 3 3) 57 x1 M1 (fun y6 M5 => Q (Int32.toInt64 y6) M5)))))
set_option maxRecDepth 4000 in
theorem c_X7_worth {x1 : Int32} {M : pm} {Q : Int64 → pm → Prop}  (hM : pG M) (h : w_X7_worth x1 M Q) : PW mX7_worth 5 350 0 (pfr mX7_worth.2.2.1 [.ref 3, .int x1]) [] M (qJ Q) := by
  unfold w_X7_worth at h
  show PW mX7_worth 5 350 0 [.ref 3, .int x1] [] M (qJ Q)
  refine PW.aload_n (pc := 0) dX7_worth_0 rfl ?_
  refine PW.iload_n (pc := 1) dX7_worth_1 rfl ?_
  refine PW.inv (m' := mX7_isAsker) (pc := 2) dX7_worth_2 lm_X7_188 me_X7_isAsker mi_X7_isAsker (ob hM.1 s_3 (by decide)) rfl (As := [.int x1]) (st := []) rfl (Nat.le_of_ble_eq_true rfl) (Nat.le_of_ble_eq_true rfl) (Nat.le_of_eq hM.1) (Nat.le_refl _) (PW.deep (by decide) (c_X7_isAsker  hM h)) ?_
  rintro _ M1 ⟨hM3, y2, rfl, z4, h⟩
  refine PW.if_eq (pc := 5) dX7_worth_5 (t := 28) (by decide) (fun hc => ?_) (fun hc => ?_)
  · have h := h.1 hc
    refine PW.ldc2 (pc := 28) dX7_worth_28 lk_X7_226 ?_
    exact PW.retJ (pc := 31) dX7_worth_31 hM3.1 rfl ⟨hM3, _, rfl, h⟩
  · have h := h.2 hc
    refine PW.aload_n (pc := 8) dX7_worth_8 rfl ?_
    refine PW.getR (pc := 9) dX7_worth_9 (r := 44) lf_X7_47 (ob hM3.1 s_3 (by decide)) fx_7_8 (oR_7_8 hM3 s_3) (pS_ne s_44) ?_
    refine PW.aload_n (pc := 12) dX7_worth_12 rfl ?_
    refine PW.getR (pc := 13) dX7_worth_13 (r := (mR M1 3 3)) lf_X7_27 (ob hM3.1 s_3 (by decide)) fx_7_3 rfl (pS_ne (hM3.2.2.2.2.1)) ?_
    refine PW.aload_n (pc := 16) dX7_worth_16 rfl ?_
    refine PW.getR (pc := 17) dX7_worth_17 (r := 57) lf_X7_54 (ob hM3.1 s_3 (by decide)) fx_7_9 (oR_7_9 hM3 s_3) (pS_ne s_57) ?_
    refine PW.iload_n (pc := 20) dX7_worth_20 rfl ?_
    refine PW.inv (m' := mX1_worthOf) (pc := 21) dX7_worth_21 lm_X7_222 me_X1_worthOf mi_X1_worthOf (ob hM3.1 s_44 (by decide)) rfl (As := [.ref (mR M1 3 3), .ref 57, .int x1]) (st := []) rfl (Nat.le_of_ble_eq_true rfl) (Nat.le_of_ble_eq_true rfl) (Nat.le_of_eq hM3.1) (Nat.le_refl _) (PW.deep (by decide) (c_X1_worthOf (hM3.2.2.2.2.1) s_57 hM3 h)) ?_
    rintro _ M5 ⟨hM7, y6, rfl, h⟩
    refine PW.i2l (pc := 24) dX7_worth_24 ?_
    refine PW.goto (pc := 25) dX7_worth_25 (t := 31) (by decide) ?_
    exact PW.retJ (pc := 31) dX7_worth_31 hM7.1 rfl ⟨hM7, _, rfl, h⟩
def w_X7_best (x1 : Int32) (M : pm) (Q : Int32 → pm → Prop) : Prop := (((mI M 3 5) = 0 → (Q (-1) M)) ∧ (¬ (mI M 3 5) = 0 → ((x1 < 0 → (Q (-1) M)) ∧ (¬ x1 < 0 → ((x1 ≤ 1 → (w_X1_bestBits (mR M 3 3) 57 M (fun y2 M1 => ((¬ x1 = 0 → (w_X1_minutesOf (mR M1 3 3) 57 y2 M1 (fun y5 M4 => Q y5 M4))) ∧ (x1 = 0 → (Q y2 M1)))))) ∧ (¬ x1 ≤ 1 → (Q (-1) M)))))))
set_option maxRecDepth 4000 in
theorem c_X7_best {x1 : Int32} {M : pm} {Q : Int32 → pm → Prop}  (hM : pG M) (h : w_X7_best x1 M Q) : PW mX7_best 7 350 0 (pfr mX7_best.2.2.1 [.ref 3, .int x1]) [] M (qI Q) := by
  unfold w_X7_best at h
  show PW mX7_best 7 350 0 [.ref 3, .int x1, .null] [] M (qI Q)
  refine PW.aload_n (pc := 0) dX7_best_0 rfl ?_
  refine PW.getI (pc := 1) dX7_best_1 lf_X7_34 (ob hM.1 s_3 (by decide)) fx_7_5 ?_
  refine PW.if_eq (pc := 4) dX7_best_4 (t := 16) (by decide) (fun hc => ?_) (fun hc => ?_)
  · have h := h.1 hc
    refine PW.iconst (pc := 16) dX7_best_16 (v := (-1)) (by decide) ?_
    exact PW.retI (pc := 17) dX7_best_17 hM.1 rfl rfl ⟨hM, _, rfl, h⟩
  · have h := h.2 hc
    refine PW.iload_n (pc := 7) dX7_best_7 rfl ?_
    refine PW.if_lt (pc := 8) dX7_best_8 (t := 16) (by decide) (fun hc => ?_) (fun hc => ?_)
    · have h := h.1 hc
      refine PW.iconst (pc := 16) dX7_best_16 (v := (-1)) (by decide) ?_
      exact PW.retI (pc := 17) dX7_best_17 hM.1 rfl rfl ⟨hM, _, rfl, h⟩
    · have h := h.2 hc
      refine PW.iload_n (pc := 11) dX7_best_11 rfl ?_
      refine PW.iconst (pc := 12) dX7_best_12 (v := 1) (by decide) ?_
      refine PW.icmp_le (pc := 13) dX7_best_13 (t := 18) (by decide) (fun hc => ?_) (fun hc => ?_)
      · have h := h.1 hc
        refine PW.aload_n (pc := 18) dX7_best_18 rfl ?_
        refine PW.getR (pc := 19) dX7_best_19 (r := 44) lf_X7_47 (ob hM.1 s_3 (by decide)) fx_7_8 (oR_7_8 hM s_3) (pS_ne s_44) ?_
        refine PW.aload_n (pc := 22) dX7_best_22 rfl ?_
        refine PW.getR (pc := 23) dX7_best_23 (r := (mR M 3 3)) lf_X7_27 (ob hM.1 s_3 (by decide)) fx_7_3 rfl (pS_ne (hM.2.2.2.2.1)) ?_
        refine PW.aload_n (pc := 26) dX7_best_26 rfl ?_
        refine PW.getR (pc := 27) dX7_best_27 (r := 57) lf_X7_54 (ob hM.1 s_3 (by decide)) fx_7_9 (oR_7_9 hM s_3) (pS_ne s_57) ?_
        refine PW.inv (m' := mX1_bestBits) (pc := 30) dX7_best_30 lm_X7_228 me_X1_bestBits mi_X1_bestBits (ob hM.1 s_44 (by decide)) rfl (As := [.ref (mR M 3 3), .ref 57]) (st := []) rfl (Nat.le_of_ble_eq_true rfl) (Nat.le_of_ble_eq_true rfl) (Nat.le_of_eq hM.1) (Nat.le_refl _) (PW.deep (by decide) (c_X1_bestBits (hM.2.2.2.2.1) s_57 hM h)) ?_
        rintro _ M1 ⟨hM3, y2, rfl, h⟩
        refine PW.istore_n (pc := 33) dX7_best_33 (ls' := [.ref 3, .int x1, .int y2]) (by decide) rfl rfl ?_
        refine PW.iload_n (pc := 34) dX7_best_34 rfl ?_
        refine PW.if_ne (pc := 35) dX7_best_35 (t := 42) (by decide) (fun hc => ?_) (fun hc => ?_)
        · have h := h.1 hc
          refine PW.aload_n (pc := 42) dX7_best_42 rfl ?_
          refine PW.getR (pc := 43) dX7_best_43 (r := 44) lf_X7_47 (ob hM3.1 s_3 (by decide)) fx_7_8 (oR_7_8 hM3 s_3) (pS_ne s_44) ?_
          refine PW.aload_n (pc := 46) dX7_best_46 rfl ?_
          refine PW.getR (pc := 47) dX7_best_47 (r := (mR M1 3 3)) lf_X7_27 (ob hM3.1 s_3 (by decide)) fx_7_3 rfl (pS_ne (hM3.2.2.2.2.1)) ?_
          refine PW.aload_n (pc := 50) dX7_best_50 rfl ?_
          refine PW.getR (pc := 51) dX7_best_51 (r := 57) lf_X7_54 (ob hM3.1 s_3 (by decide)) fx_7_9 (oR_7_9 hM3 s_3) (pS_ne s_57) ?_
          refine PW.iload_n (pc := 54) dX7_best_54 rfl ?_
          refine PW.inv (m' := mX1_minutesOf) (pc := 55) dX7_best_55 lm_X7_231 me_X1_minutesOf mi_X1_minutesOf (ob hM3.1 s_44 (by decide)) rfl (As := [.ref (mR M1 3 3), .ref 57, .int y2]) (st := []) rfl (Nat.le_of_ble_eq_true rfl) (Nat.le_of_ble_eq_true rfl) (Nat.le_of_eq hM3.1) (Nat.le_refl _) (PW.deep (by decide) (c_X1_minutesOf (hM3.2.2.2.2.1) s_57 hM3 h)) ?_
          rintro _ M4 ⟨hM6, y5, rfl, h⟩
          exact PW.retI (pc := 58) dX7_best_58 hM6.1 rfl rfl ⟨hM6, _, rfl, h⟩
        · have h := h.2 hc
          refine PW.iload_n (pc := 38) dX7_best_38 rfl ?_
          refine PW.goto (pc := 39) dX7_best_39 (t := 58) (by decide) ?_
          exact PW.retI (pc := 58) dX7_best_58 hM3.1 rfl rfl ⟨hM3, _, rfl, h⟩
      · have h := h.2 hc
        refine PW.iconst (pc := 16) dX7_best_16 (v := (-1)) (by decide) ?_
        exact PW.retI (pc := 17) dX7_best_17 hM.1 rfl rfl ⟨hM, _, rfl, h⟩
def w_X7_kept (x1 : Int32) (x2 : Int32) (M : pm) (Q : Int32 → pm → Prop) : Prop := ((x1 < 0 → (Q (-1) M)) ∧ (¬ x1 < 0 → (((mI M 57 7) ≤ x1 → (Q (-1) M)) ∧ (¬ (mI M 57 7) ≤ x1 → ((x1 < 40 → ((x2 = 0 → (vp_in x1 40 ∧ (Q (mI M 63 x1.toNatClampNeg) M))) ∧ (x2 = 1 → (vp_in x1 40 ∧ (Q (mI M 64 x1.toNatClampNeg) M))) ∧ (x2 = 2 → (vp_in x1 40 ∧ (Q (mI M 65 x1.toNatClampNeg) M))) ∧ (¬ x2 = 0 → ¬ x2 = 1 → ¬ x2 = 2 → (Q (-1) M)))) ∧ (¬ x1 < 40 → (Q (-1) M)))))))
set_option maxRecDepth 4000 in
theorem c_X7_kept {x1 : Int32} {x2 : Int32} {M : pm} {Q : Int32 → pm → Prop}  (hM : pG M) (h : w_X7_kept x1 x2 M Q) : PW mX7_kept 1 350 0 (pfr mX7_kept.2.2.1 [.ref 3, .int x1, .int x2]) [] M (qI Q) := by
  unfold w_X7_kept at h
  show PW mX7_kept 1 350 0 [.ref 3, .int x1, .int x2] [] M (qI Q)
  refine PW.iload_n (pc := 0) dX7_kept_0 rfl ?_
  refine PW.if_lt (pc := 1) dX7_kept_1 (t := 21) (by decide) (fun hc => ?_) (fun hc => ?_)
  · have h := h.1 hc
    refine PW.iconst (pc := 21) dX7_kept_21 (v := (-1)) (by decide) ?_
    exact PW.retI (pc := 22) dX7_kept_22 hM.1 rfl rfl ⟨hM, _, rfl, h⟩
  · have h := h.2 hc
    refine PW.iload_n (pc := 4) dX7_kept_4 rfl ?_
    refine PW.aload_n (pc := 5) dX7_kept_5 rfl ?_
    refine PW.getR (pc := 6) dX7_kept_6 (r := 57) lf_X7_54 (ob hM.1 s_3 (by decide)) fx_7_9 (oR_7_9 hM s_3) (pS_ne s_57) ?_
    refine PW.getI (pc := 9) dX7_kept_9 lf_X7_165 (ob hM.1 s_57 (by decide)) fx_4_7 ?_
    refine PW.icmp_ge (pc := 12) dX7_kept_12 (t := 21) (by decide) (fun hc => ?_) (fun hc => ?_)
    · have h := h.1 hc
      refine PW.iconst (pc := 21) dX7_kept_21 (v := (-1)) (by decide) ?_
      exact PW.retI (pc := 22) dX7_kept_22 hM.1 rfl rfl ⟨hM, _, rfl, h⟩
    · have h := h.2 hc
      refine PW.iload_n (pc := 15) dX7_kept_15 rfl ?_
      refine PW.bipush (pc := 16) dX7_kept_16 (v := 40) (by decide) ?_
      refine PW.icmp_lt (pc := 18) dX7_kept_18 (t := 23) (by decide) (fun hc => ?_) (fun hc => ?_)
      · have h := h.1 hc
        refine PW.iload_n (pc := 23) dX7_kept_23 rfl ?_
        by_cases q0 : x2 = 0
        · have h := h.1 q0
          refine PW.tabIn (pc := 24) dX7_kept_24 (by rw [q0]; decide) (by rw [q0]; decide) (off := 28) (by rw [q0]; decide) (t := 52) (by decide) ?_
          refine PW.aload_n (pc := 52) dX7_kept_52 rfl ?_
          refine PW.getR (pc := 53) dX7_kept_53 (r := 57) lf_X7_54 (ob hM.1 s_3 (by decide)) fx_7_9 (oR_7_9 hM s_3) (pS_ne s_57) ?_
          refine PW.getR (pc := 56) dX7_kept_56 (r := 63) lf_X7_234 (ob hM.1 s_57 (by decide)) fx_4_8 (oR_4_8 hM s_57) (pS_ne s_63) ?_
          refine PW.iload_n (pc := 59) dX7_kept_59 rfl ?_
          obtain ⟨v1, h⟩ := h
          refine PW.iald (pc := 60) dX7_kept_60 (ar hM.1 s_63) (vpl n_63 v1) ?_
          exact PW.retI (pc := 61) dX7_kept_61 hM.1 rfl rfl ⟨hM, _, rfl, h⟩
        by_cases q1 : x2 = 1
        · have h := h.2.1 q1
          refine PW.tabIn (pc := 24) dX7_kept_24 (by rw [q1]; decide) (by rw [q1]; decide) (off := 38) (by rw [q1]; decide) (t := 62) (by decide) ?_
          refine PW.aload_n (pc := 62) dX7_kept_62 rfl ?_
          refine PW.getR (pc := 63) dX7_kept_63 (r := 57) lf_X7_54 (ob hM.1 s_3 (by decide)) fx_7_9 (oR_7_9 hM s_3) (pS_ne s_57) ?_
          refine PW.getR (pc := 66) dX7_kept_66 (r := 64) lf_X7_237 (ob hM.1 s_57 (by decide)) fx_4_9 (oR_4_9 hM s_57) (pS_ne s_64) ?_
          refine PW.iload_n (pc := 69) dX7_kept_69 rfl ?_
          obtain ⟨v2, h⟩ := h
          refine PW.iald (pc := 70) dX7_kept_70 (ar hM.1 s_64) (vpl n_64 v2) ?_
          exact PW.retI (pc := 71) dX7_kept_71 hM.1 rfl rfl ⟨hM, _, rfl, h⟩
        by_cases q2 : x2 = 2
        · have h := h.2.2.1 q2
          refine PW.tabIn (pc := 24) dX7_kept_24 (by rw [q2]; decide) (by rw [q2]; decide) (off := 48) (by rw [q2]; decide) (t := 72) (by decide) ?_
          refine PW.aload_n (pc := 72) dX7_kept_72 rfl ?_
          refine PW.getR (pc := 73) dX7_kept_73 (r := 57) lf_X7_54 (ob hM.1 s_3 (by decide)) fx_7_9 (oR_7_9 hM s_3) (pS_ne s_57) ?_
          refine PW.getR (pc := 76) dX7_kept_76 (r := 65) lf_X7_240 (ob hM.1 s_57 (by decide)) fx_4_10 (oR_4_10 hM s_57) (pS_ne s_65) ?_
          refine PW.iload_n (pc := 79) dX7_kept_79 rfl ?_
          obtain ⟨v3, h⟩ := h
          refine PW.iald (pc := 80) dX7_kept_80 (ar hM.1 s_65) (vpl n_65 v3) ?_
          exact PW.retI (pc := 81) dX7_kept_81 hM.1 rfl rfl ⟨hM, _, rfl, h⟩
        have h := h.2.2.2 q0 q1 q2
        refine PW.tabOut (pc := 24) dX7_kept_24 (tab_out (fun c h1 h2 => ?_)) (t := 82) (by decide) ?_
        · rcases (by omega : c = 0 ∨ c = 1 ∨ c = 2) with rfl | rfl | rfl <;> assumption
        · skip
          refine PW.iconst (pc := 82) dX7_kept_82 (v := (-1)) (by decide) ?_
          exact PW.retI (pc := 83) dX7_kept_83 hM.1 rfl rfl ⟨hM, _, rfl, h⟩
      · have h := h.2 hc
        refine PW.iconst (pc := 21) dX7_kept_21 (v := (-1)) (by decide) ?_
        exact PW.retI (pc := 22) dX7_kept_22 hM.1 rfl rfl ⟨hM, _, rfl, h⟩
def w_X7_hasDayAhead (x1 : Int32) (M : pm) (Q : Int32 → pm → Prop) : Prop := (((mI M 3 5) = 0 → (Q 0 M)) ∧ (¬ (mI M 3 5) = 0 → ((999 < ((mI M 57 0) + x1) → (Q 0 M)) ∧ (¬ 999 < ((mI M 57 0) + x1) → (Q 1 M)))))
set_option maxRecDepth 4000 in
theorem c_X7_hasDayAhead {x1 : Int32} {M : pm} {Q : Int32 → pm → Prop}  (hM : pG M) (h : w_X7_hasDayAhead x1 M Q) : PW mX7_hasDayAhead 1 350 0 (pfr mX7_hasDayAhead.2.2.1 [.ref 3, .int x1]) [] M (qZ Q) := by
  unfold w_X7_hasDayAhead at h
  show PW mX7_hasDayAhead 1 350 0 [.ref 3, .int x1] [] M (qZ Q)
  refine PW.aload_n (pc := 0) dX7_hasDayAhead_0 rfl ?_
  refine PW.getI (pc := 1) dX7_hasDayAhead_1 lf_X7_34 (ob hM.1 s_3 (by decide)) fx_7_5 ?_
  refine PW.if_eq (pc := 4) dX7_hasDayAhead_4 (t := 26) (by decide) (fun hc => ?_) (fun hc => ?_)
  · have h := h.1 hc
    refine PW.iconst (pc := 26) dX7_hasDayAhead_26 (v := 0) (by decide) ?_
    exact PW.retI (pc := 27) dX7_hasDayAhead_27 hM.1 rfl (bz_n bz0) ⟨hM, _, rfl, bz0, h⟩
  · have h := h.2 hc
    refine PW.aload_n (pc := 7) dX7_hasDayAhead_7 rfl ?_
    refine PW.getR (pc := 8) dX7_hasDayAhead_8 (r := 57) lf_X7_54 (ob hM.1 s_3 (by decide)) fx_7_9 (oR_7_9 hM s_3) (pS_ne s_57) ?_
    refine PW.getI (pc := 11) dX7_hasDayAhead_11 lf_X7_144 (ob hM.1 s_57 (by decide)) fx_4_0 ?_
    refine PW.iload_n (pc := 14) dX7_hasDayAhead_14 rfl ?_
    refine PW.iadd (pc := 15) dX7_hasDayAhead_15 ?_
    refine PW.sipush (pc := 16) dX7_hasDayAhead_16 (v := 999) (by decide) ?_
    refine PW.icmp_gt (pc := 19) dX7_hasDayAhead_19 (t := 26) (by decide) (fun hc => ?_) (fun hc => ?_)
    · have h := h.1 hc
      refine PW.iconst (pc := 26) dX7_hasDayAhead_26 (v := 0) (by decide) ?_
      exact PW.retI (pc := 27) dX7_hasDayAhead_27 hM.1 rfl (bz_n bz0) ⟨hM, _, rfl, bz0, h⟩
    · have h := h.2 hc
      refine PW.iconst (pc := 22) dX7_hasDayAhead_22 (v := 1) (by decide) ?_
      refine PW.goto (pc := 23) dX7_hasDayAhead_23 (t := 27) (by decide) ?_
      exact PW.retI (pc := 27) dX7_hasDayAhead_27 hM.1 rfl (bz_n bz1) ⟨hM, _, rfl, bz1, h⟩
def w_X7_tryFromNow  (M : pm) (Q : pm → Prop) : Prop := w_X4_copyNow 66 57 M (fun M1 => Q M1)
set_option maxRecDepth 4000 in
theorem c_X7_tryFromNow  {M : pm} {Q : pm → Prop}  (hM : pG M) (h : w_X7_tryFromNow  M Q) : PW mX7_tryFromNow 2 350 0 (pfr mX7_tryFromNow.2.2.1 [.ref 3]) [] M (qV Q) := by
  unfold w_X7_tryFromNow at h
  show PW mX7_tryFromNow 2 350 0 [.ref 3] [] M (qV Q)
  refine PW.aload_n (pc := 0) dX7_tryFromNow_0 rfl ?_
  refine PW.getR (pc := 1) dX7_tryFromNow_1 (r := 66) lf_X7_58 (ob hM.1 s_3 (by decide)) fx_7_10 (oR_7_10 hM s_3) (pS_ne s_66) ?_
  refine PW.aload_n (pc := 4) dX7_tryFromNow_4 rfl ?_
  refine PW.getR (pc := 5) dX7_tryFromNow_5 (r := 57) lf_X7_54 (ob hM.1 s_3 (by decide)) fx_7_9 (oR_7_9 hM s_3) (pS_ne s_57) ?_
  refine PW.inv (m' := mX4_copyNow) (pc := 8) dX7_tryFromNow_8 lm_X7_243 me_X4_copyNow mi_X4_copyNow (ob hM.1 s_66 (by decide)) rfl (As := [.ref 57]) (st := []) rfl (Nat.le_of_ble_eq_true rfl) (Nat.le_of_ble_eq_true rfl) (Nat.le_of_eq hM.1) (Nat.le_refl _) (PW.deep (by decide) (c_X4_copyNow s_66 s_57 hM h)) ?_
  rintro _ M1 ⟨hM3, rfl, h⟩
  exact PW.ret0 (pc := 11) dX7_tryFromNow_11 hM3.1 rfl ⟨hM3, rfl, h⟩
def w_X7_tryDays_6 : Nat → Int32 → Int32 → pm → (pm → Prop) → Prop
  | 0, _, _, _, _ => False
  | n + 1, x1, x2, M, Q => ((x1 ≤ x2 → (Q M)) ∧ (¬ x1 ≤ x2 → (w_X1_bestBits (mR M 3 3) 66 M (fun y5 M4 => w_X1_playDay (mR M 3 3) 66 y5 M4 (fun y8 M7 => w_X7_tryDays_6 n x1 (x2 + 1) M7 Q)))))
set_option maxRecDepth 4000 in
theorem c_X7_tryDays_6  {Q : pm → Prop}  : ∀ (n : Nat) (x1 : Int32) (x2 : Int32) (M : pm), pG M → w_X7_tryDays_6 n x1 x2 M  Q → PW mX7_tryDays 7 350 6 [.ref 3, .int x1, .int x2] [] M (qV Q) := by
  intro n
  induction n with
  | zero => intro x1 x2 M hM h; exact h.elim
  | succ n ih =>
    intro x1 x2 M hM h
    unfold w_X7_tryDays_6 at h
    refine PW.iload_n (pc := 6) dX7_tryDays_6 rfl ?_
    refine PW.iload_n (pc := 7) dX7_tryDays_7 rfl ?_
    refine PW.icmp_ge (pc := 8) dX7_tryDays_8 (t := 48) (by decide) (fun hc => ?_) (fun hc => ?_)
    · have h := h.1 hc
      exact PW.ret0 (pc := 48) dX7_tryDays_48 hM.1 rfl ⟨hM, rfl, h⟩
    · have h := h.2 hc
      refine PW.aload_n (pc := 11) dX7_tryDays_11 rfl ?_
      refine PW.getR (pc := 12) dX7_tryDays_12 (r := 44) lf_X7_47 (ob hM.1 s_3 (by decide)) fx_7_8 (oR_7_8 hM s_3) (pS_ne s_44) ?_
      refine PW.aload_n (pc := 15) dX7_tryDays_15 rfl ?_
      refine PW.getR (pc := 16) dX7_tryDays_16 (r := (mR M 3 3)) lf_X7_27 (ob hM.1 s_3 (by decide)) fx_7_3 rfl (pS_ne (hM.2.2.2.2.1)) ?_
      refine PW.aload_n (pc := 19) dX7_tryDays_19 rfl ?_
      refine PW.getR (pc := 20) dX7_tryDays_20 (r := 66) lf_X7_58 (ob hM.1 s_3 (by decide)) fx_7_10 (oR_7_10 hM s_3) (pS_ne s_66) ?_
      refine PW.aload_n (pc := 23) dX7_tryDays_23 rfl ?_
      refine PW.getR (pc := 24) dX7_tryDays_24 (r := 44) lf_X7_47 (ob hM.1 s_3 (by decide)) fx_7_8 (oR_7_8 hM s_3) (pS_ne s_44) ?_
      refine PW.aload_n (pc := 27) dX7_tryDays_27 rfl ?_
      refine PW.getR (pc := 28) dX7_tryDays_28 (r := (mR M 3 3)) lf_X7_27 (ob hM.1 s_3 (by decide)) fx_7_3 rfl (pS_ne (hM.2.2.2.2.1)) ?_
      refine PW.aload_n (pc := 31) dX7_tryDays_31 rfl ?_
      refine PW.getR (pc := 32) dX7_tryDays_32 (r := 66) lf_X7_58 (ob hM.1 s_3 (by decide)) fx_7_10 (oR_7_10 hM s_3) (pS_ne s_66) ?_
      refine PW.inv (m' := mX1_bestBits) (pc := 35) dX7_tryDays_35 lm_X7_228 me_X1_bestBits mi_X1_bestBits (ob hM.1 s_44 (by decide)) rfl (As := [.ref (mR M 3 3), .ref 66]) (st := [.ref 66, .ref (mR M 3 3), .ref 44]) rfl (Nat.le_of_ble_eq_true rfl) (Nat.le_of_ble_eq_true rfl) (Nat.le_of_eq hM.1) (Nat.le_refl _) (PW.deep (by decide) (c_X1_bestBits (hM.2.2.2.2.1) s_66 hM h)) ?_
      rintro _ M4 ⟨hM6, y5, rfl, h⟩
      refine PW.inv (m' := mX1_playDay) (pc := 38) dX7_tryDays_38 lm_X7_250 me_X1_playDay mi_X1_playDay (ob hM6.1 s_44 (by decide)) rfl (As := [.ref (mR M 3 3), .ref 66, .int y5]) (st := []) rfl (Nat.le_of_ble_eq_true rfl) (Nat.le_of_ble_eq_true rfl) (Nat.le_of_eq hM6.1) (Nat.le_refl _) (PW.deep (by decide) (c_X1_playDay (hM.2.2.2.2.1) s_66 hM6 h)) ?_
      rintro _ M7 ⟨hM9, y8, rfl, h⟩
      refine PW.popI (pc := 41) dX7_tryDays_41 ?_
      refine PW.iinc (pc := 42) dX7_tryDays_42 (v := (x2 + 1)) (ls' := [.ref 3, .int x1, .int (x2 + 1)]) rfl rfl (by decide) rfl rfl ?_
      refine PW.goto (pc := 45) dX7_tryDays_45 (t := 6) (by decide) ?_
      exact PW.drop (ih _ _ _ hM9 h) ⟨rfl, rfl, rfl, trivial⟩
def w_X7_tryDays (x1 : Int32) (M : pm) (Q : pm → Prop) : Prop := w_X7_tryFromNow  M (fun M1 => ∃ n10, w_X7_tryDays_6 n10 x1 0 M1  Q)
set_option maxRecDepth 4000 in
theorem c_X7_tryDays {x1 : Int32} {M : pm} {Q : pm → Prop}  (hM : pG M) (h : w_X7_tryDays x1 M Q) : PW mX7_tryDays 7 350 0 (pfr mX7_tryDays.2.2.1 [.ref 3, .int x1]) [] M (qV Q) := by
  unfold w_X7_tryDays at h
  show PW mX7_tryDays 7 350 0 [.ref 3, .int x1, .null] [] M (qV Q)
  refine PW.aload_n (pc := 0) dX7_tryDays_0 rfl ?_
  refine PW.inv (m' := mX7_tryFromNow) (pc := 1) dX7_tryDays_1 lm_X7_247 me_X7_tryFromNow mi_X7_tryFromNow (ob hM.1 s_3 (by decide)) rfl (As := []) (st := []) rfl (Nat.le_of_ble_eq_true rfl) (Nat.le_of_ble_eq_true rfl) (Nat.le_of_eq hM.1) (Nat.le_refl _) (PW.deep (by decide) (c_X7_tryFromNow  hM h)) ?_
  rintro _ M1 ⟨hM3, rfl, h⟩
  refine PW.iconst (pc := 4) dX7_tryDays_4 (v := 0) (by decide) ?_
  refine PW.istore_n (pc := 5) dX7_tryDays_5 (ls' := [.ref 3, .int x1, .int 0]) (by decide) rfl rfl ?_
  obtain ⟨n10, h⟩ := h
  refine PW.drop (c_X7_tryDays_6  n10 _ _ _ hM3 h) ⟨rfl, rfl, rfl, trivial⟩
