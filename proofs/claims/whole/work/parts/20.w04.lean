/-! methods, walked by program: w_ what must hold before, c_ its proof -/
def w_X3_readSongName (a1 : Nat) (M : pm) (Q : Int32 → pm → Prop) : Prop := w_X6_standsName  M (fun y2 M1 => ((¬ y2 = 0 → (w_X5_findSong a1 (mI M1 6 6) M1 (fun y6 M5 => ((¬ y6 = (-1) → (w_X6_take  M5 (fun M8 => w_J9_max_7cf53 y6 0 M8 (fun y12 M11 => Q y12 M11)))) ∧ (y6 = (-1) → (w_X6_fail 3 (mI M5 6 4) M5 (fun M14 => w_X6_take  M14 (fun M17 => w_J9_max_7cf53 y6 0 M17 (fun y21 M20 => Q y21 M20))))))))) ∧ (y2 = 0 → (Q 0 M1))))
set_option maxRecDepth 4000 in
theorem c_X3_readSongName {a1 : Nat} {M : pm} {Q : Int32 → pm → Prop} (hs1 : pS 5 a1) (hM : pG M) (h : w_X3_readSongName a1 M Q) : PW mX3_readSongName 3 350 0 (pfr mX3_readSongName.2.2.1 [.ref 5, .ref a1]) [] M (qI Q) := by
  unfold w_X3_readSongName at h
  show PW mX3_readSongName 3 350 0 [.ref 5, .ref a1, .null] [] M (qI Q)
  refine PW.aload_n (pc := 0) dX3_readSongName_0 rfl ?_
  refine PW.getR (pc := 1) dX3_readSongName_1 (r := 6) lf_X3_12 (ob hM.1 s_5 (by decide)) fx_3_0 (oR_3_0 hM s_5) (pS_ne s_6) ?_
  refine PW.inv (m' := mX6_standsName) (pc := 4) dX3_readSongName_4 lm_X3_159 me_X6_standsName mi_X6_standsName (ob hM.1 s_6 (by decide)) rfl (As := []) (st := []) rfl (Nat.le_of_ble_eq_true rfl) (Nat.le_of_ble_eq_true rfl) (Nat.le_of_eq hM.1) (Nat.le_refl _) (PW.deep (by decide) (c_X6_standsName  hM h)) ?_
  rintro _ M1 ⟨hM3, y2, rfl, z4, h⟩
  refine PW.if_ne (pc := 7) dX3_readSongName_7 (t := 12) (by decide) (fun hc => ?_) (fun hc => ?_)
  · have h := h.1 hc
    refine PW.aload_n (pc := 12) dX3_readSongName_12 rfl ?_
    refine PW.aload_n (pc := 13) dX3_readSongName_13 rfl ?_
    refine PW.getR (pc := 14) dX3_readSongName_14 (r := 6) lf_X3_12 (ob hM3.1 s_5 (by decide)) fx_3_0 (oR_3_0 hM3 s_5) (pS_ne s_6) ?_
    refine PW.getI (pc := 17) dX3_readSongName_17 lf_X3_162 (ob hM3.1 s_6 (by decide)) fx_6_6 ?_
    refine PW.inv (m' := mX5_findSong) (pc := 20) dX3_readSongName_20 lm_X3_168 me_X5_findSong mi_X5_findSong (ob hM3.1 hs1 (by decide)) rfl (As := [.int (mI M1 6 6)]) (st := []) rfl (Nat.le_of_ble_eq_true rfl) (Nat.le_of_ble_eq_true rfl) (Nat.le_of_eq hM3.1) (Nat.le_refl _) (PW.deep (by decide) (c_X5_findSong hs1 hM3 h)) ?_
    rintro _ M5 ⟨hM7, y6, rfl, h⟩
    refine PW.istore_n (pc := 23) dX3_readSongName_23 (ls' := [.ref 5, .ref a1, .int y6]) (by decide) rfl rfl ?_
    refine PW.iload_n (pc := 24) dX3_readSongName_24 rfl ?_
    refine PW.iconst (pc := 25) dX3_readSongName_25 (v := (-1)) (by decide) ?_
    refine PW.icmp_ne (pc := 26) dX3_readSongName_26 (t := 44) (by decide) (fun hc => ?_) (fun hc => ?_)
    · have h := h.1 hc
      refine PW.aload_n (pc := 44) dX3_readSongName_44 rfl ?_
      refine PW.getR (pc := 45) dX3_readSongName_45 (r := 6) lf_X3_12 (ob hM7.1 s_5 (by decide)) fx_3_0 (oR_3_0 hM7 s_5) (pS_ne s_6) ?_
      refine PW.inv (m' := mX6_take) (pc := 48) dX3_readSongName_48 lm_X3_77 me_X6_take mi_X6_take (ob hM7.1 s_6 (by decide)) rfl (As := []) (st := []) rfl (Nat.le_of_ble_eq_true rfl) (Nat.le_of_ble_eq_true rfl) (Nat.le_of_eq hM7.1) (Nat.le_refl _) (PW.deep (by decide) (c_X6_take  hM7 h)) ?_
      rintro _ M8 ⟨hM10, rfl, h⟩
      refine PW.iload_n (pc := 51) dX3_readSongName_51 rfl ?_
      refine PW.iconst (pc := 52) dX3_readSongName_52 (v := 0) (by decide) ?_
      refine PW.ins (m' := mJ9_max_7cf53) (pc := 53) dX3_readSongName_53 lm_X3_172 me_J9_max_7cf53 ms_J9_max_7cf53 (As := [.int y6, .int 0]) (st := []) rfl (Nat.le_of_ble_eq_true rfl) (Nat.le_of_ble_eq_true rfl) (Nat.le_of_eq hM10.1) (Nat.le_refl _) (PW.deep (by decide) (c_J9_max_7cf53  hM10 h)) ?_
      rintro _ M11 ⟨hM13, y12, rfl, h⟩
      exact PW.retI (pc := 56) dX3_readSongName_56 hM13.1 rfl rfl ⟨hM13, _, rfl, h⟩
    · have h := h.2 hc
      refine PW.aload_n (pc := 29) dX3_readSongName_29 rfl ?_
      refine PW.getR (pc := 30) dX3_readSongName_30 (r := 6) lf_X3_12 (ob hM7.1 s_5 (by decide)) fx_3_0 (oR_3_0 hM7 s_5) (pS_ne s_6) ?_
      refine PW.iconst (pc := 33) dX3_readSongName_33 (v := 3) (by decide) ?_
      refine PW.aload_n (pc := 34) dX3_readSongName_34 rfl ?_
      refine PW.getR (pc := 35) dX3_readSongName_35 (r := 6) lf_X3_12 (ob hM7.1 s_5 (by decide)) fx_3_0 (oR_3_0 hM7 s_5) (pS_ne s_6) ?_
      refine PW.getI (pc := 38) dX3_readSongName_38 lf_X3_55 (ob hM7.1 s_6 (by decide)) fx_6_4 ?_
      refine PW.inv (m' := mX6_fail) (pc := 41) dX3_readSongName_41 lm_X3_58 me_X6_fail mi_X6_fail (ob hM7.1 s_6 (by decide)) rfl (As := [.int 3, .int (mI M5 6 4)]) (st := []) rfl (Nat.le_of_ble_eq_true rfl) (Nat.le_of_ble_eq_true rfl) (Nat.le_of_eq hM7.1) (Nat.le_refl _) (PW.deep (by decide) (c_X6_fail  hM7 h)) ?_
      rintro _ M14 ⟨hM16, rfl, h⟩
      refine PW.aload_n (pc := 44) dX3_readSongName_44 rfl ?_
      refine PW.getR (pc := 45) dX3_readSongName_45 (r := 6) lf_X3_12 (ob hM16.1 s_5 (by decide)) fx_3_0 (oR_3_0 hM16 s_5) (pS_ne s_6) ?_
      refine PW.inv (m' := mX6_take) (pc := 48) dX3_readSongName_48 lm_X3_77 me_X6_take mi_X6_take (ob hM16.1 s_6 (by decide)) rfl (As := []) (st := []) rfl (Nat.le_of_ble_eq_true rfl) (Nat.le_of_ble_eq_true rfl) (Nat.le_of_eq hM16.1) (Nat.le_refl _) (PW.deep (by decide) (c_X6_take  hM16 h)) ?_
      rintro _ M17 ⟨hM19, rfl, h⟩
      refine PW.iload_n (pc := 51) dX3_readSongName_51 rfl ?_
      refine PW.iconst (pc := 52) dX3_readSongName_52 (v := 0) (by decide) ?_
      refine PW.ins (m' := mJ9_max_7cf53) (pc := 53) dX3_readSongName_53 lm_X3_172 me_J9_max_7cf53 ms_J9_max_7cf53 (As := [.int y6, .int 0]) (st := []) rfl (Nat.le_of_ble_eq_true rfl) (Nat.le_of_ble_eq_true rfl) (Nat.le_of_eq hM19.1) (Nat.le_refl _) (PW.deep (by decide) (c_J9_max_7cf53  hM19 h)) ?_
      rintro _ M20 ⟨hM22, y21, rfl, h⟩
      exact PW.retI (pc := 56) dX3_readSongName_56 hM22.1 rfl rfl ⟨hM22, _, rfl, h⟩
  · have h := h.2 hc
    refine PW.iconst (pc := 10) dX3_readSongName_10 (v := 0) (by decide) ?_
    exact PW.retI (pc := 11) dX3_readSongName_11 hM3.1 rfl rfl ⟨hM3, _, rfl, h⟩
def w_X5_addAsker (a0 : Nat) (x1 : Int32) (x2 : Int32) (x3 : Int32) (x4 : Int32) (M : pm) (Q : pm → Prop) : Prop := ((8 ≤ (mI M a0 8) → (Q M)) ∧ (¬ 8 ≤ (mI M a0 8) → (vp_in (mI M a0 8) 8 ∧ (vp_in (mI (sI M (a0 + 4) ((mI M a0 8).toNatClampNeg) x1) a0 8) 8 ∧ (vp_in (mI (sI (sI M (a0 + 4) ((mI M a0 8).toNatClampNeg) x1) (a0 + 5) ((mI (sI M (a0 + 4) ((mI M a0 8).toNatClampNeg) x1) a0 8).toNatClampNeg) x2) a0 8) 8 ∧ (vp_in (mI (sI (sI (sI M (a0 + 4) ((mI M a0 8).toNatClampNeg) x1) (a0 + 5) ((mI (sI M (a0 + 4) ((mI M a0 8).toNatClampNeg) x1) a0 8).toNatClampNeg) x2) (a0 + 6) ((mI (sI (sI M (a0 + 4) ((mI M a0 8).toNatClampNeg) x1) (a0 + 5) ((mI (sI M (a0 + 4) ((mI M a0 8).toNatClampNeg) x1) a0 8).toNatClampNeg) x2) a0 8).toNatClampNeg) x3) a0 8) 8 ∧ (Q (sI (sI (sI (sI (sI M (a0 + 4) ((mI M a0 8).toNatClampNeg) x1) (a0 + 5) ((mI (sI M (a0 + 4) ((mI M a0 8).toNatClampNeg) x1) a0 8).toNatClampNeg) x2) (a0 + 6) ((mI (sI (sI M (a0 + 4) ((mI M a0 8).toNatClampNeg) x1) (a0 + 5) ((mI (sI M (a0 + 4) ((mI M a0 8).toNatClampNeg) x1) a0 8).toNatClampNeg) x2) a0 8).toNatClampNeg) x3) (a0 + 7) ((mI (sI (sI (sI M (a0 + 4) ((mI M a0 8).toNatClampNeg) x1) (a0 + 5) ((mI (sI M (a0 + 4) ((mI M a0 8).toNatClampNeg) x1) a0 8).toNatClampNeg) x2) (a0 + 6) ((mI (sI (sI M (a0 + 4) ((mI M a0 8).toNatClampNeg) x1) (a0 + 5) ((mI (sI M (a0 + 4) ((mI M a0 8).toNatClampNeg) x1) a0 8).toNatClampNeg) x2) a0 8).toNatClampNeg) x3) a0 8).toNatClampNeg) x4) a0 8 ((mI (sI (sI (sI (sI M (a0 + 4) ((mI M a0 8).toNatClampNeg) x1) (a0 + 5) ((mI (sI M (a0 + 4) ((mI M a0 8).toNatClampNeg) x1) a0 8).toNatClampNeg) x2) (a0 + 6) ((mI (sI (sI M (a0 + 4) ((mI M a0 8).toNatClampNeg) x1) (a0 + 5) ((mI (sI M (a0 + 4) ((mI M a0 8).toNatClampNeg) x1) a0 8).toNatClampNeg) x2) a0 8).toNatClampNeg) x3) (a0 + 7) ((mI (sI (sI (sI M (a0 + 4) ((mI M a0 8).toNatClampNeg) x1) (a0 + 5) ((mI (sI M (a0 + 4) ((mI M a0 8).toNatClampNeg) x1) a0 8).toNatClampNeg) x2) (a0 + 6) ((mI (sI (sI M (a0 + 4) ((mI M a0 8).toNatClampNeg) x1) (a0 + 5) ((mI (sI M (a0 + 4) ((mI M a0 8).toNatClampNeg) x1) a0 8).toNatClampNeg) x2) a0 8).toNatClampNeg) x3) a0 8).toNatClampNeg) x4) a0 8) + 1)))))))))
set_option maxRecDepth 4000 in
theorem c_X5_addAsker {a0 : Nat} {x1 : Int32} {x2 : Int32} {x3 : Int32} {x4 : Int32} {M : pm} {Q : pm → Prop} (hs0 : pS 5 a0) (hM : pG M) (h : w_X5_addAsker a0 x1 x2 x3 x4 M Q) : PW mX5_addAsker 1 350 0 (pfr mX5_addAsker.2.2.1 [.ref a0, .int x1, .int x2, .int x3, .int x4]) [] M (qV Q) := by
  unfold w_X5_addAsker at h
  show PW mX5_addAsker 1 350 0 [.ref a0, .int x1, .int x2, .int x3, .int x4] [] M (qV Q)
  refine PW.aload_n (pc := 0) dX5_addAsker_0 rfl ?_
  refine PW.getI (pc := 1) dX5_addAsker_1 lf_X5_37 (ob hM.1 hs0 (by decide)) fx_5_8 ?_
  refine PW.bipush (pc := 4) dX5_addAsker_4 (v := 8) (by decide) ?_
  refine PW.icmp_ge (pc := 6) dX5_addAsker_6 (t := 60) (by decide) (fun hc => ?_) (fun hc => ?_)
  · have h := h.1 hc
    exact PW.ret0 (pc := 60) dX5_addAsker_60 hM.1 rfl ⟨hM, rfl, h⟩
  · have h := h.2 hc
    refine PW.aload_n (pc := 9) dX5_addAsker_9 rfl ?_
    refine PW.getR (pc := 10) dX5_addAsker_10 (r := (a0 + 4)) lf_X5_40 (ob hM.1 hs0 (by decide)) fx_5_9 (oR_5_9 hM hs0) (pS_ne (oS_5_9 hs0)) ?_
    refine PW.aload_n (pc := 13) dX5_addAsker_13 rfl ?_
    refine PW.getI (pc := 14) dX5_addAsker_14 lf_X5_37 (ob hM.1 hs0 (by decide)) fx_5_8 ?_
    refine PW.iload_n (pc := 17) dX5_addAsker_17 rfl ?_
    obtain ⟨v1, h⟩ := h
    refine PW.iast (pc := 18) dX5_addAsker_18 (ar hM.1 (oS_5_9 hs0)) (vpl (oN_5_9 hs0) v1) ?_
    refine PW.aload_n (pc := 19) dX5_addAsker_19 rfl ?_
    refine PW.getR (pc := 20) dX5_addAsker_20 (r := (a0 + 5)) lf_X5_43 (ob hM.1 hs0 (by decide)) fx_5_10 (oR_5_10 (hM.same rfl rfl) hs0) (pS_ne (oS_5_10 hs0)) ?_
    refine PW.aload_n (pc := 23) dX5_addAsker_23 rfl ?_
    refine PW.getI (pc := 24) dX5_addAsker_24 lf_X5_37 (ob hM.1 hs0 (by decide)) fx_5_8 ?_
    refine PW.iload_n (pc := 27) dX5_addAsker_27 rfl ?_
    obtain ⟨v2, h⟩ := h
    refine PW.iast (pc := 28) dX5_addAsker_28 (ar hM.1 (oS_5_10 hs0)) (vpl (oN_5_10 hs0) v2) ?_
    refine PW.aload_n (pc := 29) dX5_addAsker_29 rfl ?_
    refine PW.getR (pc := 30) dX5_addAsker_30 (r := (a0 + 6)) lf_X5_46 (ob hM.1 hs0 (by decide)) fx_5_11 (oR_5_11 (hM.same rfl rfl) hs0) (pS_ne (oS_5_11 hs0)) ?_
    refine PW.aload_n (pc := 33) dX5_addAsker_33 rfl ?_
    refine PW.getI (pc := 34) dX5_addAsker_34 lf_X5_37 (ob hM.1 hs0 (by decide)) fx_5_8 ?_
    refine PW.iload_n (pc := 37) dX5_addAsker_37 rfl ?_
    obtain ⟨v3, h⟩ := h
    refine PW.iast (pc := 38) dX5_addAsker_38 (ar hM.1 (oS_5_11 hs0)) (vpl (oN_5_11 hs0) v3) ?_
    refine PW.aload_n (pc := 39) dX5_addAsker_39 rfl ?_
    refine PW.getR (pc := 40) dX5_addAsker_40 (r := (a0 + 7)) lf_X5_49 (ob hM.1 hs0 (by decide)) fx_5_12 (oR_5_12 (hM.same rfl rfl) hs0) (pS_ne (oS_5_12 hs0)) ?_
    refine PW.aload_n (pc := 43) dX5_addAsker_43 rfl ?_
    refine PW.getI (pc := 44) dX5_addAsker_44 lf_X5_37 (ob hM.1 hs0 (by decide)) fx_5_8 ?_
    refine PW.iload (pc := 47) dX5_addAsker_47 rfl ?_
    obtain ⟨v4, h⟩ := h
    refine PW.iast (pc := 49) dX5_addAsker_49 (ar hM.1 (oS_5_12 hs0)) (vpl (oN_5_12 hs0) v4) ?_
    refine PW.aload_n (pc := 50) dX5_addAsker_50 rfl ?_
    refine PW.dupR (pc := 51) dX5_addAsker_51 ?_
    refine PW.getI (pc := 52) dX5_addAsker_52 lf_X5_37 (ob hM.1 hs0 (by decide)) fx_5_8 ?_
    refine PW.iconst (pc := 55) dX5_addAsker_55 (v := 1) (by decide) ?_
    refine PW.iadd (pc := 56) dX5_addAsker_56 ?_
    refine PW.putI (pc := 57) dX5_addAsker_57 lf_X5_37 (ob hM.1 hs0 (by decide)) fx_5_8 fw_5_8 rfl rfl ?_
    exact PW.ret0 (pc := 60) dX5_addAsker_60 hM.1 rfl ⟨(hM.same rfl rfl), rfl, h⟩
def w_X3_readAsker (a1 : Nat) (M : pm) (Q : pm → Prop) : Prop := (((mI M a1 8) < 8 → (w_X6_take  M (fun M1 => w_X3_readNewName a1 M1 (fun y5 M4 => w_X6_needWord 5 M4 (fun M7 => w_X3_readSongName a1 M7 (fun y11 M10 => w_X6_needWord 6 M10 (fun M13 => w_X6_needNumber 0 99 M13 (fun y17 M16 => w_X6_needWord 7 M16 (fun M19 => w_X6_needNumber 0 99 M19 (fun y23 M22 => w_X5_addAsker a1 y5 y11 y17 y23 M22 (fun M25 => Q M25))))))))))) ∧ (¬ (mI M a1 8) < 8 → (w_X6_fail 5 (mI M 6 4) M (fun M28 => Q M28))))
set_option maxRecDepth 4000 in
theorem c_X3_readAsker {a1 : Nat} {M : pm} {Q : pm → Prop} (hs1 : pS 5 a1) (hM : pG M) (h : w_X3_readAsker a1 M Q) : PW mX3_readAsker 4 350 0 (pfr mX3_readAsker.2.2.1 [.ref 5, .ref a1]) [] M (qV Q) := by
  unfold w_X3_readAsker at h
  show PW mX3_readAsker 4 350 0 [.ref 5, .ref a1, .null, .null, .null, .null] [] M (qV Q)
  refine PW.aload_n (pc := 0) dX3_readAsker_0 rfl ?_
  refine PW.getI (pc := 1) dX3_readAsker_1 lf_X3_139 (ob hM.1 hs1 (by decide)) fx_5_8 ?_
  refine PW.bipush (pc := 4) dX3_readAsker_4 (v := 8) (by decide) ?_
  refine PW.icmp_lt (pc := 6) dX3_readAsker_6 (t := 25) (by decide) (fun hc => ?_) (fun hc => ?_)
  · have h := h.1 hc
    refine PW.aload_n (pc := 25) dX3_readAsker_25 rfl ?_
    refine PW.getR (pc := 26) dX3_readAsker_26 (r := 6) lf_X3_12 (ob hM.1 s_5 (by decide)) fx_3_0 (oR_3_0 hM s_5) (pS_ne s_6) ?_
    refine PW.inv (m' := mX6_take) (pc := 29) dX3_readAsker_29 lm_X3_77 me_X6_take mi_X6_take (ob hM.1 s_6 (by decide)) rfl (As := []) (st := []) rfl (Nat.le_of_ble_eq_true rfl) (Nat.le_of_ble_eq_true rfl) (Nat.le_of_eq hM.1) (Nat.le_refl _) (PW.deep (by decide) (c_X6_take  hM h)) ?_
    rintro _ M1 ⟨hM3, rfl, h⟩
    refine PW.aload_n (pc := 32) dX3_readAsker_32 rfl ?_
    refine PW.aload_n (pc := 33) dX3_readAsker_33 rfl ?_
    refine PW.inv (m' := mX3_readNewName) (pc := 34) dX3_readAsker_34 lm_X3_128 me_X3_readNewName mi_X3_readNewName (ob hM3.1 s_5 (by decide)) rfl (As := [.ref a1]) (st := []) rfl (Nat.le_of_ble_eq_true rfl) (Nat.le_of_ble_eq_true rfl) (Nat.le_of_eq hM3.1) (Nat.le_refl _) (PW.deep (by decide) (c_X3_readNewName hs1 hM3 h)) ?_
    rintro _ M4 ⟨hM6, y5, rfl, h⟩
    refine PW.istore_n (pc := 37) dX3_readAsker_37 (ls' := [.ref 5, .ref a1, .int y5, .null, .null, .null]) (by decide) rfl rfl ?_
    refine PW.aload_n (pc := 38) dX3_readAsker_38 rfl ?_
    refine PW.getR (pc := 39) dX3_readAsker_39 (r := 6) lf_X3_12 (ob hM6.1 s_5 (by decide)) fx_3_0 (oR_3_0 hM6 s_5) (pS_ne s_6) ?_
    refine PW.iconst (pc := 42) dX3_readAsker_42 (v := 5) (by decide) ?_
    refine PW.inv (m' := mX6_needWord) (pc := 43) dX3_readAsker_43 lm_X3_132 me_X6_needWord mi_X6_needWord (ob hM6.1 s_6 (by decide)) rfl (As := [.int 5]) (st := []) rfl (Nat.le_of_ble_eq_true rfl) (Nat.le_of_ble_eq_true rfl) (Nat.le_of_eq hM6.1) (Nat.le_refl _) (PW.deep (by decide) (c_X6_needWord  hM6 h)) ?_
    rintro _ M7 ⟨hM9, rfl, h⟩
    refine PW.aload_n (pc := 46) dX3_readAsker_46 rfl ?_
    refine PW.aload_n (pc := 47) dX3_readAsker_47 rfl ?_
    refine PW.inv (m' := mX3_readSongName) (pc := 48) dX3_readAsker_48 lm_X3_142 me_X3_readSongName mi_X3_readSongName (ob hM9.1 s_5 (by decide)) rfl (As := [.ref a1]) (st := []) rfl (Nat.le_of_ble_eq_true rfl) (Nat.le_of_ble_eq_true rfl) (Nat.le_of_eq hM9.1) (Nat.le_refl _) (PW.deep (by decide) (c_X3_readSongName hs1 hM9 h)) ?_
    rintro _ M10 ⟨hM12, y11, rfl, h⟩
    refine PW.istore_n (pc := 51) dX3_readAsker_51 (ls' := [.ref 5, .ref a1, .int y5, .int y11, .null, .null]) (by decide) rfl rfl ?_
    refine PW.aload_n (pc := 52) dX3_readAsker_52 rfl ?_
    refine PW.getR (pc := 53) dX3_readAsker_53 (r := 6) lf_X3_12 (ob hM12.1 s_5 (by decide)) fx_3_0 (oR_3_0 hM12 s_5) (pS_ne s_6) ?_
    refine PW.bipush (pc := 56) dX3_readAsker_56 (v := 6) (by decide) ?_
    refine PW.inv (m' := mX6_needWord) (pc := 58) dX3_readAsker_58 lm_X3_132 me_X6_needWord mi_X6_needWord (ob hM12.1 s_6 (by decide)) rfl (As := [.int 6]) (st := []) rfl (Nat.le_of_ble_eq_true rfl) (Nat.le_of_ble_eq_true rfl) (Nat.le_of_eq hM12.1) (Nat.le_refl _) (PW.deep (by decide) (c_X6_needWord  hM12 h)) ?_
    rintro _ M13 ⟨hM15, rfl, h⟩
    refine PW.aload_n (pc := 61) dX3_readAsker_61 rfl ?_
    refine PW.getR (pc := 62) dX3_readAsker_62 (r := 6) lf_X3_12 (ob hM15.1 s_5 (by decide)) fx_3_0 (oR_3_0 hM15 s_5) (pS_ne s_6) ?_
    refine PW.iconst (pc := 65) dX3_readAsker_65 (v := 0) (by decide) ?_
    refine PW.bipush (pc := 66) dX3_readAsker_66 (v := 99) (by decide) ?_
    refine PW.inv (m' := mX6_needNumber) (pc := 68) dX3_readAsker_68 lm_X3_96 me_X6_needNumber mi_X6_needNumber (ob hM15.1 s_6 (by decide)) rfl (As := [.int 0, .int 99]) (st := []) rfl (Nat.le_of_ble_eq_true rfl) (Nat.le_of_ble_eq_true rfl) (Nat.le_of_eq hM15.1) (Nat.le_refl _) (PW.deep (by decide) (c_X6_needNumber  hM15 h)) ?_
    rintro _ M16 ⟨hM18, y17, rfl, h⟩
    refine PW.istore (pc := 71) dX3_readAsker_71 (ls' := [.ref 5, .ref a1, .int y5, .int y11, .int y17, .null]) (by decide) rfl rfl ?_
    refine PW.aload_n (pc := 73) dX3_readAsker_73 rfl ?_
    refine PW.getR (pc := 74) dX3_readAsker_74 (r := 6) lf_X3_12 (ob hM18.1 s_5 (by decide)) fx_3_0 (oR_3_0 hM18 s_5) (pS_ne s_6) ?_
    refine PW.bipush (pc := 77) dX3_readAsker_77 (v := 7) (by decide) ?_
    refine PW.inv (m' := mX6_needWord) (pc := 79) dX3_readAsker_79 lm_X3_132 me_X6_needWord mi_X6_needWord (ob hM18.1 s_6 (by decide)) rfl (As := [.int 7]) (st := []) rfl (Nat.le_of_ble_eq_true rfl) (Nat.le_of_ble_eq_true rfl) (Nat.le_of_eq hM18.1) (Nat.le_refl _) (PW.deep (by decide) (c_X6_needWord  hM18 h)) ?_
    rintro _ M19 ⟨hM21, rfl, h⟩
    refine PW.aload_n (pc := 82) dX3_readAsker_82 rfl ?_
    refine PW.getR (pc := 83) dX3_readAsker_83 (r := 6) lf_X3_12 (ob hM21.1 s_5 (by decide)) fx_3_0 (oR_3_0 hM21 s_5) (pS_ne s_6) ?_
    refine PW.iconst (pc := 86) dX3_readAsker_86 (v := 0) (by decide) ?_
    refine PW.bipush (pc := 87) dX3_readAsker_87 (v := 99) (by decide) ?_
    refine PW.inv (m' := mX6_needNumber) (pc := 89) dX3_readAsker_89 lm_X3_96 me_X6_needNumber mi_X6_needNumber (ob hM21.1 s_6 (by decide)) rfl (As := [.int 0, .int 99]) (st := []) rfl (Nat.le_of_ble_eq_true rfl) (Nat.le_of_ble_eq_true rfl) (Nat.le_of_eq hM21.1) (Nat.le_refl _) (PW.deep (by decide) (c_X6_needNumber  hM21 h)) ?_
    rintro _ M22 ⟨hM24, y23, rfl, h⟩
    refine PW.istore (pc := 92) dX3_readAsker_92 (ls' := [.ref 5, .ref a1, .int y5, .int y11, .int y17, .int y23]) (by decide) rfl rfl ?_
    refine PW.aload_n (pc := 94) dX3_readAsker_94 rfl ?_
    refine PW.iload_n (pc := 95) dX3_readAsker_95 rfl ?_
    refine PW.iload_n (pc := 96) dX3_readAsker_96 rfl ?_
    refine PW.iload (pc := 97) dX3_readAsker_97 rfl ?_
    refine PW.iload (pc := 99) dX3_readAsker_99 rfl ?_
    refine PW.inv (m' := mX5_addAsker) (pc := 101) dX3_readAsker_101 lm_X3_145 me_X5_addAsker mi_X5_addAsker (ob hM24.1 hs1 (by decide)) rfl (As := [.int y5, .int y11, .int y17, .int y23]) (st := []) rfl (Nat.le_of_ble_eq_true rfl) (Nat.le_of_ble_eq_true rfl) (Nat.le_of_eq hM24.1) (Nat.le_refl _) (PW.deep (by decide) (c_X5_addAsker hs1 hM24 h)) ?_
    rintro _ M25 ⟨hM27, rfl, h⟩
    exact PW.ret0 (pc := 104) dX3_readAsker_104 hM27.1 rfl ⟨hM27, rfl, h⟩
  · have h := h.2 hc
    refine PW.aload_n (pc := 9) dX3_readAsker_9 rfl ?_
    refine PW.getR (pc := 10) dX3_readAsker_10 (r := 6) lf_X3_12 (ob hM.1 s_5 (by decide)) fx_3_0 (oR_3_0 hM s_5) (pS_ne s_6) ?_
    refine PW.iconst (pc := 13) dX3_readAsker_13 (v := 5) (by decide) ?_
    refine PW.aload_n (pc := 14) dX3_readAsker_14 rfl ?_
    refine PW.getR (pc := 15) dX3_readAsker_15 (r := 6) lf_X3_12 (ob hM.1 s_5 (by decide)) fx_3_0 (oR_3_0 hM s_5) (pS_ne s_6) ?_
    refine PW.getI (pc := 18) dX3_readAsker_18 lf_X3_55 (ob hM.1 s_6 (by decide)) fx_6_4 ?_
    refine PW.inv (m' := mX6_fail) (pc := 21) dX3_readAsker_21 lm_X3_58 me_X6_fail mi_X6_fail (ob hM.1 s_6 (by decide)) rfl (As := [.int 5, .int (mI M 6 4)]) (st := []) rfl (Nat.le_of_ble_eq_true rfl) (Nat.le_of_ble_eq_true rfl) (Nat.le_of_eq hM.1) (Nat.le_refl _) (PW.deep (by decide) (c_X6_fail  hM h)) ?_
    rintro _ M28 ⟨hM30, rfl, h⟩
    exact PW.ret0 (pc := 24) dX3_readAsker_24 hM30.1 rfl ⟨hM30, rfl, h⟩
def w_X5_addEar (a0 : Nat) (x1 : Int32) (x2 : Int32) (M : pm) (Q : pm → Prop) : Prop := ((5 ≤ (mI M a0 13) → (Q M)) ∧ (¬ 5 ≤ (mI M a0 13) → (vp_in (mI M a0 13) 5 ∧ (vp_in (mI (sI M (a0 + 8) ((mI M a0 13).toNatClampNeg) x1) a0 13) 5 ∧ (Q (sI (sI (sI M (a0 + 8) ((mI M a0 13).toNatClampNeg) x1) (a0 + 9) ((mI (sI M (a0 + 8) ((mI M a0 13).toNatClampNeg) x1) a0 13).toNatClampNeg) x2) a0 13 ((mI (sI (sI M (a0 + 8) ((mI M a0 13).toNatClampNeg) x1) (a0 + 9) ((mI (sI M (a0 + 8) ((mI M a0 13).toNatClampNeg) x1) a0 13).toNatClampNeg) x2) a0 13) + 1)))))))
set_option maxRecDepth 4000 in
theorem c_X5_addEar {a0 : Nat} {x1 : Int32} {x2 : Int32} {M : pm} {Q : pm → Prop} (hs0 : pS 5 a0) (hM : pG M) (h : w_X5_addEar a0 x1 x2 M Q) : PW mX5_addEar 1 350 0 (pfr mX5_addEar.2.2.1 [.ref a0, .int x1, .int x2]) [] M (qV Q) := by
  unfold w_X5_addEar at h
  show PW mX5_addEar 1 350 0 [.ref a0, .int x1, .int x2] [] M (qV Q)
  refine PW.aload_n (pc := 0) dX5_addEar_0 rfl ?_
  refine PW.getI (pc := 1) dX5_addEar_1 lf_X5_52 (ob hM.1 hs0 (by decide)) fx_5_13 ?_
  refine PW.iconst (pc := 4) dX5_addEar_4 (v := 5) (by decide) ?_
  refine PW.icmp_ge (pc := 5) dX5_addEar_5 (t := 38) (by decide) (fun hc => ?_) (fun hc => ?_)
  · have h := h.1 hc
    exact PW.ret0 (pc := 38) dX5_addEar_38 hM.1 rfl ⟨hM, rfl, h⟩
  · have h := h.2 hc
    refine PW.aload_n (pc := 8) dX5_addEar_8 rfl ?_
    refine PW.getR (pc := 9) dX5_addEar_9 (r := (a0 + 8)) lf_X5_55 (ob hM.1 hs0 (by decide)) fx_5_14 (oR_5_14 hM hs0) (pS_ne (oS_5_14 hs0)) ?_
    refine PW.aload_n (pc := 12) dX5_addEar_12 rfl ?_
    refine PW.getI (pc := 13) dX5_addEar_13 lf_X5_52 (ob hM.1 hs0 (by decide)) fx_5_13 ?_
    refine PW.iload_n (pc := 16) dX5_addEar_16 rfl ?_
    obtain ⟨v1, h⟩ := h
    refine PW.iast (pc := 17) dX5_addEar_17 (ar hM.1 (oS_5_14 hs0)) (vpl (oN_5_14 hs0) v1) ?_
    refine PW.aload_n (pc := 18) dX5_addEar_18 rfl ?_
    refine PW.getR (pc := 19) dX5_addEar_19 (r := (a0 + 9)) lf_X5_58 (ob hM.1 hs0 (by decide)) fx_5_15 (oR_5_15 (hM.same rfl rfl) hs0) (pS_ne (oS_5_15 hs0)) ?_
    refine PW.aload_n (pc := 22) dX5_addEar_22 rfl ?_
    refine PW.getI (pc := 23) dX5_addEar_23 lf_X5_52 (ob hM.1 hs0 (by decide)) fx_5_13 ?_
    refine PW.iload_n (pc := 26) dX5_addEar_26 rfl ?_
    obtain ⟨v2, h⟩ := h
    refine PW.iast (pc := 27) dX5_addEar_27 (ar hM.1 (oS_5_15 hs0)) (vpl (oN_5_15 hs0) v2) ?_
    refine PW.aload_n (pc := 28) dX5_addEar_28 rfl ?_
    refine PW.dupR (pc := 29) dX5_addEar_29 ?_
    refine PW.getI (pc := 30) dX5_addEar_30 lf_X5_52 (ob hM.1 hs0 (by decide)) fx_5_13 ?_
    refine PW.iconst (pc := 33) dX5_addEar_33 (v := 1) (by decide) ?_
    refine PW.iadd (pc := 34) dX5_addEar_34 ?_
    refine PW.putI (pc := 35) dX5_addEar_35 lf_X5_52 (ob hM.1 hs0 (by decide)) fx_5_13 fw_5_13 rfl rfl ?_
    exact PW.ret0 (pc := 38) dX5_addEar_38 hM.1 rfl ⟨(hM.same rfl rfl), rfl, h⟩
def w_X3_readEar (a1 : Nat) (M : pm) (Q : pm → Prop) : Prop := (((mI M a1 13) < 5 → (w_X6_take  M (fun M1 => w_X3_readNewName a1 M1 (fun y5 M4 => w_X6_needWord 9 M4 (fun M7 => w_X6_needNumber 0 9 M7 (fun y11 M10 => w_X5_addEar a1 y5 y11 M10 (fun M13 => Q M13))))))) ∧ (¬ (mI M a1 13) < 5 → (w_X6_fail 5 (mI M 6 4) M (fun M16 => Q M16))))
set_option maxRecDepth 4000 in
theorem c_X3_readEar {a1 : Nat} {M : pm} {Q : pm → Prop} (hs1 : pS 5 a1) (hM : pG M) (h : w_X3_readEar a1 M Q) : PW mX3_readEar 4 350 0 (pfr mX3_readEar.2.2.1 [.ref 5, .ref a1]) [] M (qV Q) := by
  unfold w_X3_readEar at h
  show PW mX3_readEar 4 350 0 [.ref 5, .ref a1, .null, .null] [] M (qV Q)
  refine PW.aload_n (pc := 0) dX3_readEar_0 rfl ?_
  refine PW.getI (pc := 1) dX3_readEar_1 lf_X3_149 (ob hM.1 hs1 (by decide)) fx_5_13 ?_
  refine PW.iconst (pc := 4) dX3_readEar_4 (v := 5) (by decide) ?_
  refine PW.icmp_lt (pc := 5) dX3_readEar_5 (t := 24) (by decide) (fun hc => ?_) (fun hc => ?_)
  · have h := h.1 hc
    refine PW.aload_n (pc := 24) dX3_readEar_24 rfl ?_
    refine PW.getR (pc := 25) dX3_readEar_25 (r := 6) lf_X3_12 (ob hM.1 s_5 (by decide)) fx_3_0 (oR_3_0 hM s_5) (pS_ne s_6) ?_
    refine PW.inv (m' := mX6_take) (pc := 28) dX3_readEar_28 lm_X3_77 me_X6_take mi_X6_take (ob hM.1 s_6 (by decide)) rfl (As := []) (st := []) rfl (Nat.le_of_ble_eq_true rfl) (Nat.le_of_ble_eq_true rfl) (Nat.le_of_eq hM.1) (Nat.le_refl _) (PW.deep (by decide) (c_X6_take  hM h)) ?_
    rintro _ M1 ⟨hM3, rfl, h⟩
    refine PW.aload_n (pc := 31) dX3_readEar_31 rfl ?_
    refine PW.aload_n (pc := 32) dX3_readEar_32 rfl ?_
    refine PW.inv (m' := mX3_readNewName) (pc := 33) dX3_readEar_33 lm_X3_128 me_X3_readNewName mi_X3_readNewName (ob hM3.1 s_5 (by decide)) rfl (As := [.ref a1]) (st := []) rfl (Nat.le_of_ble_eq_true rfl) (Nat.le_of_ble_eq_true rfl) (Nat.le_of_eq hM3.1) (Nat.le_refl _) (PW.deep (by decide) (c_X3_readNewName hs1 hM3 h)) ?_
    rintro _ M4 ⟨hM6, y5, rfl, h⟩
    refine PW.istore_n (pc := 36) dX3_readEar_36 (ls' := [.ref 5, .ref a1, .int y5, .null]) (by decide) rfl rfl ?_
    refine PW.aload_n (pc := 37) dX3_readEar_37 rfl ?_
    refine PW.getR (pc := 38) dX3_readEar_38 (r := 6) lf_X3_12 (ob hM6.1 s_5 (by decide)) fx_3_0 (oR_3_0 hM6 s_5) (pS_ne s_6) ?_
    refine PW.bipush (pc := 41) dX3_readEar_41 (v := 9) (by decide) ?_
    refine PW.inv (m' := mX6_needWord) (pc := 43) dX3_readEar_43 lm_X3_132 me_X6_needWord mi_X6_needWord (ob hM6.1 s_6 (by decide)) rfl (As := [.int 9]) (st := []) rfl (Nat.le_of_ble_eq_true rfl) (Nat.le_of_ble_eq_true rfl) (Nat.le_of_eq hM6.1) (Nat.le_refl _) (PW.deep (by decide) (c_X6_needWord  hM6 h)) ?_
    rintro _ M7 ⟨hM9, rfl, h⟩
    refine PW.aload_n (pc := 46) dX3_readEar_46 rfl ?_
    refine PW.getR (pc := 47) dX3_readEar_47 (r := 6) lf_X3_12 (ob hM9.1 s_5 (by decide)) fx_3_0 (oR_3_0 hM9 s_5) (pS_ne s_6) ?_
    refine PW.iconst (pc := 50) dX3_readEar_50 (v := 0) (by decide) ?_
    refine PW.bipush (pc := 51) dX3_readEar_51 (v := 9) (by decide) ?_
    refine PW.inv (m' := mX6_needNumber) (pc := 53) dX3_readEar_53 lm_X3_96 me_X6_needNumber mi_X6_needNumber (ob hM9.1 s_6 (by decide)) rfl (As := [.int 0, .int 9]) (st := []) rfl (Nat.le_of_ble_eq_true rfl) (Nat.le_of_ble_eq_true rfl) (Nat.le_of_eq hM9.1) (Nat.le_refl _) (PW.deep (by decide) (c_X6_needNumber  hM9 h)) ?_
    rintro _ M10 ⟨hM12, y11, rfl, h⟩
    refine PW.istore_n (pc := 56) dX3_readEar_56 (ls' := [.ref 5, .ref a1, .int y5, .int y11]) (by decide) rfl rfl ?_
    refine PW.aload_n (pc := 57) dX3_readEar_57 rfl ?_
    refine PW.iload_n (pc := 58) dX3_readEar_58 rfl ?_
    refine PW.iload_n (pc := 59) dX3_readEar_59 rfl ?_
    refine PW.inv (m' := mX5_addEar) (pc := 60) dX3_readEar_60 lm_X3_152 me_X5_addEar mi_X5_addEar (ob hM12.1 hs1 (by decide)) rfl (As := [.int y5, .int y11]) (st := []) rfl (Nat.le_of_ble_eq_true rfl) (Nat.le_of_ble_eq_true rfl) (Nat.le_of_eq hM12.1) (Nat.le_refl _) (PW.deep (by decide) (c_X5_addEar hs1 hM12 h)) ?_
    rintro _ M13 ⟨hM15, rfl, h⟩
    exact PW.ret0 (pc := 63) dX3_readEar_63 hM15.1 rfl ⟨hM15, rfl, h⟩
  · have h := h.2 hc
    refine PW.aload_n (pc := 8) dX3_readEar_8 rfl ?_
    refine PW.getR (pc := 9) dX3_readEar_9 (r := 6) lf_X3_12 (ob hM.1 s_5 (by decide)) fx_3_0 (oR_3_0 hM s_5) (pS_ne s_6) ?_
    refine PW.iconst (pc := 12) dX3_readEar_12 (v := 5) (by decide) ?_
    refine PW.aload_n (pc := 13) dX3_readEar_13 rfl ?_
    refine PW.getR (pc := 14) dX3_readEar_14 (r := 6) lf_X3_12 (ob hM.1 s_5 (by decide)) fx_3_0 (oR_3_0 hM s_5) (pS_ne s_6) ?_
    refine PW.getI (pc := 17) dX3_readEar_17 lf_X3_55 (ob hM.1 s_6 (by decide)) fx_6_4 ?_
    refine PW.inv (m' := mX6_fail) (pc := 20) dX3_readEar_20 lm_X3_58 me_X6_fail mi_X6_fail (ob hM.1 s_6 (by decide)) rfl (As := [.int 5, .int (mI M 6 4)]) (st := []) rfl (Nat.le_of_ble_eq_true rfl) (Nat.le_of_ble_eq_true rfl) (Nat.le_of_eq hM.1) (Nat.le_refl _) (PW.deep (by decide) (c_X6_fail  hM h)) ?_
    rintro _ M16 ⟨hM18, rfl, h⟩
    exact PW.ret0 (pc := 23) dX3_readEar_23 hM18.1 rfl ⟨hM18, rfl, h⟩
def w_X3_mayOpen (x1 : Int32) (M : pm) (Q : Int32 → pm → Prop) : Prop := ((x1 < 6 → ((6 ≤ x1 → (Q 0 M)) ∧ (¬ 6 ≤ x1 → (Q 1 M)))) ∧ (¬ x1 < 6 → (w_X6_fail 4 (mI M 6 4) M (fun M1 => ((6 ≤ x1 → (Q 0 M1)) ∧ (¬ 6 ≤ x1 → (Q 1 M1)))))))
set_option maxRecDepth 4000 in
theorem c_X3_mayOpen {x1 : Int32} {M : pm} {Q : Int32 → pm → Prop}  (hM : pG M) (h : w_X3_mayOpen x1 M Q) : PW mX3_mayOpen 2 350 0 (pfr mX3_mayOpen.2.2.1 [.ref 5, .int x1]) [] M (qZ Q) := by
  unfold w_X3_mayOpen at h
  show PW mX3_mayOpen 2 350 0 [.ref 5, .int x1] [] M (qZ Q)
  refine PW.iload_n (pc := 0) dX3_mayOpen_0 rfl ?_
  refine PW.bipush (pc := 1) dX3_mayOpen_1 (v := 6) (by decide) ?_
  refine PW.icmp_lt (pc := 3) dX3_mayOpen_3 (t := 21) (by decide) (fun hc => ?_) (fun hc => ?_)
  · have h := h.1 hc
    refine PW.iload_n (pc := 21) dX3_mayOpen_21 rfl ?_
    refine PW.bipush (pc := 22) dX3_mayOpen_22 (v := 6) (by decide) ?_
    refine PW.icmp_ge (pc := 24) dX3_mayOpen_24 (t := 31) (by decide) (fun hc => ?_) (fun hc => ?_)
    · have h := h.1 hc
      refine PW.iconst (pc := 31) dX3_mayOpen_31 (v := 0) (by decide) ?_
      exact PW.retI (pc := 32) dX3_mayOpen_32 hM.1 rfl (bz_n bz0) ⟨hM, _, rfl, bz0, h⟩
    · have h := h.2 hc
      refine PW.iconst (pc := 27) dX3_mayOpen_27 (v := 1) (by decide) ?_
      refine PW.goto (pc := 28) dX3_mayOpen_28 (t := 32) (by decide) ?_
      exact PW.retI (pc := 32) dX3_mayOpen_32 hM.1 rfl (bz_n bz1) ⟨hM, _, rfl, bz1, h⟩
  · have h := h.2 hc
    refine PW.aload_n (pc := 6) dX3_mayOpen_6 rfl ?_
    refine PW.getR (pc := 7) dX3_mayOpen_7 (r := 6) lf_X3_12 (ob hM.1 s_5 (by decide)) fx_3_0 (oR_3_0 hM s_5) (pS_ne s_6) ?_
    refine PW.iconst (pc := 10) dX3_mayOpen_10 (v := 4) (by decide) ?_
    refine PW.aload_n (pc := 11) dX3_mayOpen_11 rfl ?_
    refine PW.getR (pc := 12) dX3_mayOpen_12 (r := 6) lf_X3_12 (ob hM.1 s_5 (by decide)) fx_3_0 (oR_3_0 hM s_5) (pS_ne s_6) ?_
    refine PW.getI (pc := 15) dX3_mayOpen_15 lf_X3_55 (ob hM.1 s_6 (by decide)) fx_6_4 ?_
    refine PW.inv (m' := mX6_fail) (pc := 18) dX3_mayOpen_18 lm_X3_58 me_X6_fail mi_X6_fail (ob hM.1 s_6 (by decide)) rfl (As := [.int 4, .int (mI M 6 4)]) (st := []) rfl (Nat.le_of_ble_eq_true rfl) (Nat.le_of_ble_eq_true rfl) (Nat.le_of_eq hM.1) (Nat.le_refl _) (PW.deep (by decide) (c_X6_fail  hM h)) ?_
    rintro _ M1 ⟨hM3, rfl, h⟩
    refine PW.iload_n (pc := 21) dX3_mayOpen_21 rfl ?_
    refine PW.bipush (pc := 22) dX3_mayOpen_22 (v := 6) (by decide) ?_
    refine PW.icmp_ge (pc := 24) dX3_mayOpen_24 (t := 31) (by decide) (fun hc => ?_) (fun hc => ?_)
    · have h := h.1 hc
      refine PW.iconst (pc := 31) dX3_mayOpen_31 (v := 0) (by decide) ?_
      exact PW.retI (pc := 32) dX3_mayOpen_32 hM3.1 rfl (bz_n bz0) ⟨hM3, _, rfl, bz0, h⟩
    · have h := h.2 hc
      refine PW.iconst (pc := 27) dX3_mayOpen_27 (v := 1) (by decide) ?_
      refine PW.goto (pc := 28) dX3_mayOpen_28 (t := 32) (by decide) ?_
      exact PW.retI (pc := 32) dX3_mayOpen_32 hM3.1 rfl (bz_n bz1) ⟨hM3, _, rfl, bz1, h⟩
def w_X6_isSign (x1 : Int32) (M : pm) (Q : Int32 → pm → Prop) : Prop := ((¬ (mI M 6 3) = 3 → (Q 0 M)) ∧ ((mI M 6 3) = 3 → (((mI M 6 4) < 0 → (Q 0 M)) ∧ (¬ (mI M 6 4) < 0 → (((mI M 6 2) ≤ (mI M 6 4) → (Q 0 M)) ∧ (¬ (mI M 6 2) ≤ (mI M 6 4) → (vp_in (mI M 6 4) (lay (mR M 6 1)).2 ∧ ((¬ (mI M (mR M 6 1) ((mI M 6 4).toNatClampNeg)) = x1 → (Q 0 M)) ∧ ((mI M (mR M 6 1) ((mI M 6 4).toNatClampNeg)) = x1 → (Q 1 M))))))))))
set_option maxRecDepth 4000 in
theorem c_X6_isSign {x1 : Int32} {M : pm} {Q : Int32 → pm → Prop}  (hM : pG M) (h : w_X6_isSign x1 M Q) : PW mX6_isSign 1 350 0 (pfr mX6_isSign.2.2.1 [.ref 6, .int x1]) [] M (qZ Q) := by
  unfold w_X6_isSign at h
  show PW mX6_isSign 1 350 0 [.ref 6, .int x1] [] M (qZ Q)
  refine PW.aload_n (pc := 0) dX6_isSign_0 rfl ?_
  refine PW.getI (pc := 1) dX6_isSign_1 lf_X6_23 (ob hM.1 s_6 (by decide)) fx_6_3 ?_
  refine PW.iconst (pc := 4) dX6_isSign_4 (v := 3) (by decide) ?_
  refine PW.icmp_ne (pc := 5) dX6_isSign_5 (t := 43) (by decide) (fun hc => ?_) (fun hc => ?_)
  · have h := h.1 hc
    refine PW.iconst (pc := 43) dX6_isSign_43 (v := 0) (by decide) ?_
    exact PW.retI (pc := 44) dX6_isSign_44 hM.1 rfl (bz_n bz0) ⟨hM, _, rfl, bz0, h⟩
  · have h := h.2 hc
    refine PW.aload_n (pc := 8) dX6_isSign_8 rfl ?_
    refine PW.getI (pc := 9) dX6_isSign_9 lf_X6_26 (ob hM.1 s_6 (by decide)) fx_6_4 ?_
    refine PW.if_lt (pc := 12) dX6_isSign_12 (t := 43) (by decide) (fun hc => ?_) (fun hc => ?_)
    · have h := h.1 hc
      refine PW.iconst (pc := 43) dX6_isSign_43 (v := 0) (by decide) ?_
      exact PW.retI (pc := 44) dX6_isSign_44 hM.1 rfl (bz_n bz0) ⟨hM, _, rfl, bz0, h⟩
    · have h := h.2 hc
      refine PW.aload_n (pc := 15) dX6_isSign_15 rfl ?_
      refine PW.getI (pc := 16) dX6_isSign_16 lf_X6_26 (ob hM.1 s_6 (by decide)) fx_6_4 ?_
      refine PW.aload_n (pc := 19) dX6_isSign_19 rfl ?_
      refine PW.getI (pc := 20) dX6_isSign_20 lf_X6_19 (ob hM.1 s_6 (by decide)) fx_6_2 ?_
      refine PW.icmp_ge (pc := 23) dX6_isSign_23 (t := 43) (by decide) (fun hc => ?_) (fun hc => ?_)
      · have h := h.1 hc
        refine PW.iconst (pc := 43) dX6_isSign_43 (v := 0) (by decide) ?_
        exact PW.retI (pc := 44) dX6_isSign_44 hM.1 rfl (bz_n bz0) ⟨hM, _, rfl, bz0, h⟩
      · have h := h.2 hc
        refine PW.aload_n (pc := 26) dX6_isSign_26 rfl ?_
        refine PW.getR (pc := 27) dX6_isSign_27 (r := (mR M 6 1)) lf_X6_15 (ob hM.1 s_6 (by decide)) fx_6_1 rfl (pS_ne (hM.2.2.2.2.2.2.1)) ?_
        refine PW.aload_n (pc := 30) dX6_isSign_30 rfl ?_
        refine PW.getI (pc := 31) dX6_isSign_31 lf_X6_26 (ob hM.1 s_6 (by decide)) fx_6_4 ?_
        obtain ⟨v1, h⟩ := h
        refine PW.bald (pc := 34) dX6_isSign_34 (ar hM.1 (hM.2.2.2.2.2.2.1)) v1 ?_
        refine PW.iload_n (pc := 35) dX6_isSign_35 rfl ?_
        refine PW.icmp_ne (pc := 36) dX6_isSign_36 (t := 43) (by decide) (fun hc => ?_) (fun hc => ?_)
        · have h := h.1 hc
          refine PW.iconst (pc := 43) dX6_isSign_43 (v := 0) (by decide) ?_
          exact PW.retI (pc := 44) dX6_isSign_44 hM.1 rfl (bz_n bz0) ⟨hM, _, rfl, bz0, h⟩
        · have h := h.2 hc
          refine PW.iconst (pc := 39) dX6_isSign_39 (v := 1) (by decide) ?_
          refine PW.goto (pc := 40) dX6_isSign_40 (t := 44) (by decide) ?_
          exact PW.retI (pc := 44) dX6_isSign_44 hM.1 rfl (bz_n bz1) ⟨hM, _, rfl, bz1, h⟩
def w_X3_comparison  (M : pm) (Q : Int32 → pm → Prop) : Prop := w_X6_isSign 60 M (fun y2 M1 => ((y2 = 0 → (w_X6_isSign 62 M1 (fun y6 M5 => ((y6 = 0 → (w_X6_isSign 61 M5 (fun y10 M9 => ((y10 = 0 → (Q (-1) M9)) ∧ (¬ y10 = 0 → (Q 10006 M9)))))) ∧ (¬ y6 = 0 → (Q 10005 M5)))))) ∧ (¬ y2 = 0 → (Q 10004 M1))))
set_option maxRecDepth 4000 in
theorem c_X3_comparison  {M : pm} {Q : Int32 → pm → Prop}  (hM : pG M) (h : w_X3_comparison  M Q) : PW mX3_comparison 2 350 0 (pfr mX3_comparison.2.2.1 [.ref 5]) [] M (qI Q) := by
  unfold w_X3_comparison at h
  show PW mX3_comparison 2 350 0 [.ref 5] [] M (qI Q)
  refine PW.aload_n (pc := 0) dX3_comparison_0 rfl ?_
  refine PW.getR (pc := 1) dX3_comparison_1 (r := 6) lf_X3_12 (ob hM.1 s_5 (by decide)) fx_3_0 (oR_3_0 hM s_5) (pS_ne s_6) ?_
  refine PW.bipush (pc := 4) dX3_comparison_4 (v := 60) (by decide) ?_
  refine PW.inv (m' := mX6_isSign) (pc := 6) dX3_comparison_6 lm_X3_192 me_X6_isSign mi_X6_isSign (ob hM.1 s_6 (by decide)) rfl (As := [.int 60]) (st := []) rfl (Nat.le_of_ble_eq_true rfl) (Nat.le_of_ble_eq_true rfl) (Nat.le_of_eq hM.1) (Nat.le_refl _) (PW.deep (by decide) (c_X6_isSign  hM h)) ?_
  rintro _ M1 ⟨hM3, y2, rfl, z4, h⟩
  refine PW.if_eq (pc := 9) dX3_comparison_9 (t := 16) (by decide) (fun hc => ?_) (fun hc => ?_)
  · have h := h.1 hc
    refine PW.aload_n (pc := 16) dX3_comparison_16 rfl ?_
    refine PW.getR (pc := 17) dX3_comparison_17 (r := 6) lf_X3_12 (ob hM3.1 s_5 (by decide)) fx_3_0 (oR_3_0 hM3 s_5) (pS_ne s_6) ?_
    refine PW.bipush (pc := 20) dX3_comparison_20 (v := 62) (by decide) ?_
    refine PW.inv (m' := mX6_isSign) (pc := 22) dX3_comparison_22 lm_X3_192 me_X6_isSign mi_X6_isSign (ob hM3.1 s_6 (by decide)) rfl (As := [.int 62]) (st := []) rfl (Nat.le_of_ble_eq_true rfl) (Nat.le_of_ble_eq_true rfl) (Nat.le_of_eq hM3.1) (Nat.le_refl _) (PW.deep (by decide) (c_X6_isSign  hM3 h)) ?_
    rintro _ M5 ⟨hM7, y6, rfl, z8, h⟩
    refine PW.if_eq (pc := 25) dX3_comparison_25 (t := 32) (by decide) (fun hc => ?_) (fun hc => ?_)
    · have h := h.1 hc
      refine PW.aload_n (pc := 32) dX3_comparison_32 rfl ?_
      refine PW.getR (pc := 33) dX3_comparison_33 (r := 6) lf_X3_12 (ob hM7.1 s_5 (by decide)) fx_3_0 (oR_3_0 hM7 s_5) (pS_ne s_6) ?_
      refine PW.bipush (pc := 36) dX3_comparison_36 (v := 61) (by decide) ?_
      refine PW.inv (m' := mX6_isSign) (pc := 38) dX3_comparison_38 lm_X3_192 me_X6_isSign mi_X6_isSign (ob hM7.1 s_6 (by decide)) rfl (As := [.int 61]) (st := []) rfl (Nat.le_of_ble_eq_true rfl) (Nat.le_of_ble_eq_true rfl) (Nat.le_of_eq hM7.1) (Nat.le_refl _) (PW.deep (by decide) (c_X6_isSign  hM7 h)) ?_
      rintro _ M9 ⟨hM11, y10, rfl, z12, h⟩
      refine PW.if_eq (pc := 41) dX3_comparison_41 (t := 50) (by decide) (fun hc => ?_) (fun hc => ?_)
      · have h := h.1 hc
        refine PW.iconst (pc := 50) dX3_comparison_50 (v := (-1)) (by decide) ?_
        exact PW.retI (pc := 51) dX3_comparison_51 hM11.1 rfl rfl ⟨hM11, _, rfl, h⟩
      · have h := h.2 hc
        refine PW.sipush (pc := 44) dX3_comparison_44 (v := 10006) (by decide) ?_
        refine PW.goto (pc := 47) dX3_comparison_47 (t := 51) (by decide) ?_
        exact PW.retI (pc := 51) dX3_comparison_51 hM11.1 rfl rfl ⟨hM11, _, rfl, h⟩
    · have h := h.2 hc
      refine PW.sipush (pc := 28) dX3_comparison_28 (v := 10005) (by decide) ?_
      exact PW.retI (pc := 31) dX3_comparison_31 hM7.1 rfl rfl ⟨hM7, _, rfl, h⟩
  · have h := h.2 hc
    refine PW.sipush (pc := 12) dX3_comparison_12 (v := 10004) (by decide) ?_
    exact PW.retI (pc := 15) dX3_comparison_15 hM3.1 rfl rfl ⟨hM3, _, rfl, h⟩
def w_X3_isFact (x1 : Int32) (M : pm) (Q : Int32 → pm → Prop) : Prop := ((x1 = 2 → (bz (mI M 5 4) ∧ (Q (mI M 5 4) M))) ∧ (x1 = 3 → (bz (mI M 5 4) ∧ (Q (mI M 5 4) M))) ∧ (x1 = 7 → (Q 1 M)) ∧ (x1 = 15 → (Q 1 M)) ∧ (x1 = 16 → (Q 1 M)) ∧ (x1 = 17 → (Q 1 M)) ∧ (x1 = 18 → (Q 1 M)) ∧ (x1 = 19 → (bz (mI M 5 3) ∧ (Q (mI M 5 3) M))) ∧ (x1 = 20 → (bz (mI M 5 3) ∧ (Q (mI M 5 3) M))) ∧ (x1 = 21 → (bz (mI M 5 3) ∧ (Q (mI M 5 3) M))) ∧ (¬ x1 = 2 → ¬ x1 = 3 → ¬ x1 = 7 → ¬ x1 = 15 → ¬ x1 = 16 → ¬ x1 = 17 → ¬ x1 = 18 → ¬ x1 = 19 → ¬ x1 = 20 → ¬ x1 = 21 → (Q 0 M)))
set_option maxRecDepth 4000 in
theorem c_X3_isFact {x1 : Int32} {M : pm} {Q : Int32 → pm → Prop}  (hM : pG M) (h : w_X3_isFact x1 M Q) : PW mX3_isFact 1 350 0 (pfr mX3_isFact.2.2.1 [.ref 5, .int x1]) [] M (qZ Q) := by
  unfold w_X3_isFact at h
  show PW mX3_isFact 1 350 0 [.ref 5, .int x1] [] M (qZ Q)
  refine PW.iload_n (pc := 0) dX3_isFact_0 rfl ?_
  by_cases q2 : x1 = 2
  · have h := h.1 q2
    refine PW.tabIn (pc := 1) dX3_isFact_1 (by rw [q2]; decide) (by rw [q2]; decide) (off := 97) (by rw [q2]; decide) (t := 98) (by decide) ?_
    refine PW.aload_n (pc := 98) dX3_isFact_98 rfl ?_
    refine PW.getI (pc := 99) dX3_isFact_99 lf_X3_32 (ob hM.1 s_5 (by decide)) fx_3_4 ?_
    obtain ⟨v1, h⟩ := h
    exact PW.retI (pc := 102) dX3_isFact_102 hM.1 rfl (bz_n v1) ⟨hM, _, rfl, v1, h⟩
  by_cases q3 : x1 = 3
  · have h := h.2.1 q3
    refine PW.tabIn (pc := 1) dX3_isFact_1 (by rw [q3]; decide) (by rw [q3]; decide) (off := 97) (by rw [q3]; decide) (t := 98) (by decide) ?_
    refine PW.aload_n (pc := 98) dX3_isFact_98 rfl ?_
    refine PW.getI (pc := 99) dX3_isFact_99 lf_X3_32 (ob hM.1 s_5 (by decide)) fx_3_4 ?_
    obtain ⟨v2, h⟩ := h
    exact PW.retI (pc := 102) dX3_isFact_102 hM.1 rfl (bz_n v2) ⟨hM, _, rfl, v2, h⟩
  by_cases q7 : x1 = 7
  · have h := h.2.2.1 q7
    refine PW.tabIn (pc := 1) dX3_isFact_1 (by rw [q7]; decide) (by rw [q7]; decide) (off := 95) (by rw [q7]; decide) (t := 96) (by decide) ?_
    refine PW.iconst (pc := 96) dX3_isFact_96 (v := 1) (by decide) ?_
    exact PW.retI (pc := 97) dX3_isFact_97 hM.1 rfl (bz_n bz1) ⟨hM, _, rfl, bz1, h⟩
  by_cases q15 : x1 = 15
  · have h := h.2.2.2.1 q15
    refine PW.tabIn (pc := 1) dX3_isFact_1 (by rw [q15]; decide) (by rw [q15]; decide) (off := 95) (by rw [q15]; decide) (t := 96) (by decide) ?_
    refine PW.iconst (pc := 96) dX3_isFact_96 (v := 1) (by decide) ?_
    exact PW.retI (pc := 97) dX3_isFact_97 hM.1 rfl (bz_n bz1) ⟨hM, _, rfl, bz1, h⟩
  by_cases q16 : x1 = 16
  · have h := h.2.2.2.2.1 q16
    refine PW.tabIn (pc := 1) dX3_isFact_1 (by rw [q16]; decide) (by rw [q16]; decide) (off := 95) (by rw [q16]; decide) (t := 96) (by decide) ?_
    refine PW.iconst (pc := 96) dX3_isFact_96 (v := 1) (by decide) ?_
    exact PW.retI (pc := 97) dX3_isFact_97 hM.1 rfl (bz_n bz1) ⟨hM, _, rfl, bz1, h⟩
  by_cases q17 : x1 = 17
  · have h := h.2.2.2.2.2.1 q17
    refine PW.tabIn (pc := 1) dX3_isFact_1 (by rw [q17]; decide) (by rw [q17]; decide) (off := 95) (by rw [q17]; decide) (t := 96) (by decide) ?_
    refine PW.iconst (pc := 96) dX3_isFact_96 (v := 1) (by decide) ?_
    exact PW.retI (pc := 97) dX3_isFact_97 hM.1 rfl (bz_n bz1) ⟨hM, _, rfl, bz1, h⟩
  by_cases q18 : x1 = 18
  · have h := h.2.2.2.2.2.2.1 q18
    refine PW.tabIn (pc := 1) dX3_isFact_1 (by rw [q18]; decide) (by rw [q18]; decide) (off := 95) (by rw [q18]; decide) (t := 96) (by decide) ?_
    refine PW.iconst (pc := 96) dX3_isFact_96 (v := 1) (by decide) ?_
    exact PW.retI (pc := 97) dX3_isFact_97 hM.1 rfl (bz_n bz1) ⟨hM, _, rfl, bz1, h⟩
  by_cases q19 : x1 = 19
  · have h := h.2.2.2.2.2.2.2.1 q19
    refine PW.tabIn (pc := 1) dX3_isFact_1 (by rw [q19]; decide) (by rw [q19]; decide) (off := 102) (by rw [q19]; decide) (t := 103) (by decide) ?_
    refine PW.aload_n (pc := 103) dX3_isFact_103 rfl ?_
    refine PW.getI (pc := 104) dX3_isFact_104 lf_X3_28 (ob hM.1 s_5 (by decide)) fx_3_3 ?_
    obtain ⟨v3, h⟩ := h
    exact PW.retI (pc := 107) dX3_isFact_107 hM.1 rfl (bz_n v3) ⟨hM, _, rfl, v3, h⟩
  by_cases q20 : x1 = 20
  · have h := h.2.2.2.2.2.2.2.2.1 q20
    refine PW.tabIn (pc := 1) dX3_isFact_1 (by rw [q20]; decide) (by rw [q20]; decide) (off := 102) (by rw [q20]; decide) (t := 103) (by decide) ?_
    refine PW.aload_n (pc := 103) dX3_isFact_103 rfl ?_
    refine PW.getI (pc := 104) dX3_isFact_104 lf_X3_28 (ob hM.1 s_5 (by decide)) fx_3_3 ?_
    obtain ⟨v4, h⟩ := h
    exact PW.retI (pc := 107) dX3_isFact_107 hM.1 rfl (bz_n v4) ⟨hM, _, rfl, v4, h⟩
  by_cases q21 : x1 = 21
  · have h := h.2.2.2.2.2.2.2.2.2.1 q21
    refine PW.tabIn (pc := 1) dX3_isFact_1 (by rw [q21]; decide) (by rw [q21]; decide) (off := 102) (by rw [q21]; decide) (t := 103) (by decide) ?_
    refine PW.aload_n (pc := 103) dX3_isFact_103 rfl ?_
    refine PW.getI (pc := 104) dX3_isFact_104 lf_X3_28 (ob hM.1 s_5 (by decide)) fx_3_3 ?_
    obtain ⟨v5, h⟩ := h
    exact PW.retI (pc := 107) dX3_isFact_107 hM.1 rfl (bz_n v5) ⟨hM, _, rfl, v5, h⟩
  have h := h.2.2.2.2.2.2.2.2.2.2 q2 q3 q7 q15 q16 q17 q18 q19 q20 q21
  by_cases q4 : x1 = 4
  · refine PW.tabIn (pc := 1) dX3_isFact_1 (by rw [q4]; decide) (by rw [q4]; decide) (off := 107) (by rw [q4]; decide) (t := 108) (by decide) ?_
    refine PW.iconst (pc := 108) dX3_isFact_108 (v := 0) (by decide) ?_
    exact PW.retI (pc := 109) dX3_isFact_109 hM.1 rfl (bz_n bz0) ⟨hM, _, rfl, bz0, h⟩
  by_cases q5 : x1 = 5
  · refine PW.tabIn (pc := 1) dX3_isFact_1 (by rw [q5]; decide) (by rw [q5]; decide) (off := 107) (by rw [q5]; decide) (t := 108) (by decide) ?_
    refine PW.iconst (pc := 108) dX3_isFact_108 (v := 0) (by decide) ?_
    exact PW.retI (pc := 109) dX3_isFact_109 hM.1 rfl (bz_n bz0) ⟨hM, _, rfl, bz0, h⟩
  by_cases q6 : x1 = 6
  · refine PW.tabIn (pc := 1) dX3_isFact_1 (by rw [q6]; decide) (by rw [q6]; decide) (off := 107) (by rw [q6]; decide) (t := 108) (by decide) ?_
    refine PW.iconst (pc := 108) dX3_isFact_108 (v := 0) (by decide) ?_
    exact PW.retI (pc := 109) dX3_isFact_109 hM.1 rfl (bz_n bz0) ⟨hM, _, rfl, bz0, h⟩
  by_cases q8 : x1 = 8
  · refine PW.tabIn (pc := 1) dX3_isFact_1 (by rw [q8]; decide) (by rw [q8]; decide) (off := 107) (by rw [q8]; decide) (t := 108) (by decide) ?_
    refine PW.iconst (pc := 108) dX3_isFact_108 (v := 0) (by decide) ?_
    exact PW.retI (pc := 109) dX3_isFact_109 hM.1 rfl (bz_n bz0) ⟨hM, _, rfl, bz0, h⟩
  by_cases q9 : x1 = 9
  · refine PW.tabIn (pc := 1) dX3_isFact_1 (by rw [q9]; decide) (by rw [q9]; decide) (off := 107) (by rw [q9]; decide) (t := 108) (by decide) ?_
    refine PW.iconst (pc := 108) dX3_isFact_108 (v := 0) (by decide) ?_
    exact PW.retI (pc := 109) dX3_isFact_109 hM.1 rfl (bz_n bz0) ⟨hM, _, rfl, bz0, h⟩
  by_cases q10 : x1 = 10
  · refine PW.tabIn (pc := 1) dX3_isFact_1 (by rw [q10]; decide) (by rw [q10]; decide) (off := 107) (by rw [q10]; decide) (t := 108) (by decide) ?_
    refine PW.iconst (pc := 108) dX3_isFact_108 (v := 0) (by decide) ?_
    exact PW.retI (pc := 109) dX3_isFact_109 hM.1 rfl (bz_n bz0) ⟨hM, _, rfl, bz0, h⟩
  by_cases q11 : x1 = 11
  · refine PW.tabIn (pc := 1) dX3_isFact_1 (by rw [q11]; decide) (by rw [q11]; decide) (off := 107) (by rw [q11]; decide) (t := 108) (by decide) ?_
    refine PW.iconst (pc := 108) dX3_isFact_108 (v := 0) (by decide) ?_
    exact PW.retI (pc := 109) dX3_isFact_109 hM.1 rfl (bz_n bz0) ⟨hM, _, rfl, bz0, h⟩
  by_cases q12 : x1 = 12
  · refine PW.tabIn (pc := 1) dX3_isFact_1 (by rw [q12]; decide) (by rw [q12]; decide) (off := 107) (by rw [q12]; decide) (t := 108) (by decide) ?_
    refine PW.iconst (pc := 108) dX3_isFact_108 (v := 0) (by decide) ?_
    exact PW.retI (pc := 109) dX3_isFact_109 hM.1 rfl (bz_n bz0) ⟨hM, _, rfl, bz0, h⟩
  by_cases q13 : x1 = 13
  · refine PW.tabIn (pc := 1) dX3_isFact_1 (by rw [q13]; decide) (by rw [q13]; decide) (off := 107) (by rw [q13]; decide) (t := 108) (by decide) ?_
    refine PW.iconst (pc := 108) dX3_isFact_108 (v := 0) (by decide) ?_
    exact PW.retI (pc := 109) dX3_isFact_109 hM.1 rfl (bz_n bz0) ⟨hM, _, rfl, bz0, h⟩
  by_cases q14 : x1 = 14
  · refine PW.tabIn (pc := 1) dX3_isFact_1 (by rw [q14]; decide) (by rw [q14]; decide) (off := 107) (by rw [q14]; decide) (t := 108) (by decide) ?_
    refine PW.iconst (pc := 108) dX3_isFact_108 (v := 0) (by decide) ?_
    exact PW.retI (pc := 109) dX3_isFact_109 hM.1 rfl (bz_n bz0) ⟨hM, _, rfl, bz0, h⟩
  refine PW.tabOut (pc := 1) dX3_isFact_1 (tab_out (fun c h1 h2 => ?_)) (t := 108) (by decide) ?_
  · rcases (by omega : c = 2 ∨ c = 3 ∨ c = 4 ∨ c = 5 ∨ c = 6 ∨ c = 7 ∨ c = 8 ∨ c = 9 ∨ c = 10 ∨ c = 11 ∨ c = 12 ∨ c = 13 ∨ c = 14 ∨ c = 15 ∨ c = 16 ∨ c = 17 ∨ c = 18 ∨ c = 19 ∨ c = 20 ∨ c = 21) with rfl | rfl | rfl | rfl | rfl | rfl | rfl | rfl | rfl | rfl | rfl | rfl | rfl | rfl | rfl | rfl | rfl | rfl | rfl | rfl <;> assumption
  · skip
    refine PW.iconst (pc := 108) dX3_isFact_108 (v := 0) (by decide) ?_
    exact PW.retI (pc := 109) dX3_isFact_109 hM.1 rfl (bz_n bz0) ⟨hM, _, rfl, bz0, h⟩
def w_X4_begin_20 : Nat → Nat → Nat → Int32 → pm → (pm → Prop) → Prop
  | 0, _, _, _, _, _ => False
  | n + 1, a0, a1, x2, M, Q => ((8 ≤ x2 → (Q M)) ∧ (¬ 8 ≤ x2 → (vp_in x2 8 ∧ (vp_in x2 8 ∧ (vp_in x2 8 ∧ (vp_in x2 8 ∧ (vp_in x2 8 ∧ (vp_in x2 8 ∧ (vp_in x2 8 ∧ (vp_in x2 8 ∧ (w_X4_begin_20 n a0 a1 (x2 + 1) (sI (sI (sI (sI (sI M (a0 + 1) x2.toNatClampNeg (mI M (a1 + 5) x2.toNatClampNeg)) (a0 + 2) x2.toNatClampNeg (mI (sI M (a0 + 1) x2.toNatClampNeg (mI M (a1 + 5) x2.toNatClampNeg)) (a1 + 6) x2.toNatClampNeg)) (a0 + 3) x2.toNatClampNeg (mI (sI (sI M (a0 + 1) x2.toNatClampNeg (mI M (a1 + 5) x2.toNatClampNeg)) (a0 + 2) x2.toNatClampNeg (mI (sI M (a0 + 1) x2.toNatClampNeg (mI M (a1 + 5) x2.toNatClampNeg)) (a1 + 6) x2.toNatClampNeg)) (a1 + 7) x2.toNatClampNeg)) (a0 + 4) x2.toNatClampNeg (-1)) (a0 + 5) x2.toNatClampNeg 0) Q)))))))))))
set_option maxRecDepth 4000 in
theorem c_X4_begin_20  {Q : pm → Prop}  : ∀ (n : Nat) (a0 : Nat) (a1 : Nat) (x2 : Int32) (M : pm), pS 4 a0 → pS 5 a1 → pG M → w_X4_begin_20 n a0 a1 x2 M  Q → PW mX4_begin 1 350 20 [.ref a0, .ref a1, .int x2] [] M (qV Q) := by
  intro n
  induction n with
  | zero => intro a0 a1 x2 M hs0 hs1 hM h; exact h.elim
  | succ n ih =>
    intro a0 a1 x2 M hs0 hs1 hM h
    unfold w_X4_begin_20 at h
    refine PW.iload_n (pc := 20) dX4_begin_20 rfl ?_
    refine PW.bipush (pc := 21) dX4_begin_21 (v := 8) (by decide) ?_
    refine PW.icmp_ge (pc := 23) dX4_begin_23 (t := 82) (by decide) (fun hc => ?_) (fun hc => ?_)
    · have h := h.1 hc
      exact PW.ret0 (pc := 82) dX4_begin_82 hM.1 rfl ⟨hM, rfl, h⟩
    · have h := h.2 hc
      refine PW.aload_n (pc := 26) dX4_begin_26 rfl ?_
      refine PW.getR (pc := 27) dX4_begin_27 (r := (a0 + 1)) lf_X4_18 (ob hM.1 hs0 (by decide)) fx_4_2 (oR_4_2 hM hs0) (pS_ne (oS_4_2 hs0)) ?_
      refine PW.iload_n (pc := 30) dX4_begin_30 rfl ?_
      refine PW.aload_n (pc := 31) dX4_begin_31 rfl ?_
      refine PW.getR (pc := 32) dX4_begin_32 (r := (a1 + 5)) lf_X4_51 (ob hM.1 hs1 (by decide)) fx_5_10 (oR_5_10 hM hs1) (pS_ne (oS_5_10 hs1)) ?_
      refine PW.iload_n (pc := 35) dX4_begin_35 rfl ?_
      obtain ⟨v1, h⟩ := h
      refine PW.iald (pc := 36) dX4_begin_36 (ar hM.1 (oS_5_10 hs1)) (vpl (oN_5_10 hs1) v1) ?_
      obtain ⟨v2, h⟩ := h
      refine PW.iast (pc := 37) dX4_begin_37 (ar hM.1 (oS_4_2 hs0)) (vpl (oN_4_2 hs0) v2) ?_
      refine PW.aload_n (pc := 38) dX4_begin_38 rfl ?_
      refine PW.getR (pc := 39) dX4_begin_39 (r := (a0 + 2)) lf_X4_22 (ob hM.1 hs0 (by decide)) fx_4_3 (oR_4_3 (hM.same rfl rfl) hs0) (pS_ne (oS_4_3 hs0)) ?_
      refine PW.iload_n (pc := 42) dX4_begin_42 rfl ?_
      refine PW.aload_n (pc := 43) dX4_begin_43 rfl ?_
      refine PW.getR (pc := 44) dX4_begin_44 (r := (a1 + 6)) lf_X4_54 (ob hM.1 hs1 (by decide)) fx_5_11 (oR_5_11 (hM.same rfl rfl) hs1) (pS_ne (oS_5_11 hs1)) ?_
      refine PW.iload_n (pc := 47) dX4_begin_47 rfl ?_
      obtain ⟨v3, h⟩ := h
      refine PW.iald (pc := 48) dX4_begin_48 (ar hM.1 (oS_5_11 hs1)) (vpl (oN_5_11 hs1) v3) ?_
      obtain ⟨v4, h⟩ := h
      refine PW.iast (pc := 49) dX4_begin_49 (ar hM.1 (oS_4_3 hs0)) (vpl (oN_4_3 hs0) v4) ?_
      refine PW.aload_n (pc := 50) dX4_begin_50 rfl ?_
      refine PW.getR (pc := 51) dX4_begin_51 (r := (a0 + 3)) lf_X4_25 (ob hM.1 hs0 (by decide)) fx_4_4 (oR_4_4 (hM.same rfl rfl) hs0) (pS_ne (oS_4_4 hs0)) ?_
      refine PW.iload_n (pc := 54) dX4_begin_54 rfl ?_
      refine PW.aload_n (pc := 55) dX4_begin_55 rfl ?_
      refine PW.getR (pc := 56) dX4_begin_56 (r := (a1 + 7)) lf_X4_57 (ob hM.1 hs1 (by decide)) fx_5_12 (oR_5_12 (hM.same rfl rfl) hs1) (pS_ne (oS_5_12 hs1)) ?_
      refine PW.iload_n (pc := 59) dX4_begin_59 rfl ?_
      obtain ⟨v5, h⟩ := h
      refine PW.iald (pc := 60) dX4_begin_60 (ar hM.1 (oS_5_12 hs1)) (vpl (oN_5_12 hs1) v5) ?_
      obtain ⟨v6, h⟩ := h
      refine PW.iast (pc := 61) dX4_begin_61 (ar hM.1 (oS_4_4 hs0)) (vpl (oN_4_4 hs0) v6) ?_
      refine PW.aload_n (pc := 62) dX4_begin_62 rfl ?_
      refine PW.getR (pc := 63) dX4_begin_63 (r := (a0 + 4)) lf_X4_28 (ob hM.1 hs0 (by decide)) fx_4_5 (oR_4_5 (hM.same rfl rfl) hs0) (pS_ne (oS_4_5 hs0)) ?_
      refine PW.iload_n (pc := 66) dX4_begin_66 rfl ?_
      refine PW.iconst (pc := 67) dX4_begin_67 (v := (-1)) (by decide) ?_
      obtain ⟨v7, h⟩ := h
      refine PW.iast (pc := 68) dX4_begin_68 (ar hM.1 (oS_4_5 hs0)) (vpl (oN_4_5 hs0) v7) ?_
      refine PW.aload_n (pc := 69) dX4_begin_69 rfl ?_
      refine PW.getR (pc := 70) dX4_begin_70 (r := (a0 + 5)) lf_X4_31 (ob hM.1 hs0 (by decide)) fx_4_6 (oR_4_6 (hM.same rfl rfl) hs0) (pS_ne (oS_4_6 hs0)) ?_
      refine PW.iload_n (pc := 73) dX4_begin_73 rfl ?_
      refine PW.iconst (pc := 74) dX4_begin_74 (v := 0) (by decide) ?_
      obtain ⟨v8, h⟩ := h
      refine PW.iast (pc := 75) dX4_begin_75 (ar hM.1 (oS_4_6 hs0)) (vpl (oN_4_6 hs0) v8) ?_
      refine PW.iinc (pc := 76) dX4_begin_76 (v := (x2 + 1)) (ls' := [.ref a0, .ref a1, .int (x2 + 1)]) rfl rfl (by decide) rfl rfl ?_
      refine PW.goto (pc := 79) dX4_begin_79 (t := 20) (by decide) ?_
      exact PW.drop (ih _ _ _ _ hs0 hs1 (hM.same rfl rfl) h) ⟨rfl, rfl, rfl, trivial⟩
def w_X4_begin (a0 : Nat) (a1 : Nat) (M : pm) (Q : pm → Prop) : Prop := ∃ n9, w_X4_begin_20 n9 a0 a1 0 (sI (sI (sI M a0 0 0) a0 1 (mI (sI M a0 0 0) a1 2)) a0 7 0)  Q
set_option maxRecDepth 4000 in
theorem c_X4_begin {a0 : Nat} {a1 : Nat} {M : pm} {Q : pm → Prop} (hs0 : pS 4 a0) (hs1 : pS 5 a1) (hM : pG M) (h : w_X4_begin a0 a1 M Q) : PW mX4_begin 1 350 0 (pfr mX4_begin.2.2.1 [.ref a0, .ref a1]) [] M (qV Q) := by
  unfold w_X4_begin at h
  show PW mX4_begin 1 350 0 [.ref a0, .ref a1, .null] [] M (qV Q)
  refine PW.aload_n (pc := 0) dX4_begin_0 rfl ?_
  refine PW.iconst (pc := 1) dX4_begin_1 (v := 0) (by decide) ?_
  refine PW.putI (pc := 2) dX4_begin_2 lf_X4_9 (ob hM.1 hs0 (by decide)) fx_4_0 fw_4_0 rfl rfl ?_
  refine PW.aload_n (pc := 5) dX4_begin_5 rfl ?_
  refine PW.aload_n (pc := 6) dX4_begin_6 rfl ?_
  refine PW.getI (pc := 7) dX4_begin_7 lf_X4_46 (ob hM.1 hs1 (by decide)) fx_5_2 ?_
  refine PW.putI (pc := 10) dX4_begin_10 lf_X4_15 (ob hM.1 hs0 (by decide)) fx_4_1 fw_4_1 rfl rfl ?_
  refine PW.aload_n (pc := 13) dX4_begin_13 rfl ?_
  refine PW.iconst (pc := 14) dX4_begin_14 (v := 0) (by decide) ?_
  refine PW.putI (pc := 15) dX4_begin_15 lf_X4_34 (ob hM.1 hs0 (by decide)) fx_4_7 fw_4_7 rfl rfl ?_
  refine PW.iconst (pc := 18) dX4_begin_18 (v := 0) (by decide) ?_
  refine PW.istore_n (pc := 19) dX4_begin_19 (ls' := [.ref a0, .ref a1, .int 0]) (by decide) rfl rfl ?_
  obtain ⟨n9, h⟩ := h
  refine PW.drop (c_X4_begin_20  n9 _ _ _ _ hs0 hs1 (hM.same rfl rfl) h) ⟨rfl, rfl, rfl, trivial⟩
def w_X4_keep_60  (a0 : Nat) (x1 : Int32) (x2 : Int32) (x3 : Int32) (M : pm)  (Q : pm → Prop) : Prop := vp_in (mI M a0 7) 40 ∧ (vp_in (mI (sI M (a0 + 6) ((mI M a0 7).toNatClampNeg) x1) a0 7) 40 ∧ (vp_in (mI (sI (sI M (a0 + 6) ((mI M a0 7).toNatClampNeg) x1) (a0 + 7) ((mI (sI M (a0 + 6) ((mI M a0 7).toNatClampNeg) x1) a0 7).toNatClampNeg) x2) a0 7) 40 ∧ (Q (sI (sI (sI (sI M (a0 + 6) ((mI M a0 7).toNatClampNeg) x1) (a0 + 7) ((mI (sI M (a0 + 6) ((mI M a0 7).toNatClampNeg) x1) a0 7).toNatClampNeg) x2) (a0 + 8) ((mI (sI (sI M (a0 + 6) ((mI M a0 7).toNatClampNeg) x1) (a0 + 7) ((mI (sI M (a0 + 6) ((mI M a0 7).toNatClampNeg) x1) a0 7).toNatClampNeg) x2) a0 7).toNatClampNeg) x3) a0 7 ((mI (sI (sI (sI M (a0 + 6) ((mI M a0 7).toNatClampNeg) x1) (a0 + 7) ((mI (sI M (a0 + 6) ((mI M a0 7).toNatClampNeg) x1) a0 7).toNatClampNeg) x2) (a0 + 8) ((mI (sI (sI M (a0 + 6) ((mI M a0 7).toNatClampNeg) x1) (a0 + 7) ((mI (sI M (a0 + 6) ((mI M a0 7).toNatClampNeg) x1) a0 7).toNatClampNeg) x2) a0 7).toNatClampNeg) x3) a0 7) + 1)))))
set_option maxRecDepth 4000 in
theorem c_X4_keep_60  {Q : pm → Prop}  : ∀ (a0 : Nat) (x1 : Int32) (x2 : Int32) (x3 : Int32) (M : pm), pS 4 a0 → pG M → w_X4_keep_60 a0 x1 x2 x3 M  Q → PW mX4_keep 1 350 60 [.ref a0, .int x1, .int x2, .int x3] [] M (qV Q) := by
  intro a0 x1 x2 x3 M hs0 hM h
  unfold w_X4_keep_60 at h
  refine PW.aload_n (pc := 60) dX4_keep_60 rfl ?_
  refine PW.getR (pc := 61) dX4_keep_61 (r := (a0 + 6)) lf_X4_37 (ob hM.1 hs0 (by decide)) fx_4_8 (oR_4_8 hM hs0) (pS_ne (oS_4_8 hs0)) ?_
  refine PW.aload_n (pc := 64) dX4_keep_64 rfl ?_
  refine PW.getI (pc := 65) dX4_keep_65 lf_X4_34 (ob hM.1 hs0 (by decide)) fx_4_7 ?_
  refine PW.iload_n (pc := 68) dX4_keep_68 rfl ?_
  obtain ⟨v1, h⟩ := h
  refine PW.iast (pc := 69) dX4_keep_69 (ar hM.1 (oS_4_8 hs0)) (vpl (oN_4_8 hs0) v1) ?_
  refine PW.aload_n (pc := 70) dX4_keep_70 rfl ?_
  refine PW.getR (pc := 71) dX4_keep_71 (r := (a0 + 7)) lf_X4_40 (ob hM.1 hs0 (by decide)) fx_4_9 (oR_4_9 (hM.same rfl rfl) hs0) (pS_ne (oS_4_9 hs0)) ?_
  refine PW.aload_n (pc := 74) dX4_keep_74 rfl ?_
  refine PW.getI (pc := 75) dX4_keep_75 lf_X4_34 (ob hM.1 hs0 (by decide)) fx_4_7 ?_
  refine PW.iload_n (pc := 78) dX4_keep_78 rfl ?_
  obtain ⟨v2, h⟩ := h
  refine PW.iast (pc := 79) dX4_keep_79 (ar hM.1 (oS_4_9 hs0)) (vpl (oN_4_9 hs0) v2) ?_
  refine PW.aload_n (pc := 80) dX4_keep_80 rfl ?_
  refine PW.getR (pc := 81) dX4_keep_81 (r := (a0 + 8)) lf_X4_43 (ob hM.1 hs0 (by decide)) fx_4_10 (oR_4_10 (hM.same rfl rfl) hs0) (pS_ne (oS_4_10 hs0)) ?_
  refine PW.aload_n (pc := 84) dX4_keep_84 rfl ?_
  refine PW.getI (pc := 85) dX4_keep_85 lf_X4_34 (ob hM.1 hs0 (by decide)) fx_4_7 ?_
  refine PW.iload_n (pc := 88) dX4_keep_88 rfl ?_
  obtain ⟨v3, h⟩ := h
  refine PW.iast (pc := 89) dX4_keep_89 (ar hM.1 (oS_4_10 hs0)) (vpl (oN_4_10 hs0) v3) ?_
  refine PW.aload_n (pc := 90) dX4_keep_90 rfl ?_
  refine PW.dupR (pc := 91) dX4_keep_91 ?_
  refine PW.getI (pc := 92) dX4_keep_92 lf_X4_34 (ob hM.1 hs0 (by decide)) fx_4_7 ?_
  refine PW.iconst (pc := 95) dX4_keep_95 (v := 1) (by decide) ?_
  refine PW.iadd (pc := 96) dX4_keep_96 ?_
  refine PW.putI (pc := 97) dX4_keep_97 lf_X4_34 (ob hM.1 hs0 (by decide)) fx_4_7 fw_4_7 rfl rfl ?_
  exact PW.ret0 (pc := 100) dX4_keep_100 hM.1 rfl ⟨(hM.same rfl rfl), rfl, h⟩
def w_X4_keep (a0 : Nat) (x1 : Int32) (x2 : Int32) (x3 : Int32) (M : pm) (Q : pm → Prop) : Prop := (((mI M a0 7) < 40 → (w_X4_keep_60 a0 x1 x2 x3 M  Q)) ∧ (¬ (mI M a0 7) < 40 → (w_X4_keep_60 a0 x1 x2 x3 (sI (cpI (cpI (cpI M (a0 + 6) (a0 + 6) 1 0 39) (a0 + 7) (a0 + 7) 1 0 39) (a0 + 8) (a0 + 8) 1 0 39) a0 7 39)  Q)))
set_option maxRecDepth 4000 in
theorem c_X4_keep {a0 : Nat} {x1 : Int32} {x2 : Int32} {x3 : Int32} {M : pm} {Q : pm → Prop} (hs0 : pS 4 a0) (hM : pG M) (h : w_X4_keep a0 x1 x2 x3 M Q) : PW mX4_keep 1 350 0 (pfr mX4_keep.2.2.1 [.ref a0, .int x1, .int x2, .int x3]) [] M (qV Q) := by
  unfold w_X4_keep at h
  show PW mX4_keep 1 350 0 [.ref a0, .int x1, .int x2, .int x3] [] M (qV Q)
  refine PW.aload_n (pc := 0) dX4_keep_0 rfl ?_
  refine PW.getI (pc := 1) dX4_keep_1 lf_X4_34 (ob hM.1 hs0 (by decide)) fx_4_7 ?_
  refine PW.bipush (pc := 4) dX4_keep_4 (v := 40) (by decide) ?_
  refine PW.icmp_lt (pc := 6) dX4_keep_6 (t := 60) (by decide) (fun hc => ?_) (fun hc => ?_)
  · have h := h.1 hc
    exact PW.drop (c_X4_keep_60  _ _ _ _ _ hs0 hM h) ⟨rfl, rfl, rfl, rfl, trivial⟩
  · have h := h.2 hc
    refine PW.aload_n (pc := 9) dX4_keep_9 rfl ?_
    refine PW.getR (pc := 10) dX4_keep_10 (r := (a0 + 6)) lf_X4_37 (ob hM.1 hs0 (by decide)) fx_4_8 (oR_4_8 hM hs0) (pS_ne (oS_4_8 hs0)) ?_
    refine PW.iconst (pc := 13) dX4_keep_13 (v := 1) (by decide) ?_
    refine PW.aload_n (pc := 14) dX4_keep_14 rfl ?_
    refine PW.getR (pc := 15) dX4_keep_15 (r := (a0 + 6)) lf_X4_37 (ob hM.1 hs0 (by decide)) fx_4_8 (oR_4_8 hM hs0) (pS_ne (oS_4_8 hs0)) ?_
    refine PW.iconst (pc := 18) dX4_keep_18 (v := 0) (by decide) ?_
    refine PW.bipush (pc := 19) dX4_keep_19 (v := 39) (by decide) ?_
    refine PW.copyI (pc := 21) dX4_keep_21 arc_X4_60 arc_nat arc_stat arc_ini (ar hM.1 (oS_4_8 hs0)) (ar hM.1 (oS_4_8 hs0)) (by decide) (by decide) (by decide) (by rw [(oN_4_8 hs0)]; decide) (by rw [(oN_4_8 hs0)]; decide) (Nat.le_of_ble_eq_true rfl) (by decide) (by decide +kernel) ?_
    refine PW.aload_n (pc := 24) dX4_keep_24 rfl ?_
    refine PW.getR (pc := 25) dX4_keep_25 (r := (a0 + 7)) lf_X4_40 (ob hM.1 hs0 (by decide)) fx_4_9 (oR_4_9 (hM.same rfl rfl) hs0) (pS_ne (oS_4_9 hs0)) ?_
    refine PW.iconst (pc := 28) dX4_keep_28 (v := 1) (by decide) ?_
    refine PW.aload_n (pc := 29) dX4_keep_29 rfl ?_
    refine PW.getR (pc := 30) dX4_keep_30 (r := (a0 + 7)) lf_X4_40 (ob hM.1 hs0 (by decide)) fx_4_9 (oR_4_9 (hM.same rfl rfl) hs0) (pS_ne (oS_4_9 hs0)) ?_
    refine PW.iconst (pc := 33) dX4_keep_33 (v := 0) (by decide) ?_
    refine PW.bipush (pc := 34) dX4_keep_34 (v := 39) (by decide) ?_
    refine PW.copyI (pc := 36) dX4_keep_36 arc_X4_60 arc_nat arc_stat arc_ini (ar hM.1 (oS_4_9 hs0)) (ar hM.1 (oS_4_9 hs0)) (by decide) (by decide) (by decide) (by rw [(oN_4_9 hs0)]; decide) (by rw [(oN_4_9 hs0)]; decide) (Nat.le_of_ble_eq_true rfl) (by decide) (by decide +kernel) ?_
    refine PW.aload_n (pc := 39) dX4_keep_39 rfl ?_
    refine PW.getR (pc := 40) dX4_keep_40 (r := (a0 + 8)) lf_X4_43 (ob hM.1 hs0 (by decide)) fx_4_10 (oR_4_10 (hM.same rfl rfl) hs0) (pS_ne (oS_4_10 hs0)) ?_
    refine PW.iconst (pc := 43) dX4_keep_43 (v := 1) (by decide) ?_
    refine PW.aload_n (pc := 44) dX4_keep_44 rfl ?_
    refine PW.getR (pc := 45) dX4_keep_45 (r := (a0 + 8)) lf_X4_43 (ob hM.1 hs0 (by decide)) fx_4_10 (oR_4_10 (hM.same rfl rfl) hs0) (pS_ne (oS_4_10 hs0)) ?_
    refine PW.iconst (pc := 48) dX4_keep_48 (v := 0) (by decide) ?_
    refine PW.bipush (pc := 49) dX4_keep_49 (v := 39) (by decide) ?_
    refine PW.copyI (pc := 51) dX4_keep_51 arc_X4_60 arc_nat arc_stat arc_ini (ar hM.1 (oS_4_10 hs0)) (ar hM.1 (oS_4_10 hs0)) (by decide) (by decide) (by decide) (by rw [(oN_4_10 hs0)]; decide) (by rw [(oN_4_10 hs0)]; decide) (Nat.le_of_ble_eq_true rfl) (by decide) (by decide +kernel) ?_
    refine PW.aload_n (pc := 54) dX4_keep_54 rfl ?_
    refine PW.bipush (pc := 55) dX4_keep_55 (v := 39) (by decide) ?_
    refine PW.putI (pc := 57) dX4_keep_57 lf_X4_34 (ob hM.1 hs0 (by decide)) fx_4_7 fw_4_7 rfl rfl ?_
    exact PW.drop (c_X4_keep_60  _ _ _ _ _ hs0 (hM.same rfl rfl) h) ⟨rfl, rfl, rfl, rfl, trivial⟩
def w_X5_empty (a0 : Nat) (M : pm) (Q : pm → Prop) : Prop := w_X2_empty (a0 + 10) (sI (sI (sI (sI (sI (sI (sI M a0 0 0) a0 1 0) a0 2 0) a0 3 0) a0 4 0) a0 8 0) a0 13 0) (fun M1 => Q M1)
set_option maxRecDepth 4000 in
theorem c_X5_empty {a0 : Nat} {M : pm} {Q : pm → Prop} (hs0 : pS 5 a0) (hM : pG M) (h : w_X5_empty a0 M Q) : PW mX5_empty 2 350 0 (pfr mX5_empty.2.2.1 [.ref a0]) [] M (qV Q) := by
  unfold w_X5_empty at h
  show PW mX5_empty 2 350 0 [.ref a0] [] M (qV Q)
  refine PW.aload_n (pc := 0) dX5_empty_0 rfl ?_
  refine PW.iconst (pc := 1) dX5_empty_1 (v := 0) (by decide) ?_
  refine PW.putI (pc := 2) dX5_empty_2 lf_X5_9 (ob hM.1 hs0 (by decide)) fx_5_0 fw_5_0 rfl rfl ?_
  refine PW.aload_n (pc := 5) dX5_empty_5 rfl ?_
  refine PW.iconst (pc := 6) dX5_empty_6 (v := 0) (by decide) ?_
  refine PW.putI (pc := 7) dX5_empty_7 lf_X5_15 (ob hM.1 hs0 (by decide)) fx_5_1 fw_5_1 rfl rfl ?_
  refine PW.aload_n (pc := 10) dX5_empty_10 rfl ?_
  refine PW.iconst (pc := 11) dX5_empty_11 (v := 0) (by decide) ?_
  refine PW.putI (pc := 12) dX5_empty_12 lf_X5_18 (ob hM.1 hs0 (by decide)) fx_5_2 fw_5_2 rfl rfl ?_
  refine PW.aload_n (pc := 15) dX5_empty_15 rfl ?_
  refine PW.iconst (pc := 16) dX5_empty_16 (v := 0) (by decide) ?_
  refine PW.putI (pc := 17) dX5_empty_17 lf_X5_21 (ob hM.1 hs0 (by decide)) fx_5_3 fw_5_3 rfl rfl ?_
  refine PW.aload_n (pc := 20) dX5_empty_20 rfl ?_
  refine PW.iconst (pc := 21) dX5_empty_21 (v := 0) (by decide) ?_
  refine PW.putI (pc := 22) dX5_empty_22 lf_X5_24 (ob hM.1 hs0 (by decide)) fx_5_4 fw_5_4 rfl rfl ?_
  refine PW.aload_n (pc := 25) dX5_empty_25 rfl ?_
  refine PW.iconst (pc := 26) dX5_empty_26 (v := 0) (by decide) ?_
  refine PW.putI (pc := 27) dX5_empty_27 lf_X5_37 (ob hM.1 hs0 (by decide)) fx_5_8 fw_5_8 rfl rfl ?_
  refine PW.aload_n (pc := 30) dX5_empty_30 rfl ?_
  refine PW.iconst (pc := 31) dX5_empty_31 (v := 0) (by decide) ?_
  refine PW.putI (pc := 32) dX5_empty_32 lf_X5_52 (ob hM.1 hs0 (by decide)) fx_5_13 fw_5_13 rfl rfl ?_
  refine PW.aload_n (pc := 35) dX5_empty_35 rfl ?_
  refine PW.getR (pc := 36) dX5_empty_36 (r := (a0 + 10)) lf_X5_64 (ob hM.1 hs0 (by decide)) fx_5_16 (oR_5_16 (hM.same rfl rfl) hs0) (pS_ne (oS_5_16 hs0)) ?_
  refine PW.inv (m' := mX2_empty) (pc := 39) dX5_empty_39 lm_X5_68 me_X2_empty mi_X2_empty (ob hM.1 (oS_5_16 hs0) (by decide)) rfl (As := []) (st := []) rfl (Nat.le_of_ble_eq_true rfl) (Nat.le_of_ble_eq_true rfl) (Nat.le_of_eq hM.1) (Nat.le_refl _) (PW.deep (by decide) (c_X2_empty (oS_5_16 hs0) (hM.same rfl rfl) h)) ?_
  rintro _ M1 ⟨hM3, rfl, h⟩
  exact PW.ret0 (pc := 42) dX5_empty_42 hM3.1 rfl ⟨hM3, rfl, h⟩
def w_X5_addDefaults_90  (a0 : Nat) (M : pm)  (Q : pm → Prop) : Prop := w_X2_hasPart (a0 + 10) 2 M (fun y10 M9 => ((¬ y10 = 0 → (Q M9)) ∧ (y10 = 0 → (w_X2_beginPart (a0 + 10) 2 M9 (fun M13 => w_X2_add (a0 + 10) 10107 M13 (fun M16 => w_X2_endPart (a0 + 10) 2 M16 (fun M19 => Q M19)))))))
set_option maxRecDepth 4000 in
theorem c_X5_addDefaults_90  {Q : pm → Prop}  : ∀ (a0 : Nat) (M : pm), pS 5 a0 → pG M → w_X5_addDefaults_90 a0 M  Q → PW mX5_addDefaults 2 350 90 [.ref a0] [] M (qV Q) := by
  intro a0 M hs0 hM h
  unfold w_X5_addDefaults_90 at h
  refine PW.aload_n (pc := 90) dX5_addDefaults_90 rfl ?_
  refine PW.getR (pc := 91) dX5_addDefaults_91 (r := (a0 + 10)) lf_X5_64 (ob hM.1 hs0 (by decide)) fx_5_16 (oR_5_16 hM hs0) (pS_ne (oS_5_16 hs0)) ?_
  refine PW.iconst (pc := 94) dX5_addDefaults_94 (v := 2) (by decide) ?_
  refine PW.inv (m' := mX2_hasPart) (pc := 95) dX5_addDefaults_95 lm_X5_75 me_X2_hasPart mi_X2_hasPart (ob hM.1 (oS_5_16 hs0) (by decide)) rfl (As := [.int 2]) (st := []) rfl (Nat.le_of_ble_eq_true rfl) (Nat.le_of_ble_eq_true rfl) (Nat.le_of_eq hM.1) (Nat.le_refl _) (PW.deep (by decide) (c_X2_hasPart (oS_5_16 hs0) hM h)) ?_
  rintro _ M9 ⟨hM11, y10, rfl, z12, h⟩
  refine PW.if_ne (pc := 98) dX5_addDefaults_98 (t := 127) (by decide) (fun hc => ?_) (fun hc => ?_)
  · have h := h.1 hc
    exact PW.ret0 (pc := 127) dX5_addDefaults_127 hM11.1 rfl ⟨hM11, rfl, h⟩
  · have h := h.2 hc
    refine PW.aload_n (pc := 101) dX5_addDefaults_101 rfl ?_
    refine PW.getR (pc := 102) dX5_addDefaults_102 (r := (a0 + 10)) lf_X5_64 (ob hM11.1 hs0 (by decide)) fx_5_16 (oR_5_16 hM11 hs0) (pS_ne (oS_5_16 hs0)) ?_
    refine PW.iconst (pc := 105) dX5_addDefaults_105 (v := 2) (by decide) ?_
    refine PW.inv (m' := mX2_beginPart) (pc := 106) dX5_addDefaults_106 lm_X5_79 me_X2_beginPart mi_X2_beginPart (ob hM11.1 (oS_5_16 hs0) (by decide)) rfl (As := [.int 2]) (st := []) rfl (Nat.le_of_ble_eq_true rfl) (Nat.le_of_ble_eq_true rfl) (Nat.le_of_eq hM11.1) (Nat.le_refl _) (PW.deep (by decide) (c_X2_beginPart (oS_5_16 hs0) hM11 h)) ?_
    rintro _ M13 ⟨hM15, rfl, h⟩
    refine PW.aload_n (pc := 109) dX5_addDefaults_109 rfl ?_
    refine PW.getR (pc := 110) dX5_addDefaults_110 (r := (a0 + 10)) lf_X5_64 (ob hM15.1 hs0 (by decide)) fx_5_16 (oR_5_16 hM15 hs0) (pS_ne (oS_5_16 hs0)) ?_
    refine PW.sipush (pc := 113) dX5_addDefaults_113 (v := 10107) (by decide) ?_
    refine PW.inv (m' := mX2_add) (pc := 116) dX5_addDefaults_116 lm_X5_83 me_X2_add mi_X2_add (ob hM15.1 (oS_5_16 hs0) (by decide)) rfl (As := [.int 10107]) (st := []) rfl (Nat.le_of_ble_eq_true rfl) (Nat.le_of_ble_eq_true rfl) (Nat.le_of_eq hM15.1) (Nat.le_refl _) (PW.deep (by decide) (c_X2_add (oS_5_16 hs0) hM15 h)) ?_
    rintro _ M16 ⟨hM18, rfl, h⟩
    refine PW.aload_n (pc := 119) dX5_addDefaults_119 rfl ?_
    refine PW.getR (pc := 120) dX5_addDefaults_120 (r := (a0 + 10)) lf_X5_64 (ob hM18.1 hs0 (by decide)) fx_5_16 (oR_5_16 hM18 hs0) (pS_ne (oS_5_16 hs0)) ?_
    refine PW.iconst (pc := 123) dX5_addDefaults_123 (v := 2) (by decide) ?_
    refine PW.inv (m' := mX2_endPart) (pc := 124) dX5_addDefaults_124 lm_X5_86 me_X2_endPart mi_X2_endPart (ob hM18.1 (oS_5_16 hs0) (by decide)) rfl (As := [.int 2]) (st := []) rfl (Nat.le_of_ble_eq_true rfl) (Nat.le_of_ble_eq_true rfl) (Nat.le_of_eq hM18.1) (Nat.le_refl _) (PW.deep (by decide) (c_X2_endPart (oS_5_16 hs0) hM18 h)) ?_
    rintro _ M19 ⟨hM21, rfl, h⟩
    exact PW.ret0 (pc := 127) dX5_addDefaults_127 hM21.1 rfl ⟨hM21, rfl, h⟩
def w_X5_addDefaults_55  (a0 : Nat) (M : pm)  (Q : pm → Prop) : Prop := w_X2_hasPart (a0 + 10) 1 M (fun y6 M5 => ((¬ y6 = 0 → (w_X5_addDefaults_90 a0 M5  Q)) ∧ (y6 = 0 → (w_X2_beginPart (a0 + 10) 1 M5 (fun M22 => w_X2_add (a0 + 10) 1 M22 (fun M25 => w_X2_endPart (a0 + 10) 1 M25 (fun M28 => w_X5_addDefaults_90 a0 M28  Q)))))))
set_option maxRecDepth 4000 in
theorem c_X5_addDefaults_55  {Q : pm → Prop}  : ∀ (a0 : Nat) (M : pm), pS 5 a0 → pG M → w_X5_addDefaults_55 a0 M  Q → PW mX5_addDefaults 2 350 55 [.ref a0] [] M (qV Q) := by
  intro a0 M hs0 hM h
  unfold w_X5_addDefaults_55 at h
  refine PW.aload_n (pc := 55) dX5_addDefaults_55 rfl ?_
  refine PW.getR (pc := 56) dX5_addDefaults_56 (r := (a0 + 10)) lf_X5_64 (ob hM.1 hs0 (by decide)) fx_5_16 (oR_5_16 hM hs0) (pS_ne (oS_5_16 hs0)) ?_
  refine PW.iconst (pc := 59) dX5_addDefaults_59 (v := 1) (by decide) ?_
  refine PW.inv (m' := mX2_hasPart) (pc := 60) dX5_addDefaults_60 lm_X5_75 me_X2_hasPart mi_X2_hasPart (ob hM.1 (oS_5_16 hs0) (by decide)) rfl (As := [.int 1]) (st := []) rfl (Nat.le_of_ble_eq_true rfl) (Nat.le_of_ble_eq_true rfl) (Nat.le_of_eq hM.1) (Nat.le_refl _) (PW.deep (by decide) (c_X2_hasPart (oS_5_16 hs0) hM h)) ?_
  rintro _ M5 ⟨hM7, y6, rfl, z8, h⟩
  refine PW.if_ne (pc := 63) dX5_addDefaults_63 (t := 90) (by decide) (fun hc => ?_) (fun hc => ?_)
  · have h := h.1 hc
    exact PW.drop (c_X5_addDefaults_90  _ _ hs0 hM7 h) ⟨rfl, trivial⟩
  · have h := h.2 hc
    refine PW.aload_n (pc := 66) dX5_addDefaults_66 rfl ?_
    refine PW.getR (pc := 67) dX5_addDefaults_67 (r := (a0 + 10)) lf_X5_64 (ob hM7.1 hs0 (by decide)) fx_5_16 (oR_5_16 hM7 hs0) (pS_ne (oS_5_16 hs0)) ?_
    refine PW.iconst (pc := 70) dX5_addDefaults_70 (v := 1) (by decide) ?_
    refine PW.inv (m' := mX2_beginPart) (pc := 71) dX5_addDefaults_71 lm_X5_79 me_X2_beginPart mi_X2_beginPart (ob hM7.1 (oS_5_16 hs0) (by decide)) rfl (As := [.int 1]) (st := []) rfl (Nat.le_of_ble_eq_true rfl) (Nat.le_of_ble_eq_true rfl) (Nat.le_of_eq hM7.1) (Nat.le_refl _) (PW.deep (by decide) (c_X2_beginPart (oS_5_16 hs0) hM7 h)) ?_
    rintro _ M22 ⟨hM24, rfl, h⟩
    refine PW.aload_n (pc := 74) dX5_addDefaults_74 rfl ?_
    refine PW.getR (pc := 75) dX5_addDefaults_75 (r := (a0 + 10)) lf_X5_64 (ob hM24.1 hs0 (by decide)) fx_5_16 (oR_5_16 hM24 hs0) (pS_ne (oS_5_16 hs0)) ?_
    refine PW.iconst (pc := 78) dX5_addDefaults_78 (v := 1) (by decide) ?_
    refine PW.inv (m' := mX2_add) (pc := 79) dX5_addDefaults_79 lm_X5_83 me_X2_add mi_X2_add (ob hM24.1 (oS_5_16 hs0) (by decide)) rfl (As := [.int 1]) (st := []) rfl (Nat.le_of_ble_eq_true rfl) (Nat.le_of_ble_eq_true rfl) (Nat.le_of_eq hM24.1) (Nat.le_refl _) (PW.deep (by decide) (c_X2_add (oS_5_16 hs0) hM24 h)) ?_
    rintro _ M25 ⟨hM27, rfl, h⟩
    refine PW.aload_n (pc := 82) dX5_addDefaults_82 rfl ?_
    refine PW.getR (pc := 83) dX5_addDefaults_83 (r := (a0 + 10)) lf_X5_64 (ob hM27.1 hs0 (by decide)) fx_5_16 (oR_5_16 hM27 hs0) (pS_ne (oS_5_16 hs0)) ?_
    refine PW.iconst (pc := 86) dX5_addDefaults_86 (v := 1) (by decide) ?_
    refine PW.inv (m' := mX2_endPart) (pc := 87) dX5_addDefaults_87 lm_X5_86 me_X2_endPart mi_X2_endPart (ob hM27.1 (oS_5_16 hs0) (by decide)) rfl (As := [.int 1]) (st := []) rfl (Nat.le_of_ble_eq_true rfl) (Nat.le_of_ble_eq_true rfl) (Nat.le_of_eq hM27.1) (Nat.le_refl _) (PW.deep (by decide) (c_X2_endPart (oS_5_16 hs0) hM27 h)) ?_
    rintro _ M28 ⟨hM30, rfl, h⟩
    exact PW.drop (c_X5_addDefaults_90  _ _ hs0 hM30 h) ⟨rfl, trivial⟩
def w_X5_addDefaults (a0 : Nat) (M : pm) (Q : pm → Prop) : Prop := w_X2_hasPart (a0 + 10) 0 M (fun y2 M1 => ((¬ y2 = 0 → (w_X5_addDefaults_55 a0 M1  Q)) ∧ (y2 = 0 → (w_X2_beginPart (a0 + 10) 0 M1 (fun M31 => w_X2_add (a0 + 10) 10107 M31 (fun M34 => w_X2_add (a0 + 10) 1 M34 (fun M37 => w_X2_add (a0 + 10) 10001 M37 (fun M40 => w_X2_endPart (a0 + 10) 0 M40 (fun M43 => w_X5_addDefaults_55 a0 M43  Q)))))))))
set_option maxRecDepth 4000 in
theorem c_X5_addDefaults {a0 : Nat} {M : pm} {Q : pm → Prop} (hs0 : pS 5 a0) (hM : pG M) (h : w_X5_addDefaults a0 M Q) : PW mX5_addDefaults 2 350 0 (pfr mX5_addDefaults.2.2.1 [.ref a0]) [] M (qV Q) := by
  unfold w_X5_addDefaults at h
  show PW mX5_addDefaults 2 350 0 [.ref a0] [] M (qV Q)
  refine PW.aload_n (pc := 0) dX5_addDefaults_0 rfl ?_
  refine PW.getR (pc := 1) dX5_addDefaults_1 (r := (a0 + 10)) lf_X5_64 (ob hM.1 hs0 (by decide)) fx_5_16 (oR_5_16 hM hs0) (pS_ne (oS_5_16 hs0)) ?_
  refine PW.iconst (pc := 4) dX5_addDefaults_4 (v := 0) (by decide) ?_
  refine PW.inv (m' := mX2_hasPart) (pc := 5) dX5_addDefaults_5 lm_X5_75 me_X2_hasPart mi_X2_hasPart (ob hM.1 (oS_5_16 hs0) (by decide)) rfl (As := [.int 0]) (st := []) rfl (Nat.le_of_ble_eq_true rfl) (Nat.le_of_ble_eq_true rfl) (Nat.le_of_eq hM.1) (Nat.le_refl _) (PW.deep (by decide) (c_X2_hasPart (oS_5_16 hs0) hM h)) ?_
  rintro _ M1 ⟨hM3, y2, rfl, z4, h⟩
  refine PW.if_ne (pc := 8) dX5_addDefaults_8 (t := 55) (by decide) (fun hc => ?_) (fun hc => ?_)
  · have h := h.1 hc
    exact PW.drop (c_X5_addDefaults_55  _ _ hs0 hM3 h) ⟨rfl, trivial⟩
  · have h := h.2 hc
    refine PW.aload_n (pc := 11) dX5_addDefaults_11 rfl ?_
    refine PW.getR (pc := 12) dX5_addDefaults_12 (r := (a0 + 10)) lf_X5_64 (ob hM3.1 hs0 (by decide)) fx_5_16 (oR_5_16 hM3 hs0) (pS_ne (oS_5_16 hs0)) ?_
    refine PW.iconst (pc := 15) dX5_addDefaults_15 (v := 0) (by decide) ?_
    refine PW.inv (m' := mX2_beginPart) (pc := 16) dX5_addDefaults_16 lm_X5_79 me_X2_beginPart mi_X2_beginPart (ob hM3.1 (oS_5_16 hs0) (by decide)) rfl (As := [.int 0]) (st := []) rfl (Nat.le_of_ble_eq_true rfl) (Nat.le_of_ble_eq_true rfl) (Nat.le_of_eq hM3.1) (Nat.le_refl _) (PW.deep (by decide) (c_X2_beginPart (oS_5_16 hs0) hM3 h)) ?_
    rintro _ M31 ⟨hM33, rfl, h⟩
    refine PW.aload_n (pc := 19) dX5_addDefaults_19 rfl ?_
    refine PW.getR (pc := 20) dX5_addDefaults_20 (r := (a0 + 10)) lf_X5_64 (ob hM33.1 hs0 (by decide)) fx_5_16 (oR_5_16 hM33 hs0) (pS_ne (oS_5_16 hs0)) ?_
    refine PW.sipush (pc := 23) dX5_addDefaults_23 (v := 10107) (by decide) ?_
    refine PW.inv (m' := mX2_add) (pc := 26) dX5_addDefaults_26 lm_X5_83 me_X2_add mi_X2_add (ob hM33.1 (oS_5_16 hs0) (by decide)) rfl (As := [.int 10107]) (st := []) rfl (Nat.le_of_ble_eq_true rfl) (Nat.le_of_ble_eq_true rfl) (Nat.le_of_eq hM33.1) (Nat.le_refl _) (PW.deep (by decide) (c_X2_add (oS_5_16 hs0) hM33 h)) ?_
    rintro _ M34 ⟨hM36, rfl, h⟩
    refine PW.aload_n (pc := 29) dX5_addDefaults_29 rfl ?_
    refine PW.getR (pc := 30) dX5_addDefaults_30 (r := (a0 + 10)) lf_X5_64 (ob hM36.1 hs0 (by decide)) fx_5_16 (oR_5_16 hM36 hs0) (pS_ne (oS_5_16 hs0)) ?_
    refine PW.iconst (pc := 33) dX5_addDefaults_33 (v := 1) (by decide) ?_
    refine PW.inv (m' := mX2_add) (pc := 34) dX5_addDefaults_34 lm_X5_83 me_X2_add mi_X2_add (ob hM36.1 (oS_5_16 hs0) (by decide)) rfl (As := [.int 1]) (st := []) rfl (Nat.le_of_ble_eq_true rfl) (Nat.le_of_ble_eq_true rfl) (Nat.le_of_eq hM36.1) (Nat.le_refl _) (PW.deep (by decide) (c_X2_add (oS_5_16 hs0) hM36 h)) ?_
    rintro _ M37 ⟨hM39, rfl, h⟩
    refine PW.aload_n (pc := 37) dX5_addDefaults_37 rfl ?_
    refine PW.getR (pc := 38) dX5_addDefaults_38 (r := (a0 + 10)) lf_X5_64 (ob hM39.1 hs0 (by decide)) fx_5_16 (oR_5_16 hM39 hs0) (pS_ne (oS_5_16 hs0)) ?_
    refine PW.sipush (pc := 41) dX5_addDefaults_41 (v := 10001) (by decide) ?_
    refine PW.inv (m' := mX2_add) (pc := 44) dX5_addDefaults_44 lm_X5_83 me_X2_add mi_X2_add (ob hM39.1 (oS_5_16 hs0) (by decide)) rfl (As := [.int 10001]) (st := []) rfl (Nat.le_of_ble_eq_true rfl) (Nat.le_of_ble_eq_true rfl) (Nat.le_of_eq hM39.1) (Nat.le_refl _) (PW.deep (by decide) (c_X2_add (oS_5_16 hs0) hM39 h)) ?_
    rintro _ M40 ⟨hM42, rfl, h⟩
    refine PW.aload_n (pc := 47) dX5_addDefaults_47 rfl ?_
    refine PW.getR (pc := 48) dX5_addDefaults_48 (r := (a0 + 10)) lf_X5_64 (ob hM42.1 hs0 (by decide)) fx_5_16 (oR_5_16 hM42 hs0) (pS_ne (oS_5_16 hs0)) ?_
    refine PW.iconst (pc := 51) dX5_addDefaults_51 (v := 0) (by decide) ?_
    refine PW.inv (m' := mX2_endPart) (pc := 52) dX5_addDefaults_52 lm_X5_86 me_X2_endPart mi_X2_endPart (ob hM42.1 (oS_5_16 hs0) (by decide)) rfl (As := [.int 0]) (st := []) rfl (Nat.le_of_ble_eq_true rfl) (Nat.le_of_ble_eq_true rfl) (Nat.le_of_eq hM42.1) (Nat.le_refl _) (PW.deep (by decide) (c_X2_endPart (oS_5_16 hs0) hM42 h)) ?_
    rintro _ M43 ⟨hM45, rfl, h⟩
    exact PW.drop (c_X5_addDefaults_55  _ _ hs0 hM45 h) ⟨rfl, trivial⟩
def w_X6_read (a1 : Nat) (x2 : Int32) (M : pm) (Q : pm → Prop) : Prop := w_J9_min_7cf53 x2 (Int32.ofNat (lay a1).2) (sR M 6 1 a1) (fun y3 M2 => w_J9_max_7cf53 0 y3 M2 (fun y6 M5 => w_X6_take  (sI (sI (sI (sI (sI (sI M5 6 2 y6) 6 3 0) 6 4 0) 6 5 0) 6 7 0) 6 8 (-1)) (fun M8 => Q M8)))
set_option maxRecDepth 4000 in
theorem c_X6_read {a1 : Nat} {x2 : Int32} {M : pm} {Q : pm → Prop} (hs1 : pS 9 a1) (hM : pG M) (h : w_X6_read a1 x2 M Q) : PW mX6_read 2 350 0 (pfr mX6_read.2.2.1 [.ref 6, .ref a1, .int x2]) [] M (qV Q) := by
  unfold w_X6_read at h
  show PW mX6_read 2 350 0 [.ref 6, .ref a1, .int x2] [] M (qV Q)
  refine PW.aload_n (pc := 0) dX6_read_0 rfl ?_
  refine PW.aload_n (pc := 1) dX6_read_1 rfl ?_
  refine PW.putR (pc := 2) dX6_read_2 lf_X6_15 (ob hM.1 s_6 (by decide)) fx_6_1 fw_6_1 (fun _ => rfl) (fun _ => rfl) (pS_ne hs1) ?_
  have hG1 : pG (sR M 6 1 a1) := pG_text hM hs1
  refine PW.aload_n (pc := 5) dX6_read_5 rfl ?_
  refine PW.iconst (pc := 6) dX6_read_6 (v := 0) (by decide) ?_
  refine PW.iload_n (pc := 7) dX6_read_7 rfl ?_
  refine PW.aload_n (pc := 8) dX6_read_8 rfl ?_
  refine PW.alen (pc := 9) dX6_read_9 (ar hG1.1 hs1) (by decide) rfl ?_
  refine PW.ins (m' := mJ9_min_7cf53) (pc := 10) dX6_read_10 lm_X6_56 me_J9_min_7cf53 ms_J9_min_7cf53 (As := [.int x2, .int (Int32.ofNat (lay a1).2)]) (st := [.int 0, .ref 6]) rfl (Nat.le_of_ble_eq_true rfl) (Nat.le_of_ble_eq_true rfl) (Nat.le_of_eq hG1.1) (Nat.le_refl _) (PW.deep (by decide) (c_J9_min_7cf53  hG1 h)) ?_
  rintro _ M2 ⟨hM4, y3, rfl, h⟩
  refine PW.ins (m' := mJ9_max_7cf53) (pc := 13) dX6_read_13 lm_X6_62 me_J9_max_7cf53 ms_J9_max_7cf53 (As := [.int 0, .int y3]) (st := [.ref 6]) rfl (Nat.le_of_ble_eq_true rfl) (Nat.le_of_ble_eq_true rfl) (Nat.le_of_eq hM4.1) (Nat.le_refl _) (PW.deep (by decide) (c_J9_max_7cf53  hM4 h)) ?_
  rintro _ M5 ⟨hM7, y6, rfl, h⟩
  refine PW.putI (pc := 16) dX6_read_16 lf_X6_19 (ob hM7.1 s_6 (by decide)) fx_6_2 fw_6_2 rfl rfl ?_
  refine PW.aload_n (pc := 19) dX6_read_19 rfl ?_
  refine PW.iconst (pc := 20) dX6_read_20 (v := 0) (by decide) ?_
  refine PW.putI (pc := 21) dX6_read_21 lf_X6_23 (ob hM7.1 s_6 (by decide)) fx_6_3 fw_6_3 rfl rfl ?_
  refine PW.aload_n (pc := 24) dX6_read_24 rfl ?_
  refine PW.iconst (pc := 25) dX6_read_25 (v := 0) (by decide) ?_
  refine PW.putI (pc := 26) dX6_read_26 lf_X6_26 (ob hM7.1 s_6 (by decide)) fx_6_4 fw_6_4 rfl rfl ?_
  refine PW.aload_n (pc := 29) dX6_read_29 rfl ?_
  refine PW.iconst (pc := 30) dX6_read_30 (v := 0) (by decide) ?_
  refine PW.putI (pc := 31) dX6_read_31 lf_X6_29 (ob hM7.1 s_6 (by decide)) fx_6_5 fw_6_5 rfl rfl ?_
  refine PW.aload_n (pc := 34) dX6_read_34 rfl ?_
  refine PW.iconst (pc := 35) dX6_read_35 (v := 0) (by decide) ?_
  refine PW.putI (pc := 36) dX6_read_36 lf_X6_35 (ob hM7.1 s_6 (by decide)) fx_6_7 fw_6_7 rfl rfl ?_
  refine PW.aload_n (pc := 39) dX6_read_39 rfl ?_
  refine PW.iconst (pc := 40) dX6_read_40 (v := (-1)) (by decide) ?_
  refine PW.putI (pc := 41) dX6_read_41 lf_X6_38 (ob hM7.1 s_6 (by decide)) fx_6_8 fw_6_8 rfl rfl ?_
  refine PW.aload_n (pc := 44) dX6_read_44 rfl ?_
  refine PW.inv (m' := mX6_take) (pc := 45) dX6_read_45 lm_X6_65 me_X6_take mi_X6_take (ob hM7.1 s_6 (by decide)) rfl (As := []) (st := []) rfl (Nat.le_of_ble_eq_true rfl) (Nat.le_of_ble_eq_true rfl) (Nat.le_of_eq hM7.1) (Nat.le_refl _) (PW.deep (by decide) (c_X6_take  (hM7.same rfl rfl) h)) ?_
  rintro _ M8 ⟨hM10, rfl, h⟩
  exact PW.ret0 (pc := 48) dX6_read_48 hM10.1 rfl ⟨hM10, rfl, h⟩
def w_X6_goesOn  (M : pm) (Q : Int32 → pm → Prop) : Prop := (((mI M 6 3) = 5 → (Q 0 M)) ∧ (¬ (mI M 6 3) = 5 → (((mI M 6 3) = 6 → (Q 0 M)) ∧ (¬ (mI M 6 3) = 6 → (Q 1 M)))))
set_option maxRecDepth 4000 in
theorem c_X6_goesOn  {M : pm} {Q : Int32 → pm → Prop}  (hM : pG M) (h : w_X6_goesOn  M Q) : PW mX6_goesOn 1 350 0 (pfr mX6_goesOn.2.2.1 [.ref 6]) [] M (qZ Q) := by
  unfold w_X6_goesOn at h
  show PW mX6_goesOn 1 350 0 [.ref 6] [] M (qZ Q)
  refine PW.aload_n (pc := 0) dX6_goesOn_0 rfl ?_
  refine PW.getI (pc := 1) dX6_goesOn_1 lf_X6_23 (ob hM.1 s_6 (by decide)) fx_6_3 ?_
  refine PW.iconst (pc := 4) dX6_goesOn_4 (v := 5) (by decide) ?_
  refine PW.icmp_eq (pc := 5) dX6_goesOn_5 (t := 21) (by decide) (fun hc => ?_) (fun hc => ?_)
  · have h := h.1 hc
    refine PW.iconst (pc := 21) dX6_goesOn_21 (v := 0) (by decide) ?_
    exact PW.retI (pc := 22) dX6_goesOn_22 hM.1 rfl (bz_n bz0) ⟨hM, _, rfl, bz0, h⟩
  · have h := h.2 hc
    refine PW.aload_n (pc := 8) dX6_goesOn_8 rfl ?_
    refine PW.getI (pc := 9) dX6_goesOn_9 lf_X6_23 (ob hM.1 s_6 (by decide)) fx_6_3 ?_
    refine PW.bipush (pc := 12) dX6_goesOn_12 (v := 6) (by decide) ?_
    refine PW.icmp_eq (pc := 14) dX6_goesOn_14 (t := 21) (by decide) (fun hc => ?_) (fun hc => ?_)
    · have h := h.1 hc
      refine PW.iconst (pc := 21) dX6_goesOn_21 (v := 0) (by decide) ?_
      exact PW.retI (pc := 22) dX6_goesOn_22 hM.1 rfl (bz_n bz0) ⟨hM, _, rfl, bz0, h⟩
    · have h := h.2 hc
      refine PW.iconst (pc := 17) dX6_goesOn_17 (v := 1) (by decide) ?_
      refine PW.goto (pc := 18) dX6_goesOn_18 (t := 22) (by decide) ?_
      exact PW.retI (pc := 22) dX6_goesOn_22 hM.1 rfl (bz_n bz1) ⟨hM, _, rfl, bz1, h⟩
def w_X6_needSign (x1 : Int32) (M : pm) (Q : pm → Prop) : Prop := w_X6_isSign x1 M (fun y2 M1 => ((y2 = 0 → (w_X6_fail 1 (mI M1 6 4) M1 (fun M5 => Q M5))) ∧ (¬ y2 = 0 → (w_X6_take  M1 (fun M8 => Q M8)))))
set_option maxRecDepth 4000 in
theorem c_X6_needSign {x1 : Int32} {M : pm} {Q : pm → Prop}  (hM : pG M) (h : w_X6_needSign x1 M Q) : PW mX6_needSign 2 350 0 (pfr mX6_needSign.2.2.1 [.ref 6, .int x1]) [] M (qV Q) := by
  unfold w_X6_needSign at h
  show PW mX6_needSign 2 350 0 [.ref 6, .int x1] [] M (qV Q)
  refine PW.aload_n (pc := 0) dX6_needSign_0 rfl ?_
  refine PW.iload_n (pc := 1) dX6_needSign_1 rfl ?_
  refine PW.inv (m' := mX6_isSign) (pc := 2) dX6_needSign_2 lm_X6_68 me_X6_isSign mi_X6_isSign (ob hM.1 s_6 (by decide)) rfl (As := [.int x1]) (st := []) rfl (Nat.le_of_ble_eq_true rfl) (Nat.le_of_ble_eq_true rfl) (Nat.le_of_eq hM.1) (Nat.le_refl _) (PW.deep (by decide) (c_X6_isSign  hM h)) ?_
  rintro _ M1 ⟨hM3, y2, rfl, z4, h⟩
  refine PW.if_eq (pc := 5) dX6_needSign_5 (t := 15) (by decide) (fun hc => ?_) (fun hc => ?_)
  · have h := h.1 hc
    refine PW.aload_n (pc := 15) dX6_needSign_15 rfl ?_
    refine PW.iconst (pc := 16) dX6_needSign_16 (v := 1) (by decide) ?_
    refine PW.aload_n (pc := 17) dX6_needSign_17 rfl ?_
    refine PW.getI (pc := 18) dX6_needSign_18 lf_X6_26 (ob hM3.1 s_6 (by decide)) fx_6_4 ?_
    refine PW.inv (m' := mX6_fail) (pc := 21) dX6_needSign_21 lm_X6_72 me_X6_fail mi_X6_fail (ob hM3.1 s_6 (by decide)) rfl (As := [.int 1, .int (mI M1 6 4)]) (st := []) rfl (Nat.le_of_ble_eq_true rfl) (Nat.le_of_ble_eq_true rfl) (Nat.le_of_eq hM3.1) (Nat.le_refl _) (PW.deep (by decide) (c_X6_fail  hM3 h)) ?_
    rintro _ M5 ⟨hM7, rfl, h⟩
    exact PW.ret0 (pc := 24) dX6_needSign_24 hM7.1 rfl ⟨hM7, rfl, h⟩
  · have h := h.2 hc
    refine PW.aload_n (pc := 8) dX6_needSign_8 rfl ?_
    refine PW.inv (m' := mX6_take) (pc := 9) dX6_needSign_9 lm_X6_65 me_X6_take mi_X6_take (ob hM3.1 s_6 (by decide)) rfl (As := []) (st := []) rfl (Nat.le_of_ble_eq_true rfl) (Nat.le_of_ble_eq_true rfl) (Nat.le_of_eq hM3.1) (Nat.le_refl _) (PW.deep (by decide) (c_X6_take  hM3 h)) ?_
    rintro _ M8 ⟨hM10, rfl, h⟩
    refine PW.goto (pc := 12) dX6_needSign_12 (t := 24) (by decide) ?_
    exact PW.ret0 (pc := 24) dX6_needSign_24 hM10.1 rfl ⟨hM10, rfl, h⟩
def w_X7_refuse (x1 : Int32) (M : pm) (Q : pm → Prop) : Prop := ((x1 < 0 → (Q M)) ∧ (¬ x1 < 0 → ((6 ≤ x1 → (Q M)) ∧ (¬ 6 ≤ x1 → (vp_in x1 6 ∧ (vp_in x1 6 ∧ (Q (sI M 276 x1.toNatClampNeg ((mI M 276 x1.toNatClampNeg) + 1)))))))))
set_option maxRecDepth 4000 in
theorem c_X7_refuse {x1 : Int32} {M : pm} {Q : pm → Prop}  (hM : pG M) (h : w_X7_refuse x1 M Q) : PW mX7_refuse 1 350 0 (pfr mX7_refuse.2.2.1 [.ref 3, .int x1]) [] M (qV Q) := by
  unfold w_X7_refuse at h
  show PW mX7_refuse 1 350 0 [.ref 3, .int x1] [] M (qV Q)
  refine PW.iload_n (pc := 0) dX7_refuse_0 rfl ?_
  refine PW.if_lt (pc := 1) dX7_refuse_1 (t := 23) (by decide) (fun hc => ?_) (fun hc => ?_)
  · have h := h.1 hc
    exact PW.ret0 (pc := 23) dX7_refuse_23 hM.1 rfl ⟨hM, rfl, h⟩
  · have h := h.2 hc
    refine PW.iload_n (pc := 4) dX7_refuse_4 rfl ?_
    refine PW.aload_n (pc := 5) dX7_refuse_5 rfl ?_
    refine PW.getR (pc := 6) dX7_refuse_6 (r := 276) lf_X7_86 (ob hM.1 s_3 (by decide)) fx_7_17 (oR_7_17 hM s_3) (pS_ne s_276) ?_
    refine PW.alen (pc := 9) dX7_refuse_9 (v := 6) (ar hM.1 s_276) (by decide) (by rw [n_276]; rfl) ?_
    refine PW.icmp_ge (pc := 10) dX7_refuse_10 (t := 23) (by decide) (fun hc => ?_) (fun hc => ?_)
    · have h := h.1 hc
      exact PW.ret0 (pc := 23) dX7_refuse_23 hM.1 rfl ⟨hM, rfl, h⟩
    · have h := h.2 hc
      refine PW.aload_n (pc := 13) dX7_refuse_13 rfl ?_
      refine PW.getR (pc := 14) dX7_refuse_14 (r := 276) lf_X7_86 (ob hM.1 s_3 (by decide)) fx_7_17 (oR_7_17 hM s_3) (pS_ne s_276) ?_
      refine PW.iload_n (pc := 17) dX7_refuse_17 rfl ?_
      refine PW.dup2IR (pc := 18) dX7_refuse_18 ?_
      obtain ⟨v1, h⟩ := h
      refine PW.iald (pc := 19) dX7_refuse_19 (ar hM.1 s_276) (vpl n_276 v1) ?_
      refine PW.iconst (pc := 20) dX7_refuse_20 (v := 1) (by decide) ?_
      refine PW.iadd (pc := 21) dX7_refuse_21 ?_
      obtain ⟨v2, h⟩ := h
      refine PW.iast (pc := 22) dX7_refuse_22 (ar hM.1 s_276) (vpl n_276 v2) ?_
      exact PW.ret0 (pc := 23) dX7_refuse_23 hM.1 rfl ⟨(hM.same rfl rfl), rfl, h⟩
def w_X7_putOnTape_3 : Nat → Int32 → Int32 → pm → (pm → Prop) → Prop
  | 0, _, _, _, _ => False
  | n + 1, x1, x2, M, Q => ((x2 < 0 → (Q M)) ∧ (¬ x2 < 0 → ((1600 ≤ (mI M 3 1) → (w_X7_putOnTape_3 n x1 (x2 + (-8)) M Q)) ∧ (¬ 1600 ≤ (mI M 3 1) → (vp_in (mI M 3 1) 1600 ∧ (w_X7_putOnTape_3 n x1 (x2 + (-8)) (sI (sI M 4 ((mI M 3 1).toNatClampNeg) (vp_nar .byte ((Int32.toInt8 (x1 >>> (x2 &&& 31))).toInt32))) 3 1 ((mI M 3 1) + 1)) Q))))))
set_option maxRecDepth 4000 in
theorem c_X7_putOnTape_3  {Q : pm → Prop}  : ∀ (n : Nat) (x1 : Int32) (x2 : Int32) (M : pm), pG M → w_X7_putOnTape_3 n x1 x2 M  Q → PW mX7_putOnTape 1 350 3 [.ref 3, .int x1, .int x2] [] M (qV Q) := by
  intro n
  induction n with
  | zero => intro x1 x2 M hM h; exact h.elim
  | succ n ih =>
    intro x1 x2 M hM h
    unfold w_X7_putOnTape_3 at h
    refine PW.iload_n (pc := 3) dX7_putOnTape_3 rfl ?_
    refine PW.if_lt (pc := 4) dX7_putOnTape_4 (t := 48) (by decide) (fun hc => ?_) (fun hc => ?_)
    · have h := h.1 hc
      exact PW.ret0 (pc := 48) dX7_putOnTape_48 hM.1 rfl ⟨hM, rfl, h⟩
    · have h := h.2 hc
      refine PW.aload_n (pc := 7) dX7_putOnTape_7 rfl ?_
      refine PW.getI (pc := 8) dX7_putOnTape_8 lf_X7_13 (ob hM.1 s_3 (by decide)) fx_7_1 ?_
      refine PW.aload_n (pc := 11) dX7_putOnTape_11 rfl ?_
      refine PW.getR (pc := 12) dX7_putOnTape_12 (r := 4) lf_X7_9 (ob hM.1 s_3 (by decide)) fx_7_0 (oR_7_0 hM s_3) (pS_ne s_4) ?_
      refine PW.alen (pc := 15) dX7_putOnTape_15 (v := 1600) (ar hM.1 s_4) (by decide) (by rw [n_4]; rfl) ?_
      refine PW.icmp_ge (pc := 16) dX7_putOnTape_16 (t := 42) (by decide) (fun hc => ?_) (fun hc => ?_)
      · have h := h.1 hc
        refine PW.iinc (pc := 42) dX7_putOnTape_42 (v := (x2 + (-8))) (ls' := [.ref 3, .int x1, .int (x2 + (-8))]) rfl rfl (by decide) rfl rfl ?_
        refine PW.goto (pc := 45) dX7_putOnTape_45 (t := 3) (by decide) ?_
        exact PW.drop (ih _ _ _ hM h) ⟨rfl, rfl, rfl, trivial⟩
      · have h := h.2 hc
        refine PW.aload_n (pc := 19) dX7_putOnTape_19 rfl ?_
        refine PW.getR (pc := 20) dX7_putOnTape_20 (r := 4) lf_X7_9 (ob hM.1 s_3 (by decide)) fx_7_0 (oR_7_0 hM s_3) (pS_ne s_4) ?_
        refine PW.aload_n (pc := 23) dX7_putOnTape_23 rfl ?_
        refine PW.getI (pc := 24) dX7_putOnTape_24 lf_X7_13 (ob hM.1 s_3 (by decide)) fx_7_1 ?_
        refine PW.iload_n (pc := 27) dX7_putOnTape_27 rfl ?_
        refine PW.iload_n (pc := 28) dX7_putOnTape_28 rfl ?_
        refine PW.ishr (pc := 29) dX7_putOnTape_29 ?_
        refine PW.i2b (pc := 30) dX7_putOnTape_30 ?_
        obtain ⟨v1, h⟩ := h
        refine PW.bast (pc := 31) dX7_putOnTape_31 (ar hM.1 s_4) (vpl n_4 v1) ?_
        refine PW.aload_n (pc := 32) dX7_putOnTape_32 rfl ?_
        refine PW.dupR (pc := 33) dX7_putOnTape_33 ?_
        refine PW.getI (pc := 34) dX7_putOnTape_34 lf_X7_13 (ob hM.1 s_3 (by decide)) fx_7_1 ?_
        refine PW.iconst (pc := 37) dX7_putOnTape_37 (v := 1) (by decide) ?_
        refine PW.iadd (pc := 38) dX7_putOnTape_38 ?_
        refine PW.putI (pc := 39) dX7_putOnTape_39 lf_X7_13 (ob hM.1 s_3 (by decide)) fx_7_1 fw_7_1 rfl rfl ?_
        refine PW.iinc (pc := 42) dX7_putOnTape_42 (v := (x2 + (-8))) (ls' := [.ref 3, .int x1, .int (x2 + (-8))]) rfl rfl (by decide) rfl rfl ?_
        refine PW.goto (pc := 45) dX7_putOnTape_45 (t := 3) (by decide) ?_
        exact PW.drop (ih _ _ _ (hM.same rfl rfl) h) ⟨rfl, rfl, rfl, trivial⟩
def w_X7_putOnTape (x1 : Int32) (M : pm) (Q : pm → Prop) : Prop := ∃ n2, w_X7_putOnTape_3 n2 x1 24 M  Q
set_option maxRecDepth 4000 in
theorem c_X7_putOnTape {x1 : Int32} {M : pm} {Q : pm → Prop}  (hM : pG M) (h : w_X7_putOnTape x1 M Q) : PW mX7_putOnTape 1 350 0 (pfr mX7_putOnTape.2.2.1 [.ref 3, .int x1]) [] M (qV Q) := by
  unfold w_X7_putOnTape at h
  show PW mX7_putOnTape 1 350 0 [.ref 3, .int x1, .null] [] M (qV Q)
  refine PW.bipush (pc := 0) dX7_putOnTape_0 (v := 24) (by decide) ?_
  refine PW.istore_n (pc := 2) dX7_putOnTape_2 (ls' := [.ref 3, .int x1, .int 24]) (by decide) rfl rfl ?_
  obtain ⟨n2, h⟩ := h
  refine PW.drop (c_X7_putOnTape_3  n2 _ _ _ hM h) ⟨rfl, rfl, rfl, trivial⟩
