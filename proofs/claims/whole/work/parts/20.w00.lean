/-! methods, walked by program: w_ what must hold before, c_ its proof -/
def w_X0_forget  (M : pm) (Q : pm → Prop) : Prop := Q (sI M 75 1 0)
set_option maxRecDepth 4000 in
theorem c_X0_forget  {M : pm} {Q : pm → Prop}  (hM : pG M) (h : w_X0_forget  M Q) : PW mX0_forget 1 350 0 (pfr mX0_forget.2.2.1 [.ref 75]) [] M (qV Q) := by
  unfold w_X0_forget at h
  show PW mX0_forget 1 350 0 [.ref 75] [] M (qV Q)
  refine PW.aload_n (pc := 0) dX0_forget_0 rfl ?_
  refine PW.iconst (pc := 1) dX0_forget_1 (v := 0) (by decide) ?_
  refine PW.putI (pc := 2) dX0_forget_2 lf_X0_17 (ob hM.1 s_75 (by decide)) fx_0_1 fw_0_1 rfl rfl ?_
  exact PW.ret0 (pc := 5) dX0_forget_5 hM.1 rfl ⟨(hM.same rfl rfl), rfl, h⟩
def w_X4_copyNow (a0 : Nat) (a1 : Nat) (M : pm) (Q : pm → Prop) : Prop := Q (cpI (cpI (cpI (cpI (cpI (sI (sI M a0 0 (mI M a1 0)) a0 1 (mI (sI M a0 0 (mI M a1 0)) a1 1)) (a1 + 1) (a0 + 1) 0 0 8) (a1 + 2) (a0 + 2) 0 0 8) (a1 + 3) (a0 + 3) 0 0 8) (a1 + 4) (a0 + 4) 0 0 8) (a1 + 5) (a0 + 5) 0 0 8)
set_option maxRecDepth 4000 in
theorem c_X4_copyNow {a0 : Nat} {a1 : Nat} {M : pm} {Q : pm → Prop} (hs0 : pS 4 a0) (hs1 : pS 4 a1) (hM : pG M) (h : w_X4_copyNow a0 a1 M Q) : PW mX4_copyNow 1 350 0 (pfr mX4_copyNow.2.2.1 [.ref a0, .ref a1]) [] M (qV Q) := by
  unfold w_X4_copyNow at h
  show PW mX4_copyNow 1 350 0 [.ref a0, .ref a1] [] M (qV Q)
  refine PW.aload_n (pc := 0) dX4_copyNow_0 rfl ?_
  refine PW.aload_n (pc := 1) dX4_copyNow_1 rfl ?_
  refine PW.getI (pc := 2) dX4_copyNow_2 lf_X4_9 (ob hM.1 hs1 (by decide)) fx_4_0 ?_
  refine PW.putI (pc := 5) dX4_copyNow_5 lf_X4_9 (ob hM.1 hs0 (by decide)) fx_4_0 fw_4_0 rfl rfl ?_
  refine PW.aload_n (pc := 8) dX4_copyNow_8 rfl ?_
  refine PW.aload_n (pc := 9) dX4_copyNow_9 rfl ?_
  refine PW.getI (pc := 10) dX4_copyNow_10 lf_X4_15 (ob hM.1 hs1 (by decide)) fx_4_1 ?_
  refine PW.putI (pc := 13) dX4_copyNow_13 lf_X4_15 (ob hM.1 hs0 (by decide)) fx_4_1 fw_4_1 rfl rfl ?_
  refine PW.aload_n (pc := 16) dX4_copyNow_16 rfl ?_
  refine PW.getR (pc := 17) dX4_copyNow_17 (r := (a1 + 1)) lf_X4_18 (ob hM.1 hs1 (by decide)) fx_4_2 (oR_4_2 (hM.same rfl rfl) hs1) (pS_ne (oS_4_2 hs1)) ?_
  refine PW.iconst (pc := 20) dX4_copyNow_20 (v := 0) (by decide) ?_
  refine PW.aload_n (pc := 21) dX4_copyNow_21 rfl ?_
  refine PW.getR (pc := 22) dX4_copyNow_22 (r := (a0 + 1)) lf_X4_18 (ob hM.1 hs0 (by decide)) fx_4_2 (oR_4_2 (hM.same rfl rfl) hs0) (pS_ne (oS_4_2 hs0)) ?_
  refine PW.iconst (pc := 25) dX4_copyNow_25 (v := 0) (by decide) ?_
  refine PW.bipush (pc := 26) dX4_copyNow_26 (v := 8) (by decide) ?_
  refine PW.copyI (pc := 28) dX4_copyNow_28 arc_X4_60 arc_nat arc_stat arc_ini (ar hM.1 (oS_4_2 hs1)) (ar hM.1 (oS_4_2 hs0)) (by decide) (by decide) (by decide) (by rw [(oN_4_2 hs1)]; decide) (by rw [(oN_4_2 hs0)]; decide) (Nat.le_of_ble_eq_true rfl) (by decide) (by decide +kernel) ?_
  refine PW.aload_n (pc := 31) dX4_copyNow_31 rfl ?_
  refine PW.getR (pc := 32) dX4_copyNow_32 (r := (a1 + 2)) lf_X4_22 (ob hM.1 hs1 (by decide)) fx_4_3 (oR_4_3 (hM.same rfl rfl) hs1) (pS_ne (oS_4_3 hs1)) ?_
  refine PW.iconst (pc := 35) dX4_copyNow_35 (v := 0) (by decide) ?_
  refine PW.aload_n (pc := 36) dX4_copyNow_36 rfl ?_
  refine PW.getR (pc := 37) dX4_copyNow_37 (r := (a0 + 2)) lf_X4_22 (ob hM.1 hs0 (by decide)) fx_4_3 (oR_4_3 (hM.same rfl rfl) hs0) (pS_ne (oS_4_3 hs0)) ?_
  refine PW.iconst (pc := 40) dX4_copyNow_40 (v := 0) (by decide) ?_
  refine PW.bipush (pc := 41) dX4_copyNow_41 (v := 8) (by decide) ?_
  refine PW.copyI (pc := 43) dX4_copyNow_43 arc_X4_60 arc_nat arc_stat arc_ini (ar hM.1 (oS_4_3 hs1)) (ar hM.1 (oS_4_3 hs0)) (by decide) (by decide) (by decide) (by rw [(oN_4_3 hs1)]; decide) (by rw [(oN_4_3 hs0)]; decide) (Nat.le_of_ble_eq_true rfl) (by decide) (by decide +kernel) ?_
  refine PW.aload_n (pc := 46) dX4_copyNow_46 rfl ?_
  refine PW.getR (pc := 47) dX4_copyNow_47 (r := (a1 + 3)) lf_X4_25 (ob hM.1 hs1 (by decide)) fx_4_4 (oR_4_4 (hM.same rfl rfl) hs1) (pS_ne (oS_4_4 hs1)) ?_
  refine PW.iconst (pc := 50) dX4_copyNow_50 (v := 0) (by decide) ?_
  refine PW.aload_n (pc := 51) dX4_copyNow_51 rfl ?_
  refine PW.getR (pc := 52) dX4_copyNow_52 (r := (a0 + 3)) lf_X4_25 (ob hM.1 hs0 (by decide)) fx_4_4 (oR_4_4 (hM.same rfl rfl) hs0) (pS_ne (oS_4_4 hs0)) ?_
  refine PW.iconst (pc := 55) dX4_copyNow_55 (v := 0) (by decide) ?_
  refine PW.bipush (pc := 56) dX4_copyNow_56 (v := 8) (by decide) ?_
  refine PW.copyI (pc := 58) dX4_copyNow_58 arc_X4_60 arc_nat arc_stat arc_ini (ar hM.1 (oS_4_4 hs1)) (ar hM.1 (oS_4_4 hs0)) (by decide) (by decide) (by decide) (by rw [(oN_4_4 hs1)]; decide) (by rw [(oN_4_4 hs0)]; decide) (Nat.le_of_ble_eq_true rfl) (by decide) (by decide +kernel) ?_
  refine PW.aload_n (pc := 61) dX4_copyNow_61 rfl ?_
  refine PW.getR (pc := 62) dX4_copyNow_62 (r := (a1 + 4)) lf_X4_28 (ob hM.1 hs1 (by decide)) fx_4_5 (oR_4_5 (hM.same rfl rfl) hs1) (pS_ne (oS_4_5 hs1)) ?_
  refine PW.iconst (pc := 65) dX4_copyNow_65 (v := 0) (by decide) ?_
  refine PW.aload_n (pc := 66) dX4_copyNow_66 rfl ?_
  refine PW.getR (pc := 67) dX4_copyNow_67 (r := (a0 + 4)) lf_X4_28 (ob hM.1 hs0 (by decide)) fx_4_5 (oR_4_5 (hM.same rfl rfl) hs0) (pS_ne (oS_4_5 hs0)) ?_
  refine PW.iconst (pc := 70) dX4_copyNow_70 (v := 0) (by decide) ?_
  refine PW.bipush (pc := 71) dX4_copyNow_71 (v := 8) (by decide) ?_
  refine PW.copyI (pc := 73) dX4_copyNow_73 arc_X4_60 arc_nat arc_stat arc_ini (ar hM.1 (oS_4_5 hs1)) (ar hM.1 (oS_4_5 hs0)) (by decide) (by decide) (by decide) (by rw [(oN_4_5 hs1)]; decide) (by rw [(oN_4_5 hs0)]; decide) (Nat.le_of_ble_eq_true rfl) (by decide) (by decide +kernel) ?_
  refine PW.aload_n (pc := 76) dX4_copyNow_76 rfl ?_
  refine PW.getR (pc := 77) dX4_copyNow_77 (r := (a1 + 5)) lf_X4_31 (ob hM.1 hs1 (by decide)) fx_4_6 (oR_4_6 (hM.same rfl rfl) hs1) (pS_ne (oS_4_6 hs1)) ?_
  refine PW.iconst (pc := 80) dX4_copyNow_80 (v := 0) (by decide) ?_
  refine PW.aload_n (pc := 81) dX4_copyNow_81 rfl ?_
  refine PW.getR (pc := 82) dX4_copyNow_82 (r := (a0 + 5)) lf_X4_31 (ob hM.1 hs0 (by decide)) fx_4_6 (oR_4_6 (hM.same rfl rfl) hs0) (pS_ne (oS_4_6 hs0)) ?_
  refine PW.iconst (pc := 85) dX4_copyNow_85 (v := 0) (by decide) ?_
  refine PW.bipush (pc := 86) dX4_copyNow_86 (v := 8) (by decide) ?_
  refine PW.copyI (pc := 88) dX4_copyNow_88 arc_X4_60 arc_nat arc_stat arc_ini (ar hM.1 (oS_4_6 hs1)) (ar hM.1 (oS_4_6 hs0)) (by decide) (by decide) (by decide) (by rw [(oN_4_6 hs1)]; decide) (by rw [(oN_4_6 hs0)]; decide) (Nat.le_of_ble_eq_true rfl) (by decide) (by decide +kernel) ?_
  exact PW.ret0 (pc := 91) dX4_copyNow_91 hM.1 rfl ⟨(hM.same rfl rfl), rfl, h⟩
def w_X4_copyAll (a0 : Nat) (a1 : Nat) (M : pm) (Q : pm → Prop) : Prop := w_X4_copyNow a0 a1 M (fun M1 => Q (cpI (cpI (cpI (sI M1 a0 7 (mI M1 a1 7)) (a1 + 6) (a0 + 6) 0 0 40) (a1 + 7) (a0 + 7) 0 0 40) (a1 + 8) (a0 + 8) 0 0 40))
set_option maxRecDepth 4000 in
theorem c_X4_copyAll {a0 : Nat} {a1 : Nat} {M : pm} {Q : pm → Prop} (hs0 : pS 4 a0) (hs1 : pS 4 a1) (hM : pG M) (h : w_X4_copyAll a0 a1 M Q) : PW mX4_copyAll 2 350 0 (pfr mX4_copyAll.2.2.1 [.ref a0, .ref a1]) [] M (qV Q) := by
  unfold w_X4_copyAll at h
  show PW mX4_copyAll 2 350 0 [.ref a0, .ref a1] [] M (qV Q)
  refine PW.aload_n (pc := 0) dX4_copyAll_0 rfl ?_
  refine PW.aload_n (pc := 1) dX4_copyAll_1 rfl ?_
  refine PW.inv (m' := mX4_copyNow) (pc := 2) dX4_copyAll_2 lm_X4_66 me_X4_copyNow mi_X4_copyNow (ob hM.1 hs0 (by decide)) rfl (As := [.ref a1]) (st := []) rfl (Nat.le_of_ble_eq_true rfl) (Nat.le_of_ble_eq_true rfl) (Nat.le_of_eq hM.1) (Nat.le_refl _) (PW.deep (by decide) (c_X4_copyNow hs0 hs1 hM h)) ?_
  rintro _ M1 ⟨hM3, rfl, h⟩
  refine PW.aload_n (pc := 5) dX4_copyAll_5 rfl ?_
  refine PW.aload_n (pc := 6) dX4_copyAll_6 rfl ?_
  refine PW.getI (pc := 7) dX4_copyAll_7 lf_X4_34 (ob hM3.1 hs1 (by decide)) fx_4_7 ?_
  refine PW.putI (pc := 10) dX4_copyAll_10 lf_X4_34 (ob hM3.1 hs0 (by decide)) fx_4_7 fw_4_7 rfl rfl ?_
  refine PW.aload_n (pc := 13) dX4_copyAll_13 rfl ?_
  refine PW.getR (pc := 14) dX4_copyAll_14 (r := (a1 + 6)) lf_X4_37 (ob hM3.1 hs1 (by decide)) fx_4_8 (oR_4_8 (hM3.same rfl rfl) hs1) (pS_ne (oS_4_8 hs1)) ?_
  refine PW.iconst (pc := 17) dX4_copyAll_17 (v := 0) (by decide) ?_
  refine PW.aload_n (pc := 18) dX4_copyAll_18 rfl ?_
  refine PW.getR (pc := 19) dX4_copyAll_19 (r := (a0 + 6)) lf_X4_37 (ob hM3.1 hs0 (by decide)) fx_4_8 (oR_4_8 (hM3.same rfl rfl) hs0) (pS_ne (oS_4_8 hs0)) ?_
  refine PW.iconst (pc := 22) dX4_copyAll_22 (v := 0) (by decide) ?_
  refine PW.bipush (pc := 23) dX4_copyAll_23 (v := 40) (by decide) ?_
  refine PW.copyI (pc := 25) dX4_copyAll_25 arc_X4_60 arc_nat arc_stat arc_ini (ar hM3.1 (oS_4_8 hs1)) (ar hM3.1 (oS_4_8 hs0)) (by decide) (by decide) (by decide) (by rw [(oN_4_8 hs1)]; decide) (by rw [(oN_4_8 hs0)]; decide) (Nat.le_of_ble_eq_true rfl) (by decide) (by decide +kernel) ?_
  refine PW.aload_n (pc := 28) dX4_copyAll_28 rfl ?_
  refine PW.getR (pc := 29) dX4_copyAll_29 (r := (a1 + 7)) lf_X4_40 (ob hM3.1 hs1 (by decide)) fx_4_9 (oR_4_9 (hM3.same rfl rfl) hs1) (pS_ne (oS_4_9 hs1)) ?_
  refine PW.iconst (pc := 32) dX4_copyAll_32 (v := 0) (by decide) ?_
  refine PW.aload_n (pc := 33) dX4_copyAll_33 rfl ?_
  refine PW.getR (pc := 34) dX4_copyAll_34 (r := (a0 + 7)) lf_X4_40 (ob hM3.1 hs0 (by decide)) fx_4_9 (oR_4_9 (hM3.same rfl rfl) hs0) (pS_ne (oS_4_9 hs0)) ?_
  refine PW.iconst (pc := 37) dX4_copyAll_37 (v := 0) (by decide) ?_
  refine PW.bipush (pc := 38) dX4_copyAll_38 (v := 40) (by decide) ?_
  refine PW.copyI (pc := 40) dX4_copyAll_40 arc_X4_60 arc_nat arc_stat arc_ini (ar hM3.1 (oS_4_9 hs1)) (ar hM3.1 (oS_4_9 hs0)) (by decide) (by decide) (by decide) (by rw [(oN_4_9 hs1)]; decide) (by rw [(oN_4_9 hs0)]; decide) (Nat.le_of_ble_eq_true rfl) (by decide) (by decide +kernel) ?_
  refine PW.aload_n (pc := 43) dX4_copyAll_43 rfl ?_
  refine PW.getR (pc := 44) dX4_copyAll_44 (r := (a1 + 8)) lf_X4_43 (ob hM3.1 hs1 (by decide)) fx_4_10 (oR_4_10 (hM3.same rfl rfl) hs1) (pS_ne (oS_4_10 hs1)) ?_
  refine PW.iconst (pc := 47) dX4_copyAll_47 (v := 0) (by decide) ?_
  refine PW.aload_n (pc := 48) dX4_copyAll_48 rfl ?_
  refine PW.getR (pc := 49) dX4_copyAll_49 (r := (a0 + 8)) lf_X4_43 (ob hM3.1 hs0 (by decide)) fx_4_10 (oR_4_10 (hM3.same rfl rfl) hs0) (pS_ne (oS_4_10 hs0)) ?_
  refine PW.iconst (pc := 52) dX4_copyAll_52 (v := 0) (by decide) ?_
  refine PW.bipush (pc := 53) dX4_copyAll_53 (v := 40) (by decide) ?_
  refine PW.copyI (pc := 55) dX4_copyAll_55 arc_X4_60 arc_nat arc_stat arc_ini (ar hM3.1 (oS_4_10 hs1)) (ar hM3.1 (oS_4_10 hs0)) (by decide) (by decide) (by decide) (by rw [(oN_4_10 hs1)]; decide) (by rw [(oN_4_10 hs0)]; decide) (Nat.le_of_ble_eq_true rfl) (by decide) (by decide +kernel) ?_
  exact PW.ret0 (pc := 58) dX4_copyAll_58 hM3.1 rfl ⟨(hM3.same rfl rfl), rfl, h⟩
def w_X0_remember_58  (a1 : Nat) (M : pm)  (Q : pm → Prop) : Prop := vp_in (mI M 75 1) 20 ∧ (w_X4_copyAll (mR M 76 ((mI M 75 1).toNatClampNeg)) a1 M (fun M2 => Q (sI M2 75 1 ((mI M2 75 1) + 1))))
set_option maxRecDepth 4000 in
theorem c_X0_remember_58  {Q : pm → Prop}  : ∀ (a1 : Nat) (M : pm), pS 4 a1 → pG M → w_X0_remember_58 a1 M  Q → PW mX0_remember 3 350 58 [.ref 75, .ref a1, .null, .null] [] M (qV Q) := by
  intro a1 M hs1 hM h
  unfold w_X0_remember_58 at h
  refine PW.aload_n (pc := 58) dX0_remember_58 rfl ?_
  refine PW.getR (pc := 59) dX0_remember_59 (r := 76) lf_X0_11 (ob hM.1 s_75 (by decide)) fx_0_0 (oR_0_0 hM s_75) (pS_ne s_76) ?_
  refine PW.aload_n (pc := 62) dX0_remember_62 rfl ?_
  refine PW.getI (pc := 63) dX0_remember_63 lf_X0_17 (ob hM.1 s_75 (by decide)) fx_0_1 ?_
  obtain ⟨v1, h⟩ := h
  refine PW.aaldS (pc := 66) dX0_remember_66 (ar hM.1 s_76) (vpl n_76 v1) (r := mR M 76 ((mI M 75 1).toNatClampNeg)) rfl (pS_ne (hM.2.2.2.1 _ (vp_lt v1))) ?_
  refine PW.aload_n (pc := 67) dX0_remember_67 rfl ?_
  refine PW.inv (m' := mX4_copyAll) (pc := 68) dX0_remember_68 lm_X0_22 me_X4_copyAll mi_X4_copyAll (ob hM.1 (hM.2.2.2.1 _ (vp_lt v1)) (by decide)) rfl (As := [.ref a1]) (st := []) rfl (Nat.le_of_ble_eq_true rfl) (Nat.le_of_ble_eq_true rfl) (Nat.le_of_eq hM.1) (Nat.le_refl _) (PW.deep (by decide) (c_X4_copyAll (hM.2.2.2.1 _ (vp_lt v1)) hs1 hM h)) ?_
  rintro _ M2 ⟨hM4, rfl, h⟩
  refine PW.aload_n (pc := 71) dX0_remember_71 rfl ?_
  refine PW.dupR (pc := 72) dX0_remember_72 ?_
  refine PW.getI (pc := 73) dX0_remember_73 lf_X0_17 (ob hM4.1 s_75 (by decide)) fx_0_1 ?_
  refine PW.iconst (pc := 76) dX0_remember_76 (v := 1) (by decide) ?_
  refine PW.iadd (pc := 77) dX0_remember_77 ?_
  refine PW.putI (pc := 78) dX0_remember_78 lf_X0_17 (ob hM4.1 s_75 (by decide)) fx_0_1 fw_0_1 rfl rfl ?_
  exact PW.ret0 (pc := 81) dX0_remember_81 hM4.1 rfl ⟨(hM4.same rfl rfl), rfl, h⟩
def w_X0_remember_18 : Nat → Nat → Nat → Int32 → pm → (Nat → Nat → pm → Prop) → (pm → Prop) → Prop
  | 0, _, _, _, _, _, _ => False
  | n + 1, a1, a2, x3, M, k44, Q => ((20 ≤ x3 → (k44 a1 a2 M)) ∧ (¬ 20 ≤ x3 → (vp_in x3 20 ∧ (vp_in (x3 - 1) 20 ∧ (w_X0_remember_18 n a1 a2 (x3 + 1) (sR M 76 ((x3 - 1).toNatClampNeg) (mR M 76 x3.toNatClampNeg)) k44 Q)))))
set_option maxRecDepth 4000 in
theorem c_X0_remember_18 {k44 : Nat → Nat → pm → Prop} {Q : pm → Prop} (hk44 : ∀ (a1 : Nat) (a2 : Nat) (M : pm), pS 4 a1 → pS 4 a2 → pG M → k44 a1 a2 M → PW mX0_remember 3 350 44 [.ref 75, .ref a1, .ref a2, .null] [] M (qV Q)) : ∀ (n : Nat) (a1 : Nat) (a2 : Nat) (x3 : Int32) (M : pm), pS 4 a1 → pS 4 a2 → pG M → w_X0_remember_18 n a1 a2 x3 M k44 Q → PW mX0_remember 3 350 18 [.ref 75, .ref a1, .ref a2, .int x3] [] M (qV Q) := by
  intro n
  induction n with
  | zero => intro a1 a2 x3 M hs1 hs2 hM h; exact h.elim
  | succ n ih =>
    intro a1 a2 x3 M hs1 hs2 hM h
    unfold w_X0_remember_18 at h
    refine PW.iload_n (pc := 18) dX0_remember_18 rfl ?_
    refine PW.bipush (pc := 19) dX0_remember_19 (v := 20) (by decide) ?_
    refine PW.icmp_ge (pc := 21) dX0_remember_21 (t := 44) (by decide) (fun hc => ?_) (fun hc => ?_)
    · have h := h.1 hc
      exact PW.drop (hk44 _ _ _ hs1 hs2 hM h) ⟨rfl, rfl, rfl, trivial⟩
    · have h := h.2 hc
      refine PW.aload_n (pc := 24) dX0_remember_24 rfl ?_
      refine PW.getR (pc := 25) dX0_remember_25 (r := 76) lf_X0_11 (ob hM.1 s_75 (by decide)) fx_0_0 (oR_0_0 hM s_75) (pS_ne s_76) ?_
      refine PW.iload_n (pc := 28) dX0_remember_28 rfl ?_
      refine PW.iconst (pc := 29) dX0_remember_29 (v := 1) (by decide) ?_
      refine PW.isub (pc := 30) dX0_remember_30 ?_
      refine PW.aload_n (pc := 31) dX0_remember_31 rfl ?_
      refine PW.getR (pc := 32) dX0_remember_32 (r := 76) lf_X0_11 (ob hM.1 s_75 (by decide)) fx_0_0 (oR_0_0 hM s_75) (pS_ne s_76) ?_
      refine PW.iload_n (pc := 35) dX0_remember_35 rfl ?_
      obtain ⟨v5, h⟩ := h
      refine PW.aaldS (pc := 36) dX0_remember_36 (ar hM.1 s_76) (vpl n_76 v5) (r := mR M 76 x3.toNatClampNeg) rfl (pS_ne (hM.2.2.2.1 _ (vp_lt v5))) ?_
      obtain ⟨v6, h⟩ := h
      refine PW.aastS (pc := 37) dX0_remember_37 (ar hM.1 s_76) (vpl n_76 v6) (ob hM.1 (hM.2.2.2.1 _ (vp_lt v5)) (by decide)) ?_
      have hG7 : pG (sR M 76 ((x3 - 1).toNatClampNeg) (mR M 76 x3.toNatClampNeg)) := pG_states hM (hM.2.2.2.1 _ (vp_lt v5))
      refine PW.iinc (pc := 38) dX0_remember_38 (v := (x3 + 1)) (ls' := [.ref 75, .ref a1, .ref a2, .int (x3 + 1)]) rfl rfl (by decide) rfl rfl ?_
      refine PW.goto (pc := 41) dX0_remember_41 (t := 18) (by decide) ?_
      exact PW.drop (ih _ _ _ _ hs1 hs2 hG7 h) ⟨rfl, rfl, rfl, rfl, trivial⟩
def w_X0_remember (a1 : Nat) (M : pm) (Q : pm → Prop) : Prop := (((mI M 75 1) < 20 → (w_X0_remember_58 a1 M  Q)) ∧ (¬ (mI M 75 1) < 20 → (∃ n8, w_X0_remember_18 n8 a1 (mR M 76 0) 1 M (fun a1 a2 M9 => w_X0_remember_58 a1 (sI (sR M9 76 19 a2) 75 1 19)  Q) Q)))
set_option maxRecDepth 4000 in
theorem c_X0_remember {a1 : Nat} {M : pm} {Q : pm → Prop} (hs1 : pS 4 a1) (hM : pG M) (h : w_X0_remember a1 M Q) : PW mX0_remember 3 350 0 (pfr mX0_remember.2.2.1 [.ref 75, .ref a1]) [] M (qV Q) := by
  unfold w_X0_remember at h
  show PW mX0_remember 3 350 0 [.ref 75, .ref a1, .null, .null] [] M (qV Q)
  refine PW.aload_n (pc := 0) dX0_remember_0 rfl ?_
  refine PW.getI (pc := 1) dX0_remember_1 lf_X0_17 (ob hM.1 s_75 (by decide)) fx_0_1 ?_
  refine PW.bipush (pc := 4) dX0_remember_4 (v := 20) (by decide) ?_
  refine PW.icmp_lt (pc := 6) dX0_remember_6 (t := 58) (by decide) (fun hc => ?_) (fun hc => ?_)
  · have h := h.1 hc
    exact PW.drop (c_X0_remember_58  _ _ hs1 hM h) ⟨rfl, rfl, trivial⟩
  · have h := h.2 hc
    refine PW.aload_n (pc := 9) dX0_remember_9 rfl ?_
    refine PW.getR (pc := 10) dX0_remember_10 (r := 76) lf_X0_11 (ob hM.1 s_75 (by decide)) fx_0_0 (oR_0_0 hM s_75) (pS_ne s_76) ?_
    refine PW.iconst (pc := 13) dX0_remember_13 (v := 0) (by decide) ?_
    refine PW.aaldS (pc := 14) dX0_remember_14 (ar hM.1 s_76) (vpl n_76 (vp_c (i := 0) (n := 20) (by decide))) (r := mR M 76 0) rfl (pS_ne (hM.2.2.2.1 _ (vp_lt (vp_c (i := 0) (n := 20) (by decide))))) ?_
    refine PW.astore_n (pc := 15) dX0_remember_15 (ls' := [.ref 75, .ref a1, .ref (mR M 76 0), .null]) (by decide) rfl rfl ?_
    refine PW.iconst (pc := 16) dX0_remember_16 (v := 1) (by decide) ?_
    refine PW.istore_n (pc := 17) dX0_remember_17 (ls' := [.ref 75, .ref a1, .ref (mR M 76 0), .int 1]) (by decide) rfl rfl ?_
    obtain ⟨n8, h⟩ := h
    refine PW.drop (c_X0_remember_18 ?_ n8 _ _ _ _ hs1 (hM.2.2.2.1 _ (vp_lt (vp_c (i := 0) (n := 20) (by decide)))) hM h) ⟨rfl, rfl, rfl, rfl, trivial⟩
    · intro a1 a2 M9 hs1 hs2 hM h
      refine PW.aload_n (pc := 44) dX0_remember_44 rfl ?_
      refine PW.getR (pc := 45) dX0_remember_45 (r := 76) lf_X0_11 (ob hM.1 s_75 (by decide)) fx_0_0 (oR_0_0 hM s_75) (pS_ne s_76) ?_
      refine PW.bipush (pc := 48) dX0_remember_48 (v := 19) (by decide) ?_
      refine PW.aload_n (pc := 50) dX0_remember_50 rfl ?_
      refine PW.aastS (pc := 51) dX0_remember_51 (ar hM.1 s_76) (vpl n_76 (vp_c (i := 19) (n := 20) (by decide))) (ob hM.1 hs2 (by decide)) ?_
      have hG10 : pG (sR M9 76 19 a2) := pG_states hM hs2
      refine PW.aload_n (pc := 52) dX0_remember_52 rfl ?_
      refine PW.bipush (pc := 53) dX0_remember_53 (v := 19) (by decide) ?_
      refine PW.putI (pc := 55) dX0_remember_55 lf_X0_17 (ob hG10.1 s_75 (by decide)) fx_0_1 fw_0_1 rfl rfl ?_
      exact PW.drop (c_X0_remember_58  _ _ hs1 (hG10.same rfl rfl) h) ⟨rfl, rfl, trivial⟩
def w_X0_takeBack (a1 : Nat) (M : pm) (Q : pm → Prop) : Prop := (((mI M 75 1) ≤ 0 → (Q M)) ∧ (¬ (mI M 75 1) ≤ 0 → (vp_in ((mI M 75 1) - 1) 20 ∧ (w_X4_copyAll a1 (mR M 76 (((mI M 75 1) - 1).toNatClampNeg)) (sI M 75 1 ((mI M 75 1) - 1)) (fun M2 => Q M2)))))
set_option maxRecDepth 4000 in
theorem c_X0_takeBack {a1 : Nat} {M : pm} {Q : pm → Prop} (hs1 : pS 4 a1) (hM : pG M) (h : w_X0_takeBack a1 M Q) : PW mX0_takeBack 3 350 0 (pfr mX0_takeBack.2.2.1 [.ref 75, .ref a1]) [] M (qV Q) := by
  unfold w_X0_takeBack at h
  show PW mX0_takeBack 3 350 0 [.ref 75, .ref a1] [] M (qV Q)
  refine PW.aload_n (pc := 0) dX0_takeBack_0 rfl ?_
  refine PW.getI (pc := 1) dX0_takeBack_1 lf_X0_17 (ob hM.1 s_75 (by decide)) fx_0_1 ?_
  refine PW.if_le (pc := 4) dX0_takeBack_4 (t := 30) (by decide) (fun hc => ?_) (fun hc => ?_)
  · have h := h.1 hc
    exact PW.ret0 (pc := 30) dX0_takeBack_30 hM.1 rfl ⟨hM, rfl, h⟩
  · have h := h.2 hc
    refine PW.aload_n (pc := 7) dX0_takeBack_7 rfl ?_
    refine PW.dupR (pc := 8) dX0_takeBack_8 ?_
    refine PW.getI (pc := 9) dX0_takeBack_9 lf_X0_17 (ob hM.1 s_75 (by decide)) fx_0_1 ?_
    refine PW.iconst (pc := 12) dX0_takeBack_12 (v := 1) (by decide) ?_
    refine PW.isub (pc := 13) dX0_takeBack_13 ?_
    refine PW.putI (pc := 14) dX0_takeBack_14 lf_X0_17 (ob hM.1 s_75 (by decide)) fx_0_1 fw_0_1 rfl rfl ?_
    refine PW.aload_n (pc := 17) dX0_takeBack_17 rfl ?_
    refine PW.aload_n (pc := 18) dX0_takeBack_18 rfl ?_
    refine PW.getR (pc := 19) dX0_takeBack_19 (r := 76) lf_X0_11 (ob hM.1 s_75 (by decide)) fx_0_0 (oR_0_0 (hM.same rfl rfl) s_75) (pS_ne s_76) ?_
    refine PW.aload_n (pc := 22) dX0_takeBack_22 rfl ?_
    refine PW.getI (pc := 23) dX0_takeBack_23 lf_X0_17 (ob hM.1 s_75 (by decide)) fx_0_1 ?_
    obtain ⟨v1, h⟩ := h
    refine PW.aaldS (pc := 26) dX0_takeBack_26 (ar hM.1 s_76) (vpl n_76 v1) (r := mR M 76 (((mI M 75 1) - 1).toNatClampNeg)) rfl (pS_ne (hM.2.2.2.1 _ (vp_lt v1))) ?_
    refine PW.inv (m' := mX4_copyAll) (pc := 27) dX0_takeBack_27 lm_X0_22 me_X4_copyAll mi_X4_copyAll (ob hM.1 hs1 (by decide)) rfl (As := [.ref (mR M 76 (((mI M 75 1) - 1).toNatClampNeg))]) (st := []) rfl (Nat.le_of_ble_eq_true rfl) (Nat.le_of_ble_eq_true rfl) (Nat.le_of_eq hM.1) (Nat.le_refl _) (PW.deep (by decide) (c_X4_copyAll hs1 (hM.2.2.2.1 _ (vp_lt v1)) (hM.same rfl rfl) h)) ?_
    rintro _ M2 ⟨hM4, rfl, h⟩
    exact PW.ret0 (pc := 30) dX0_takeBack_30 hM4.1 rfl ⟨hM4, rfl, h⟩
def w_J9_max_7cf53 (x0 : Int32) (x1 : Int32) (M : pm) (Q : Int32 → pm → Prop) : Prop := ((x0 < x1 → (Q x1 M)) ∧ (¬ x0 < x1 → (Q x0 M)))
set_option maxRecDepth 4000 in
theorem c_J9_max_7cf53 {x0 : Int32} {x1 : Int32} {M : pm} {Q : Int32 → pm → Prop}  (hM : pG M) (h : w_J9_max_7cf53 x0 x1 M Q) : PW mJ9_max_7cf53 1 350 0 (pfr mJ9_max_7cf53.2.2.1 [.int x0, .int x1]) [] M (qI Q) := by
  unfold w_J9_max_7cf53 at h
  show PW mJ9_max_7cf53 1 350 0 [.int x0, .int x1] [] M (qI Q)
  refine PW.iload_n (pc := 0) dJ9_max_7cf53_0 rfl ?_
  refine PW.iload_n (pc := 1) dJ9_max_7cf53_1 rfl ?_
  refine PW.icmp_lt (pc := 2) dJ9_max_7cf53_2 (t := 9) (by decide) (fun hc => ?_) (fun hc => ?_)
  · have h := h.1 hc
    refine PW.iload_n (pc := 9) dJ9_max_7cf53_9 rfl ?_
    exact PW.retI (pc := 10) dJ9_max_7cf53_10 hM.1 rfl rfl ⟨hM, _, rfl, h⟩
  · have h := h.2 hc
    refine PW.iload_n (pc := 5) dJ9_max_7cf53_5 rfl ?_
    refine PW.goto (pc := 6) dJ9_max_7cf53_6 (t := 10) (by decide) ?_
    exact PW.retI (pc := 10) dJ9_max_7cf53_10 hM.1 rfl rfl ⟨hM, _, rfl, h⟩
def w_X4_ageOf (a0 : Nat) (x1 : Int32) (M : pm) (Q : Int32 → pm → Prop) : Prop := vp_in x1 8 ∧ (w_J9_max_7cf53 0 ((mI M a0 0) - (mI M (a0 + 2) x1.toNatClampNeg)) M (fun y3 M2 => Q y3 M2))
set_option maxRecDepth 4000 in
theorem c_X4_ageOf {a0 : Nat} {x1 : Int32} {M : pm} {Q : Int32 → pm → Prop} (hs0 : pS 4 a0) (hM : pG M) (h : w_X4_ageOf a0 x1 M Q) : PW mX4_ageOf 2 350 0 (pfr mX4_ageOf.2.2.1 [.ref a0, .int x1]) [] M (qI Q) := by
  unfold w_X4_ageOf at h
  show PW mX4_ageOf 2 350 0 [.ref a0, .int x1] [] M (qI Q)
  refine PW.iconst (pc := 0) dX4_ageOf_0 (v := 0) (by decide) ?_
  refine PW.aload_n (pc := 1) dX4_ageOf_1 rfl ?_
  refine PW.getI (pc := 2) dX4_ageOf_2 lf_X4_9 (ob hM.1 hs0 (by decide)) fx_4_0 ?_
  refine PW.aload_n (pc := 5) dX4_ageOf_5 rfl ?_
  refine PW.getR (pc := 6) dX4_ageOf_6 (r := (a0 + 2)) lf_X4_22 (ob hM.1 hs0 (by decide)) fx_4_3 (oR_4_3 hM hs0) (pS_ne (oS_4_3 hs0)) ?_
  refine PW.iload_n (pc := 9) dX4_ageOf_9 rfl ?_
  obtain ⟨v1, h⟩ := h
  refine PW.iald (pc := 10) dX4_ageOf_10 (ar hM.1 (oS_4_3 hs0)) (vpl (oN_4_3 hs0) v1) ?_
  refine PW.isub (pc := 11) dX4_ageOf_11 ?_
  refine PW.ins (m' := mJ9_max_7cf53) (pc := 12) dX4_ageOf_12 lm_X4_70 me_J9_max_7cf53 ms_J9_max_7cf53 (As := [.int 0, .int ((mI M a0 0) - (mI M (a0 + 2) x1.toNatClampNeg))]) (st := []) rfl (Nat.le_of_ble_eq_true rfl) (Nat.le_of_ble_eq_true rfl) (Nat.le_of_eq hM.1) (Nat.le_refl _) (PW.deep (by decide) (c_J9_max_7cf53  hM h)) ?_
  rintro _ M2 ⟨hM4, y3, rfl, h⟩
  exact PW.retI (pc := 15) dX4_ageOf_15 hM4.1 rfl rfl ⟨hM4, _, rfl, h⟩
def w_J9_min_7cf53 (x0 : Int32) (x1 : Int32) (M : pm) (Q : Int32 → pm → Prop) : Prop := ((x1 < x0 → (Q x1 M)) ∧ (¬ x1 < x0 → (Q x0 M)))
set_option maxRecDepth 4000 in
theorem c_J9_min_7cf53 {x0 : Int32} {x1 : Int32} {M : pm} {Q : Int32 → pm → Prop}  (hM : pG M) (h : w_J9_min_7cf53 x0 x1 M Q) : PW mJ9_min_7cf53 1 350 0 (pfr mJ9_min_7cf53.2.2.1 [.int x0, .int x1]) [] M (qI Q) := by
  unfold w_J9_min_7cf53 at h
  show PW mJ9_min_7cf53 1 350 0 [.int x0, .int x1] [] M (qI Q)
  refine PW.iload_n (pc := 0) dJ9_min_7cf53_0 rfl ?_
  refine PW.iload_n (pc := 1) dJ9_min_7cf53_1 rfl ?_
  refine PW.icmp_gt (pc := 2) dJ9_min_7cf53_2 (t := 9) (by decide) (fun hc => ?_) (fun hc => ?_)
  · have h := h.1 hc
    refine PW.iload_n (pc := 9) dJ9_min_7cf53_9 rfl ?_
    exact PW.retI (pc := 10) dJ9_min_7cf53_10 hM.1 rfl rfl ⟨hM, _, rfl, h⟩
  · have h := h.2 hc
    refine PW.iload_n (pc := 5) dJ9_min_7cf53_5 rfl ?_
    refine PW.goto (pc := 6) dJ9_min_7cf53_6 (t := 10) (by decide) ?_
    exact PW.retI (pc := 10) dJ9_min_7cf53_10 hM.1 rfl rfl ⟨hM, _, rfl, h⟩
def w_X4_sinceOf (a0 : Nat) (x1 : Int32) (M : pm) (Q : Int32 → pm → Prop) : Prop := vp_in x1 8 ∧ ((¬ (mI M (a0 + 4) x1.toNatClampNeg) = (-1) → (vp_in x1 8 ∧ (w_J9_min_7cf53 99 ((mI M a0 0) - (mI M (a0 + 4) x1.toNatClampNeg)) M (fun y4 M3 => Q y4 M3)))) ∧ ((mI M (a0 + 4) x1.toNatClampNeg) = (-1) → (Q 99 M)))
set_option maxRecDepth 4000 in
theorem c_X4_sinceOf {a0 : Nat} {x1 : Int32} {M : pm} {Q : Int32 → pm → Prop} (hs0 : pS 4 a0) (hM : pG M) (h : w_X4_sinceOf a0 x1 M Q) : PW mX4_sinceOf 2 350 0 (pfr mX4_sinceOf.2.2.1 [.ref a0, .int x1]) [] M (qI Q) := by
  unfold w_X4_sinceOf at h
  show PW mX4_sinceOf 2 350 0 [.ref a0, .int x1] [] M (qI Q)
  refine PW.aload_n (pc := 0) dX4_sinceOf_0 rfl ?_
  refine PW.getR (pc := 1) dX4_sinceOf_1 (r := (a0 + 4)) lf_X4_28 (ob hM.1 hs0 (by decide)) fx_4_5 (oR_4_5 hM hs0) (pS_ne (oS_4_5 hs0)) ?_
  refine PW.iload_n (pc := 4) dX4_sinceOf_4 rfl ?_
  obtain ⟨v1, h⟩ := h
  refine PW.iald (pc := 5) dX4_sinceOf_5 (ar hM.1 (oS_4_5 hs0)) (vpl (oN_4_5 hs0) v1) ?_
  refine PW.iconst (pc := 6) dX4_sinceOf_6 (v := (-1)) (by decide) ?_
  refine PW.icmp_ne (pc := 7) dX4_sinceOf_7 (t := 15) (by decide) (fun hc => ?_) (fun hc => ?_)
  · have h := h.1 hc
    refine PW.bipush (pc := 15) dX4_sinceOf_15 (v := 99) (by decide) ?_
    refine PW.aload_n (pc := 17) dX4_sinceOf_17 rfl ?_
    refine PW.getI (pc := 18) dX4_sinceOf_18 lf_X4_9 (ob hM.1 hs0 (by decide)) fx_4_0 ?_
    refine PW.aload_n (pc := 21) dX4_sinceOf_21 rfl ?_
    refine PW.getR (pc := 22) dX4_sinceOf_22 (r := (a0 + 4)) lf_X4_28 (ob hM.1 hs0 (by decide)) fx_4_5 (oR_4_5 hM hs0) (pS_ne (oS_4_5 hs0)) ?_
    refine PW.iload_n (pc := 25) dX4_sinceOf_25 rfl ?_
    obtain ⟨v2, h⟩ := h
    refine PW.iald (pc := 26) dX4_sinceOf_26 (ar hM.1 (oS_4_5 hs0)) (vpl (oN_4_5 hs0) v2) ?_
    refine PW.isub (pc := 27) dX4_sinceOf_27 ?_
    refine PW.ins (m' := mJ9_min_7cf53) (pc := 28) dX4_sinceOf_28 lm_X4_76 me_J9_min_7cf53 ms_J9_min_7cf53 (As := [.int 99, .int ((mI M a0 0) - (mI M (a0 + 4) x1.toNatClampNeg))]) (st := []) rfl (Nat.le_of_ble_eq_true rfl) (Nat.le_of_ble_eq_true rfl) (Nat.le_of_eq hM.1) (Nat.le_refl _) (PW.deep (by decide) (c_J9_min_7cf53  hM h)) ?_
    rintro _ M3 ⟨hM5, y4, rfl, h⟩
    exact PW.retI (pc := 31) dX4_sinceOf_31 hM5.1 rfl rfl ⟨hM5, _, rfl, h⟩
  · have h := h.2 hc
    refine PW.bipush (pc := 10) dX4_sinceOf_10 (v := 99) (by decide) ?_
    refine PW.goto (pc := 12) dX4_sinceOf_12 (t := 31) (by decide) ?_
    exact PW.retI (pc := 31) dX4_sinceOf_31 hM.1 rfl rfl ⟨hM, _, rfl, h⟩
def w_X5_longOf (a0 : Nat) (x1 : Int32) (M : pm) (Q : Int32 → pm → Prop) : Prop := ((x1 < 0 → (Q 0 M)) ∧ (¬ x1 < 0 → (((mI M a0 4) ≤ x1 → (Q 0 M)) ∧ (¬ (mI M a0 4) ≤ x1 → (vp_in x1 6 ∧ (Q (mI M (a0 + 2) x1.toNatClampNeg) M))))))
set_option maxRecDepth 4000 in
theorem c_X5_longOf {a0 : Nat} {x1 : Int32} {M : pm} {Q : Int32 → pm → Prop} (hs0 : pS 5 a0) (hM : pG M) (h : w_X5_longOf a0 x1 M Q) : PW mX5_longOf 1 350 0 (pfr mX5_longOf.2.2.1 [.ref a0, .int x1]) [] M (qI Q) := by
  unfold w_X5_longOf at h
  show PW mX5_longOf 1 350 0 [.ref a0, .int x1] [] M (qI Q)
  refine PW.iload_n (pc := 0) dX5_longOf_0 rfl ?_
  refine PW.if_lt (pc := 1) dX5_longOf_1 (t := 21) (by decide) (fun hc => ?_) (fun hc => ?_)
  · have h := h.1 hc
    refine PW.iconst (pc := 21) dX5_longOf_21 (v := 0) (by decide) ?_
    exact PW.retI (pc := 22) dX5_longOf_22 hM.1 rfl rfl ⟨hM, _, rfl, h⟩
  · have h := h.2 hc
    refine PW.iload_n (pc := 4) dX5_longOf_4 rfl ?_
    refine PW.aload_n (pc := 5) dX5_longOf_5 rfl ?_
    refine PW.getI (pc := 6) dX5_longOf_6 lf_X5_24 (ob hM.1 hs0 (by decide)) fx_5_4 ?_
    refine PW.icmp_ge (pc := 9) dX5_longOf_9 (t := 21) (by decide) (fun hc => ?_) (fun hc => ?_)
    · have h := h.1 hc
      refine PW.iconst (pc := 21) dX5_longOf_21 (v := 0) (by decide) ?_
      exact PW.retI (pc := 22) dX5_longOf_22 hM.1 rfl rfl ⟨hM, _, rfl, h⟩
    · have h := h.2 hc
      refine PW.aload_n (pc := 12) dX5_longOf_12 rfl ?_
      refine PW.getR (pc := 13) dX5_longOf_13 (r := (a0 + 2)) lf_X5_31 (ob hM.1 hs0 (by decide)) fx_5_6 (oR_5_6 hM hs0) (pS_ne (oS_5_6 hs0)) ?_
      refine PW.iload_n (pc := 16) dX5_longOf_16 rfl ?_
      obtain ⟨v1, h⟩ := h
      refine PW.iald (pc := 17) dX5_longOf_17 (ar hM.1 (oS_5_6 hs0)) (vpl (oN_5_6 hs0) v1) ?_
      refine PW.goto (pc := 18) dX5_longOf_18 (t := 22) (by decide) ?_
      exact PW.retI (pc := 22) dX5_longOf_22 hM.1 rfl rfl ⟨hM, _, rfl, h⟩
def w_X5_styleOf (a0 : Nat) (x1 : Int32) (M : pm) (Q : Int32 → pm → Prop) : Prop := ((x1 < 0 → (Q 0 M)) ∧ (¬ x1 < 0 → (((mI M a0 4) ≤ x1 → (Q 0 M)) ∧ (¬ (mI M a0 4) ≤ x1 → (vp_in x1 6 ∧ (Q (mI M (a0 + 3) x1.toNatClampNeg) M))))))
set_option maxRecDepth 4000 in
theorem c_X5_styleOf {a0 : Nat} {x1 : Int32} {M : pm} {Q : Int32 → pm → Prop} (hs0 : pS 5 a0) (hM : pG M) (h : w_X5_styleOf a0 x1 M Q) : PW mX5_styleOf 1 350 0 (pfr mX5_styleOf.2.2.1 [.ref a0, .int x1]) [] M (qI Q) := by
  unfold w_X5_styleOf at h
  show PW mX5_styleOf 1 350 0 [.ref a0, .int x1] [] M (qI Q)
  refine PW.iload_n (pc := 0) dX5_styleOf_0 rfl ?_
  refine PW.if_lt (pc := 1) dX5_styleOf_1 (t := 21) (by decide) (fun hc => ?_) (fun hc => ?_)
  · have h := h.1 hc
    refine PW.iconst (pc := 21) dX5_styleOf_21 (v := 0) (by decide) ?_
    exact PW.retI (pc := 22) dX5_styleOf_22 hM.1 rfl rfl ⟨hM, _, rfl, h⟩
  · have h := h.2 hc
    refine PW.iload_n (pc := 4) dX5_styleOf_4 rfl ?_
    refine PW.aload_n (pc := 5) dX5_styleOf_5 rfl ?_
    refine PW.getI (pc := 6) dX5_styleOf_6 lf_X5_24 (ob hM.1 hs0 (by decide)) fx_5_4 ?_
    refine PW.icmp_ge (pc := 9) dX5_styleOf_9 (t := 21) (by decide) (fun hc => ?_) (fun hc => ?_)
    · have h := h.1 hc
      refine PW.iconst (pc := 21) dX5_styleOf_21 (v := 0) (by decide) ?_
      exact PW.retI (pc := 22) dX5_styleOf_22 hM.1 rfl rfl ⟨hM, _, rfl, h⟩
    · have h := h.2 hc
      refine PW.aload_n (pc := 12) dX5_styleOf_12 rfl ?_
      refine PW.getR (pc := 13) dX5_styleOf_13 (r := (a0 + 3)) lf_X5_34 (ob hM.1 hs0 (by decide)) fx_5_7 (oR_5_7 hM hs0) (pS_ne (oS_5_7 hs0)) ?_
      refine PW.iload_n (pc := 16) dX5_styleOf_16 rfl ?_
      obtain ⟨v1, h⟩ := h
      refine PW.iald (pc := 17) dX5_styleOf_17 (ar hM.1 (oS_5_7 hs0)) (vpl (oN_5_7 hs0) v1) ?_
      refine PW.goto (pc := 18) dX5_styleOf_18 (t := 22) (by decide) ?_
      exact PW.retI (pc := 22) dX5_styleOf_22 hM.1 rfl rfl ⟨hM, _, rfl, h⟩
def w_X4_isDead (a0 : Nat) (x1 : Int32) (M : pm) (Q : Int32 → pm → Prop) : Prop := vp_in x1 8 ∧ (((mI M a0 0) < (mI M (a0 + 2) x1.toNatClampNeg) → (Q 0 M)) ∧ (¬ (mI M a0 0) < (mI M (a0 + 2) x1.toNatClampNeg) → (Q 1 M)))
set_option maxRecDepth 4000 in
theorem c_X4_isDead {a0 : Nat} {x1 : Int32} {M : pm} {Q : Int32 → pm → Prop} (hs0 : pS 4 a0) (hM : pG M) (h : w_X4_isDead a0 x1 M Q) : PW mX4_isDead 1 350 0 (pfr mX4_isDead.2.2.1 [.ref a0, .int x1]) [] M (qZ Q) := by
  unfold w_X4_isDead at h
  show PW mX4_isDead 1 350 0 [.ref a0, .int x1] [] M (qZ Q)
  refine PW.aload_n (pc := 0) dX4_isDead_0 rfl ?_
  refine PW.getI (pc := 1) dX4_isDead_1 lf_X4_9 (ob hM.1 hs0 (by decide)) fx_4_0 ?_
  refine PW.aload_n (pc := 4) dX4_isDead_4 rfl ?_
  refine PW.getR (pc := 5) dX4_isDead_5 (r := (a0 + 2)) lf_X4_22 (ob hM.1 hs0 (by decide)) fx_4_3 (oR_4_3 hM hs0) (pS_ne (oS_4_3 hs0)) ?_
  refine PW.iload_n (pc := 8) dX4_isDead_8 rfl ?_
  obtain ⟨v1, h⟩ := h
  refine PW.iald (pc := 9) dX4_isDead_9 (ar hM.1 (oS_4_3 hs0)) (vpl (oN_4_3 hs0) v1) ?_
  refine PW.icmp_lt (pc := 10) dX4_isDead_10 (t := 17) (by decide) (fun hc => ?_) (fun hc => ?_)
  · have h := h.1 hc
    refine PW.iconst (pc := 17) dX4_isDead_17 (v := 0) (by decide) ?_
    exact PW.retI (pc := 18) dX4_isDead_18 hM.1 rfl (bz_n bz0) ⟨hM, _, rfl, bz0, h⟩
  · have h := h.2 hc
    refine PW.iconst (pc := 13) dX4_isDead_13 (v := 1) (by decide) ?_
    refine PW.goto (pc := 14) dX4_isDead_14 (t := 18) (by decide) ?_
    exact PW.retI (pc := 18) dX4_isDead_18 hM.1 rfl (bz_n bz1) ⟨hM, _, rfl, bz1, h⟩
def w_X1_lookAt (a1 : Nat) (a2 : Nat) (x3 : Int32) (M : pm) (Q : pm → Prop) : Prop := vp_in x3 8 ∧ (vp_in x3 8 ∧ (w_X4_ageOf a2 x3 (sI M 46 7 (mI M (a2 + 3) x3.toNatClampNeg)) (fun y4 M3 => w_X4_sinceOf a2 x3 (sI M3 46 15 y4) (fun y7 M6 => vp_in x3 8 ∧ (w_X5_longOf a1 (mI M (a2 + 1) x3.toNatClampNeg) (sI (sI (sI M6 46 16 y7) 46 17 (mI (sI M6 46 16 y7) (a2 + 5) x3.toNatClampNeg)) 46 18 (mI (sI (sI M6 46 16 y7) 46 17 (mI (sI M6 46 16 y7) (a2 + 5) x3.toNatClampNeg)) a2 0)) (fun y11 M10 => w_X5_styleOf a1 (mI M (a2 + 1) x3.toNatClampNeg) (sI M10 46 2 y11) (fun y14 M13 => w_X4_isDead a2 x3 (sI (sI M13 46 3 y14) 46 19 x3) (fun y17 M16 => ((y17 = 0 → (Q (sI (sI M16 46 20 1) 46 5 (mI M (a2 + 1) x3.toNatClampNeg)))) ∧ (¬ y17 = 0 → (Q (sI (sI M16 46 20 0) 46 5 (mI M (a2 + 1) x3.toNatClampNeg)))))))))))))
set_option maxRecDepth 4000 in
theorem c_X1_lookAt {a1 : Nat} {a2 : Nat} {x3 : Int32} {M : pm} {Q : pm → Prop} (hs1 : pS 5 a1) (hs2 : pS 4 a2) (hM : pG M) (h : w_X1_lookAt a1 a2 x3 M Q) : PW mX1_lookAt 3 350 0 (pfr mX1_lookAt.2.2.1 [.ref 44, .ref a1, .ref a2, .int x3]) [] M (qV Q) := by
  unfold w_X1_lookAt at h
  show PW mX1_lookAt 3 350 0 [.ref 44, .ref a1, .ref a2, .int x3, .null] [] M (qV Q)
  refine PW.aload_n (pc := 0) dX1_lookAt_0 rfl ?_
  refine PW.getR (pc := 1) dX1_lookAt_1 (r := (a2 + 1)) lf_X1_32 (ob hM.1 hs2 (by decide)) fx_4_2 (oR_4_2 hM hs2) (pS_ne (oS_4_2 hs2)) ?_
  refine PW.iload_n (pc := 4) dX1_lookAt_4 rfl ?_
  obtain ⟨v1, h⟩ := h
  refine PW.iald (pc := 5) dX1_lookAt_5 (ar hM.1 (oS_4_2 hs2)) (vpl (oN_4_2 hs2) v1) ?_
  refine PW.istore (pc := 6) dX1_lookAt_6 (ls' := [.ref 44, .ref a1, .ref a2, .int x3, .int (mI M (a2 + 1) x3.toNatClampNeg)]) (by decide) rfl rfl ?_
  refine PW.aload_n (pc := 8) dX1_lookAt_8 rfl ?_
  refine PW.getR (pc := 9) dX1_lookAt_9 (r := 46) lf_X1_15 (ob hM.1 s_44 (by decide)) fx_1_1 (oR_1_1 hM s_44) (pS_ne s_46) ?_
  refine PW.bipush (pc := 12) dX1_lookAt_12 (v := 7) (by decide) ?_
  refine PW.aload_n (pc := 14) dX1_lookAt_14 rfl ?_
  refine PW.getR (pc := 15) dX1_lookAt_15 (r := (a2 + 3)) lf_X1_37 (ob hM.1 hs2 (by decide)) fx_4_4 (oR_4_4 hM hs2) (pS_ne (oS_4_4 hs2)) ?_
  refine PW.iload_n (pc := 18) dX1_lookAt_18 rfl ?_
  obtain ⟨v2, h⟩ := h
  refine PW.iald (pc := 19) dX1_lookAt_19 (ar hM.1 (oS_4_4 hs2)) (vpl (oN_4_4 hs2) v2) ?_
  refine PW.iast (pc := 20) dX1_lookAt_20 (ar hM.1 s_46) (vpl n_46 (vp_c (i := 7) (n := 28) (by decide))) ?_
  refine PW.aload_n (pc := 21) dX1_lookAt_21 rfl ?_
  refine PW.getR (pc := 22) dX1_lookAt_22 (r := 46) lf_X1_15 (ob hM.1 s_44 (by decide)) fx_1_1 (oR_1_1 (hM.same rfl rfl) s_44) (pS_ne s_46) ?_
  refine PW.bipush (pc := 25) dX1_lookAt_25 (v := 15) (by decide) ?_
  refine PW.aload_n (pc := 27) dX1_lookAt_27 rfl ?_
  refine PW.iload_n (pc := 28) dX1_lookAt_28 rfl ?_
  refine PW.inv (m' := mX4_ageOf) (pc := 29) dX1_lookAt_29 lm_X1_40 me_X4_ageOf mi_X4_ageOf (ob hM.1 hs2 (by decide)) rfl (As := [.int x3]) (st := [.int 15, .ref 46]) rfl (Nat.le_of_ble_eq_true rfl) (Nat.le_of_ble_eq_true rfl) (Nat.le_of_eq hM.1) (Nat.le_refl _) (PW.deep (by decide) (c_X4_ageOf hs2 (hM.same rfl rfl) h)) ?_
  rintro _ M3 ⟨hM5, y4, rfl, h⟩
  refine PW.iast (pc := 32) dX1_lookAt_32 (ar hM5.1 s_46) (vpl n_46 (vp_c (i := 15) (n := 28) (by decide))) ?_
  refine PW.aload_n (pc := 33) dX1_lookAt_33 rfl ?_
  refine PW.getR (pc := 34) dX1_lookAt_34 (r := 46) lf_X1_15 (ob hM5.1 s_44 (by decide)) fx_1_1 (oR_1_1 (hM5.same rfl rfl) s_44) (pS_ne s_46) ?_
  refine PW.bipush (pc := 37) dX1_lookAt_37 (v := 16) (by decide) ?_
  refine PW.aload_n (pc := 39) dX1_lookAt_39 rfl ?_
  refine PW.iload_n (pc := 40) dX1_lookAt_40 rfl ?_
  refine PW.inv (m' := mX4_sinceOf) (pc := 41) dX1_lookAt_41 lm_X1_44 me_X4_sinceOf mi_X4_sinceOf (ob hM5.1 hs2 (by decide)) rfl (As := [.int x3]) (st := [.int 16, .ref 46]) rfl (Nat.le_of_ble_eq_true rfl) (Nat.le_of_ble_eq_true rfl) (Nat.le_of_eq hM5.1) (Nat.le_refl _) (PW.deep (by decide) (c_X4_sinceOf hs2 (hM5.same rfl rfl) h)) ?_
  rintro _ M6 ⟨hM8, y7, rfl, h⟩
  refine PW.iast (pc := 44) dX1_lookAt_44 (ar hM8.1 s_46) (vpl n_46 (vp_c (i := 16) (n := 28) (by decide))) ?_
  refine PW.aload_n (pc := 45) dX1_lookAt_45 rfl ?_
  refine PW.getR (pc := 46) dX1_lookAt_46 (r := 46) lf_X1_15 (ob hM8.1 s_44 (by decide)) fx_1_1 (oR_1_1 (hM8.same rfl rfl) s_44) (pS_ne s_46) ?_
  refine PW.bipush (pc := 49) dX1_lookAt_49 (v := 17) (by decide) ?_
  refine PW.aload_n (pc := 51) dX1_lookAt_51 rfl ?_
  refine PW.getR (pc := 52) dX1_lookAt_52 (r := (a2 + 5)) lf_X1_47 (ob hM8.1 hs2 (by decide)) fx_4_6 (oR_4_6 (hM8.same rfl rfl) hs2) (pS_ne (oS_4_6 hs2)) ?_
  refine PW.iload_n (pc := 55) dX1_lookAt_55 rfl ?_
  obtain ⟨v9, h⟩ := h
  refine PW.iald (pc := 56) dX1_lookAt_56 (ar hM8.1 (oS_4_6 hs2)) (vpl (oN_4_6 hs2) v9) ?_
  refine PW.iast (pc := 57) dX1_lookAt_57 (ar hM8.1 s_46) (vpl n_46 (vp_c (i := 17) (n := 28) (by decide))) ?_
  refine PW.aload_n (pc := 58) dX1_lookAt_58 rfl ?_
  refine PW.getR (pc := 59) dX1_lookAt_59 (r := 46) lf_X1_15 (ob hM8.1 s_44 (by decide)) fx_1_1 (oR_1_1 (hM8.same rfl rfl) s_44) (pS_ne s_46) ?_
  refine PW.bipush (pc := 62) dX1_lookAt_62 (v := 18) (by decide) ?_
  refine PW.aload_n (pc := 64) dX1_lookAt_64 rfl ?_
  refine PW.getI (pc := 65) dX1_lookAt_65 lf_X1_50 (ob hM8.1 hs2 (by decide)) fx_4_0 ?_
  refine PW.iast (pc := 68) dX1_lookAt_68 (ar hM8.1 s_46) (vpl n_46 (vp_c (i := 18) (n := 28) (by decide))) ?_
  refine PW.aload_n (pc := 69) dX1_lookAt_69 rfl ?_
  refine PW.getR (pc := 70) dX1_lookAt_70 (r := 46) lf_X1_15 (ob hM8.1 s_44 (by decide)) fx_1_1 (oR_1_1 (hM8.same rfl rfl) s_44) (pS_ne s_46) ?_
  refine PW.iconst (pc := 73) dX1_lookAt_73 (v := 2) (by decide) ?_
  refine PW.aload_n (pc := 74) dX1_lookAt_74 rfl ?_
  refine PW.iload (pc := 75) dX1_lookAt_75 rfl ?_
  refine PW.inv (m' := mX5_longOf) (pc := 77) dX1_lookAt_77 lm_X1_54 me_X5_longOf mi_X5_longOf (ob hM8.1 hs1 (by decide)) rfl (As := [.int (mI M (a2 + 1) x3.toNatClampNeg)]) (st := [.int 2, .ref 46]) rfl (Nat.le_of_ble_eq_true rfl) (Nat.le_of_ble_eq_true rfl) (Nat.le_of_eq hM8.1) (Nat.le_refl _) (PW.deep (by decide) (c_X5_longOf hs1 (hM8.same rfl rfl) h)) ?_
  rintro _ M10 ⟨hM12, y11, rfl, h⟩
  refine PW.iast (pc := 80) dX1_lookAt_80 (ar hM12.1 s_46) (vpl n_46 (vp_c (i := 2) (n := 28) (by decide))) ?_
  refine PW.aload_n (pc := 81) dX1_lookAt_81 rfl ?_
  refine PW.getR (pc := 82) dX1_lookAt_82 (r := 46) lf_X1_15 (ob hM12.1 s_44 (by decide)) fx_1_1 (oR_1_1 (hM12.same rfl rfl) s_44) (pS_ne s_46) ?_
  refine PW.iconst (pc := 85) dX1_lookAt_85 (v := 3) (by decide) ?_
  refine PW.aload_n (pc := 86) dX1_lookAt_86 rfl ?_
  refine PW.iload (pc := 87) dX1_lookAt_87 rfl ?_
  refine PW.inv (m' := mX5_styleOf) (pc := 89) dX1_lookAt_89 lm_X1_59 me_X5_styleOf mi_X5_styleOf (ob hM12.1 hs1 (by decide)) rfl (As := [.int (mI M (a2 + 1) x3.toNatClampNeg)]) (st := [.int 3, .ref 46]) rfl (Nat.le_of_ble_eq_true rfl) (Nat.le_of_ble_eq_true rfl) (Nat.le_of_eq hM12.1) (Nat.le_refl _) (PW.deep (by decide) (c_X5_styleOf hs1 (hM12.same rfl rfl) h)) ?_
  rintro _ M13 ⟨hM15, y14, rfl, h⟩
  refine PW.iast (pc := 92) dX1_lookAt_92 (ar hM15.1 s_46) (vpl n_46 (vp_c (i := 3) (n := 28) (by decide))) ?_
  refine PW.aload_n (pc := 93) dX1_lookAt_93 rfl ?_
  refine PW.getR (pc := 94) dX1_lookAt_94 (r := 46) lf_X1_15 (ob hM15.1 s_44 (by decide)) fx_1_1 (oR_1_1 (hM15.same rfl rfl) s_44) (pS_ne s_46) ?_
  refine PW.bipush (pc := 97) dX1_lookAt_97 (v := 19) (by decide) ?_
  refine PW.iload_n (pc := 99) dX1_lookAt_99 rfl ?_
  refine PW.iast (pc := 100) dX1_lookAt_100 (ar hM15.1 s_46) (vpl n_46 (vp_c (i := 19) (n := 28) (by decide))) ?_
  refine PW.aload_n (pc := 101) dX1_lookAt_101 rfl ?_
  refine PW.getR (pc := 102) dX1_lookAt_102 (r := 46) lf_X1_15 (ob hM15.1 s_44 (by decide)) fx_1_1 (oR_1_1 (hM15.same rfl rfl) s_44) (pS_ne s_46) ?_
  refine PW.bipush (pc := 105) dX1_lookAt_105 (v := 20) (by decide) ?_
  refine PW.aload_n (pc := 107) dX1_lookAt_107 rfl ?_
  refine PW.iload_n (pc := 108) dX1_lookAt_108 rfl ?_
  refine PW.inv (m' := mX4_isDead) (pc := 109) dX1_lookAt_109 lm_X1_62 me_X4_isDead mi_X4_isDead (ob hM15.1 hs2 (by decide)) rfl (As := [.int x3]) (st := [.int 20, .ref 46]) rfl (Nat.le_of_ble_eq_true rfl) (Nat.le_of_ble_eq_true rfl) (Nat.le_of_eq hM15.1) (Nat.le_refl _) (PW.deep (by decide) (c_X4_isDead hs2 (hM15.same rfl rfl) h)) ?_
  rintro _ M16 ⟨hM18, y17, rfl, z19, h⟩
  refine PW.if_eq (pc := 112) dX1_lookAt_112 (t := 119) (by decide) (fun hc => ?_) (fun hc => ?_)
  · have h := h.1 hc
    refine PW.iconst (pc := 119) dX1_lookAt_119 (v := 1) (by decide) ?_
    refine PW.iast (pc := 120) dX1_lookAt_120 (ar hM18.1 s_46) (vpl n_46 (vp_c (i := 20) (n := 28) (by decide))) ?_
    refine PW.aload_n (pc := 121) dX1_lookAt_121 rfl ?_
    refine PW.getR (pc := 122) dX1_lookAt_122 (r := 46) lf_X1_15 (ob hM18.1 s_44 (by decide)) fx_1_1 (oR_1_1 (hM18.same rfl rfl) s_44) (pS_ne s_46) ?_
    refine PW.iconst (pc := 125) dX1_lookAt_125 (v := 5) (by decide) ?_
    refine PW.iload (pc := 126) dX1_lookAt_126 rfl ?_
    refine PW.iast (pc := 128) dX1_lookAt_128 (ar hM18.1 s_46) (vpl n_46 (vp_c (i := 5) (n := 28) (by decide))) ?_
    exact PW.ret0 (pc := 129) dX1_lookAt_129 hM18.1 rfl ⟨(hM18.same rfl rfl), rfl, h⟩
  · have h := h.2 hc
    refine PW.iconst (pc := 115) dX1_lookAt_115 (v := 0) (by decide) ?_
    refine PW.goto (pc := 116) dX1_lookAt_116 (t := 120) (by decide) ?_
    refine PW.iast (pc := 120) dX1_lookAt_120 (ar hM18.1 s_46) (vpl n_46 (vp_c (i := 20) (n := 28) (by decide))) ?_
    refine PW.aload_n (pc := 121) dX1_lookAt_121 rfl ?_
    refine PW.getR (pc := 122) dX1_lookAt_122 (r := 46) lf_X1_15 (ob hM18.1 s_44 (by decide)) fx_1_1 (oR_1_1 (hM18.same rfl rfl) s_44) (pS_ne s_46) ?_
    refine PW.iconst (pc := 125) dX1_lookAt_125 (v := 5) (by decide) ?_
    refine PW.iload (pc := 126) dX1_lookAt_126 rfl ?_
    refine PW.iast (pc := 128) dX1_lookAt_128 (ar hM18.1 s_46) (vpl n_46 (vp_c (i := 5) (n := 28) (by decide))) ?_
    exact PW.ret0 (pc := 129) dX1_lookAt_129 hM18.1 rfl ⟨(hM18.same rfl rfl), rfl, h⟩
def w_X1_lookOn (x1 : Int32) (M : pm) (Q : pm → Prop) : Prop := Q (sI M 46 21 x1)
set_option maxRecDepth 4000 in
theorem c_X1_lookOn {x1 : Int32} {M : pm} {Q : pm → Prop}  (hM : pG M) (h : w_X1_lookOn x1 M Q) : PW mX1_lookOn 1 350 0 (pfr mX1_lookOn.2.2.1 [.ref 44, .int x1]) [] M (qV Q) := by
  unfold w_X1_lookOn at h
  show PW mX1_lookOn 1 350 0 [.ref 44, .int x1] [] M (qV Q)
  refine PW.aload_n (pc := 0) dX1_lookOn_0 rfl ?_
  refine PW.getR (pc := 1) dX1_lookOn_1 (r := 46) lf_X1_15 (ob hM.1 s_44 (by decide)) fx_1_1 (oR_1_1 hM s_44) (pS_ne s_46) ?_
  refine PW.bipush (pc := 4) dX1_lookOn_4 (v := 21) (by decide) ?_
  refine PW.iload_n (pc := 6) dX1_lookOn_6 rfl ?_
  refine PW.iast (pc := 7) dX1_lookOn_7 (ar hM.1 s_46) (vpl n_46 (vp_c (i := 21) (n := 28) (by decide))) ?_
  exact PW.ret0 (pc := 8) dX1_lookOn_8 hM.1 rfl ⟨(hM.same rfl rfl), rfl, h⟩
def w_X1_factOf (x1 : Int32) (M : pm) (Q : Int32 → pm → Prop) : Prop := ((x1 < 0 → (Q 0 M)) ∧ (¬ x1 < 0 → ((28 ≤ x1 → (Q 0 M)) ∧ (¬ 28 ≤ x1 → (vp_in x1 28 ∧ (Q (mI M 46 x1.toNatClampNeg) M))))))
set_option maxRecDepth 4000 in
theorem c_X1_factOf {x1 : Int32} {M : pm} {Q : Int32 → pm → Prop}  (hM : pG M) (h : w_X1_factOf x1 M Q) : PW mX1_factOf 1 350 0 (pfr mX1_factOf.2.2.1 [.ref 44, .int x1]) [] M (qI Q) := by
  unfold w_X1_factOf at h
  show PW mX1_factOf 1 350 0 [.ref 44, .int x1] [] M (qI Q)
  refine PW.iload_n (pc := 0) dX1_factOf_0 rfl ?_
  refine PW.if_lt (pc := 1) dX1_factOf_1 (t := 19) (by decide) (fun hc => ?_) (fun hc => ?_)
  · have h := h.1 hc
    refine PW.iconst (pc := 19) dX1_factOf_19 (v := 0) (by decide) ?_
    exact PW.retI (pc := 20) dX1_factOf_20 hM.1 rfl rfl ⟨hM, _, rfl, h⟩
  · have h := h.2 hc
    refine PW.iload_n (pc := 4) dX1_factOf_4 rfl ?_
    refine PW.bipush (pc := 5) dX1_factOf_5 (v := 28) (by decide) ?_
    refine PW.icmp_ge (pc := 7) dX1_factOf_7 (t := 19) (by decide) (fun hc => ?_) (fun hc => ?_)
    · have h := h.1 hc
      refine PW.iconst (pc := 19) dX1_factOf_19 (v := 0) (by decide) ?_
      exact PW.retI (pc := 20) dX1_factOf_20 hM.1 rfl rfl ⟨hM, _, rfl, h⟩
    · have h := h.2 hc
      refine PW.aload_n (pc := 10) dX1_factOf_10 rfl ?_
      refine PW.getR (pc := 11) dX1_factOf_11 (r := 46) lf_X1_15 (ob hM.1 s_44 (by decide)) fx_1_1 (oR_1_1 hM s_44) (pS_ne s_46) ?_
      refine PW.iload_n (pc := 14) dX1_factOf_14 rfl ?_
      obtain ⟨v1, h⟩ := h
      refine PW.iald (pc := 15) dX1_factOf_15 (ar hM.1 s_46) (vpl n_46 v1) ?_
      refine PW.goto (pc := 16) dX1_factOf_16 (t := 20) (by decide) ?_
      exact PW.retI (pc := 20) dX1_factOf_20 hM.1 rfl rfl ⟨hM, _, rfl, h⟩
def w_J9_floorDiv_7cf53 (x0 : Int32) (x1 : Int32) (M : pm) (Q : Int32 → pm → Prop) : Prop := ¬ x1 = 0 ∧ ((0 ≤ (x0 ^^^ x1) → (Q (x0 / x1) M)) ∧ (¬ 0 ≤ (x0 ^^^ x1) → ((((x0 / x1) * x1) = x0 → (Q (x0 / x1) M)) ∧ (¬ ((x0 / x1) * x1) = x0 → (Q ((x0 / x1) - 1) M)))))
set_option maxRecDepth 4000 in
theorem c_J9_floorDiv_7cf53 {x0 : Int32} {x1 : Int32} {M : pm} {Q : Int32 → pm → Prop}  (hM : pG M) (h : w_J9_floorDiv_7cf53 x0 x1 M Q) : PW mJ9_floorDiv_7cf53 1 350 0 (pfr mJ9_floorDiv_7cf53.2.2.1 [.int x0, .int x1]) [] M (qI Q) := by
  unfold w_J9_floorDiv_7cf53 at h
  show PW mJ9_floorDiv_7cf53 1 350 0 [.int x0, .int x1, .null] [] M (qI Q)
  refine PW.iload_n (pc := 0) dJ9_floorDiv_7cf53_0 rfl ?_
  refine PW.iload_n (pc := 1) dJ9_floorDiv_7cf53_1 rfl ?_
  obtain ⟨v1, h⟩ := h
  refine PW.idiv (pc := 2) dJ9_floorDiv_7cf53_2 v1 ?_
  refine PW.istore_n (pc := 3) dJ9_floorDiv_7cf53_3 (ls' := [.int x0, .int x1, .int (x0 / x1)]) (by decide) rfl rfl ?_
  refine PW.iload_n (pc := 4) dJ9_floorDiv_7cf53_4 rfl ?_
  refine PW.iload_n (pc := 5) dJ9_floorDiv_7cf53_5 rfl ?_
  refine PW.ixor (pc := 6) dJ9_floorDiv_7cf53_6 ?_
  refine PW.if_ge (pc := 7) dJ9_floorDiv_7cf53_7 (t := 21) (by decide) (fun hc => ?_) (fun hc => ?_)
  · have h := h.1 hc
    refine PW.iload_n (pc := 21) dJ9_floorDiv_7cf53_21 rfl ?_
    exact PW.retI (pc := 22) dJ9_floorDiv_7cf53_22 hM.1 rfl rfl ⟨hM, _, rfl, h⟩
  · have h := h.2 hc
    refine PW.iload_n (pc := 10) dJ9_floorDiv_7cf53_10 rfl ?_
    refine PW.iload_n (pc := 11) dJ9_floorDiv_7cf53_11 rfl ?_
    refine PW.imul (pc := 12) dJ9_floorDiv_7cf53_12 ?_
    refine PW.iload_n (pc := 13) dJ9_floorDiv_7cf53_13 rfl ?_
    refine PW.icmp_eq (pc := 14) dJ9_floorDiv_7cf53_14 (t := 21) (by decide) (fun hc => ?_) (fun hc => ?_)
    · have h := h.1 hc
      refine PW.iload_n (pc := 21) dJ9_floorDiv_7cf53_21 rfl ?_
      exact PW.retI (pc := 22) dJ9_floorDiv_7cf53_22 hM.1 rfl rfl ⟨hM, _, rfl, h⟩
    · have h := h.2 hc
      refine PW.iload_n (pc := 17) dJ9_floorDiv_7cf53_17 rfl ?_
      refine PW.iconst (pc := 18) dJ9_floorDiv_7cf53_18 (v := 1) (by decide) ?_
      refine PW.isub (pc := 19) dJ9_floorDiv_7cf53_19 ?_
      exact PW.retI (pc := 20) dJ9_floorDiv_7cf53_20 hM.1 rfl rfl ⟨hM, _, rfl, h⟩
def w_J9_min_f86c9 (x0 : Int64) (x2 : Int64) (M : pm) (Q : Int64 → pm → Prop) : Prop := ((x2 < x0 → (Q x2 M)) ∧ (¬ x2 < x0 → (Q x0 M)))
set_option maxRecDepth 4000 in
theorem c_J9_min_f86c9 {x0 : Int64} {x2 : Int64} {M : pm} {Q : Int64 → pm → Prop}  (hM : pG M) (h : w_J9_min_f86c9 x0 x2 M Q) : PW mJ9_min_f86c9 1 350 0 (pfr mJ9_min_f86c9.2.2.1 [.long x0, .long x2]) [] M (qJ Q) := by
  unfold w_J9_min_f86c9 at h
  show PW mJ9_min_f86c9 1 350 0 [.long x0, .null, .long x2, .null] [] M (qJ Q)
  refine PW.lload_n (pc := 0) dJ9_min_f86c9_0 rfl ?_
  refine PW.lload_n (pc := 1) dJ9_min_f86c9_1 rfl ?_
  refine PW.lcmp (pc := 2) dJ9_min_f86c9_2 ?_
  refine PW.if_gt (pc := 3) dJ9_min_f86c9_3 (t := 10) (by decide) (fun hc => ?_) (fun hc => ?_)
  · have h := h.1 ((lg_cmp_gt _ _).mp hc)
    refine PW.lload_n (pc := 10) dJ9_min_f86c9_10 rfl ?_
    exact PW.retJ (pc := 11) dJ9_min_f86c9_11 hM.1 rfl ⟨hM, _, rfl, h⟩
  · have h := h.2 (fun q => hc ((lg_cmp_gt _ _).mpr q))
    refine PW.lload_n (pc := 6) dJ9_min_f86c9_6 rfl ?_
    refine PW.goto (pc := 7) dJ9_min_f86c9_7 (t := 11) (by decide) ?_
    exact PW.retJ (pc := 11) dJ9_min_f86c9_11 hM.1 rfl ⟨hM, _, rfl, h⟩
def w_J9_max_f86c9 (x0 : Int64) (x2 : Int64) (M : pm) (Q : Int64 → pm → Prop) : Prop := ((x0 < x2 → (Q x2 M)) ∧ (¬ x0 < x2 → (Q x0 M)))
set_option maxRecDepth 4000 in
theorem c_J9_max_f86c9 {x0 : Int64} {x2 : Int64} {M : pm} {Q : Int64 → pm → Prop}  (hM : pG M) (h : w_J9_max_f86c9 x0 x2 M Q) : PW mJ9_max_f86c9 1 350 0 (pfr mJ9_max_f86c9.2.2.1 [.long x0, .long x2]) [] M (qJ Q) := by
  unfold w_J9_max_f86c9 at h
  show PW mJ9_max_f86c9 1 350 0 [.long x0, .null, .long x2, .null] [] M (qJ Q)
  refine PW.lload_n (pc := 0) dJ9_max_f86c9_0 rfl ?_
  refine PW.lload_n (pc := 1) dJ9_max_f86c9_1 rfl ?_
  refine PW.lcmp (pc := 2) dJ9_max_f86c9_2 ?_
  refine PW.if_lt (pc := 3) dJ9_max_f86c9_3 (t := 10) (by decide) (fun hc => ?_) (fun hc => ?_)
  · have h := h.1 ((lg_cmp_lt _ _).mp hc)
    refine PW.lload_n (pc := 10) dJ9_max_f86c9_10 rfl ?_
    exact PW.retJ (pc := 11) dJ9_max_f86c9_11 hM.1 rfl ⟨hM, _, rfl, h⟩
  · have h := h.2 (fun q => hc ((lg_cmp_lt _ _).mpr q))
    refine PW.lload_n (pc := 6) dJ9_max_f86c9_6 rfl ?_
    refine PW.goto (pc := 7) dJ9_max_f86c9_7 (t := 11) (by decide) ?_
    exact PW.retJ (pc := 11) dJ9_max_f86c9_11 hM.1 rfl ⟨hM, _, rfl, h⟩
def w_X1_join (x0 : Int32) (x1 : Int32) (x2 : Int32) (M : pm) (Q : Int32 → pm → Prop) : Prop := ((x0 = 10000 → (w_J9_min_f86c9 (1000000 : Int64) ((Int32.toInt64 x1) + (Int32.toInt64 x2)) M (fun y2 M1 => w_J9_max_f86c9 (-1000000 : Int64) y2 M1 (fun y5 M4 => Q (Int64.toInt32 y5) M4)))) ∧ (x0 = 10001 → (w_J9_min_f86c9 (1000000 : Int64) ((Int32.toInt64 x1) - (Int32.toInt64 x2)) M (fun y8 M7 => w_J9_max_f86c9 (-1000000 : Int64) y8 M7 (fun y11 M10 => Q (Int64.toInt32 y11) M10)))) ∧ (x0 = 10002 → (w_J9_min_f86c9 (1000000 : Int64) ((Int32.toInt64 x1) * (Int32.toInt64 x2)) M (fun y14 M13 => w_J9_max_f86c9 (-1000000 : Int64) y14 M13 (fun y17 M16 => Q (Int64.toInt32 y17) M16)))) ∧ (x0 = 10003 → ((¬ x2 = 0 → (w_J9_floorDiv_7cf53 x1 x2 M (fun y20 M19 => w_J9_min_f86c9 (1000000 : Int64) (Int32.toInt64 y20) M19 (fun y23 M22 => w_J9_max_f86c9 (-1000000 : Int64) y23 M22 (fun y26 M25 => Q (Int64.toInt32 y26) M25))))) ∧ (x2 = 0 → (w_J9_min_f86c9 (1000000 : Int64) (0 : Int64) M (fun y29 M28 => w_J9_max_f86c9 (-1000000 : Int64) y29 M28 (fun y32 M31 => Q (Int64.toInt32 y32) M31)))))) ∧ (x0 = 10004 → ((x2 ≤ x1 → (w_J9_min_f86c9 (1000000 : Int64) (0 : Int64) M (fun y35 M34 => w_J9_max_f86c9 (-1000000 : Int64) y35 M34 (fun y38 M37 => Q (Int64.toInt32 y38) M37)))) ∧ (¬ x2 ≤ x1 → (w_J9_min_f86c9 (1000000 : Int64) (1 : Int64) M (fun y41 M40 => w_J9_max_f86c9 (-1000000 : Int64) y41 M40 (fun y44 M43 => Q (Int64.toInt32 y44) M43)))))) ∧ (x0 = 10005 → ((x1 ≤ x2 → (w_J9_min_f86c9 (1000000 : Int64) (0 : Int64) M (fun y47 M46 => w_J9_max_f86c9 (-1000000 : Int64) y47 M46 (fun y50 M49 => Q (Int64.toInt32 y50) M49)))) ∧ (¬ x1 ≤ x2 → (w_J9_min_f86c9 (1000000 : Int64) (1 : Int64) M (fun y53 M52 => w_J9_max_f86c9 (-1000000 : Int64) y53 M52 (fun y56 M55 => Q (Int64.toInt32 y56) M55)))))) ∧ (x0 = 10006 → ((¬ x1 = x2 → (w_J9_min_f86c9 (1000000 : Int64) (0 : Int64) M (fun y59 M58 => w_J9_max_f86c9 (-1000000 : Int64) y59 M58 (fun y62 M61 => Q (Int64.toInt32 y62) M61)))) ∧ (x1 = x2 → (w_J9_min_f86c9 (1000000 : Int64) (1 : Int64) M (fun y65 M64 => w_J9_max_f86c9 (-1000000 : Int64) y65 M64 (fun y68 M67 => Q (Int64.toInt32 y68) M67)))))) ∧ (x0 = 10007 → (w_J9_min_f86c9 (1000000 : Int64) (Int32.toInt64 (x1 &&& x2)) M (fun y71 M70 => w_J9_max_f86c9 (-1000000 : Int64) y71 M70 (fun y74 M73 => Q (Int64.toInt32 y74) M73)))) ∧ (x0 = 10008 → (w_J9_min_f86c9 (1000000 : Int64) (Int32.toInt64 (x1 ||| x2)) M (fun y77 M76 => w_J9_max_f86c9 (-1000000 : Int64) y77 M76 (fun y80 M79 => Q (Int64.toInt32 y80) M79)))) ∧ (x0 = 10009 → (w_J9_min_7cf53 x1 x2 M (fun y83 M82 => w_J9_min_f86c9 (1000000 : Int64) (Int32.toInt64 y83) M82 (fun y86 M85 => w_J9_max_f86c9 (-1000000 : Int64) y86 M85 (fun y89 M88 => Q (Int64.toInt32 y89) M88))))) ∧ (x0 = 10010 → (w_J9_max_7cf53 x1 x2 M (fun y92 M91 => w_J9_min_f86c9 (1000000 : Int64) (Int32.toInt64 y92) M91 (fun y95 M94 => w_J9_max_f86c9 (-1000000 : Int64) y95 M94 (fun y98 M97 => Q (Int64.toInt32 y98) M97))))) ∧ (¬ x0 = 10000 → ¬ x0 = 10001 → ¬ x0 = 10002 → ¬ x0 = 10003 → ¬ x0 = 10004 → ¬ x0 = 10005 → ¬ x0 = 10006 → ¬ x0 = 10007 → ¬ x0 = 10008 → ¬ x0 = 10009 → ¬ x0 = 10010 → (w_J9_min_f86c9 (1000000 : Int64) (0 : Int64) M (fun y101 M100 => w_J9_max_f86c9 (-1000000 : Int64) y101 M100 (fun y104 M103 => Q (Int64.toInt32 y104) M103)))))
set_option maxRecDepth 4000 in
theorem c_X1_join {x0 : Int32} {x1 : Int32} {x2 : Int32} {M : pm} {Q : Int32 → pm → Prop}  (hM : pG M) (h : w_X1_join x0 x1 x2 M Q) : PW mX1_join 2 350 0 (pfr mX1_join.2.2.1 [.int x0, .int x1, .int x2]) [] M (qI Q) := by
  unfold w_X1_join at h
  show PW mX1_join 2 350 0 [.int x0, .int x1, .int x2, .null, .null] [] M (qI Q)
  refine PW.iload_n (pc := 0) dX1_join_0 rfl ?_
  by_cases q10000 : x0 = 10000
  · have h := h.1 q10000
    refine PW.tabIn (pc := 1) dX1_join_1 (by rw [q10000]; decide) (by rw [q10000]; decide) (off := 59) (by rw [q10000]; decide) (t := 60) (by decide) ?_
    refine PW.iload_n (pc := 60) dX1_join_60 rfl ?_
    refine PW.i2l (pc := 61) dX1_join_61 ?_
    refine PW.iload_n (pc := 62) dX1_join_62 rfl ?_
    refine PW.i2l (pc := 63) dX1_join_63 ?_
    refine PW.ladd (pc := 64) dX1_join_64 ?_
    refine PW.lstore_n (pc := 65) dX1_join_65 (ls' := [.int x0, .int x1, .int x2, .long ((Int32.toInt64 x1) + (Int32.toInt64 x2)), .null]) (by decide) rfl rfl ?_
    refine PW.goto (pc := 66) dX1_join_66 (t := 185) (by decide) ?_
    refine PW.ldc2 (pc := 185) dX1_join_185 lk_X1_96 ?_
    refine PW.ldc2 (pc := 188) dX1_join_188 lk_X1_98 ?_
    refine PW.lload_n (pc := 191) dX1_join_191 rfl ?_
    refine PW.ins (m' := mJ9_min_f86c9) (pc := 192) dX1_join_192 lm_X1_100 me_J9_min_f86c9 ms_J9_min_f86c9 (As := [.long (1000000 : Int64), .long ((Int32.toInt64 x1) + (Int32.toInt64 x2))]) (st := [.long (-1000000 : Int64)]) rfl (Nat.le_of_ble_eq_true rfl) (Nat.le_of_ble_eq_true rfl) (Nat.le_of_eq hM.1) (Nat.le_refl _) (PW.deep (by decide) (c_J9_min_f86c9  hM h)) ?_
    rintro _ M1 ⟨hM3, y2, rfl, h⟩
    refine PW.ins (m' := mJ9_max_f86c9) (pc := 195) dX1_join_195 lm_X1_103 me_J9_max_f86c9 ms_J9_max_f86c9 (As := [.long (-1000000 : Int64), .long y2]) (st := []) rfl (Nat.le_of_ble_eq_true rfl) (Nat.le_of_ble_eq_true rfl) (Nat.le_of_eq hM3.1) (Nat.le_refl _) (PW.deep (by decide) (c_J9_max_f86c9  hM3 h)) ?_
    rintro _ M4 ⟨hM6, y5, rfl, h⟩
    refine PW.l2i (pc := 198) dX1_join_198 ?_
    exact PW.retI (pc := 199) dX1_join_199 hM6.1 rfl rfl ⟨hM6, _, rfl, h⟩
  by_cases q10001 : x0 = 10001
  · have h := h.2.1 q10001
    refine PW.tabIn (pc := 1) dX1_join_1 (by rw [q10001]; decide) (by rw [q10001]; decide) (off := 68) (by rw [q10001]; decide) (t := 69) (by decide) ?_
    refine PW.iload_n (pc := 69) dX1_join_69 rfl ?_
    refine PW.i2l (pc := 70) dX1_join_70 ?_
    refine PW.iload_n (pc := 71) dX1_join_71 rfl ?_
    refine PW.i2l (pc := 72) dX1_join_72 ?_
    refine PW.lsub (pc := 73) dX1_join_73 ?_
    refine PW.lstore_n (pc := 74) dX1_join_74 (ls' := [.int x0, .int x1, .int x2, .long ((Int32.toInt64 x1) - (Int32.toInt64 x2)), .null]) (by decide) rfl rfl ?_
    refine PW.goto (pc := 75) dX1_join_75 (t := 185) (by decide) ?_
    refine PW.ldc2 (pc := 185) dX1_join_185 lk_X1_96 ?_
    refine PW.ldc2 (pc := 188) dX1_join_188 lk_X1_98 ?_
    refine PW.lload_n (pc := 191) dX1_join_191 rfl ?_
    refine PW.ins (m' := mJ9_min_f86c9) (pc := 192) dX1_join_192 lm_X1_100 me_J9_min_f86c9 ms_J9_min_f86c9 (As := [.long (1000000 : Int64), .long ((Int32.toInt64 x1) - (Int32.toInt64 x2))]) (st := [.long (-1000000 : Int64)]) rfl (Nat.le_of_ble_eq_true rfl) (Nat.le_of_ble_eq_true rfl) (Nat.le_of_eq hM.1) (Nat.le_refl _) (PW.deep (by decide) (c_J9_min_f86c9  hM h)) ?_
    rintro _ M7 ⟨hM9, y8, rfl, h⟩
    refine PW.ins (m' := mJ9_max_f86c9) (pc := 195) dX1_join_195 lm_X1_103 me_J9_max_f86c9 ms_J9_max_f86c9 (As := [.long (-1000000 : Int64), .long y8]) (st := []) rfl (Nat.le_of_ble_eq_true rfl) (Nat.le_of_ble_eq_true rfl) (Nat.le_of_eq hM9.1) (Nat.le_refl _) (PW.deep (by decide) (c_J9_max_f86c9  hM9 h)) ?_
    rintro _ M10 ⟨hM12, y11, rfl, h⟩
    refine PW.l2i (pc := 198) dX1_join_198 ?_
    exact PW.retI (pc := 199) dX1_join_199 hM12.1 rfl rfl ⟨hM12, _, rfl, h⟩
  by_cases q10002 : x0 = 10002
  · have h := h.2.2.1 q10002
    refine PW.tabIn (pc := 1) dX1_join_1 (by rw [q10002]; decide) (by rw [q10002]; decide) (off := 77) (by rw [q10002]; decide) (t := 78) (by decide) ?_
    refine PW.iload_n (pc := 78) dX1_join_78 rfl ?_
    refine PW.i2l (pc := 79) dX1_join_79 ?_
    refine PW.iload_n (pc := 80) dX1_join_80 rfl ?_
    refine PW.i2l (pc := 81) dX1_join_81 ?_
    refine PW.lmul (pc := 82) dX1_join_82 ?_
    refine PW.lstore_n (pc := 83) dX1_join_83 (ls' := [.int x0, .int x1, .int x2, .long ((Int32.toInt64 x1) * (Int32.toInt64 x2)), .null]) (by decide) rfl rfl ?_
    refine PW.goto (pc := 84) dX1_join_84 (t := 185) (by decide) ?_
    refine PW.ldc2 (pc := 185) dX1_join_185 lk_X1_96 ?_
    refine PW.ldc2 (pc := 188) dX1_join_188 lk_X1_98 ?_
    refine PW.lload_n (pc := 191) dX1_join_191 rfl ?_
    refine PW.ins (m' := mJ9_min_f86c9) (pc := 192) dX1_join_192 lm_X1_100 me_J9_min_f86c9 ms_J9_min_f86c9 (As := [.long (1000000 : Int64), .long ((Int32.toInt64 x1) * (Int32.toInt64 x2))]) (st := [.long (-1000000 : Int64)]) rfl (Nat.le_of_ble_eq_true rfl) (Nat.le_of_ble_eq_true rfl) (Nat.le_of_eq hM.1) (Nat.le_refl _) (PW.deep (by decide) (c_J9_min_f86c9  hM h)) ?_
    rintro _ M13 ⟨hM15, y14, rfl, h⟩
    refine PW.ins (m' := mJ9_max_f86c9) (pc := 195) dX1_join_195 lm_X1_103 me_J9_max_f86c9 ms_J9_max_f86c9 (As := [.long (-1000000 : Int64), .long y14]) (st := []) rfl (Nat.le_of_ble_eq_true rfl) (Nat.le_of_ble_eq_true rfl) (Nat.le_of_eq hM15.1) (Nat.le_refl _) (PW.deep (by decide) (c_J9_max_f86c9  hM15 h)) ?_
    rintro _ M16 ⟨hM18, y17, rfl, h⟩
    refine PW.l2i (pc := 198) dX1_join_198 ?_
    exact PW.retI (pc := 199) dX1_join_199 hM18.1 rfl rfl ⟨hM18, _, rfl, h⟩
  by_cases q10003 : x0 = 10003
  · have h := h.2.2.2.1 q10003
    refine PW.tabIn (pc := 1) dX1_join_1 (by rw [q10003]; decide) (by rw [q10003]; decide) (off := 86) (by rw [q10003]; decide) (t := 87) (by decide) ?_
    refine PW.iload_n (pc := 87) dX1_join_87 rfl ?_
    refine PW.if_ne (pc := 88) dX1_join_88 (t := 95) (by decide) (fun hc => ?_) (fun hc => ?_)
    · have h := h.1 hc
      refine PW.iload_n (pc := 95) dX1_join_95 rfl ?_
      refine PW.iload_n (pc := 96) dX1_join_96 rfl ?_
      refine PW.ins (m' := mJ9_floorDiv_7cf53) (pc := 97) dX1_join_97 lm_X1_84 me_J9_floorDiv_7cf53 ms_J9_floorDiv_7cf53 (As := [.int x1, .int x2]) (st := []) rfl (Nat.le_of_ble_eq_true rfl) (Nat.le_of_ble_eq_true rfl) (Nat.le_of_eq hM.1) (Nat.le_refl _) (PW.deep (by decide) (c_J9_floorDiv_7cf53  hM h)) ?_
      rintro _ M19 ⟨hM21, y20, rfl, h⟩
      refine PW.i2l (pc := 100) dX1_join_100 ?_
      refine PW.lstore_n (pc := 101) dX1_join_101 (ls' := [.int x0, .int x1, .int x2, .long (Int32.toInt64 y20), .null]) (by decide) rfl rfl ?_
      refine PW.goto (pc := 102) dX1_join_102 (t := 185) (by decide) ?_
      refine PW.ldc2 (pc := 185) dX1_join_185 lk_X1_96 ?_
      refine PW.ldc2 (pc := 188) dX1_join_188 lk_X1_98 ?_
      refine PW.lload_n (pc := 191) dX1_join_191 rfl ?_
      refine PW.ins (m' := mJ9_min_f86c9) (pc := 192) dX1_join_192 lm_X1_100 me_J9_min_f86c9 ms_J9_min_f86c9 (As := [.long (1000000 : Int64), .long (Int32.toInt64 y20)]) (st := [.long (-1000000 : Int64)]) rfl (Nat.le_of_ble_eq_true rfl) (Nat.le_of_ble_eq_true rfl) (Nat.le_of_eq hM21.1) (Nat.le_refl _) (PW.deep (by decide) (c_J9_min_f86c9  hM21 h)) ?_
      rintro _ M22 ⟨hM24, y23, rfl, h⟩
      refine PW.ins (m' := mJ9_max_f86c9) (pc := 195) dX1_join_195 lm_X1_103 me_J9_max_f86c9 ms_J9_max_f86c9 (As := [.long (-1000000 : Int64), .long y23]) (st := []) rfl (Nat.le_of_ble_eq_true rfl) (Nat.le_of_ble_eq_true rfl) (Nat.le_of_eq hM24.1) (Nat.le_refl _) (PW.deep (by decide) (c_J9_max_f86c9  hM24 h)) ?_
      rintro _ M25 ⟨hM27, y26, rfl, h⟩
      refine PW.l2i (pc := 198) dX1_join_198 ?_
      exact PW.retI (pc := 199) dX1_join_199 hM27.1 rfl rfl ⟨hM27, _, rfl, h⟩
    · have h := h.2 hc
      refine PW.lconst (pc := 91) dX1_join_91 (v := 0) (by decide) ?_
      refine PW.goto (pc := 92) dX1_join_92 (t := 101) (by decide) ?_
      refine PW.lstore_n (pc := 101) dX1_join_101 (ls' := [.int x0, .int x1, .int x2, .long (0 : Int64), .null]) (by decide) rfl rfl ?_
      refine PW.goto (pc := 102) dX1_join_102 (t := 185) (by decide) ?_
      refine PW.ldc2 (pc := 185) dX1_join_185 lk_X1_96 ?_
      refine PW.ldc2 (pc := 188) dX1_join_188 lk_X1_98 ?_
      refine PW.lload_n (pc := 191) dX1_join_191 rfl ?_
      refine PW.ins (m' := mJ9_min_f86c9) (pc := 192) dX1_join_192 lm_X1_100 me_J9_min_f86c9 ms_J9_min_f86c9 (As := [.long (1000000 : Int64), .long (0 : Int64)]) (st := [.long (-1000000 : Int64)]) rfl (Nat.le_of_ble_eq_true rfl) (Nat.le_of_ble_eq_true rfl) (Nat.le_of_eq hM.1) (Nat.le_refl _) (PW.deep (by decide) (c_J9_min_f86c9  hM h)) ?_
      rintro _ M28 ⟨hM30, y29, rfl, h⟩
      refine PW.ins (m' := mJ9_max_f86c9) (pc := 195) dX1_join_195 lm_X1_103 me_J9_max_f86c9 ms_J9_max_f86c9 (As := [.long (-1000000 : Int64), .long y29]) (st := []) rfl (Nat.le_of_ble_eq_true rfl) (Nat.le_of_ble_eq_true rfl) (Nat.le_of_eq hM30.1) (Nat.le_refl _) (PW.deep (by decide) (c_J9_max_f86c9  hM30 h)) ?_
      rintro _ M31 ⟨hM33, y32, rfl, h⟩
      refine PW.l2i (pc := 198) dX1_join_198 ?_
      exact PW.retI (pc := 199) dX1_join_199 hM33.1 rfl rfl ⟨hM33, _, rfl, h⟩
  by_cases q10004 : x0 = 10004
  · have h := h.2.2.2.2.1 q10004
    refine PW.tabIn (pc := 1) dX1_join_1 (by rw [q10004]; decide) (by rw [q10004]; decide) (off := 104) (by rw [q10004]; decide) (t := 105) (by decide) ?_
    refine PW.iload_n (pc := 105) dX1_join_105 rfl ?_
    refine PW.iload_n (pc := 106) dX1_join_106 rfl ?_
    refine PW.icmp_ge (pc := 107) dX1_join_107 (t := 114) (by decide) (fun hc => ?_) (fun hc => ?_)
    · have h := h.1 hc
      refine PW.lconst (pc := 114) dX1_join_114 (v := 0) (by decide) ?_
      refine PW.lstore_n (pc := 115) dX1_join_115 (ls' := [.int x0, .int x1, .int x2, .long (0 : Int64), .null]) (by decide) rfl rfl ?_
      refine PW.goto (pc := 116) dX1_join_116 (t := 185) (by decide) ?_
      refine PW.ldc2 (pc := 185) dX1_join_185 lk_X1_96 ?_
      refine PW.ldc2 (pc := 188) dX1_join_188 lk_X1_98 ?_
      refine PW.lload_n (pc := 191) dX1_join_191 rfl ?_
      refine PW.ins (m' := mJ9_min_f86c9) (pc := 192) dX1_join_192 lm_X1_100 me_J9_min_f86c9 ms_J9_min_f86c9 (As := [.long (1000000 : Int64), .long (0 : Int64)]) (st := [.long (-1000000 : Int64)]) rfl (Nat.le_of_ble_eq_true rfl) (Nat.le_of_ble_eq_true rfl) (Nat.le_of_eq hM.1) (Nat.le_refl _) (PW.deep (by decide) (c_J9_min_f86c9  hM h)) ?_
      rintro _ M34 ⟨hM36, y35, rfl, h⟩
      refine PW.ins (m' := mJ9_max_f86c9) (pc := 195) dX1_join_195 lm_X1_103 me_J9_max_f86c9 ms_J9_max_f86c9 (As := [.long (-1000000 : Int64), .long y35]) (st := []) rfl (Nat.le_of_ble_eq_true rfl) (Nat.le_of_ble_eq_true rfl) (Nat.le_of_eq hM36.1) (Nat.le_refl _) (PW.deep (by decide) (c_J9_max_f86c9  hM36 h)) ?_
      rintro _ M37 ⟨hM39, y38, rfl, h⟩
      refine PW.l2i (pc := 198) dX1_join_198 ?_
      exact PW.retI (pc := 199) dX1_join_199 hM39.1 rfl rfl ⟨hM39, _, rfl, h⟩
    · have h := h.2 hc
      refine PW.lconst (pc := 110) dX1_join_110 (v := 1) (by decide) ?_
      refine PW.goto (pc := 111) dX1_join_111 (t := 115) (by decide) ?_
      refine PW.lstore_n (pc := 115) dX1_join_115 (ls' := [.int x0, .int x1, .int x2, .long (1 : Int64), .null]) (by decide) rfl rfl ?_
      refine PW.goto (pc := 116) dX1_join_116 (t := 185) (by decide) ?_
      refine PW.ldc2 (pc := 185) dX1_join_185 lk_X1_96 ?_
      refine PW.ldc2 (pc := 188) dX1_join_188 lk_X1_98 ?_
      refine PW.lload_n (pc := 191) dX1_join_191 rfl ?_
      refine PW.ins (m' := mJ9_min_f86c9) (pc := 192) dX1_join_192 lm_X1_100 me_J9_min_f86c9 ms_J9_min_f86c9 (As := [.long (1000000 : Int64), .long (1 : Int64)]) (st := [.long (-1000000 : Int64)]) rfl (Nat.le_of_ble_eq_true rfl) (Nat.le_of_ble_eq_true rfl) (Nat.le_of_eq hM.1) (Nat.le_refl _) (PW.deep (by decide) (c_J9_min_f86c9  hM h)) ?_
      rintro _ M40 ⟨hM42, y41, rfl, h⟩
      refine PW.ins (m' := mJ9_max_f86c9) (pc := 195) dX1_join_195 lm_X1_103 me_J9_max_f86c9 ms_J9_max_f86c9 (As := [.long (-1000000 : Int64), .long y41]) (st := []) rfl (Nat.le_of_ble_eq_true rfl) (Nat.le_of_ble_eq_true rfl) (Nat.le_of_eq hM42.1) (Nat.le_refl _) (PW.deep (by decide) (c_J9_max_f86c9  hM42 h)) ?_
      rintro _ M43 ⟨hM45, y44, rfl, h⟩
      refine PW.l2i (pc := 198) dX1_join_198 ?_
      exact PW.retI (pc := 199) dX1_join_199 hM45.1 rfl rfl ⟨hM45, _, rfl, h⟩
  by_cases q10005 : x0 = 10005
  · have h := h.2.2.2.2.2.1 q10005
    refine PW.tabIn (pc := 1) dX1_join_1 (by rw [q10005]; decide) (by rw [q10005]; decide) (off := 118) (by rw [q10005]; decide) (t := 119) (by decide) ?_
    refine PW.iload_n (pc := 119) dX1_join_119 rfl ?_
    refine PW.iload_n (pc := 120) dX1_join_120 rfl ?_
    refine PW.icmp_le (pc := 121) dX1_join_121 (t := 128) (by decide) (fun hc => ?_) (fun hc => ?_)
    · have h := h.1 hc
      refine PW.lconst (pc := 128) dX1_join_128 (v := 0) (by decide) ?_
      refine PW.lstore_n (pc := 129) dX1_join_129 (ls' := [.int x0, .int x1, .int x2, .long (0 : Int64), .null]) (by decide) rfl rfl ?_
      refine PW.goto (pc := 130) dX1_join_130 (t := 185) (by decide) ?_
      refine PW.ldc2 (pc := 185) dX1_join_185 lk_X1_96 ?_
      refine PW.ldc2 (pc := 188) dX1_join_188 lk_X1_98 ?_
      refine PW.lload_n (pc := 191) dX1_join_191 rfl ?_
      refine PW.ins (m' := mJ9_min_f86c9) (pc := 192) dX1_join_192 lm_X1_100 me_J9_min_f86c9 ms_J9_min_f86c9 (As := [.long (1000000 : Int64), .long (0 : Int64)]) (st := [.long (-1000000 : Int64)]) rfl (Nat.le_of_ble_eq_true rfl) (Nat.le_of_ble_eq_true rfl) (Nat.le_of_eq hM.1) (Nat.le_refl _) (PW.deep (by decide) (c_J9_min_f86c9  hM h)) ?_
      rintro _ M46 ⟨hM48, y47, rfl, h⟩
      refine PW.ins (m' := mJ9_max_f86c9) (pc := 195) dX1_join_195 lm_X1_103 me_J9_max_f86c9 ms_J9_max_f86c9 (As := [.long (-1000000 : Int64), .long y47]) (st := []) rfl (Nat.le_of_ble_eq_true rfl) (Nat.le_of_ble_eq_true rfl) (Nat.le_of_eq hM48.1) (Nat.le_refl _) (PW.deep (by decide) (c_J9_max_f86c9  hM48 h)) ?_
      rintro _ M49 ⟨hM51, y50, rfl, h⟩
      refine PW.l2i (pc := 198) dX1_join_198 ?_
      exact PW.retI (pc := 199) dX1_join_199 hM51.1 rfl rfl ⟨hM51, _, rfl, h⟩
    · have h := h.2 hc
      refine PW.lconst (pc := 124) dX1_join_124 (v := 1) (by decide) ?_
      refine PW.goto (pc := 125) dX1_join_125 (t := 129) (by decide) ?_
      refine PW.lstore_n (pc := 129) dX1_join_129 (ls' := [.int x0, .int x1, .int x2, .long (1 : Int64), .null]) (by decide) rfl rfl ?_
      refine PW.goto (pc := 130) dX1_join_130 (t := 185) (by decide) ?_
      refine PW.ldc2 (pc := 185) dX1_join_185 lk_X1_96 ?_
      refine PW.ldc2 (pc := 188) dX1_join_188 lk_X1_98 ?_
      refine PW.lload_n (pc := 191) dX1_join_191 rfl ?_
      refine PW.ins (m' := mJ9_min_f86c9) (pc := 192) dX1_join_192 lm_X1_100 me_J9_min_f86c9 ms_J9_min_f86c9 (As := [.long (1000000 : Int64), .long (1 : Int64)]) (st := [.long (-1000000 : Int64)]) rfl (Nat.le_of_ble_eq_true rfl) (Nat.le_of_ble_eq_true rfl) (Nat.le_of_eq hM.1) (Nat.le_refl _) (PW.deep (by decide) (c_J9_min_f86c9  hM h)) ?_
      rintro _ M52 ⟨hM54, y53, rfl, h⟩
      refine PW.ins (m' := mJ9_max_f86c9) (pc := 195) dX1_join_195 lm_X1_103 me_J9_max_f86c9 ms_J9_max_f86c9 (As := [.long (-1000000 : Int64), .long y53]) (st := []) rfl (Nat.le_of_ble_eq_true rfl) (Nat.le_of_ble_eq_true rfl) (Nat.le_of_eq hM54.1) (Nat.le_refl _) (PW.deep (by decide) (c_J9_max_f86c9  hM54 h)) ?_
      rintro _ M55 ⟨hM57, y56, rfl, h⟩
      refine PW.l2i (pc := 198) dX1_join_198 ?_
      exact PW.retI (pc := 199) dX1_join_199 hM57.1 rfl rfl ⟨hM57, _, rfl, h⟩
  by_cases q10006 : x0 = 10006
  · have h := h.2.2.2.2.2.2.1 q10006
    refine PW.tabIn (pc := 1) dX1_join_1 (by rw [q10006]; decide) (by rw [q10006]; decide) (off := 132) (by rw [q10006]; decide) (t := 133) (by decide) ?_
    refine PW.iload_n (pc := 133) dX1_join_133 rfl ?_
    refine PW.iload_n (pc := 134) dX1_join_134 rfl ?_
    refine PW.icmp_ne (pc := 135) dX1_join_135 (t := 142) (by decide) (fun hc => ?_) (fun hc => ?_)
    · have h := h.1 hc
      refine PW.lconst (pc := 142) dX1_join_142 (v := 0) (by decide) ?_
      refine PW.lstore_n (pc := 143) dX1_join_143 (ls' := [.int x0, .int x1, .int x2, .long (0 : Int64), .null]) (by decide) rfl rfl ?_
      refine PW.goto (pc := 144) dX1_join_144 (t := 185) (by decide) ?_
      refine PW.ldc2 (pc := 185) dX1_join_185 lk_X1_96 ?_
      refine PW.ldc2 (pc := 188) dX1_join_188 lk_X1_98 ?_
      refine PW.lload_n (pc := 191) dX1_join_191 rfl ?_
      refine PW.ins (m' := mJ9_min_f86c9) (pc := 192) dX1_join_192 lm_X1_100 me_J9_min_f86c9 ms_J9_min_f86c9 (As := [.long (1000000 : Int64), .long (0 : Int64)]) (st := [.long (-1000000 : Int64)]) rfl (Nat.le_of_ble_eq_true rfl) (Nat.le_of_ble_eq_true rfl) (Nat.le_of_eq hM.1) (Nat.le_refl _) (PW.deep (by decide) (c_J9_min_f86c9  hM h)) ?_
      rintro _ M58 ⟨hM60, y59, rfl, h⟩
      refine PW.ins (m' := mJ9_max_f86c9) (pc := 195) dX1_join_195 lm_X1_103 me_J9_max_f86c9 ms_J9_max_f86c9 (As := [.long (-1000000 : Int64), .long y59]) (st := []) rfl (Nat.le_of_ble_eq_true rfl) (Nat.le_of_ble_eq_true rfl) (Nat.le_of_eq hM60.1) (Nat.le_refl _) (PW.deep (by decide) (c_J9_max_f86c9  hM60 h)) ?_
      rintro _ M61 ⟨hM63, y62, rfl, h⟩
      refine PW.l2i (pc := 198) dX1_join_198 ?_
      exact PW.retI (pc := 199) dX1_join_199 hM63.1 rfl rfl ⟨hM63, _, rfl, h⟩
    · have h := h.2 hc
      refine PW.lconst (pc := 138) dX1_join_138 (v := 1) (by decide) ?_
      refine PW.goto (pc := 139) dX1_join_139 (t := 143) (by decide) ?_
      refine PW.lstore_n (pc := 143) dX1_join_143 (ls' := [.int x0, .int x1, .int x2, .long (1 : Int64), .null]) (by decide) rfl rfl ?_
      refine PW.goto (pc := 144) dX1_join_144 (t := 185) (by decide) ?_
      refine PW.ldc2 (pc := 185) dX1_join_185 lk_X1_96 ?_
      refine PW.ldc2 (pc := 188) dX1_join_188 lk_X1_98 ?_
      refine PW.lload_n (pc := 191) dX1_join_191 rfl ?_
      refine PW.ins (m' := mJ9_min_f86c9) (pc := 192) dX1_join_192 lm_X1_100 me_J9_min_f86c9 ms_J9_min_f86c9 (As := [.long (1000000 : Int64), .long (1 : Int64)]) (st := [.long (-1000000 : Int64)]) rfl (Nat.le_of_ble_eq_true rfl) (Nat.le_of_ble_eq_true rfl) (Nat.le_of_eq hM.1) (Nat.le_refl _) (PW.deep (by decide) (c_J9_min_f86c9  hM h)) ?_
      rintro _ M64 ⟨hM66, y65, rfl, h⟩
      refine PW.ins (m' := mJ9_max_f86c9) (pc := 195) dX1_join_195 lm_X1_103 me_J9_max_f86c9 ms_J9_max_f86c9 (As := [.long (-1000000 : Int64), .long y65]) (st := []) rfl (Nat.le_of_ble_eq_true rfl) (Nat.le_of_ble_eq_true rfl) (Nat.le_of_eq hM66.1) (Nat.le_refl _) (PW.deep (by decide) (c_J9_max_f86c9  hM66 h)) ?_
      rintro _ M67 ⟨hM69, y68, rfl, h⟩
      refine PW.l2i (pc := 198) dX1_join_198 ?_
      exact PW.retI (pc := 199) dX1_join_199 hM69.1 rfl rfl ⟨hM69, _, rfl, h⟩
  by_cases q10007 : x0 = 10007
  · have h := h.2.2.2.2.2.2.2.1 q10007
    refine PW.tabIn (pc := 1) dX1_join_1 (by rw [q10007]; decide) (by rw [q10007]; decide) (off := 146) (by rw [q10007]; decide) (t := 147) (by decide) ?_
    refine PW.iload_n (pc := 147) dX1_join_147 rfl ?_
    refine PW.iload_n (pc := 148) dX1_join_148 rfl ?_
    refine PW.iand (pc := 149) dX1_join_149 ?_
    refine PW.i2l (pc := 150) dX1_join_150 ?_
    refine PW.lstore_n (pc := 151) dX1_join_151 (ls' := [.int x0, .int x1, .int x2, .long (Int32.toInt64 (x1 &&& x2)), .null]) (by decide) rfl rfl ?_
    refine PW.goto (pc := 152) dX1_join_152 (t := 185) (by decide) ?_
    refine PW.ldc2 (pc := 185) dX1_join_185 lk_X1_96 ?_
    refine PW.ldc2 (pc := 188) dX1_join_188 lk_X1_98 ?_
    refine PW.lload_n (pc := 191) dX1_join_191 rfl ?_
    refine PW.ins (m' := mJ9_min_f86c9) (pc := 192) dX1_join_192 lm_X1_100 me_J9_min_f86c9 ms_J9_min_f86c9 (As := [.long (1000000 : Int64), .long (Int32.toInt64 (x1 &&& x2))]) (st := [.long (-1000000 : Int64)]) rfl (Nat.le_of_ble_eq_true rfl) (Nat.le_of_ble_eq_true rfl) (Nat.le_of_eq hM.1) (Nat.le_refl _) (PW.deep (by decide) (c_J9_min_f86c9  hM h)) ?_
    rintro _ M70 ⟨hM72, y71, rfl, h⟩
    refine PW.ins (m' := mJ9_max_f86c9) (pc := 195) dX1_join_195 lm_X1_103 me_J9_max_f86c9 ms_J9_max_f86c9 (As := [.long (-1000000 : Int64), .long y71]) (st := []) rfl (Nat.le_of_ble_eq_true rfl) (Nat.le_of_ble_eq_true rfl) (Nat.le_of_eq hM72.1) (Nat.le_refl _) (PW.deep (by decide) (c_J9_max_f86c9  hM72 h)) ?_
    rintro _ M73 ⟨hM75, y74, rfl, h⟩
    refine PW.l2i (pc := 198) dX1_join_198 ?_
    exact PW.retI (pc := 199) dX1_join_199 hM75.1 rfl rfl ⟨hM75, _, rfl, h⟩
  by_cases q10008 : x0 = 10008
  · have h := h.2.2.2.2.2.2.2.2.1 q10008
    refine PW.tabIn (pc := 1) dX1_join_1 (by rw [q10008]; decide) (by rw [q10008]; decide) (off := 154) (by rw [q10008]; decide) (t := 155) (by decide) ?_
    refine PW.iload_n (pc := 155) dX1_join_155 rfl ?_
    refine PW.iload_n (pc := 156) dX1_join_156 rfl ?_
    refine PW.ior (pc := 157) dX1_join_157 ?_
    refine PW.i2l (pc := 158) dX1_join_158 ?_
    refine PW.lstore_n (pc := 159) dX1_join_159 (ls' := [.int x0, .int x1, .int x2, .long (Int32.toInt64 (x1 ||| x2)), .null]) (by decide) rfl rfl ?_
    refine PW.goto (pc := 160) dX1_join_160 (t := 185) (by decide) ?_
    refine PW.ldc2 (pc := 185) dX1_join_185 lk_X1_96 ?_
    refine PW.ldc2 (pc := 188) dX1_join_188 lk_X1_98 ?_
    refine PW.lload_n (pc := 191) dX1_join_191 rfl ?_
    refine PW.ins (m' := mJ9_min_f86c9) (pc := 192) dX1_join_192 lm_X1_100 me_J9_min_f86c9 ms_J9_min_f86c9 (As := [.long (1000000 : Int64), .long (Int32.toInt64 (x1 ||| x2))]) (st := [.long (-1000000 : Int64)]) rfl (Nat.le_of_ble_eq_true rfl) (Nat.le_of_ble_eq_true rfl) (Nat.le_of_eq hM.1) (Nat.le_refl _) (PW.deep (by decide) (c_J9_min_f86c9  hM h)) ?_
    rintro _ M76 ⟨hM78, y77, rfl, h⟩
    refine PW.ins (m' := mJ9_max_f86c9) (pc := 195) dX1_join_195 lm_X1_103 me_J9_max_f86c9 ms_J9_max_f86c9 (As := [.long (-1000000 : Int64), .long y77]) (st := []) rfl (Nat.le_of_ble_eq_true rfl) (Nat.le_of_ble_eq_true rfl) (Nat.le_of_eq hM78.1) (Nat.le_refl _) (PW.deep (by decide) (c_J9_max_f86c9  hM78 h)) ?_
    rintro _ M79 ⟨hM81, y80, rfl, h⟩
    refine PW.l2i (pc := 198) dX1_join_198 ?_
    exact PW.retI (pc := 199) dX1_join_199 hM81.1 rfl rfl ⟨hM81, _, rfl, h⟩
  by_cases q10009 : x0 = 10009
  · have h := h.2.2.2.2.2.2.2.2.2.1 q10009
    refine PW.tabIn (pc := 1) dX1_join_1 (by rw [q10009]; decide) (by rw [q10009]; decide) (off := 162) (by rw [q10009]; decide) (t := 163) (by decide) ?_
    refine PW.iload_n (pc := 163) dX1_join_163 rfl ?_
    refine PW.iload_n (pc := 164) dX1_join_164 rfl ?_
    refine PW.ins (m' := mJ9_min_7cf53) (pc := 165) dX1_join_165 lm_X1_90 me_J9_min_7cf53 ms_J9_min_7cf53 (As := [.int x1, .int x2]) (st := []) rfl (Nat.le_of_ble_eq_true rfl) (Nat.le_of_ble_eq_true rfl) (Nat.le_of_eq hM.1) (Nat.le_refl _) (PW.deep (by decide) (c_J9_min_7cf53  hM h)) ?_
    rintro _ M82 ⟨hM84, y83, rfl, h⟩
    refine PW.i2l (pc := 168) dX1_join_168 ?_
    refine PW.lstore_n (pc := 169) dX1_join_169 (ls' := [.int x0, .int x1, .int x2, .long (Int32.toInt64 y83), .null]) (by decide) rfl rfl ?_
    refine PW.goto (pc := 170) dX1_join_170 (t := 185) (by decide) ?_
    refine PW.ldc2 (pc := 185) dX1_join_185 lk_X1_96 ?_
    refine PW.ldc2 (pc := 188) dX1_join_188 lk_X1_98 ?_
    refine PW.lload_n (pc := 191) dX1_join_191 rfl ?_
    refine PW.ins (m' := mJ9_min_f86c9) (pc := 192) dX1_join_192 lm_X1_100 me_J9_min_f86c9 ms_J9_min_f86c9 (As := [.long (1000000 : Int64), .long (Int32.toInt64 y83)]) (st := [.long (-1000000 : Int64)]) rfl (Nat.le_of_ble_eq_true rfl) (Nat.le_of_ble_eq_true rfl) (Nat.le_of_eq hM84.1) (Nat.le_refl _) (PW.deep (by decide) (c_J9_min_f86c9  hM84 h)) ?_
    rintro _ M85 ⟨hM87, y86, rfl, h⟩
    refine PW.ins (m' := mJ9_max_f86c9) (pc := 195) dX1_join_195 lm_X1_103 me_J9_max_f86c9 ms_J9_max_f86c9 (As := [.long (-1000000 : Int64), .long y86]) (st := []) rfl (Nat.le_of_ble_eq_true rfl) (Nat.le_of_ble_eq_true rfl) (Nat.le_of_eq hM87.1) (Nat.le_refl _) (PW.deep (by decide) (c_J9_max_f86c9  hM87 h)) ?_
    rintro _ M88 ⟨hM90, y89, rfl, h⟩
    refine PW.l2i (pc := 198) dX1_join_198 ?_
    exact PW.retI (pc := 199) dX1_join_199 hM90.1 rfl rfl ⟨hM90, _, rfl, h⟩
  by_cases q10010 : x0 = 10010
  · have h := h.2.2.2.2.2.2.2.2.2.2.1 q10010
    refine PW.tabIn (pc := 1) dX1_join_1 (by rw [q10010]; decide) (by rw [q10010]; decide) (off := 172) (by rw [q10010]; decide) (t := 173) (by decide) ?_
    refine PW.iload_n (pc := 173) dX1_join_173 rfl ?_
    refine PW.iload_n (pc := 174) dX1_join_174 rfl ?_
    refine PW.ins (m' := mJ9_max_7cf53) (pc := 175) dX1_join_175 lm_X1_93 me_J9_max_7cf53 ms_J9_max_7cf53 (As := [.int x1, .int x2]) (st := []) rfl (Nat.le_of_ble_eq_true rfl) (Nat.le_of_ble_eq_true rfl) (Nat.le_of_eq hM.1) (Nat.le_refl _) (PW.deep (by decide) (c_J9_max_7cf53  hM h)) ?_
    rintro _ M91 ⟨hM93, y92, rfl, h⟩
    refine PW.i2l (pc := 178) dX1_join_178 ?_
    refine PW.lstore_n (pc := 179) dX1_join_179 (ls' := [.int x0, .int x1, .int x2, .long (Int32.toInt64 y92), .null]) (by decide) rfl rfl ?_
    refine PW.goto (pc := 180) dX1_join_180 (t := 185) (by decide) ?_
    refine PW.ldc2 (pc := 185) dX1_join_185 lk_X1_96 ?_
    refine PW.ldc2 (pc := 188) dX1_join_188 lk_X1_98 ?_
    refine PW.lload_n (pc := 191) dX1_join_191 rfl ?_
    refine PW.ins (m' := mJ9_min_f86c9) (pc := 192) dX1_join_192 lm_X1_100 me_J9_min_f86c9 ms_J9_min_f86c9 (As := [.long (1000000 : Int64), .long (Int32.toInt64 y92)]) (st := [.long (-1000000 : Int64)]) rfl (Nat.le_of_ble_eq_true rfl) (Nat.le_of_ble_eq_true rfl) (Nat.le_of_eq hM93.1) (Nat.le_refl _) (PW.deep (by decide) (c_J9_min_f86c9  hM93 h)) ?_
    rintro _ M94 ⟨hM96, y95, rfl, h⟩
    refine PW.ins (m' := mJ9_max_f86c9) (pc := 195) dX1_join_195 lm_X1_103 me_J9_max_f86c9 ms_J9_max_f86c9 (As := [.long (-1000000 : Int64), .long y95]) (st := []) rfl (Nat.le_of_ble_eq_true rfl) (Nat.le_of_ble_eq_true rfl) (Nat.le_of_eq hM96.1) (Nat.le_refl _) (PW.deep (by decide) (c_J9_max_f86c9  hM96 h)) ?_
    rintro _ M97 ⟨hM99, y98, rfl, h⟩
    refine PW.l2i (pc := 198) dX1_join_198 ?_
    exact PW.retI (pc := 199) dX1_join_199 hM99.1 rfl rfl ⟨hM99, _, rfl, h⟩
  have h := h.2.2.2.2.2.2.2.2.2.2.2 q10000 q10001 q10002 q10003 q10004 q10005 q10006 q10007 q10008 q10009 q10010
  refine PW.tabOut (pc := 1) dX1_join_1 (tab_out (fun c h1 h2 => ?_)) (t := 183) (by decide) ?_
  · rcases (by omega : c = 10000 ∨ c = 10001 ∨ c = 10002 ∨ c = 10003 ∨ c = 10004 ∨ c = 10005 ∨ c = 10006 ∨ c = 10007 ∨ c = 10008 ∨ c = 10009 ∨ c = 10010) with rfl | rfl | rfl | rfl | rfl | rfl | rfl | rfl | rfl | rfl | rfl <;> assumption
  · skip
    refine PW.lconst (pc := 183) dX1_join_183 (v := 0) (by decide) ?_
    refine PW.lstore_n (pc := 184) dX1_join_184 (ls' := [.int x0, .int x1, .int x2, .long (0 : Int64), .null]) (by decide) rfl rfl ?_
    refine PW.ldc2 (pc := 185) dX1_join_185 lk_X1_96 ?_
    refine PW.ldc2 (pc := 188) dX1_join_188 lk_X1_98 ?_
    refine PW.lload_n (pc := 191) dX1_join_191 rfl ?_
    refine PW.ins (m' := mJ9_min_f86c9) (pc := 192) dX1_join_192 lm_X1_100 me_J9_min_f86c9 ms_J9_min_f86c9 (As := [.long (1000000 : Int64), .long (0 : Int64)]) (st := [.long (-1000000 : Int64)]) rfl (Nat.le_of_ble_eq_true rfl) (Nat.le_of_ble_eq_true rfl) (Nat.le_of_eq hM.1) (Nat.le_refl _) (PW.deep (by decide) (c_J9_min_f86c9  hM h)) ?_
    rintro _ M100 ⟨hM102, y101, rfl, h⟩
    refine PW.ins (m' := mJ9_max_f86c9) (pc := 195) dX1_join_195 lm_X1_103 me_J9_max_f86c9 ms_J9_max_f86c9 (As := [.long (-1000000 : Int64), .long y101]) (st := []) rfl (Nat.le_of_ble_eq_true rfl) (Nat.le_of_ble_eq_true rfl) (Nat.le_of_eq hM102.1) (Nat.le_refl _) (PW.deep (by decide) (c_J9_max_f86c9  hM102 h)) ?_
    rintro _ M103 ⟨hM105, y104, rfl, h⟩
    refine PW.l2i (pc := 198) dX1_join_198 ?_
    exact PW.retI (pc := 199) dX1_join_199 hM105.1 rfl rfl ⟨hM105, _, rfl, h⟩
